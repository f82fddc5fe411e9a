section
-- ===== PART A: goes FIRST, ahead of the names: the tables' words, and 'selects' of the private methods out of them =====
/-- a private method of a class that the tables say can be made, by its rows of tables_1 -/
def lw_okq (q : MethodName × Nat) : Prop := (q.1.cls ≠ "java/lang/invoke/MethodHandle" ∧ q.1.cls ≠ "java/lang/invoke/VarHandle") ∧ Cond.instantiable q.1.cls q.2 ∈ tables_1 ∧ Cond.privateMethod q.1 ∈ tables_1 ∧ Cond.instanceMethod q.1 ∈ tables_1
theorem lw_p0 : lw_okq (⟨"SyntaxRepair$GrammarText", "nextLexeme", "()V"⟩, 5) := ⟨⟨by decide +kernel, by decide +kernel⟩, List.mem_of_getElem? (i := 139) (by decide +kernel), List.mem_of_getElem? (i := 312) (by decide +kernel), List.mem_of_getElem? (i := 313) (by decide +kernel)⟩
theorem lw_p1 : lw_okq (⟨"SyntaxRepair$GrammarText", "readStates", "()Z"⟩, 5) := ⟨⟨by decide +kernel, by decide +kernel⟩, List.mem_of_getElem? (i := 139) (by decide +kernel), List.mem_of_getElem? (i := 322) (by decide +kernel), List.mem_of_getElem? (i := 323) (by decide +kernel)⟩
theorem lw_p2 : lw_okq (⟨"SyntaxRepair$GrammarText", "takeWord", "(Ljava/lang/String;)Z"⟩, 5) := ⟨⟨by decide +kernel, by decide +kernel⟩, List.mem_of_getElem? (i := 139) (by decide +kernel), List.mem_of_getElem? (i := 327) (by decide +kernel), List.mem_of_getElem? (i := 328) (by decide +kernel)⟩
theorem lw_p3 : lw_okq (⟨"SyntaxRepair$GrammarText", "takeDigit", "(II)I"⟩, 5) := ⟨⟨by decide +kernel, by decide +kernel⟩, List.mem_of_getElem? (i := 139) (by decide +kernel), List.mem_of_getElem? (i := 379) (by decide +kernel), List.mem_of_getElem? (i := 380) (by decide +kernel)⟩
theorem lw_p4 : lw_okq (⟨"SyntaxRepair$GrammarText", "readStatement", "()Z"⟩, 5) := ⟨⟨by decide +kernel, by decide +kernel⟩, List.mem_of_getElem? (i := 139) (by decide +kernel), List.mem_of_getElem? (i := 394) (by decide +kernel), List.mem_of_getElem? (i := 395) (by decide +kernel)⟩
theorem lw_p5 : lw_okq (⟨"SyntaxRepair$GrammarText", "readAccept", "()Z"⟩, 5) := ⟨⟨by decide +kernel, by decide +kernel⟩, List.mem_of_getElem? (i := 139) (by decide +kernel), List.mem_of_getElem? (i := 399) (by decide +kernel), List.mem_of_getElem? (i := 400) (by decide +kernel)⟩
theorem lw_p6 : lw_okq (⟨"SyntaxRepair$GrammarText", "readRule", "(I)Z"⟩, 5) := ⟨⟨by decide +kernel, by decide +kernel⟩, List.mem_of_getElem? (i := 139) (by decide +kernel), List.mem_of_getElem? (i := 405) (by decide +kernel), List.mem_of_getElem? (i := 406) (by decide +kernel)⟩
theorem lw_p7 : lw_okq (⟨"SyntaxRepair$GrammarText", "kindHere", "()I"⟩, 5) := ⟨⟨by decide +kernel, by decide +kernel⟩, List.mem_of_getElem? (i := 139) (by decide +kernel), List.mem_of_getElem? (i := 409) (by decide +kernel), List.mem_of_getElem? (i := 410) (by decide +kernel)⟩
theorem lw_p8 : lw_okq (⟨"SyntaxRepair$GrammarText", "readCosts", "()Z"⟩, 5) := ⟨⟨by decide +kernel, by decide +kernel⟩, List.mem_of_getElem? (i := 139) (by decide +kernel), List.mem_of_getElem? (i := 428) (by decide +kernel), List.mem_of_getElem? (i := 429) (by decide +kernel)⟩
theorem lw_p9 : lw_okq (⟨"SyntaxRepair", "beginEdit", "()V"⟩, 7) := ⟨⟨by decide +kernel, by decide +kernel⟩, List.mem_of_getElem? (i := 19) (by decide +kernel), List.mem_of_getElem? (i := 433) (by decide +kernel), List.mem_of_getElem? (i := 434) (by decide +kernel)⟩
theorem lw_p10 : lw_okq (⟨"SyntaxRepair$History", "slotAt", "(I)LSyntaxRepair$Situation;"⟩, 3) := ⟨⟨by decide +kernel, by decide +kernel⟩, List.mem_of_getElem? (i := 119) (by decide +kernel), List.mem_of_getElem? (i := 441) (by decide +kernel), List.mem_of_getElem? (i := 442) (by decide +kernel)⟩
theorem lw_p11 : lw_okq (⟨"SyntaxRepair", "forgetTables", "()V"⟩, 7) := ⟨⟨by decide +kernel, by decide +kernel⟩, List.mem_of_getElem? (i := 19) (by decide +kernel), List.mem_of_getElem? (i := 469) (by decide +kernel), List.mem_of_getElem? (i := 470) (by decide +kernel)⟩
theorem lw_p12 : lw_okq (⟨"SyntaxRepair", "addToken", "(II)I"⟩, 7) := ⟨⟨by decide +kernel, by decide +kernel⟩, List.mem_of_getElem? (i := 19) (by decide +kernel), List.mem_of_getElem? (i := 479) (by decide +kernel), List.mem_of_getElem? (i := 480) (by decide +kernel)⟩
theorem lw_p13 : lw_okq (⟨"SyntaxRepair", "isToken", "(I)Z"⟩, 7) := ⟨⟨by decide +kernel, by decide +kernel⟩, List.mem_of_getElem? (i := 19) (by decide +kernel), List.mem_of_getElem? (i := 498) (by decide +kernel), List.mem_of_getElem? (i := 499) (by decide +kernel)⟩
theorem lw_p14 : lw_okq (⟨"SyntaxRepair", "changeCost", "(III)I"⟩, 7) := ⟨⟨by decide +kernel, by decide +kernel⟩, List.mem_of_getElem? (i := 19) (by decide +kernel), List.mem_of_getElem? (i := 518) (by decide +kernel), List.mem_of_getElem? (i := 519) (by decide +kernel)⟩
theorem lw_p15 : lw_okq (⟨"SyntaxRepair", "findError", "()Z"⟩, 7) := ⟨⟨by decide +kernel, by decide +kernel⟩, List.mem_of_getElem? (i := 19) (by decide +kernel), List.mem_of_getElem? (i := 577) (by decide +kernel), List.mem_of_getElem? (i := 578) (by decide +kernel)⟩
def lw_privs_1 : List (MethodName × Nat) := [(⟨"SyntaxRepair$GrammarText", "nextLexeme", "()V"⟩, 5), (⟨"SyntaxRepair$GrammarText", "readStates", "()Z"⟩, 5), (⟨"SyntaxRepair$GrammarText", "takeWord", "(Ljava/lang/String;)Z"⟩, 5), (⟨"SyntaxRepair$GrammarText", "takeDigit", "(II)I"⟩, 5), (⟨"SyntaxRepair$GrammarText", "readStatement", "()Z"⟩, 5), (⟨"SyntaxRepair$GrammarText", "readAccept", "()Z"⟩, 5), (⟨"SyntaxRepair$GrammarText", "readRule", "(I)Z"⟩, 5), (⟨"SyntaxRepair$GrammarText", "kindHere", "()I"⟩, 5), (⟨"SyntaxRepair$GrammarText", "readCosts", "()Z"⟩, 5), (⟨"SyntaxRepair", "beginEdit", "()V"⟩, 7), (⟨"SyntaxRepair$History", "slotAt", "(I)LSyntaxRepair$Situation;"⟩, 3), (⟨"SyntaxRepair", "forgetTables", "()V"⟩, 7), (⟨"SyntaxRepair", "addToken", "(II)I"⟩, 7), (⟨"SyntaxRepair", "isToken", "(I)Z"⟩, 7), (⟨"SyntaxRepair", "changeCost", "(III)I"⟩, 7), (⟨"SyntaxRepair", "findError", "()Z"⟩, 7)]
theorem lw_r1 : ∀ q ∈ lw_privs_1, lw_okq q := List.forall_mem_cons.mpr ⟨lw_p0, List.forall_mem_cons.mpr ⟨lw_p1, List.forall_mem_cons.mpr ⟨lw_p2, List.forall_mem_cons.mpr ⟨lw_p3, List.forall_mem_cons.mpr ⟨lw_p4, List.forall_mem_cons.mpr ⟨lw_p5, List.forall_mem_cons.mpr ⟨lw_p6, List.forall_mem_cons.mpr ⟨lw_p7, List.forall_mem_cons.mpr ⟨lw_p8, List.forall_mem_cons.mpr ⟨lw_p9, List.forall_mem_cons.mpr ⟨lw_p10, List.forall_mem_cons.mpr ⟨lw_p11, List.forall_mem_cons.mpr ⟨lw_p12, List.forall_mem_cons.mpr ⟨lw_p13, List.forall_mem_cons.mpr ⟨lw_p14, List.forall_mem_cons.mpr ⟨lw_p15, fun _ h => absurd h List.not_mem_nil⟩⟩⟩⟩⟩⟩⟩⟩⟩⟩⟩⟩⟩⟩⟩⟩
theorem lw_p16 : lw_okq (⟨"SyntaxRepair", "runFirst", "(I)I"⟩, 7) := ⟨⟨by decide +kernel, by decide +kernel⟩, List.mem_of_getElem? (i := 19) (by decide +kernel), List.mem_of_getElem? (i := 608) (by decide +kernel), List.mem_of_getElem? (i := 609) (by decide +kernel)⟩
theorem lw_p17 : lw_okq (⟨"SyntaxRepair$Reach", "add", "(I)V"⟩, 4) := ⟨⟨by decide +kernel, by decide +kernel⟩, List.mem_of_getElem? (i := 173) (by decide +kernel), List.mem_of_getElem? (i := 638) (by decide +kernel), List.mem_of_getElem? (i := 639) (by decide +kernel)⟩
theorem lw_p18 : lw_okq (⟨"SyntaxRepair$ScriptTable", "settleLevel", "(I)V"⟩, 11) := ⟨⟨by decide +kernel, by decide +kernel⟩, List.mem_of_getElem? (i := 165) (by decide +kernel), List.mem_of_getElem? (i := 645) (by decide +kernel), List.mem_of_getElem? (i := 646) (by decide +kernel)⟩
theorem lw_p19 : lw_okq (⟨"SyntaxRepair$ScriptTable", "store", "(IIII)V"⟩, 11) := ⟨⟨by decide +kernel, by decide +kernel⟩, List.mem_of_getElem? (i := 165) (by decide +kernel), List.mem_of_getElem? (i := 650) (by decide +kernel), List.mem_of_getElem? (i := 651) (by decide +kernel)⟩
theorem lw_p20 : lw_okq (⟨"SyntaxRepair$ScriptTable", "refresh", "(II)Z"⟩, 11) := ⟨⟨by decide +kernel, by decide +kernel⟩, List.mem_of_getElem? (i := 165) (by decide +kernel), List.mem_of_getElem? (i := 659) (by decide +kernel), List.mem_of_getElem? (i := 660) (by decide +kernel)⟩
theorem lw_p21 : lw_okq (⟨"SyntaxRepair$ScriptTable", "isEnd", "(II)Z"⟩, 11) := ⟨⟨by decide +kernel, by decide +kernel⟩, List.mem_of_getElem? (i := 165) (by decide +kernel), List.mem_of_getElem? (i := 663) (by decide +kernel), List.mem_of_getElem? (i := 664) (by decide +kernel)⟩
theorem lw_p22 : lw_okq (⟨"SyntaxRepair$ScriptTable", "offerConsumption", "(III)V"⟩, 11) := ⟨⟨by decide +kernel, by decide +kernel⟩, List.mem_of_getElem? (i := 165) (by decide +kernel), List.mem_of_getElem? (i := 674) (by decide +kernel), List.mem_of_getElem? (i := 675) (by decide +kernel)⟩
theorem lw_p23 : lw_okq (⟨"SyntaxRepair$ScriptTable", "offer", "(II)V"⟩, 11) := ⟨⟨by decide +kernel, by decide +kernel⟩, List.mem_of_getElem? (i := 165) (by decide +kernel), List.mem_of_getElem? (i := 679) (by decide +kernel), List.mem_of_getElem? (i := 680) (by decide +kernel)⟩
theorem lw_p24 : lw_okq (⟨"SyntaxRepair", "traceBest", "(I)I"⟩, 7) := ⟨⟨by decide +kernel, by decide +kernel⟩, List.mem_of_getElem? (i := 19) (by decide +kernel), List.mem_of_getElem? (i := 712) (by decide +kernel), List.mem_of_getElem? (i := 713) (by decide +kernel)⟩
theorem lw_p25 : lw_okq (⟨"SyntaxRepair$ScriptTable", "pickMove", "(II)I"⟩, 11) := ⟨⟨by decide +kernel, by decide +kernel⟩, List.mem_of_getElem? (i := 165) (by decide +kernel), List.mem_of_getElem? (i := 720) (by decide +kernel), List.mem_of_getElem? (i := 721) (by decide +kernel)⟩
theorem lw_p26 : lw_okq (⟨"SyntaxRepair$ScriptTable", "firstMove", "()I"⟩, 11) := ⟨⟨by decide +kernel, by decide +kernel⟩, List.mem_of_getElem? (i := 165) (by decide +kernel), List.mem_of_getElem? (i := 725) (by decide +kernel), List.mem_of_getElem? (i := 726) (by decide +kernel)⟩
theorem lw_p27 : lw_okq (⟨"SyntaxRepair$ScriptTable", "targetOf", "(III)I"⟩, 11) := ⟨⟨by decide +kernel, by decide +kernel⟩, List.mem_of_getElem? (i := 165) (by decide +kernel), List.mem_of_getElem? (i := 729) (by decide +kernel), List.mem_of_getElem? (i := 730) (by decide +kernel)⟩
theorem lw_p28 : lw_okq (⟨"SyntaxRepair$ScriptTable", "priceOf", "(II)I"⟩, 11) := ⟨⟨by decide +kernel, by decide +kernel⟩, List.mem_of_getElem? (i := 165) (by decide +kernel), List.mem_of_getElem? (i := 740) (by decide +kernel), List.mem_of_getElem? (i := 741) (by decide +kernel)⟩
theorem lw_p29 : lw_okq (⟨"SyntaxRepair", "solveLocal", "(I)I"⟩, 7) := ⟨⟨by decide +kernel, by decide +kernel⟩, List.mem_of_getElem? (i := 19) (by decide +kernel), List.mem_of_getElem? (i := 786) (by decide +kernel), List.mem_of_getElem? (i := 787) (by decide +kernel)⟩
theorem lw_p30 : lw_okq (⟨"SyntaxRepairModel", "parse", "()I"⟩, 24) := ⟨⟨by decide +kernel, by decide +kernel⟩, List.mem_of_getElem? (i := 809) (by decide +kernel), List.mem_of_getElem? (i := 906) (by decide +kernel), List.mem_of_getElem? (i := 907) (by decide +kernel)⟩
theorem lw_p31 : lw_okq (⟨"SyntaxRepairModel", "next", "()V"⟩, 24) := ⟨⟨by decide +kernel, by decide +kernel⟩, List.mem_of_getElem? (i := 809) (by decide +kernel), List.mem_of_getElem? (i := 910) (by decide +kernel), List.mem_of_getElem? (i := 911) (by decide +kernel)⟩
def lw_privs_2 : List (MethodName × Nat) := [(⟨"SyntaxRepair", "runFirst", "(I)I"⟩, 7), (⟨"SyntaxRepair$Reach", "add", "(I)V"⟩, 4), (⟨"SyntaxRepair$ScriptTable", "settleLevel", "(I)V"⟩, 11), (⟨"SyntaxRepair$ScriptTable", "store", "(IIII)V"⟩, 11), (⟨"SyntaxRepair$ScriptTable", "refresh", "(II)Z"⟩, 11), (⟨"SyntaxRepair$ScriptTable", "isEnd", "(II)Z"⟩, 11), (⟨"SyntaxRepair$ScriptTable", "offerConsumption", "(III)V"⟩, 11), (⟨"SyntaxRepair$ScriptTable", "offer", "(II)V"⟩, 11), (⟨"SyntaxRepair", "traceBest", "(I)I"⟩, 7), (⟨"SyntaxRepair$ScriptTable", "pickMove", "(II)I"⟩, 11), (⟨"SyntaxRepair$ScriptTable", "firstMove", "()I"⟩, 11), (⟨"SyntaxRepair$ScriptTable", "targetOf", "(III)I"⟩, 11), (⟨"SyntaxRepair$ScriptTable", "priceOf", "(II)I"⟩, 11), (⟨"SyntaxRepair", "solveLocal", "(I)I"⟩, 7), (⟨"SyntaxRepairModel", "parse", "()I"⟩, 24), (⟨"SyntaxRepairModel", "next", "()V"⟩, 24)]
theorem lw_r2 : ∀ q ∈ lw_privs_2, lw_okq q := List.forall_mem_cons.mpr ⟨lw_p16, List.forall_mem_cons.mpr ⟨lw_p17, List.forall_mem_cons.mpr ⟨lw_p18, List.forall_mem_cons.mpr ⟨lw_p19, List.forall_mem_cons.mpr ⟨lw_p20, List.forall_mem_cons.mpr ⟨lw_p21, List.forall_mem_cons.mpr ⟨lw_p22, List.forall_mem_cons.mpr ⟨lw_p23, List.forall_mem_cons.mpr ⟨lw_p24, List.forall_mem_cons.mpr ⟨lw_p25, List.forall_mem_cons.mpr ⟨lw_p26, List.forall_mem_cons.mpr ⟨lw_p27, List.forall_mem_cons.mpr ⟨lw_p28, List.forall_mem_cons.mpr ⟨lw_p29, List.forall_mem_cons.mpr ⟨lw_p30, List.forall_mem_cons.mpr ⟨lw_p31, fun _ h => absurd h List.not_mem_nil⟩⟩⟩⟩⟩⟩⟩⟩⟩⟩⟩⟩⟩⟩⟩⟩
theorem lw_p32 : lw_okq (⟨"SyntaxRepairModel", "isLetter", "()Z"⟩, 24) := ⟨⟨by decide +kernel, by decide +kernel⟩, List.mem_of_getElem? (i := 809) (by decide +kernel), List.mem_of_getElem? (i := 914) (by decide +kernel), List.mem_of_getElem? (i := 915) (by decide +kernel)⟩
theorem lw_p33 : lw_okq (⟨"SyntaxRepairModel", "readStatement", "(Z)Z"⟩, 24) := ⟨⟨by decide +kernel, by decide +kernel⟩, List.mem_of_getElem? (i := 809) (by decide +kernel), List.mem_of_getElem? (i := 920) (by decide +kernel), List.mem_of_getElem? (i := 921) (by decide +kernel)⟩
theorem lw_p34 : lw_okq (⟨"SyntaxRepairModel", "readDigit", "(II)Z"⟩, 24) := ⟨⟨by decide +kernel, by decide +kernel⟩, List.mem_of_getElem? (i := 809) (by decide +kernel), List.mem_of_getElem? (i := 925) (by decide +kernel), List.mem_of_getElem? (i := 926) (by decide +kernel)⟩
theorem lw_p35 : lw_okq (⟨"SyntaxRepairModel", "readAccept", "()Z"⟩, 24) := ⟨⟨by decide +kernel, by decide +kernel⟩, List.mem_of_getElem? (i := 809) (by decide +kernel), List.mem_of_getElem? (i := 930) (by decide +kernel), List.mem_of_getElem? (i := 931) (by decide +kernel)⟩
theorem lw_p36 : lw_okq (⟨"SyntaxRepairModel", "readState", "()Z"⟩, 24) := ⟨⟨by decide +kernel, by decide +kernel⟩, List.mem_of_getElem? (i := 809) (by decide +kernel), List.mem_of_getElem? (i := 934) (by decide +kernel), List.mem_of_getElem? (i := 935) (by decide +kernel)⟩
theorem lw_p37 : lw_okq (⟨"SyntaxRepairModel", "readCost", "()Z"⟩, 24) := ⟨⟨by decide +kernel, by decide +kernel⟩, List.mem_of_getElem? (i := 809) (by decide +kernel), List.mem_of_getElem? (i := 939) (by decide +kernel), List.mem_of_getElem? (i := 940) (by decide +kernel)⟩
theorem lw_p38 : lw_okq (⟨"SyntaxRepairModel", "readKind", "()Z"⟩, 24) := ⟨⟨by decide +kernel, by decide +kernel⟩, List.mem_of_getElem? (i := 809) (by decide +kernel), List.mem_of_getElem? (i := 943) (by decide +kernel), List.mem_of_getElem? (i := 944) (by decide +kernel)⟩
theorem lw_p39 : lw_okq (⟨"SyntaxRepairModel", "readRule", "(I)Z"⟩, 24) := ⟨⟨by decide +kernel, by decide +kernel⟩, List.mem_of_getElem? (i := 809) (by decide +kernel), List.mem_of_getElem? (i := 951) (by decide +kernel), List.mem_of_getElem? (i := 952) (by decide +kernel)⟩
theorem lw_p40 : lw_okq (⟨"SyntaxRepairModel", "save", "()V"⟩, 24) := ⟨⟨by decide +kernel, by decide +kernel⟩, List.mem_of_getElem? (i := 809) (by decide +kernel), List.mem_of_getElem? (i := 955) (by decide +kernel), List.mem_of_getElem? (i := 956) (by decide +kernel)⟩
theorem lw_p41 : lw_okq (⟨"SyntaxRepairModel", "isToken", "(I)Z"⟩, 24) := ⟨⟨by decide +kernel, by decide +kernel⟩, List.mem_of_getElem? (i := 809) (by decide +kernel), List.mem_of_getElem? (i := 978) (by decide +kernel), List.mem_of_getElem? (i := 979) (by decide +kernel)⟩
theorem lw_p42 : lw_okq (⟨"SyntaxRepairModel", "setCost", "(III)I"⟩, 24) := ⟨⟨by decide +kernel, by decide +kernel⟩, List.mem_of_getElem? (i := 809) (by decide +kernel), List.mem_of_getElem? (i := 990) (by decide +kernel), List.mem_of_getElem? (i := 991) (by decide +kernel)⟩
theorem lw_p43 : lw_okq (⟨"SyntaxRepairModel", "findError", "(II)I"⟩, 24) := ⟨⟨by decide +kernel, by decide +kernel⟩, List.mem_of_getElem? (i := 809) (by decide +kernel), List.mem_of_getElem? (i := 1030) (by decide +kernel), List.mem_of_getElem? (i := 1031) (by decide +kernel)⟩
theorem lw_p44 : lw_okq (⟨"SyntaxRepairModel", "run", "(III)I"⟩, 24) := ⟨⟨by decide +kernel, by decide +kernel⟩, List.mem_of_getElem? (i := 809) (by decide +kernel), List.mem_of_getElem? (i := 1034) (by decide +kernel), List.mem_of_getElem? (i := 1035) (by decide +kernel)⟩
theorem lw_p45 : lw_okq (⟨"SyntaxRepairModel", "consume", "(II)I"⟩, 24) := ⟨⟨by decide +kernel, by decide +kernel⟩, List.mem_of_getElem? (i := 809) (by decide +kernel), List.mem_of_getElem? (i := 1038) (by decide +kernel), List.mem_of_getElem? (i := 1039) (by decide +kernel)⟩
theorem lw_p46 : lw_okq (⟨"SyntaxRepairModel", "isFinal", "(I)Z"⟩, 24) := ⟨⟨by decide +kernel, by decide +kernel⟩, List.mem_of_getElem? (i := 809) (by decide +kernel), List.mem_of_getElem? (i := 1042) (by decide +kernel), List.mem_of_getElem? (i := 1043) (by decide +kernel)⟩
theorem lw_p47 : lw_okq (⟨"SyntaxRepairModel", "runTokens", "(I)I"⟩, 24) := ⟨⟨by decide +kernel, by decide +kernel⟩, List.mem_of_getElem? (i := 809) (by decide +kernel), List.mem_of_getElem? (i := 1050) (by decide +kernel), List.mem_of_getElem? (i := 1051) (by decide +kernel)⟩
def lw_privs_3 : List (MethodName × Nat) := [(⟨"SyntaxRepairModel", "isLetter", "()Z"⟩, 24), (⟨"SyntaxRepairModel", "readStatement", "(Z)Z"⟩, 24), (⟨"SyntaxRepairModel", "readDigit", "(II)Z"⟩, 24), (⟨"SyntaxRepairModel", "readAccept", "()Z"⟩, 24), (⟨"SyntaxRepairModel", "readState", "()Z"⟩, 24), (⟨"SyntaxRepairModel", "readCost", "()Z"⟩, 24), (⟨"SyntaxRepairModel", "readKind", "()Z"⟩, 24), (⟨"SyntaxRepairModel", "readRule", "(I)Z"⟩, 24), (⟨"SyntaxRepairModel", "save", "()V"⟩, 24), (⟨"SyntaxRepairModel", "isToken", "(I)Z"⟩, 24), (⟨"SyntaxRepairModel", "setCost", "(III)I"⟩, 24), (⟨"SyntaxRepairModel", "findError", "(II)I"⟩, 24), (⟨"SyntaxRepairModel", "run", "(III)I"⟩, 24), (⟨"SyntaxRepairModel", "consume", "(II)I"⟩, 24), (⟨"SyntaxRepairModel", "isFinal", "(I)Z"⟩, 24), (⟨"SyntaxRepairModel", "runTokens", "(I)I"⟩, 24)]
theorem lw_r3 : ∀ q ∈ lw_privs_3, lw_okq q := List.forall_mem_cons.mpr ⟨lw_p32, List.forall_mem_cons.mpr ⟨lw_p33, List.forall_mem_cons.mpr ⟨lw_p34, List.forall_mem_cons.mpr ⟨lw_p35, List.forall_mem_cons.mpr ⟨lw_p36, List.forall_mem_cons.mpr ⟨lw_p37, List.forall_mem_cons.mpr ⟨lw_p38, List.forall_mem_cons.mpr ⟨lw_p39, List.forall_mem_cons.mpr ⟨lw_p40, List.forall_mem_cons.mpr ⟨lw_p41, List.forall_mem_cons.mpr ⟨lw_p42, List.forall_mem_cons.mpr ⟨lw_p43, List.forall_mem_cons.mpr ⟨lw_p44, List.forall_mem_cons.mpr ⟨lw_p45, List.forall_mem_cons.mpr ⟨lw_p46, List.forall_mem_cons.mpr ⟨lw_p47, fun _ h => absurd h List.not_mem_nil⟩⟩⟩⟩⟩⟩⟩⟩⟩⟩⟩⟩⟩⟩⟩⟩
theorem lw_p48 : lw_okq (⟨"SyntaxRepairModel", "findCosts", "()V"⟩, 24) := ⟨⟨by decide +kernel, by decide +kernel⟩, List.mem_of_getElem? (i := 809) (by decide +kernel), List.mem_of_getElem? (i := 1069) (by decide +kernel), List.mem_of_getElem? (i := 1070) (by decide +kernel)⟩
theorem lw_p49 : lw_okq (⟨"SyntaxRepairModel", "improve", "(I)Z"⟩, 24) := ⟨⟨by decide +kernel, by decide +kernel⟩, List.mem_of_getElem? (i := 809) (by decide +kernel), List.mem_of_getElem? (i := 1077) (by decide +kernel), List.mem_of_getElem? (i := 1078) (by decide +kernel)⟩
theorem lw_p50 : lw_okq (⟨"SyntaxRepairModel", "offer", "(I)V"⟩, 24) := ⟨⟨by decide +kernel, by decide +kernel⟩, List.mem_of_getElem? (i := 809) (by decide +kernel), List.mem_of_getElem? (i := 1081) (by decide +kernel), List.mem_of_getElem? (i := 1082) (by decide +kernel)⟩
theorem lw_p51 : lw_okq (⟨"SyntaxRepairModel", "edge", "(III)I"⟩, 24) := ⟨⟨by decide +kernel, by decide +kernel⟩, List.mem_of_getElem? (i := 809) (by decide +kernel), List.mem_of_getElem? (i := 1085) (by decide +kernel), List.mem_of_getElem? (i := 1086) (by decide +kernel)⟩
theorem lw_p52 : lw_okq (⟨"SyntaxRepairModel", "offerNode", "(II)V"⟩, 24) := ⟨⟨by decide +kernel, by decide +kernel⟩, List.mem_of_getElem? (i := 809) (by decide +kernel), List.mem_of_getElem? (i := 1089) (by decide +kernel), List.mem_of_getElem? (i := 1090) (by decide +kernel)⟩
theorem lw_p53 : lw_okq (⟨"SyntaxRepairModel", "findPaths", "()V"⟩, 24) := ⟨⟨by decide +kernel, by decide +kernel⟩, List.mem_of_getElem? (i := 809) (by decide +kernel), List.mem_of_getElem? (i := 1097) (by decide +kernel), List.mem_of_getElem? (i := 1098) (by decide +kernel)⟩
theorem lw_p54 : lw_okq (⟨"SyntaxRepairModel", "countPaths", "(I)Z"⟩, 24) := ⟨⟨by decide +kernel, by decide +kernel⟩, List.mem_of_getElem? (i := 809) (by decide +kernel), List.mem_of_getElem? (i := 1101) (by decide +kernel), List.mem_of_getElem? (i := 1102) (by decide +kernel)⟩
theorem lw_p55 : lw_okq (⟨"SyntaxRepairModel", "pathsBy", "(III)I"⟩, 24) := ⟨⟨by decide +kernel, by decide +kernel⟩, List.mem_of_getElem? (i := 809) (by decide +kernel), List.mem_of_getElem? (i := 1105) (by decide +kernel), List.mem_of_getElem? (i := 1106) (by decide +kernel)⟩
theorem lw_p56 : lw_okq (⟨"SyntaxRepairModel", "findScript", "(I)I"⟩, 24) := ⟨⟨by decide +kernel, by decide +kernel⟩, List.mem_of_getElem? (i := 809) (by decide +kernel), List.mem_of_getElem? (i := 1117) (by decide +kernel), List.mem_of_getElem? (i := 1118) (by decide +kernel)⟩
theorem lw_p57 : lw_okq (⟨"SyntaxRepairModel", "follow", "(I)I"⟩, 24) := ⟨⟨by decide +kernel, by decide +kernel⟩, List.mem_of_getElem? (i := 809) (by decide +kernel), List.mem_of_getElem? (i := 1121) (by decide +kernel), List.mem_of_getElem? (i := 1122) (by decide +kernel)⟩
theorem lw_p58 : lw_okq (⟨"SyntaxRepairModel", "append", "(II)V"⟩, 24) := ⟨⟨by decide +kernel, by decide +kernel⟩, List.mem_of_getElem? (i := 809) (by decide +kernel), List.mem_of_getElem? (i := 1125) (by decide +kernel), List.mem_of_getElem? (i := 1126) (by decide +kernel)⟩
theorem lw_p59 : lw_okq (⟨"SyntaxRepairModel", "repairEntry", "(IIZ)I"⟩, 24) := ⟨⟨by decide +kernel, by decide +kernel⟩, List.mem_of_getElem? (i := 809) (by decide +kernel), List.mem_of_getElem? (i := 1133) (by decide +kernel), List.mem_of_getElem? (i := 1134) (by decide +kernel)⟩
theorem lw_p60 : lw_okq (⟨"SyntaxRepairModel", "scriptEntry", "(IZ)I"⟩, 24) := ⟨⟨by decide +kernel, by decide +kernel⟩, List.mem_of_getElem? (i := 809) (by decide +kernel), List.mem_of_getElem? (i := 1137) (by decide +kernel), List.mem_of_getElem? (i := 1138) (by decide +kernel)⟩
theorem lw_p61 : lw_okq (⟨"SyntaxRepairModel", "findLocal", "(I)I"⟩, 24) := ⟨⟨by decide +kernel, by decide +kernel⟩, List.mem_of_getElem? (i := 809) (by decide +kernel), List.mem_of_getElem? (i := 1153) (by decide +kernel), List.mem_of_getElem? (i := 1154) (by decide +kernel)⟩
theorem lw_p62 : lw_okq (⟨"SyntaxRepairModel", "findLocalCosts", "(I)V"⟩, 24) := ⟨⟨by decide +kernel, by decide +kernel⟩, List.mem_of_getElem? (i := 809) (by decide +kernel), List.mem_of_getElem? (i := 1157) (by decide +kernel), List.mem_of_getElem? (i := 1158) (by decide +kernel)⟩
theorem lw_p63 : lw_okq (⟨"SyntaxRepairModel", "passes", "(II)Z"⟩, 24) := ⟨⟨by decide +kernel, by decide +kernel⟩, List.mem_of_getElem? (i := 809) (by decide +kernel), List.mem_of_getElem? (i := 1161) (by decide +kernel), List.mem_of_getElem? (i := 1162) (by decide +kernel)⟩
def lw_privs_4 : List (MethodName × Nat) := [(⟨"SyntaxRepairModel", "findCosts", "()V"⟩, 24), (⟨"SyntaxRepairModel", "improve", "(I)Z"⟩, 24), (⟨"SyntaxRepairModel", "offer", "(I)V"⟩, 24), (⟨"SyntaxRepairModel", "edge", "(III)I"⟩, 24), (⟨"SyntaxRepairModel", "offerNode", "(II)V"⟩, 24), (⟨"SyntaxRepairModel", "findPaths", "()V"⟩, 24), (⟨"SyntaxRepairModel", "countPaths", "(I)Z"⟩, 24), (⟨"SyntaxRepairModel", "pathsBy", "(III)I"⟩, 24), (⟨"SyntaxRepairModel", "findScript", "(I)I"⟩, 24), (⟨"SyntaxRepairModel", "follow", "(I)I"⟩, 24), (⟨"SyntaxRepairModel", "append", "(II)V"⟩, 24), (⟨"SyntaxRepairModel", "repairEntry", "(IIZ)I"⟩, 24), (⟨"SyntaxRepairModel", "scriptEntry", "(IZ)I"⟩, 24), (⟨"SyntaxRepairModel", "findLocal", "(I)I"⟩, 24), (⟨"SyntaxRepairModel", "findLocalCosts", "(I)V"⟩, 24), (⟨"SyntaxRepairModel", "passes", "(II)Z"⟩, 24)]
theorem lw_r4 : ∀ q ∈ lw_privs_4, lw_okq q := List.forall_mem_cons.mpr ⟨lw_p48, List.forall_mem_cons.mpr ⟨lw_p49, List.forall_mem_cons.mpr ⟨lw_p50, List.forall_mem_cons.mpr ⟨lw_p51, List.forall_mem_cons.mpr ⟨lw_p52, List.forall_mem_cons.mpr ⟨lw_p53, List.forall_mem_cons.mpr ⟨lw_p54, List.forall_mem_cons.mpr ⟨lw_p55, List.forall_mem_cons.mpr ⟨lw_p56, List.forall_mem_cons.mpr ⟨lw_p57, List.forall_mem_cons.mpr ⟨lw_p58, List.forall_mem_cons.mpr ⟨lw_p59, List.forall_mem_cons.mpr ⟨lw_p60, List.forall_mem_cons.mpr ⟨lw_p61, List.forall_mem_cons.mpr ⟨lw_p62, List.forall_mem_cons.mpr ⟨lw_p63, fun _ h => absurd h List.not_mem_nil⟩⟩⟩⟩⟩⟩⟩⟩⟩⟩⟩⟩⟩⟩⟩⟩
theorem lw_p64 : lw_okq (⟨"SyntaxRepairModel", "improveLocal", "(I)Z"⟩, 24) := ⟨⟨by decide +kernel, by decide +kernel⟩, List.mem_of_getElem? (i := 809) (by decide +kernel), List.mem_of_getElem? (i := 1165) (by decide +kernel), List.mem_of_getElem? (i := 1166) (by decide +kernel)⟩
theorem lw_p65 : lw_okq (⟨"SyntaxRepairModel", "localBy", "(III)I"⟩, 24) := ⟨⟨by decide +kernel, by decide +kernel⟩, List.mem_of_getElem? (i := 809) (by decide +kernel), List.mem_of_getElem? (i := 1169) (by decide +kernel), List.mem_of_getElem? (i := 1170) (by decide +kernel)⟩
theorem lw_p66 : lw_okq (⟨"SyntaxRepairModel", "repairLocally", "(I)I"⟩, 24) := ⟨⟨by decide +kernel, by decide +kernel⟩, List.mem_of_getElem? (i := 809) (by decide +kernel), List.mem_of_getElem? (i := 1173) (by decide +kernel), List.mem_of_getElem? (i := 1174) (by decide +kernel)⟩
theorem lw_p67 : lw_okq (⟨"SyntaxRepairModel", "followLocal", "(I)I"⟩, 24) := ⟨⟨by decide +kernel, by decide +kernel⟩, List.mem_of_getElem? (i := 809) (by decide +kernel), List.mem_of_getElem? (i := 1177) (by decide +kernel), List.mem_of_getElem? (i := 1178) (by decide +kernel)⟩
theorem lw_p68 : lw_okq (⟨"SyntaxRepairModel", "localEntry", "(IIZ)I"⟩, 24) := ⟨⟨by decide +kernel, by decide +kernel⟩, List.mem_of_getElem? (i := 809) (by decide +kernel), List.mem_of_getElem? (i := 1185) (by decide +kernel), List.mem_of_getElem? (i := 1186) (by decide +kernel)⟩
def lw_privs_5 : List (MethodName × Nat) := [(⟨"SyntaxRepairModel", "improveLocal", "(I)Z"⟩, 24), (⟨"SyntaxRepairModel", "localBy", "(III)I"⟩, 24), (⟨"SyntaxRepairModel", "repairLocally", "(I)I"⟩, 24), (⟨"SyntaxRepairModel", "followLocal", "(I)I"⟩, 24), (⟨"SyntaxRepairModel", "localEntry", "(IIZ)I"⟩, 24)]
theorem lw_r5 : ∀ q ∈ lw_privs_5, lw_okq q := List.forall_mem_cons.mpr ⟨lw_p64, List.forall_mem_cons.mpr ⟨lw_p65, List.forall_mem_cons.mpr ⟨lw_p66, List.forall_mem_cons.mpr ⟨lw_p67, List.forall_mem_cons.mpr ⟨lw_p68, fun _ h => absurd h List.not_mem_nil⟩⟩⟩⟩⟩
def lw_privs : List (MethodName × Nat) := lw_privs_1 ++ (lw_privs_2 ++ (lw_privs_3 ++ (lw_privs_4 ++ (lw_privs_5))))
def lw_tbl : List Cond := k2_sels lw_privs ++ tables_1
theorem lw_privs_ok : ∀ q ∈ lw_privs, lw_okq q := by
  show ∀ q ∈ lw_privs_1 ++ (lw_privs_2 ++ (lw_privs_3 ++ (lw_privs_4 ++ (lw_privs_5)))), lw_okq q
  exact List.forall_mem_append.mpr ⟨lw_r1, List.forall_mem_append.mpr ⟨lw_r2, List.forall_mem_append.mpr ⟨lw_r3, List.forall_mem_append.mpr ⟨lw_r4, lw_r5⟩⟩⟩⟩
-- ===== end of PART A; then your names; then what follows =====
def R_law : String := "SyntaxRepairLaw"
def RX0 : String := "SyntaxRepair$Automaton"
def TX0 : u_T := fun k => match k with
  | 0 => ("SyntaxRepair$Automaton", "accepting", "[I", true)
  | 1 => ("SyntaxRepair$Automaton", "types", "[I", true)
  | 2 => ("SyntaxRepair$Automaton", "targets", "[I", true)
  | 3 => ("SyntaxRepair$Automaton", "symbols", "[I", true)
  | _ => ("SyntaxRepair$Automaton", "states", "I", false)
def tyX0 : Nat → FieldType := fun k => match k with
  | 0 => .array .int
  | 1 => .array .int
  | 2 => .array .int
  | 3 => .array .int
  | _ => .int
theorem nmX0 : ∀ a, a < 5 → ∀ b, b < 5 → a ≠ b → (TX0 a).2.1 ≠ (TX0 b).2.1 := by decide +kernel
theorem tyX0_ok : ∀ k, k < 5 → parseFieldDescriptor (TX0 k).2.2.1 = some (tyX0 k) := by decide +kernel
abbrev cX0_init : ByteArray := prog_2_method_1_code
def yX0_init : MethodName := ⟨RX0, "<init>", "()V"⟩
abbrev cX0_clear : ByteArray := prog_2_method_2_code
def yX0_clear : MethodName := ⟨RX0, "clear", "(I)V"⟩
abbrev cX0_copyFrom : ByteArray := prog_2_method_3_code
def yX0_copyFrom : MethodName := ⟨RX0, "copyFrom", "(LSyntaxRepair$Automaton;)V"⟩
abbrev cX0_setAccepting : ByteArray := prog_2_method_4_code
def yX0_setAccepting : MethodName := ⟨RX0, "setAccepting", "(I)V"⟩
abbrev cX0_accepts : ByteArray := prog_2_method_5_code
def yX0_accepts : MethodName := ⟨RX0, "accepts", "(I)Z"⟩
abbrev cX0_hasRule : ByteArray := prog_2_method_6_code
def yX0_hasRule : MethodName := ⟨RX0, "hasRule", "(II)Z"⟩
abbrev cX0_addRule : ByteArray := prog_2_method_7_code
def yX0_addRule : MethodName := ⟨RX0, "addRule", "(IIIII)V"⟩
abbrev cX0_countRules : ByteArray := prog_2_method_8_code
def yX0_countRules : MethodName := ⟨RX0, "countRules", "()I"⟩
abbrev cX0_after : ByteArray := prog_2_method_9_code
def yX0_after : MethodName := ⟨RX0, "after", "(II)I"⟩
abbrev cX0_isFinal : ByteArray := prog_2_method_10_code
def yX0_isFinal : MethodName := ⟨RX0, "isFinal", "(I)Z"⟩
def RX1 : String := "SyntaxRepair$Costs"
def TX1 : u_T := fun k => match k with
  | _ => ("SyntaxRepair$Costs", "row", "[I", true)
def tyX1 : Nat → FieldType := fun k => match k with
  | _ => .array .int
theorem nmX1 : ∀ a, a < 1 → ∀ b, b < 1 → a ≠ b → (TX1 a).2.1 ≠ (TX1 b).2.1 := by decide +kernel
theorem tyX1_ok : ∀ k, k < 1 → parseFieldDescriptor (TX1 k).2.2.1 = some (tyX1 k) := by decide +kernel
abbrev cX1_init : ByteArray := prog_3_method_1_code
def yX1_init : MethodName := ⟨RX1, "<init>", "()V"⟩
abbrev cX1_setAllToOne : ByteArray := prog_3_method_2_code
def yX1_setAllToOne : MethodName := ⟨RX1, "setAllToOne", "()V"⟩
abbrev cX1_copyFrom : ByteArray := prog_3_method_3_code
def yX1_copyFrom : MethodName := ⟨RX1, "copyFrom", "(LSyntaxRepair$Costs;)V"⟩
abbrev cX1_of : ByteArray := prog_3_method_4_code
def yX1_of : MethodName := ⟨RX1, "of", "(II)I"⟩
abbrev cX1_change : ByteArray := prog_3_method_5_code
def yX1_change : MethodName := ⟨RX1, "change", "(III)V"⟩
def RX2 : String := "SyntaxRepair$Cursor"
def TX2 : u_T := fun k => match k with
  | 0 => ("SyntaxRepair$Cursor", "position", "I", false)
  | _ => ("SyntaxRepair$Cursor", "configuration", "I", false)
def tyX2 : Nat → FieldType := fun k => match k with
  | 0 => .int
  | _ => .int
theorem nmX2 : ∀ a, a < 2 → ∀ b, b < 2 → a ≠ b → (TX2 a).2.1 ≠ (TX2 b).2.1 := by decide +kernel
theorem tyX2_ok : ∀ k, k < 2 → parseFieldDescriptor (TX2 k).2.2.1 = some (tyX2 k) := by decide +kernel
abbrev cX2_init : ByteArray := prog_4_method_1_code
def yX2_init : MethodName := ⟨RX2, "<init>", "()V"⟩
abbrev cX2_toStart : ByteArray := prog_4_method_2_code
def yX2_toStart : MethodName := ⟨RX2, "toStart", "()V"⟩
abbrev cX2_run : ByteArray := prog_4_method_3_code
def yX2_run : MethodName := ⟨RX2, "run", "(LSyntaxRepair$Situation;I)V"⟩
abbrev cX2_isDone : ByteArray := prog_4_method_4_code
def yX2_isDone : MethodName := ⟨RX2, "isDone", "(LSyntaxRepair$Situation;)Z"⟩
def RX3 : String := "SyntaxRepair$GrammarText"
def TX3 : u_T := fun k => match k with
  | 0 => ("SyntaxRepair$GrammarText", "characters", "[I", true)
  | 1 => ("SyntaxRepair$GrammarText", "draft", "LSyntaxRepair$Situation;", true)
  | 2 => ("SyntaxRepair$GrammarText", "length", "I", false)
  | 3 => ("SyntaxRepair$GrammarText", "start", "I", false)
  | _ => ("SyntaxRepair$GrammarText", "end", "I", false)
def tyX3 : Nat → FieldType := fun k => match k with
  | 0 => .array .int
  | 1 => .object "SyntaxRepair$Situation"
  | 2 => .int
  | 3 => .int
  | _ => .int
theorem nmX3 : ∀ a, a < 5 → ∀ b, b < 5 → a ≠ b → (TX3 a).2.1 ≠ (TX3 b).2.1 := by decide +kernel
theorem tyX3_ok : ∀ k, k < 5 → parseFieldDescriptor (TX3 k).2.2.1 = some (tyX3 k) := by decide +kernel
abbrev cX3_init : ByteArray := prog_5_method_1_code
def yX3_init : MethodName := ⟨RX3, "<init>", "()V"⟩
abbrev cX3_add : ByteArray := prog_5_method_2_code
def yX3_add : MethodName := ⟨RX3, "add", "(I)V"⟩
abbrev cX3_read : ByteArray := prog_5_method_3_code
def yX3_read : MethodName := ⟨RX3, "read", "()I"⟩
abbrev cX3_readStates : ByteArray := prog_5_method_4_code
def yX3_readStates : MethodName := ⟨RX3, "readStates", "()Z"⟩
abbrev cX3_readStatement : ByteArray := prog_5_method_5_code
def yX3_readStatement : MethodName := ⟨RX3, "readStatement", "()Z"⟩
abbrev cX3_readAccept : ByteArray := prog_5_method_6_code
def yX3_readAccept : MethodName := ⟨RX3, "readAccept", "()Z"⟩
abbrev cX3_readRule : ByteArray := prog_5_method_7_code
def yX3_readRule : MethodName := ⟨RX3, "readRule", "(I)Z"⟩
abbrev cX3_readCosts : ByteArray := prog_5_method_8_code
def yX3_readCosts : MethodName := ⟨RX3, "readCosts", "()Z"⟩
abbrev cX3_takeWord : ByteArray := prog_5_method_9_code
def yX3_takeWord : MethodName := ⟨RX3, "takeWord", "(Ljava/lang/String;)Z"⟩
abbrev cX3_takeDigit : ByteArray := prog_5_method_10_code
def yX3_takeDigit : MethodName := ⟨RX3, "takeDigit", "(II)I"⟩
abbrev cX3_kindHere : ByteArray := prog_5_method_11_code
def yX3_kindHere : MethodName := ⟨RX3, "kindHere", "()I"⟩
abbrev cX3_nextLexeme : ByteArray := prog_5_method_12_code
def yX3_nextLexeme : MethodName := ⟨RX3, "nextLexeme", "()V"⟩
abbrev cX3_isLetter : ByteArray := prog_5_method_13_code
def yX3_isLetter : MethodName := ⟨RX3, "isLetter", "(I)Z"⟩
def RX4 : String := "SyntaxRepair$History"
def TX4 : u_T := fun k => match k with
  | 0 => ("SyntaxRepair$History", "ring", "[LSyntaxRepair$Situation;", true)
  | 1 => ("SyntaxRepair$History", "next", "I", false)
  | _ => ("SyntaxRepair$History", "count", "I", false)
def tyX4 : Nat → FieldType := fun k => match k with
  | 0 => .array (.object "SyntaxRepair$Situation")
  | 1 => .int
  | _ => .int
theorem nmX4 : ∀ a, a < 3 → ∀ b, b < 3 → a ≠ b → (TX4 a).2.1 ≠ (TX4 b).2.1 := by decide +kernel
theorem tyX4_ok : ∀ k, k < 3 → parseFieldDescriptor (TX4 k).2.2.1 = some (tyX4 k) := by decide +kernel
abbrev cX4_init : ByteArray := prog_6_method_1_code
def yX4_init : MethodName := ⟨RX4, "<init>", "()V"⟩
abbrev cX4_remember : ByteArray := prog_6_method_2_code
def yX4_remember : MethodName := ⟨RX4, "remember", "(LSyntaxRepair$Situation;)V"⟩
abbrev cX4_recall : ByteArray := prog_6_method_3_code
def yX4_recall : MethodName := ⟨RX4, "recall", "(LSyntaxRepair$Situation;)V"⟩
abbrev cX4_slotAt : ByteArray := prog_6_method_4_code
def yX4_slotAt : MethodName := ⟨RX4, "slotAt", "(I)LSyntaxRepair$Situation;"⟩
def RX5 : String := "SyntaxRepair$Reach"
def TX5 : u_T := fun k => match k with
  | 0 => ("SyntaxRepair$Reach", "next", "[I", true)
  | 1 => ("SyntaxRepair$Reach", "reached", "[I", true)
  | 2 => ("SyntaxRepair$Reach", "seen", "[I", true)
  | _ => ("SyntaxRepair$Reach", "count", "I", false)
def tyX5 : Nat → FieldType := fun k => match k with
  | 0 => .array .int
  | 1 => .array .int
  | 2 => .array .int
  | _ => .int
theorem nmX5 : ∀ a, a < 4 → ∀ b, b < 4 → a ≠ b → (TX5 a).2.1 ≠ (TX5 b).2.1 := by decide +kernel
theorem tyX5_ok : ∀ k, k < 4 → parseFieldDescriptor (TX5 k).2.2.1 = some (tyX5 k) := by decide +kernel
abbrev cX5_init : ByteArray := prog_7_method_1_code
def yX5_init : MethodName := ⟨RX5, "<init>", "()V"⟩
abbrev cX5_explore : ByteArray := prog_7_method_2_code
def yX5_explore : MethodName := ⟨RX5, "explore", "(LSyntaxRepair$Automaton;)V"⟩
abbrev cX5_add : ByteArray := prog_7_method_3_code
def yX5_add : MethodName := ⟨RX5, "add", "(I)V"⟩
abbrev cX5_configurationAt : ByteArray := prog_7_method_4_code
def yX5_configurationAt : MethodName := ⟨RX5, "configurationAt", "(I)I"⟩
abbrev cX5_after : ByteArray := prog_7_method_5_code
def yX5_after : MethodName := ⟨RX5, "after", "(II)I"⟩
def RX6 : String := "SyntaxRepair$Script"
def TX6 : u_T := fun k => match k with
  | 0 => ("SyntaxRepair$Script", "operations", "[I", true)
  | 1 => ("SyntaxRepair$Script", "kinds", "[I", true)
  | _ => ("SyntaxRepair$Script", "length", "I", false)
def tyX6 : Nat → FieldType := fun k => match k with
  | 0 => .array .int
  | 1 => .array .int
  | _ => .int
theorem nmX6 : ∀ a, a < 3 → ∀ b, b < 3 → a ≠ b → (TX6 a).2.1 ≠ (TX6 b).2.1 := by decide +kernel
theorem tyX6_ok : ∀ k, k < 3 → parseFieldDescriptor (TX6 k).2.2.1 = some (tyX6 k) := by decide +kernel
abbrev cX6_init : ByteArray := prog_8_method_1_code
def yX6_init : MethodName := ⟨RX6, "<init>", "()V"⟩
abbrev cX6_add : ByteArray := prog_8_method_2_code
def yX6_add : MethodName := ⟨RX6, "add", "(II)V"⟩
abbrev cX6_operationAt : ByteArray := prog_8_method_3_code
def yX6_operationAt : MethodName := ⟨RX6, "operationAt", "(I)I"⟩
abbrev cX6_kindAt : ByteArray := prog_8_method_4_code
def yX6_kindAt : MethodName := ⟨RX6, "kindAt", "(I)I"⟩
abbrev cX6_countConsumed : ByteArray := prog_8_method_5_code
def yX6_countConsumed : MethodName := ⟨RX6, "countConsumed", "()I"⟩
def RX7 : String := "SyntaxRepair$ScriptTable"
def TX7 : u_T := fun k => match k with
  | 0 => ("SyntaxRepair$ScriptTable", "situation", "LSyntaxRepair$Situation;", true)
  | 1 => ("SyntaxRepair$ScriptTable", "reach", "LSyntaxRepair$Reach;", true)
  | 2 => ("SyntaxRepair$ScriptTable", "least", "[I", true)
  | 3 => ("SyntaxRepair$ScriptTable", "second", "[I", true)
  | 4 => ("SyntaxRepair$ScriptTable", "ways", "[I", true)
  | 5 => ("SyntaxRepair$ScriptTable", "solved", "Z", false)
  | 6 => ("SyntaxRepair$ScriptTable", "lookAhead", "I", false)
  | 7 => ("SyntaxRepair$ScriptTable", "newLeast", "I", false)
  | 8 => ("SyntaxRepair$ScriptTable", "newSecond", "I", false)
  | 9 => ("SyntaxRepair$ScriptTable", "newWays", "I", false)
  | _ => ("SyntaxRepair$ScriptTable", "rankLeft", "I", false)
def tyX7 : Nat → FieldType := fun k => match k with
  | 0 => .object "SyntaxRepair$Situation"
  | 1 => .object "SyntaxRepair$Reach"
  | 2 => .array .int
  | 3 => .array .int
  | 4 => .array .int
  | 5 => .boolean
  | 6 => .int
  | 7 => .int
  | 8 => .int
  | 9 => .int
  | _ => .int
theorem nmX7 : ∀ a, a < 11 → ∀ b, b < 11 → a ≠ b → (TX7 a).2.1 ≠ (TX7 b).2.1 := by decide +kernel
theorem tyX7_ok : ∀ k, k < 11 → parseFieldDescriptor (TX7 k).2.2.1 = some (tyX7 k) := by decide +kernel
abbrev cX7_init : ByteArray := prog_9_method_1_code
def yX7_init : MethodName := ⟨RX7, "<init>", "()V"⟩
abbrev cX7_leastFrom : ByteArray := prog_9_method_2_code
def yX7_leastFrom : MethodName := ⟨RX7, "leastFrom", "(II)I"⟩
abbrev cX7_secondFrom : ByteArray := prog_9_method_3_code
def yX7_secondFrom : MethodName := ⟨RX7, "secondFrom", "(II)I"⟩
abbrev cX7_waysFrom : ByteArray := prog_9_method_4_code
def yX7_waysFrom : MethodName := ⟨RX7, "waysFrom", "(II)I"⟩
abbrev cX7_solve : ByteArray := prog_9_method_5_code
def yX7_solve : MethodName := ⟨RX7, "solve", "(LSyntaxRepair$Situation;I)V"⟩
abbrev cX7_settleLevel : ByteArray := prog_9_method_6_code
def yX7_settleLevel : MethodName := ⟨RX7, "settleLevel", "(I)V"⟩
abbrev cX7_store : ByteArray := prog_9_method_7_code
def yX7_store : MethodName := ⟨RX7, "store", "(IIII)V"⟩
abbrev cX7_refresh : ByteArray := prog_9_method_8_code
def yX7_refresh : MethodName := ⟨RX7, "refresh", "(II)Z"⟩
abbrev cX7_offerConsumption : ByteArray := prog_9_method_9_code
def yX7_offerConsumption : MethodName := ⟨RX7, "offerConsumption", "(III)V"⟩
abbrev cX7_offer : ByteArray := prog_9_method_10_code
def yX7_offer : MethodName := ⟨RX7, "offer", "(II)V"⟩
abbrev cX7_firstMove : ByteArray := prog_9_method_11_code
def yX7_firstMove : MethodName := ⟨RX7, "firstMove", "()I"⟩
abbrev cX7_isEnd : ByteArray := prog_9_method_12_code
def yX7_isEnd : MethodName := ⟨RX7, "isEnd", "(II)Z"⟩
abbrev cX7_targetOf : ByteArray := prog_9_method_13_code
def yX7_targetOf : MethodName := ⟨RX7, "targetOf", "(III)I"⟩
abbrev cX7_kindOf : ByteArray := prog_9_method_14_code
def yX7_kindOf : MethodName := ⟨RX7, "kindOf", "(II)I"⟩
abbrev cX7_priceOf : ByteArray := prog_9_method_15_code
def yX7_priceOf : MethodName := ⟨RX7, "priceOf", "(II)I"⟩
abbrev cX7_trace : ByteArray := prog_9_method_16_code
def yX7_trace : MethodName := ⟨RX7, "trace", "(LSyntaxRepair$Cursor;ILSyntaxRepair$Script;)V"⟩
abbrev cX7_pickMove : ByteArray := prog_9_method_17_code
def yX7_pickMove : MethodName := ⟨RX7, "pickMove", "(II)I"⟩
def RX8 : String := "SyntaxRepair$Situation"
def TX8 : u_T := fun k => match k with
  | 0 => ("SyntaxRepair$Situation", "automaton", "LSyntaxRepair$Automaton;", true)
  | 1 => ("SyntaxRepair$Situation", "costs", "LSyntaxRepair$Costs;", true)
  | _ => ("SyntaxRepair$Situation", "tokens", "LSyntaxRepair$Tokens;", true)
def tyX8 : Nat → FieldType := fun k => match k with
  | 0 => .object "SyntaxRepair$Automaton"
  | 1 => .object "SyntaxRepair$Costs"
  | _ => .object "SyntaxRepair$Tokens"
theorem nmX8 : ∀ a, a < 3 → ∀ b, b < 3 → a ≠ b → (TX8 a).2.1 ≠ (TX8 b).2.1 := by decide +kernel
theorem tyX8_ok : ∀ k, k < 3 → parseFieldDescriptor (TX8 k).2.2.1 = some (tyX8 k) := by decide +kernel
abbrev cX8_init : ByteArray := prog_10_method_1_code
def yX8_init : MethodName := ⟨RX8, "<init>", "()V"⟩
abbrev cX8_clear : ByteArray := prog_10_method_2_code
def yX8_clear : MethodName := ⟨RX8, "clear", "(I)V"⟩
abbrev cX8_copyFrom : ByteArray := prog_10_method_3_code
def yX8_copyFrom : MethodName := ⟨RX8, "copyFrom", "(LSyntaxRepair$Situation;)V"⟩
def RX9 : String := "SyntaxRepair$Tokens"
def TX9 : u_T := fun k => match k with
  | 0 => ("SyntaxRepair$Tokens", "kinds", "[I", true)
  | _ => ("SyntaxRepair$Tokens", "count", "I", false)
def tyX9 : Nat → FieldType := fun k => match k with
  | 0 => .array .int
  | _ => .int
theorem nmX9 : ∀ a, a < 2 → ∀ b, b < 2 → a ≠ b → (TX9 a).2.1 ≠ (TX9 b).2.1 := by decide +kernel
theorem tyX9_ok : ∀ k, k < 2 → parseFieldDescriptor (TX9 k).2.2.1 = some (tyX9 k) := by decide +kernel
abbrev cX9_init : ByteArray := prog_11_method_1_code
def yX9_init : MethodName := ⟨RX9, "<init>", "()V"⟩
abbrev cX9_copyFrom : ByteArray := prog_11_method_2_code
def yX9_copyFrom : MethodName := ⟨RX9, "copyFrom", "(LSyntaxRepair$Tokens;)V"⟩
abbrev cX9_kindAt : ByteArray := prog_11_method_3_code
def yX9_kindAt : MethodName := ⟨RX9, "kindAt", "(I)I"⟩
abbrev cX9_add : ByteArray := prog_11_method_4_code
def yX9_add : MethodName := ⟨RX9, "add", "(II)V"⟩
abbrev cX9_remove : ByteArray := prog_11_method_5_code
def yX9_remove : MethodName := ⟨RX9, "remove", "(I)I"⟩
abbrev cX9_takeConsumed : ByteArray := prog_11_method_6_code
def yX9_takeConsumed : MethodName := ⟨RX9, "takeConsumed", "(LSyntaxRepair$Script;)V"⟩
def RX10 : String := "SyntaxRepair"
def TX10 : u_T := fun k => match k with
  | 0 => ("SyntaxRepair", "now", "LSyntaxRepair$Situation;", true)
  | 1 => ("SyntaxRepair", "history", "LSyntaxRepair$History;", true)
  | 2 => ("SyntaxRepair", "text", "LSyntaxRepair$GrammarText;", true)
  | 3 => ("SyntaxRepair", "best", "LSyntaxRepair$ScriptTable;", true)
  | 4 => ("SyntaxRepair", "local", "LSyntaxRepair$ScriptTable;", true)
  | 5 => ("SyntaxRepair", "script", "LSyntaxRepair$Script;", true)
  | _ => ("SyntaxRepair", "cursor", "LSyntaxRepair$Cursor;", true)
def tyX10 : Nat → FieldType := fun k => match k with
  | 0 => .object "SyntaxRepair$Situation"
  | 1 => .object "SyntaxRepair$History"
  | 2 => .object "SyntaxRepair$GrammarText"
  | 3 => .object "SyntaxRepair$ScriptTable"
  | 4 => .object "SyntaxRepair$ScriptTable"
  | 5 => .object "SyntaxRepair$Script"
  | _ => .object "SyntaxRepair$Cursor"
theorem nmX10 : ∀ a, a < 7 → ∀ b, b < 7 → a ≠ b → (TX10 a).2.1 ≠ (TX10 b).2.1 := by decide +kernel
theorem tyX10_ok : ∀ k, k < 7 → parseFieldDescriptor (TX10 k).2.2.1 = some (tyX10 k) := by decide +kernel
abbrev cX10_init : ByteArray := prog_1_method_1_code
def yX10_init : MethodName := ⟨RX10, "<init>", "()V"⟩
abbrev cX10_appendCharacter : ByteArray := prog_1_method_2_code
def yX10_appendCharacter : MethodName := ⟨RX10, "appendCharacter", "(I)I"⟩
abbrev cX10_clearText : ByteArray := prog_1_method_3_code
def yX10_clearText : MethodName := ⟨RX10, "clearText", "()I"⟩
abbrev cX10_loadGrammar : ByteArray := prog_1_method_4_code
def yX10_loadGrammar : MethodName := ⟨RX10, "loadGrammar", "()I"⟩
abbrev cX10_appendToken : ByteArray := prog_1_method_5_code
def yX10_appendToken : MethodName := ⟨RX10, "appendToken", "(I)I"⟩
abbrev cX10_insertToken : ByteArray := prog_1_method_6_code
def yX10_insertToken : MethodName := ⟨RX10, "insertToken", "(II)I"⟩
abbrev cX10_addToken : ByteArray := prog_1_method_7_code
def yX10_addToken : MethodName := ⟨RX10, "addToken", "(II)I"⟩
abbrev cX10_removeToken : ByteArray := prog_1_method_8_code
def yX10_removeToken : MethodName := ⟨RX10, "removeToken", "(I)I"⟩
abbrev cX10_clearTokens : ByteArray := prog_1_method_9_code
def yX10_clearTokens : MethodName := ⟨RX10, "clearTokens", "()I"⟩
abbrev cX10_setInsertionCost : ByteArray := prog_1_method_10_code
def yX10_setInsertionCost : MethodName := ⟨RX10, "setInsertionCost", "(II)I"⟩
abbrev cX10_setDeletionCost : ByteArray := prog_1_method_11_code
def yX10_setDeletionCost : MethodName := ⟨RX10, "setDeletionCost", "(II)I"⟩
abbrev cX10_setReplacementCost : ByteArray := prog_1_method_12_code
def yX10_setReplacementCost : MethodName := ⟨RX10, "setReplacementCost", "(II)I"⟩
abbrev cX10_changeCost : ByteArray := prog_1_method_13_code
def yX10_changeCost : MethodName := ⟨RX10, "changeCost", "(III)I"⟩
abbrev cX10_undo : ByteArray := prog_1_method_14_code
def yX10_undo : MethodName := ⟨RX10, "undo", "()I"⟩
abbrev cX10_beginEdit : ByteArray := prog_1_method_15_code
def yX10_beginEdit : MethodName := ⟨RX10, "beginEdit", "()V"⟩
abbrev cX10_forgetTables : ByteArray := prog_1_method_16_code
def yX10_forgetTables : MethodName := ⟨RX10, "forgetTables", "()V"⟩
abbrev cX10_stateCount : ByteArray := prog_1_method_17_code
def yX10_stateCount : MethodName := ⟨RX10, "stateCount", "()I"⟩
abbrev cX10_isAccepting : ByteArray := prog_1_method_18_code
def yX10_isAccepting : MethodName := ⟨RX10, "isAccepting", "(I)I"⟩
abbrev cX10_ruleCount : ByteArray := prog_1_method_19_code
def yX10_ruleCount : MethodName := ⟨RX10, "ruleCount", "()I"⟩
abbrev cX10_tokenCount : ByteArray := prog_1_method_20_code
def yX10_tokenCount : MethodName := ⟨RX10, "tokenCount", "()I"⟩
abbrev cX10_tokenAt : ByteArray := prog_1_method_21_code
def yX10_tokenAt : MethodName := ⟨RX10, "tokenAt", "(I)I"⟩
abbrev cX10_isToken : ByteArray := prog_1_method_22_code
def yX10_isToken : MethodName := ⟨RX10, "isToken", "(I)Z"⟩
abbrev cX10_errorPosition : ByteArray := prog_1_method_23_code
def yX10_errorPosition : MethodName := ⟨RX10, "errorPosition", "()I"⟩
abbrev cX10_stateAfter : ByteArray := prog_1_method_24_code
def yX10_stateAfter : MethodName := ⟨RX10, "stateAfter", "(I)I"⟩
abbrev cX10_depthAfter : ByteArray := prog_1_method_25_code
def yX10_depthAfter : MethodName := ⟨RX10, "depthAfter", "(I)I"⟩
abbrev cX10_expectedKinds : ByteArray := prog_1_method_26_code
def yX10_expectedKinds : MethodName := ⟨RX10, "expectedKinds", "()I"⟩
abbrev cX10_findError : ByteArray := prog_1_method_27_code
def yX10_findError : MethodName := ⟨RX10, "findError", "()Z"⟩
abbrev cX10_runFirst : ByteArray := prog_1_method_28_code
def yX10_runFirst : MethodName := ⟨RX10, "runFirst", "(I)I"⟩
abbrev cX10_depthOf : ByteArray := prog_1_method_29_code
def yX10_depthOf : MethodName := ⟨RX10, "depthOf", "(I)I"⟩
abbrev cX10_repairCost : ByteArray := prog_1_method_30_code
def yX10_repairCost : MethodName := ⟨RX10, "repairCost", "()I"⟩
abbrev cX10_repairCount : ByteArray := prog_1_method_31_code
def yX10_repairCount : MethodName := ⟨RX10, "repairCount", "()I"⟩
abbrev cX10_secondCost : ByteArray := prog_1_method_32_code
def yX10_secondCost : MethodName := ⟨RX10, "secondCost", "()I"⟩
abbrev cX10_repairLength : ByteArray := prog_1_method_33_code
def yX10_repairLength : MethodName := ⟨RX10, "repairLength", "(I)I"⟩
abbrev cX10_repairOperation : ByteArray := prog_1_method_34_code
def yX10_repairOperation : MethodName := ⟨RX10, "repairOperation", "(II)I"⟩
abbrev cX10_repairKind : ByteArray := prog_1_method_35_code
def yX10_repairKind : MethodName := ⟨RX10, "repairKind", "(II)I"⟩
abbrev cX10_applyRepair : ByteArray := prog_1_method_36_code
def yX10_applyRepair : MethodName := ⟨RX10, "applyRepair", "(I)I"⟩
abbrev cX10_traceBest : ByteArray := prog_1_method_37_code
def yX10_traceBest : MethodName := ⟨RX10, "traceBest", "(I)I"⟩
abbrev cX10_costOrNone : ByteArray := prog_1_method_38_code
def yX10_costOrNone : MethodName := ⟨RX10, "costOrNone", "(I)I"⟩
abbrev cX10_localCost : ByteArray := prog_1_method_39_code
def yX10_localCost : MethodName := ⟨RX10, "localCost", "(I)I"⟩
abbrev cX10_localOperation : ByteArray := prog_1_method_40_code
def yX10_localOperation : MethodName := ⟨RX10, "localOperation", "(II)I"⟩
abbrev cX10_localKind : ByteArray := prog_1_method_41_code
def yX10_localKind : MethodName := ⟨RX10, "localKind", "(II)I"⟩
abbrev cX10_sweepCost : ByteArray := prog_1_method_42_code
def yX10_sweepCost : MethodName := ⟨RX10, "sweepCost", "(I)I"⟩
abbrev cX10_undoCount : ByteArray := prog_1_method_43_code
def yX10_undoCount : MethodName := ⟨RX10, "undoCount", "()I"⟩
abbrev cX10_solveLocal : ByteArray := prog_1_method_44_code
def yX10_solveLocal : MethodName := ⟨RX10, "solveLocal", "(I)I"⟩
abbrev cX10_isLookAhead : ByteArray := prog_1_method_45_code
def yX10_isLookAhead : MethodName := ⟨RX10, "isLookAhead", "(I)Z"⟩
abbrev cX10_isKind : ByteArray := prog_1_method_46_code
def yX10_isKind : MethodName := ⟨RX10, "isKind", "(I)Z"⟩
abbrev cX10_at : ByteArray := prog_1_method_47_code
def yX10_at : MethodName := ⟨RX10, "at", "([II)I"⟩
abbrev cX10_put : ByteArray := prog_1_method_48_code
def yX10_put : MethodName := ⟨RX10, "put", "([III)V"⟩
abbrev cX10_copy : ByteArray := prog_1_method_49_code
def yX10_copy : MethodName := ⟨RX10, "copy", "([I[I)V"⟩
abbrev cX10_fill : ByteArray := prog_1_method_50_code
def yX10_fill : MethodName := ⟨RX10, "fill", "([II)V"⟩
def RX11 : String := "SyntaxRepairModel"
def TX11 : u_T := fun k => match k with
  | 0 => ("SyntaxRepairModel", "now", "[I", true)
  | 1 => ("SyntaxRepairModel", "read", "[I", true)
  | 2 => ("SyntaxRepairModel", "history", "[I", true)
  | 3 => ("SyntaxRepairModel", "undoable", "I", false)
  | 4 => ("SyntaxRepairModel", "text", "[I", true)
  | 5 => ("SyntaxRepairModel", "length", "I", false)
  | 6 => ("SyntaxRepairModel", "at", "I", false)
  | 7 => ("SyntaxRepairModel", "lexeme", "I", false)
  | 8 => ("SyntaxRepairModel", "lexemeAt", "I", false)
  | 9 => ("SyntaxRepairModel", "word", "J", false)
  | 10 => ("SyntaxRepairModel", "digit", "I", false)
  | 11 => ("SyntaxRepairModel", "statements", "I", false)
  | 12 => ("SyntaxRepairModel", "reached", "I", false)
  | 13 => ("SyntaxRepairModel", "first", "[I", true)
  | 14 => ("SyntaxRepairModel", "second", "[I", true)
  | 15 => ("SyntaxRepairModel", "paths", "[I", true)
  | 16 => ("SyntaxRepairModel", "least", "I", false)
  | 17 => ("SyntaxRepairModel", "greater", "I", false)
  | 18 => ("SyntaxRepairModel", "edgeCost", "I", false)
  | 19 => ("SyntaxRepairModel", "operations", "[I", true)
  | 20 => ("SyntaxRepairModel", "kinds", "[I", true)
  | 21 => ("SyntaxRepairModel", "scriptLength", "I", false)
  | 22 => ("SyntaxRepairModel", "left", "I", false)
  | _ => ("SyntaxRepairModel", "local", "[I", true)
def tyX11 : Nat → FieldType := fun k => match k with
  | 0 => .array .int
  | 1 => .array .int
  | 2 => .array .int
  | 3 => .int
  | 4 => .array .int
  | 5 => .int
  | 6 => .int
  | 7 => .int
  | 8 => .int
  | 9 => .long
  | 10 => .int
  | 11 => .int
  | 12 => .int
  | 13 => .array .int
  | 14 => .array .int
  | 15 => .array .int
  | 16 => .int
  | 17 => .int
  | 18 => .int
  | 19 => .array .int
  | 20 => .array .int
  | 21 => .int
  | 22 => .int
  | _ => .array .int
theorem nmX11 : ∀ a, a < 24 → ∀ b, b < 24 → a ≠ b → (TX11 a).2.1 ≠ (TX11 b).2.1 := by decide +kernel
theorem tyX11_ok : ∀ k, k < 24 → parseFieldDescriptor (TX11 k).2.2.1 = some (tyX11 k) := by decide +kernel
abbrev cX11_init : ByteArray := prog_13_method_1_code
def yX11_init : MethodName := ⟨RX11, "<init>", "()V"⟩
abbrev cX11_in : ByteArray := prog_13_method_2_code
def yX11_in : MethodName := ⟨RX11, "in", "(III)Z"⟩
abbrev cX11_clearData : ByteArray := prog_13_method_3_code
def yX11_clearData : MethodName := ⟨RX11, "clearData", "([I)V"⟩
abbrev cX11_copyData : ByteArray := prog_13_method_4_code
def yX11_copyData : MethodName := ⟨RX11, "copyData", "([II[II)V"⟩
abbrev cX11_save : ByteArray := prog_13_method_5_code
def yX11_save : MethodName := ⟨RX11, "save", "()V"⟩
abbrev cX11_isLetter : ByteArray := prog_13_method_6_code
def yX11_isLetter : MethodName := ⟨RX11, "isLetter", "()Z"⟩
abbrev cX11_next : ByteArray := prog_13_method_7_code
def yX11_next : MethodName := ⟨RX11, "next", "()V"⟩
abbrev cX11_readDigit : ByteArray := prog_13_method_8_code
def yX11_readDigit : MethodName := ⟨RX11, "readDigit", "(II)Z"⟩
abbrev cX11_readState : ByteArray := prog_13_method_9_code
def yX11_readState : MethodName := ⟨RX11, "readState", "()Z"⟩
abbrev cX11_readKind : ByteArray := prog_13_method_10_code
def yX11_readKind : MethodName := ⟨RX11, "readKind", "()Z"⟩
abbrev cX11_readAccept : ByteArray := prog_13_method_11_code
def yX11_readAccept : MethodName := ⟨RX11, "readAccept", "()Z"⟩
abbrev cX11_readRule : ByteArray := prog_13_method_12_code
def yX11_readRule : MethodName := ⟨RX11, "readRule", "(I)Z"⟩
abbrev cX11_readCost : ByteArray := prog_13_method_13_code
def yX11_readCost : MethodName := ⟨RX11, "readCost", "()Z"⟩
abbrev cX11_readStatement : ByteArray := prog_13_method_14_code
def yX11_readStatement : MethodName := ⟨RX11, "readStatement", "(Z)Z"⟩
abbrev cX11_parse : ByteArray := prog_13_method_15_code
def yX11_parse : MethodName := ⟨RX11, "parse", "()I"⟩
abbrev cX11_appendCharacter : ByteArray := prog_13_method_16_code
def yX11_appendCharacter : MethodName := ⟨RX11, "appendCharacter", "(I)I"⟩
abbrev cX11_clearText : ByteArray := prog_13_method_17_code
def yX11_clearText : MethodName := ⟨RX11, "clearText", "()I"⟩
abbrev cX11_loadGrammar : ByteArray := prog_13_method_18_code
def yX11_loadGrammar : MethodName := ⟨RX11, "loadGrammar", "()I"⟩
abbrev cX11_isKind : ByteArray := prog_13_method_19_code
def yX11_isKind : MethodName := ⟨RX11, "isKind", "(I)Z"⟩
abbrev cX11_isToken : ByteArray := prog_13_method_20_code
def yX11_isToken : MethodName := ⟨RX11, "isToken", "(I)Z"⟩
abbrev cX11_appendToken : ByteArray := prog_13_method_21_code
def yX11_appendToken : MethodName := ⟨RX11, "appendToken", "(I)I"⟩
abbrev cX11_insertToken : ByteArray := prog_13_method_22_code
def yX11_insertToken : MethodName := ⟨RX11, "insertToken", "(II)I"⟩
abbrev cX11_removeToken : ByteArray := prog_13_method_23_code
def yX11_removeToken : MethodName := ⟨RX11, "removeToken", "(I)I"⟩
abbrev cX11_clearTokens : ByteArray := prog_13_method_24_code
def yX11_clearTokens : MethodName := ⟨RX11, "clearTokens", "()I"⟩
abbrev cX11_setCost : ByteArray := prog_13_method_25_code
def yX11_setCost : MethodName := ⟨RX11, "setCost", "(III)I"⟩
abbrev cX11_setInsertionCost : ByteArray := prog_13_method_26_code
def yX11_setInsertionCost : MethodName := ⟨RX11, "setInsertionCost", "(II)I"⟩
abbrev cX11_setDeletionCost : ByteArray := prog_13_method_27_code
def yX11_setDeletionCost : MethodName := ⟨RX11, "setDeletionCost", "(II)I"⟩
abbrev cX11_setReplacementCost : ByteArray := prog_13_method_28_code
def yX11_setReplacementCost : MethodName := ⟨RX11, "setReplacementCost", "(II)I"⟩
abbrev cX11_undo : ByteArray := prog_13_method_29_code
def yX11_undo : MethodName := ⟨RX11, "undo", "()I"⟩
abbrev cX11_stateCount : ByteArray := prog_13_method_30_code
def yX11_stateCount : MethodName := ⟨RX11, "stateCount", "()I"⟩
abbrev cX11_isAccepting : ByteArray := prog_13_method_31_code
def yX11_isAccepting : MethodName := ⟨RX11, "isAccepting", "(I)I"⟩
abbrev cX11_ruleCount : ByteArray := prog_13_method_32_code
def yX11_ruleCount : MethodName := ⟨RX11, "ruleCount", "()I"⟩
abbrev cX11_tokenCount : ByteArray := prog_13_method_33_code
def yX11_tokenCount : MethodName := ⟨RX11, "tokenCount", "()I"⟩
abbrev cX11_tokenAt : ByteArray := prog_13_method_34_code
def yX11_tokenAt : MethodName := ⟨RX11, "tokenAt", "(I)I"⟩
abbrev cX11_depth : ByteArray := prog_13_method_35_code
def yX11_depth : MethodName := ⟨RX11, "depth", "(I)I"⟩
abbrev cX11_consume : ByteArray := prog_13_method_36_code
def yX11_consume : MethodName := ⟨RX11, "consume", "(II)I"⟩
abbrev cX11_isFinal : ByteArray := prog_13_method_37_code
def yX11_isFinal : MethodName := ⟨RX11, "isFinal", "(I)Z"⟩
abbrev cX11_run : ByteArray := prog_13_method_38_code
def yX11_run : MethodName := ⟨RX11, "run", "(III)I"⟩
abbrev cX11_findError : ByteArray := prog_13_method_39_code
def yX11_findError : MethodName := ⟨RX11, "findError", "(II)I"⟩
abbrev cX11_errorPosition : ByteArray := prog_13_method_40_code
def yX11_errorPosition : MethodName := ⟨RX11, "errorPosition", "()I"⟩
abbrev cX11_runTokens : ByteArray := prog_13_method_41_code
def yX11_runTokens : MethodName := ⟨RX11, "runTokens", "(I)I"⟩
abbrev cX11_stateAfter : ByteArray := prog_13_method_42_code
def yX11_stateAfter : MethodName := ⟨RX11, "stateAfter", "(I)I"⟩
abbrev cX11_depthAfter : ByteArray := prog_13_method_43_code
def yX11_depthAfter : MethodName := ⟨RX11, "depthAfter", "(I)I"⟩
abbrev cX11_expectedKinds : ByteArray := prog_13_method_44_code
def yX11_expectedKinds : MethodName := ⟨RX11, "expectedKinds", "()I"⟩
abbrev cX11_offer : ByteArray := prog_13_method_45_code
def yX11_offer : MethodName := ⟨RX11, "offer", "(I)V"⟩
abbrev cX11_offerNode : ByteArray := prog_13_method_46_code
def yX11_offerNode : MethodName := ⟨RX11, "offerNode", "(II)V"⟩
abbrev cX11_edge : ByteArray := prog_13_method_47_code
def yX11_edge : MethodName := ⟨RX11, "edge", "(III)I"⟩
abbrev cX11_improve : ByteArray := prog_13_method_48_code
def yX11_improve : MethodName := ⟨RX11, "improve", "(I)Z"⟩
abbrev cX11_isConfig : ByteArray := prog_13_method_49_code
def yX11_isConfig : MethodName := ⟨RX11, "isConfig", "(I)Z"⟩
abbrev cX11_findCosts : ByteArray := prog_13_method_50_code
def yX11_findCosts : MethodName := ⟨RX11, "findCosts", "()V"⟩
abbrev cX11_pathsBy : ByteArray := prog_13_method_51_code
def yX11_pathsBy : MethodName := ⟨RX11, "pathsBy", "(III)I"⟩
abbrev cX11_countPaths : ByteArray := prog_13_method_52_code
def yX11_countPaths : MethodName := ⟨RX11, "countPaths", "(I)Z"⟩
abbrev cX11_findPaths : ByteArray := prog_13_method_53_code
def yX11_findPaths : MethodName := ⟨RX11, "findPaths", "()V"⟩
abbrev cX11_repairCost : ByteArray := prog_13_method_54_code
def yX11_repairCost : MethodName := ⟨RX11, "repairCost", "()I"⟩
abbrev cX11_repairCount : ByteArray := prog_13_method_55_code
def yX11_repairCount : MethodName := ⟨RX11, "repairCount", "()I"⟩
abbrev cX11_secondCost : ByteArray := prog_13_method_56_code
def yX11_secondCost : MethodName := ⟨RX11, "secondCost", "()I"⟩
abbrev cX11_append : ByteArray := prog_13_method_57_code
def yX11_append : MethodName := ⟨RX11, "append", "(II)V"⟩
abbrev cX11_follow : ByteArray := prog_13_method_58_code
def yX11_follow : MethodName := ⟨RX11, "follow", "(I)I"⟩
abbrev cX11_findScript : ByteArray := prog_13_method_59_code
def yX11_findScript : MethodName := ⟨RX11, "findScript", "(I)I"⟩
abbrev cX11_repairLength : ByteArray := prog_13_method_60_code
def yX11_repairLength : MethodName := ⟨RX11, "repairLength", "(I)I"⟩
abbrev cX11_scriptEntry : ByteArray := prog_13_method_61_code
def yX11_scriptEntry : MethodName := ⟨RX11, "scriptEntry", "(IZ)I"⟩
abbrev cX11_repairEntry : ByteArray := prog_13_method_62_code
def yX11_repairEntry : MethodName := ⟨RX11, "repairEntry", "(IIZ)I"⟩
abbrev cX11_repairOperation : ByteArray := prog_13_method_63_code
def yX11_repairOperation : MethodName := ⟨RX11, "repairOperation", "(II)I"⟩
abbrev cX11_repairKind : ByteArray := prog_13_method_64_code
def yX11_repairKind : MethodName := ⟨RX11, "repairKind", "(II)I"⟩
abbrev cX11_applyRepair : ByteArray := prog_13_method_65_code
def yX11_applyRepair : MethodName := ⟨RX11, "applyRepair", "(I)I"⟩
abbrev cX11_passes : ByteArray := prog_13_method_66_code
def yX11_passes : MethodName := ⟨RX11, "passes", "(II)Z"⟩
abbrev cX11_localBy : ByteArray := prog_13_method_67_code
def yX11_localBy : MethodName := ⟨RX11, "localBy", "(III)I"⟩
abbrev cX11_improveLocal : ByteArray := prog_13_method_68_code
def yX11_improveLocal : MethodName := ⟨RX11, "improveLocal", "(I)Z"⟩
abbrev cX11_findLocalCosts : ByteArray := prog_13_method_69_code
def yX11_findLocalCosts : MethodName := ⟨RX11, "findLocalCosts", "(I)V"⟩
abbrev cX11_followLocal : ByteArray := prog_13_method_70_code
def yX11_followLocal : MethodName := ⟨RX11, "followLocal", "(I)I"⟩
abbrev cX11_repairLocally : ByteArray := prog_13_method_71_code
def yX11_repairLocally : MethodName := ⟨RX11, "repairLocally", "(I)I"⟩
abbrev cX11_findLocal : ByteArray := prog_13_method_72_code
def yX11_findLocal : MethodName := ⟨RX11, "findLocal", "(I)I"⟩
abbrev cX11_localCost : ByteArray := prog_13_method_73_code
def yX11_localCost : MethodName := ⟨RX11, "localCost", "(I)I"⟩
abbrev cX11_localEntry : ByteArray := prog_13_method_74_code
def yX11_localEntry : MethodName := ⟨RX11, "localEntry", "(IIZ)I"⟩
abbrev cX11_localOperation : ByteArray := prog_13_method_75_code
def yX11_localOperation : MethodName := ⟨RX11, "localOperation", "(II)I"⟩
abbrev cX11_localKind : ByteArray := prog_13_method_76_code
def yX11_localKind : MethodName := ⟨RX11, "localKind", "(II)I"⟩
abbrev cX11_sweepCost : ByteArray := prog_13_method_77_code
def yX11_sweepCost : MethodName := ⟨RX11, "sweepCost", "(I)I"⟩
abbrev cX11_undoCount : ByteArray := prog_13_method_78_code
def yX11_undoCount : MethodName := ⟨RX11, "undoCount", "()I"⟩
def RJ9 : String := "java/lang/Math"
def RJ0 : String := "java/lang/String"
abbrev cJ0_length_8abf5 : ByteArray := prog_15_method_54_code
def yJ0_length_8abf5 : MethodName := ⟨RJ0, "length", "()I"⟩
abbrev cJ0_charAt_5068e : ByteArray := prog_15_method_56_code
def yJ0_charAt_5068e : MethodName := ⟨RJ0, "charAt", "(I)C"⟩
abbrev cJ0_coder_7d493 : ByteArray := prog_15_method_152_code
def yJ0_coder_7d493 : MethodName := ⟨RJ0, "coder", "()B"⟩
abbrev cJ0_isLatin1_aae02 : ByteArray := prog_15_method_154_code
def yJ0_isLatin1_aae02 : MethodName := ⟨RJ0, "isLatin1", "()Z"⟩
abbrev cJ0_checkIndex_df160 : ByteArray := prog_15_method_155_code
def yJ0_checkIndex_df160 : MethodName := ⟨RJ0, "checkIndex", "(II)V"⟩
def RJ1 : String := "java/lang/StringLatin1"
abbrev cJ1_charAt_3b067 : ByteArray := prog_16_method_2_code
def yJ1_charAt_3b067 : MethodName := ⟨RJ1, "charAt", "([BI)C"⟩
def RJ2 : String := "java/lang/StringUTF16"
def RJ3 : String := "jdk/internal/util/Preconditions"
abbrev cJ3_checkIndex_8e157 : ByteArray := prog_18_method_11_code
def yJ3_checkIndex_8e157 : MethodName := ⟨RJ3, "checkIndex", "(IILjava/util/function/BiFunction;)I"⟩
def RL : String := "SyntaxRepairLaw"
abbrev cL_law : ByteArray := code
def yL_law : MethodName := ⟨RL, "law", "([I)Z"⟩
theorem dX0_init_0 : decode cX0_init 0 = .ok (.aload_n 0, 1) := by decide +kernel
theorem dX0_init_1 : decode cX0_init 1 = .ok (.invokespecial 3, 3) := by decide +kernel
theorem dX0_init_4 : decode cX0_init 4 = .ok (.aload_n 0, 1) := by decide +kernel
theorem dX0_init_5 : decode cX0_init 5 = .ok (.bipush 6, 2) := by decide +kernel
theorem dX0_init_7 : decode cX0_init 7 = .ok (.newarray .int, 2) := by decide +kernel
theorem dX0_init_9 : decode cX0_init 9 = .ok (.putfield 9, 3) := by decide +kernel
theorem dX0_init_12 : decode cX0_init 12 = .ok (.aload_n 0, 1) := by decide +kernel
theorem dX0_init_13 : decode cX0_init 13 = .ok (.bipush 36, 2) := by decide +kernel
theorem dX0_init_15 : decode cX0_init 15 = .ok (.newarray .int, 2) := by decide +kernel
theorem dX0_init_17 : decode cX0_init 17 = .ok (.putfield 15, 3) := by decide +kernel
theorem dX0_init_20 : decode cX0_init 20 = .ok (.aload_n 0, 1) := by decide +kernel
theorem dX0_init_21 : decode cX0_init 21 = .ok (.bipush 36, 2) := by decide +kernel
theorem dX0_init_23 : decode cX0_init 23 = .ok (.newarray .int, 2) := by decide +kernel
theorem dX0_init_25 : decode cX0_init 25 = .ok (.putfield 18, 3) := by decide +kernel
theorem dX0_init_28 : decode cX0_init 28 = .ok (.aload_n 0, 1) := by decide +kernel
theorem dX0_init_29 : decode cX0_init 29 = .ok (.bipush 36, 2) := by decide +kernel
theorem dX0_init_31 : decode cX0_init 31 = .ok (.newarray .int, 2) := by decide +kernel
theorem dX0_init_33 : decode cX0_init 33 = .ok (.putfield 21, 3) := by decide +kernel
theorem dX0_init_36 : decode cX0_init 36 = .ok (.aload_n 0, 1) := by decide +kernel
theorem dX0_init_37 : decode cX0_init 37 = .ok (.iconst 1, 1) := by decide +kernel
theorem dX0_init_38 : decode cX0_init 38 = .ok (.putfield 24, 3) := by decide +kernel
theorem dX0_init_41 : decode cX0_init 41 = .ok (.return_, 1) := by decide +kernel
theorem dX0_clear_0 : decode cX0_clear 0 = .ok (.aload_n 0, 1) := by decide +kernel
theorem dX0_clear_1 : decode cX0_clear 1 = .ok (.iload_n 1, 1) := by decide +kernel
theorem dX0_clear_2 : decode cX0_clear 2 = .ok (.putfield 24, 3) := by decide +kernel
theorem dX0_clear_5 : decode cX0_clear 5 = .ok (.aload_n 0, 1) := by decide +kernel
theorem dX0_clear_6 : decode cX0_clear 6 = .ok (.getfield 9, 3) := by decide +kernel
theorem dX0_clear_9 : decode cX0_clear 9 = .ok (.iconst 0, 1) := by decide +kernel
theorem dX0_clear_10 : decode cX0_clear 10 = .ok (.invokestatic 28, 3) := by decide +kernel
theorem dX0_clear_13 : decode cX0_clear 13 = .ok (.aload_n 0, 1) := by decide +kernel
theorem dX0_clear_14 : decode cX0_clear 14 = .ok (.getfield 15, 3) := by decide +kernel
theorem dX0_clear_17 : decode cX0_clear 17 = .ok (.iconst 0, 1) := by decide +kernel
theorem dX0_clear_18 : decode cX0_clear 18 = .ok (.invokestatic 28, 3) := by decide +kernel
theorem dX0_clear_21 : decode cX0_clear 21 = .ok (.return_, 1) := by decide +kernel
theorem dX0_copyFrom_0 : decode cX0_copyFrom 0 = .ok (.aload_n 0, 1) := by decide +kernel
theorem dX0_copyFrom_1 : decode cX0_copyFrom 1 = .ok (.aload_n 1, 1) := by decide +kernel
theorem dX0_copyFrom_2 : decode cX0_copyFrom 2 = .ok (.getfield 24, 3) := by decide +kernel
theorem dX0_copyFrom_5 : decode cX0_copyFrom 5 = .ok (.putfield 24, 3) := by decide +kernel
theorem dX0_copyFrom_8 : decode cX0_copyFrom 8 = .ok (.aload_n 1, 1) := by decide +kernel
theorem dX0_copyFrom_9 : decode cX0_copyFrom 9 = .ok (.getfield 9, 3) := by decide +kernel
theorem dX0_copyFrom_12 : decode cX0_copyFrom 12 = .ok (.aload_n 0, 1) := by decide +kernel
theorem dX0_copyFrom_13 : decode cX0_copyFrom 13 = .ok (.getfield 9, 3) := by decide +kernel
theorem dX0_copyFrom_16 : decode cX0_copyFrom 16 = .ok (.invokestatic 32, 3) := by decide +kernel
theorem dX0_copyFrom_19 : decode cX0_copyFrom 19 = .ok (.aload_n 1, 1) := by decide +kernel
theorem dX0_copyFrom_20 : decode cX0_copyFrom 20 = .ok (.getfield 15, 3) := by decide +kernel
theorem dX0_copyFrom_23 : decode cX0_copyFrom 23 = .ok (.aload_n 0, 1) := by decide +kernel
theorem dX0_copyFrom_24 : decode cX0_copyFrom 24 = .ok (.getfield 15, 3) := by decide +kernel
theorem dX0_copyFrom_27 : decode cX0_copyFrom 27 = .ok (.invokestatic 32, 3) := by decide +kernel
theorem dX0_copyFrom_30 : decode cX0_copyFrom 30 = .ok (.aload_n 1, 1) := by decide +kernel
theorem dX0_copyFrom_31 : decode cX0_copyFrom 31 = .ok (.getfield 18, 3) := by decide +kernel
theorem dX0_copyFrom_34 : decode cX0_copyFrom 34 = .ok (.aload_n 0, 1) := by decide +kernel
theorem dX0_copyFrom_35 : decode cX0_copyFrom 35 = .ok (.getfield 18, 3) := by decide +kernel
theorem dX0_copyFrom_38 : decode cX0_copyFrom 38 = .ok (.invokestatic 32, 3) := by decide +kernel
theorem dX0_copyFrom_41 : decode cX0_copyFrom 41 = .ok (.aload_n 1, 1) := by decide +kernel
theorem dX0_copyFrom_42 : decode cX0_copyFrom 42 = .ok (.getfield 21, 3) := by decide +kernel
theorem dX0_copyFrom_45 : decode cX0_copyFrom 45 = .ok (.aload_n 0, 1) := by decide +kernel
theorem dX0_copyFrom_46 : decode cX0_copyFrom 46 = .ok (.getfield 21, 3) := by decide +kernel
theorem dX0_copyFrom_49 : decode cX0_copyFrom 49 = .ok (.invokestatic 32, 3) := by decide +kernel
theorem dX0_copyFrom_52 : decode cX0_copyFrom 52 = .ok (.return_, 1) := by decide +kernel
theorem dX0_setAccepting_0 : decode cX0_setAccepting 0 = .ok (.aload_n 0, 1) := by decide +kernel
theorem dX0_setAccepting_1 : decode cX0_setAccepting 1 = .ok (.getfield 9, 3) := by decide +kernel
theorem dX0_setAccepting_4 : decode cX0_setAccepting 4 = .ok (.iload_n 1, 1) := by decide +kernel
theorem dX0_setAccepting_5 : decode cX0_setAccepting 5 = .ok (.iconst 1, 1) := by decide +kernel
theorem dX0_setAccepting_6 : decode cX0_setAccepting 6 = .ok (.invokestatic 36, 3) := by decide +kernel
theorem dX0_setAccepting_9 : decode cX0_setAccepting 9 = .ok (.return_, 1) := by decide +kernel
theorem dX0_accepts_0 : decode cX0_accepts 0 = .ok (.aload_n 0, 1) := by decide +kernel
theorem dX0_accepts_1 : decode cX0_accepts 1 = .ok (.getfield 9, 3) := by decide +kernel
theorem dX0_accepts_4 : decode cX0_accepts 4 = .ok (.iload_n 1, 1) := by decide +kernel
theorem dX0_accepts_5 : decode cX0_accepts 5 = .ok (.invokestatic 40, 3) := by decide +kernel
theorem dX0_accepts_8 : decode cX0_accepts 8 = .ok (.iconst 1, 1) := by decide +kernel
theorem dX0_accepts_9 : decode cX0_accepts 9 = .ok (.if_icmp .ne 7, 3) := by decide +kernel
theorem dX0_accepts_12 : decode cX0_accepts 12 = .ok (.iconst 1, 1) := by decide +kernel
theorem dX0_accepts_13 : decode cX0_accepts 13 = .ok (.goto 4, 3) := by decide +kernel
theorem dX0_accepts_16 : decode cX0_accepts 16 = .ok (.iconst 0, 1) := by decide +kernel
theorem dX0_accepts_17 : decode cX0_accepts 17 = .ok (.ireturn, 1) := by decide +kernel
theorem dX0_hasRule_0 : decode cX0_hasRule 0 = .ok (.aload_n 0, 1) := by decide +kernel
theorem dX0_hasRule_1 : decode cX0_hasRule 1 = .ok (.getfield 15, 3) := by decide +kernel
theorem dX0_hasRule_4 : decode cX0_hasRule 4 = .ok (.iload_n 1, 1) := by decide +kernel
theorem dX0_hasRule_5 : decode cX0_hasRule 5 = .ok (.bipush 6, 2) := by decide +kernel
theorem dX0_hasRule_7 : decode cX0_hasRule 7 = .ok (.imul, 1) := by decide +kernel
theorem dX0_hasRule_8 : decode cX0_hasRule 8 = .ok (.iload_n 2, 1) := by decide +kernel
theorem dX0_hasRule_9 : decode cX0_hasRule 9 = .ok (.iadd, 1) := by decide +kernel
theorem dX0_hasRule_10 : decode cX0_hasRule 10 = .ok (.invokestatic 40, 3) := by decide +kernel
theorem dX0_hasRule_13 : decode cX0_hasRule 13 = .ok (.ifCond .eq 7, 3) := by decide +kernel
theorem dX0_hasRule_16 : decode cX0_hasRule 16 = .ok (.iconst 1, 1) := by decide +kernel
theorem dX0_hasRule_17 : decode cX0_hasRule 17 = .ok (.goto 4, 3) := by decide +kernel
theorem dX0_hasRule_20 : decode cX0_hasRule 20 = .ok (.iconst 0, 1) := by decide +kernel
theorem dX0_hasRule_21 : decode cX0_hasRule 21 = .ok (.ireturn, 1) := by decide +kernel
theorem dX0_addRule_0 : decode cX0_addRule 0 = .ok (.iload_n 2, 1) := by decide +kernel
theorem dX0_addRule_1 : decode cX0_addRule 1 = .ok (.bipush 6, 2) := by decide +kernel
theorem dX0_addRule_3 : decode cX0_addRule 3 = .ok (.imul, 1) := by decide +kernel
theorem dX0_addRule_4 : decode cX0_addRule 4 = .ok (.iload_n 3, 1) := by decide +kernel
theorem dX0_addRule_5 : decode cX0_addRule 5 = .ok (.iadd, 1) := by decide +kernel
theorem dX0_addRule_6 : decode cX0_addRule 6 = .ok (.istore 6, 2) := by decide +kernel
theorem dX0_addRule_8 : decode cX0_addRule 8 = .ok (.aload_n 0, 1) := by decide +kernel
theorem dX0_addRule_9 : decode cX0_addRule 9 = .ok (.getfield 15, 3) := by decide +kernel
theorem dX0_addRule_12 : decode cX0_addRule 12 = .ok (.iload 6, 2) := by decide +kernel
theorem dX0_addRule_14 : decode cX0_addRule 14 = .ok (.iload_n 1, 1) := by decide +kernel
theorem dX0_addRule_15 : decode cX0_addRule 15 = .ok (.invokestatic 36, 3) := by decide +kernel
theorem dX0_addRule_18 : decode cX0_addRule 18 = .ok (.aload_n 0, 1) := by decide +kernel
theorem dX0_addRule_19 : decode cX0_addRule 19 = .ok (.getfield 18, 3) := by decide +kernel
theorem dX0_addRule_22 : decode cX0_addRule 22 = .ok (.iload 6, 2) := by decide +kernel
theorem dX0_addRule_24 : decode cX0_addRule 24 = .ok (.iload 4, 2) := by decide +kernel
theorem dX0_addRule_26 : decode cX0_addRule 26 = .ok (.invokestatic 36, 3) := by decide +kernel
theorem dX0_addRule_29 : decode cX0_addRule 29 = .ok (.aload_n 0, 1) := by decide +kernel
theorem dX0_addRule_30 : decode cX0_addRule 30 = .ok (.getfield 21, 3) := by decide +kernel
theorem dX0_addRule_33 : decode cX0_addRule 33 = .ok (.iload 6, 2) := by decide +kernel
theorem dX0_addRule_35 : decode cX0_addRule 35 = .ok (.iload 5, 2) := by decide +kernel
theorem dX0_addRule_37 : decode cX0_addRule 37 = .ok (.invokestatic 36, 3) := by decide +kernel
theorem dX0_addRule_40 : decode cX0_addRule 40 = .ok (.return_, 1) := by decide +kernel
theorem dX0_countRules_0 : decode cX0_countRules 0 = .ok (.iconst 0, 1) := by decide +kernel
theorem dX0_countRules_1 : decode cX0_countRules 1 = .ok (.istore_n 1, 1) := by decide +kernel
theorem dX0_countRules_2 : decode cX0_countRules 2 = .ok (.iconst 0, 1) := by decide +kernel
theorem dX0_countRules_3 : decode cX0_countRules 3 = .ok (.istore_n 2, 1) := by decide +kernel
theorem dX0_countRules_4 : decode cX0_countRules 4 = .ok (.iload_n 2, 1) := by decide +kernel
theorem dX0_countRules_5 : decode cX0_countRules 5 = .ok (.aload_n 0, 1) := by decide +kernel
theorem dX0_countRules_6 : decode cX0_countRules 6 = .ok (.getfield 15, 3) := by decide +kernel
theorem dX0_countRules_9 : decode cX0_countRules 9 = .ok (.arraylength, 1) := by decide +kernel
theorem dX0_countRules_10 : decode cX0_countRules 10 = .ok (.if_icmp .ge 21, 3) := by decide +kernel
theorem dX0_countRules_13 : decode cX0_countRules 13 = .ok (.aload_n 0, 1) := by decide +kernel
theorem dX0_countRules_14 : decode cX0_countRules 14 = .ok (.getfield 15, 3) := by decide +kernel
theorem dX0_countRules_17 : decode cX0_countRules 17 = .ok (.iload_n 2, 1) := by decide +kernel
theorem dX0_countRules_18 : decode cX0_countRules 18 = .ok (.iaload, 1) := by decide +kernel
theorem dX0_countRules_19 : decode cX0_countRules 19 = .ok (.ifCond .eq 6, 3) := by decide +kernel
theorem dX0_countRules_22 : decode cX0_countRules 22 = .ok (.iinc 1 1, 3) := by decide +kernel
theorem dX0_countRules_25 : decode cX0_countRules 25 = .ok (.iinc 2 1, 3) := by decide +kernel
theorem dX0_countRules_28 : decode cX0_countRules 28 = .ok (.goto (-24), 3) := by decide +kernel
theorem dX0_countRules_31 : decode cX0_countRules 31 = .ok (.iload_n 1, 1) := by decide +kernel
theorem dX0_countRules_32 : decode cX0_countRules 32 = .ok (.ireturn, 1) := by decide +kernel
theorem dX0_after_0 : decode cX0_after 0 = .ok (.iload_n 1, 1) := by decide +kernel
theorem dX0_after_1 : decode cX0_after 1 = .ok (.ifCond .lt 16, 3) := by decide +kernel
theorem dX0_after_4 : decode cX0_after 4 = .ok (.iload_n 1, 1) := by decide +kernel
theorem dX0_after_5 : decode cX0_after 5 = .ok (.bipush 96, 2) := by decide +kernel
theorem dX0_after_7 : decode cX0_after 7 = .ok (.if_icmp .ge 10, 3) := by decide +kernel
theorem dX0_after_10 : decode cX0_after 10 = .ok (.iload_n 2, 1) := by decide +kernel
theorem dX0_after_11 : decode cX0_after 11 = .ok (.invokestatic 44, 3) := by decide +kernel
theorem dX0_after_14 : decode cX0_after 14 = .ok (.ifCond .ne 5, 3) := by decide +kernel
theorem dX0_after_17 : decode cX0_after 17 = .ok (.iconst (-1), 1) := by decide +kernel
theorem dX0_after_18 : decode cX0_after 18 = .ok (.ireturn, 1) := by decide +kernel
theorem dX0_after_19 : decode cX0_after 19 = .ok (.iload_n 1, 1) := by decide +kernel
theorem dX0_after_20 : decode cX0_after 20 = .ok (.bipush 16, 2) := by decide +kernel
theorem dX0_after_22 : decode cX0_after 22 = .ok (.idiv, 1) := by decide +kernel
theorem dX0_after_23 : decode cX0_after 23 = .ok (.bipush 6, 2) := by decide +kernel
theorem dX0_after_25 : decode cX0_after 25 = .ok (.imul, 1) := by decide +kernel
theorem dX0_after_26 : decode cX0_after 26 = .ok (.iload_n 2, 1) := by decide +kernel
theorem dX0_after_27 : decode cX0_after 27 = .ok (.iadd, 1) := by decide +kernel
theorem dX0_after_28 : decode cX0_after 28 = .ok (.istore_n 3, 1) := by decide +kernel
theorem dX0_after_29 : decode cX0_after 29 = .ok (.iload_n 1, 1) := by decide +kernel
theorem dX0_after_30 : decode cX0_after 30 = .ok (.bipush 16, 2) := by decide +kernel
theorem dX0_after_32 : decode cX0_after 32 = .ok (.irem, 1) := by decide +kernel
theorem dX0_after_33 : decode cX0_after 33 = .ok (.istore 4, 2) := by decide +kernel
theorem dX0_after_35 : decode cX0_after 35 = .ok (.aload_n 0, 1) := by decide +kernel
theorem dX0_after_36 : decode cX0_after 36 = .ok (.getfield 18, 3) := by decide +kernel
theorem dX0_after_39 : decode cX0_after 39 = .ok (.iload_n 3, 1) := by decide +kernel
theorem dX0_after_40 : decode cX0_after 40 = .ok (.invokestatic 40, 3) := by decide +kernel
theorem dX0_after_43 : decode cX0_after 43 = .ok (.bipush 16, 2) := by decide +kernel
theorem dX0_after_45 : decode cX0_after 45 = .ok (.imul, 1) := by decide +kernel
theorem dX0_after_46 : decode cX0_after 46 = .ok (.istore 5, 2) := by decide +kernel
theorem dX0_after_48 : decode cX0_after 48 = .ok (.aload_n 0, 1) := by decide +kernel
theorem dX0_after_49 : decode cX0_after 49 = .ok (.getfield 21, 3) := by decide +kernel
theorem dX0_after_52 : decode cX0_after 52 = .ok (.iload_n 3, 1) := by decide +kernel
theorem dX0_after_53 : decode cX0_after 53 = .ok (.invokestatic 40, 3) := by decide +kernel
theorem dX0_after_56 : decode cX0_after 56 = .ok (.istore 6, 2) := by decide +kernel
theorem dX0_after_58 : decode cX0_after 58 = .ok (.aload_n 0, 1) := by decide +kernel
theorem dX0_after_59 : decode cX0_after 59 = .ok (.getfield 15, 3) := by decide +kernel
theorem dX0_after_62 : decode cX0_after 62 = .ok (.iload_n 3, 1) := by decide +kernel
theorem dX0_after_63 : decode cX0_after 63 = .ok (.invokestatic 40, 3) := by decide +kernel
theorem dX0_after_66 : decode cX0_after 66 = .ok (.tableswitch 81 1 3 #[26, 32, 54], 26) := by decide +kernel
theorem dX0_after_92 : decode cX0_after 92 = .ok (.iload 5, 2) := by decide +kernel
theorem dX0_after_94 : decode cX0_after 94 = .ok (.iload 4, 2) := by decide +kernel
theorem dX0_after_96 : decode cX0_after 96 = .ok (.iadd, 1) := by decide +kernel
theorem dX0_after_97 : decode cX0_after 97 = .ok (.ireturn, 1) := by decide +kernel
theorem dX0_after_98 : decode cX0_after 98 = .ok (.iload 4, 2) := by decide +kernel
theorem dX0_after_100 : decode cX0_after 100 = .ok (.bipush 8, 2) := by decide +kernel
theorem dX0_after_102 : decode cX0_after 102 = .ok (.if_icmp .ge 16, 3) := by decide +kernel
theorem dX0_after_105 : decode cX0_after 105 = .ok (.iload 5, 2) := by decide +kernel
theorem dX0_after_107 : decode cX0_after 107 = .ok (.iload 4, 2) := by decide +kernel
theorem dX0_after_109 : decode cX0_after 109 = .ok (.iconst 2, 1) := by decide +kernel
theorem dX0_after_110 : decode cX0_after 110 = .ok (.imul, 1) := by decide +kernel
theorem dX0_after_111 : decode cX0_after 111 = .ok (.iadd, 1) := by decide +kernel
theorem dX0_after_112 : decode cX0_after 112 = .ok (.iload 6, 2) := by decide +kernel
theorem dX0_after_114 : decode cX0_after 114 = .ok (.iadd, 1) := by decide +kernel
theorem dX0_after_115 : decode cX0_after 115 = .ok (.goto 4, 3) := by decide +kernel
theorem dX0_after_118 : decode cX0_after 118 = .ok (.iconst (-1), 1) := by decide +kernel
theorem dX0_after_119 : decode cX0_after 119 = .ok (.ireturn, 1) := by decide +kernel
theorem dX0_after_120 : decode cX0_after 120 = .ok (.iload 4, 2) := by decide +kernel
theorem dX0_after_122 : decode cX0_after 122 = .ok (.iconst 1, 1) := by decide +kernel
theorem dX0_after_123 : decode cX0_after 123 = .ok (.if_icmp .le 22, 3) := by decide +kernel
theorem dX0_after_126 : decode cX0_after 126 = .ok (.iload 4, 2) := by decide +kernel
theorem dX0_after_128 : decode cX0_after 128 = .ok (.iconst 2, 1) := by decide +kernel
theorem dX0_after_129 : decode cX0_after 129 = .ok (.irem, 1) := by decide +kernel
theorem dX0_after_130 : decode cX0_after 130 = .ok (.iload 6, 2) := by decide +kernel
theorem dX0_after_132 : decode cX0_after 132 = .ok (.if_icmp .ne 13, 3) := by decide +kernel
theorem dX0_after_135 : decode cX0_after 135 = .ok (.iload 5, 2) := by decide +kernel
theorem dX0_after_137 : decode cX0_after 137 = .ok (.iload 4, 2) := by decide +kernel
theorem dX0_after_139 : decode cX0_after 139 = .ok (.iconst 2, 1) := by decide +kernel
theorem dX0_after_140 : decode cX0_after 140 = .ok (.idiv, 1) := by decide +kernel
theorem dX0_after_141 : decode cX0_after 141 = .ok (.iadd, 1) := by decide +kernel
theorem dX0_after_142 : decode cX0_after 142 = .ok (.goto 4, 3) := by decide +kernel
theorem dX0_after_145 : decode cX0_after 145 = .ok (.iconst (-1), 1) := by decide +kernel
theorem dX0_after_146 : decode cX0_after 146 = .ok (.ireturn, 1) := by decide +kernel
theorem dX0_after_147 : decode cX0_after 147 = .ok (.iconst (-1), 1) := by decide +kernel
theorem dX0_after_148 : decode cX0_after 148 = .ok (.ireturn, 1) := by decide +kernel
theorem dX0_isFinal_0 : decode cX0_isFinal 0 = .ok (.iload_n 1, 1) := by decide +kernel
theorem dX0_isFinal_1 : decode cX0_isFinal 1 = .ok (.ifCond .lt 9, 3) := by decide +kernel
theorem dX0_isFinal_4 : decode cX0_isFinal 4 = .ok (.iload_n 1, 1) := by decide +kernel
theorem dX0_isFinal_5 : decode cX0_isFinal 5 = .ok (.bipush 96, 2) := by decide +kernel
theorem dX0_isFinal_7 : decode cX0_isFinal 7 = .ok (.if_icmp .lt 5, 3) := by decide +kernel
theorem dX0_isFinal_10 : decode cX0_isFinal 10 = .ok (.iconst 0, 1) := by decide +kernel
theorem dX0_isFinal_11 : decode cX0_isFinal 11 = .ok (.ireturn, 1) := by decide +kernel
theorem dX0_isFinal_12 : decode cX0_isFinal 12 = .ok (.iload_n 1, 1) := by decide +kernel
theorem dX0_isFinal_13 : decode cX0_isFinal 13 = .ok (.bipush 16, 2) := by decide +kernel
theorem dX0_isFinal_15 : decode cX0_isFinal 15 = .ok (.irem, 1) := by decide +kernel
theorem dX0_isFinal_16 : decode cX0_isFinal 16 = .ok (.iconst 1, 1) := by decide +kernel
theorem dX0_isFinal_17 : decode cX0_isFinal 17 = .ok (.if_icmp .ne 22, 3) := by decide +kernel
theorem dX0_isFinal_20 : decode cX0_isFinal 20 = .ok (.aload_n 0, 1) := by decide +kernel
theorem dX0_isFinal_21 : decode cX0_isFinal 21 = .ok (.getfield 9, 3) := by decide +kernel
theorem dX0_isFinal_24 : decode cX0_isFinal 24 = .ok (.iload_n 1, 1) := by decide +kernel
theorem dX0_isFinal_25 : decode cX0_isFinal 25 = .ok (.bipush 16, 2) := by decide +kernel
theorem dX0_isFinal_27 : decode cX0_isFinal 27 = .ok (.idiv, 1) := by decide +kernel
theorem dX0_isFinal_28 : decode cX0_isFinal 28 = .ok (.invokestatic 40, 3) := by decide +kernel
theorem dX0_isFinal_31 : decode cX0_isFinal 31 = .ok (.iconst 1, 1) := by decide +kernel
theorem dX0_isFinal_32 : decode cX0_isFinal 32 = .ok (.if_icmp .ne 7, 3) := by decide +kernel
theorem dX0_isFinal_35 : decode cX0_isFinal 35 = .ok (.iconst 1, 1) := by decide +kernel
theorem dX0_isFinal_36 : decode cX0_isFinal 36 = .ok (.goto 4, 3) := by decide +kernel
theorem dX0_isFinal_39 : decode cX0_isFinal 39 = .ok (.iconst 0, 1) := by decide +kernel
theorem dX0_isFinal_40 : decode cX0_isFinal 40 = .ok (.ireturn, 1) := by decide +kernel
theorem dX1_init_0 : decode cX1_init 0 = .ok (.aload_n 0, 1) := by decide +kernel
theorem dX1_init_1 : decode cX1_init 1 = .ok (.invokespecial 3, 3) := by decide +kernel
theorem dX1_init_4 : decode cX1_init 4 = .ok (.aload_n 0, 1) := by decide +kernel
theorem dX1_init_5 : decode cX1_init 5 = .ok (.bipush 24, 2) := by decide +kernel
theorem dX1_init_7 : decode cX1_init 7 = .ok (.newarray .int, 2) := by decide +kernel
theorem dX1_init_9 : decode cX1_init 9 = .ok (.putfield 9, 3) := by decide +kernel
theorem dX1_init_12 : decode cX1_init 12 = .ok (.aload_n 0, 1) := by decide +kernel
theorem dX1_init_13 : decode cX1_init 13 = .ok (.invokevirtual 15, 3) := by decide +kernel
theorem dX1_init_16 : decode cX1_init 16 = .ok (.return_, 1) := by decide +kernel
theorem dX1_setAllToOne_0 : decode cX1_setAllToOne 0 = .ok (.aload_n 0, 1) := by decide +kernel
theorem dX1_setAllToOne_1 : decode cX1_setAllToOne 1 = .ok (.getfield 9, 3) := by decide +kernel
theorem dX1_setAllToOne_4 : decode cX1_setAllToOne 4 = .ok (.iconst 1, 1) := by decide +kernel
theorem dX1_setAllToOne_5 : decode cX1_setAllToOne 5 = .ok (.invokestatic 18, 3) := by decide +kernel
theorem dX1_setAllToOne_8 : decode cX1_setAllToOne 8 = .ok (.iconst 0, 1) := by decide +kernel
theorem dX1_setAllToOne_9 : decode cX1_setAllToOne 9 = .ok (.istore_n 1, 1) := by decide +kernel
theorem dX1_setAllToOne_10 : decode cX1_setAllToOne 10 = .ok (.iload_n 1, 1) := by decide +kernel
theorem dX1_setAllToOne_11 : decode cX1_setAllToOne 11 = .ok (.bipush 6, 2) := by decide +kernel
theorem dX1_setAllToOne_13 : decode cX1_setAllToOne 13 = .ok (.if_icmp .ge 16, 3) := by decide +kernel
theorem dX1_setAllToOne_16 : decode cX1_setAllToOne 16 = .ok (.aload_n 0, 1) := by decide +kernel
theorem dX1_setAllToOne_17 : decode cX1_setAllToOne 17 = .ok (.iconst 0, 1) := by decide +kernel
theorem dX1_setAllToOne_18 : decode cX1_setAllToOne 18 = .ok (.iload_n 1, 1) := by decide +kernel
theorem dX1_setAllToOne_19 : decode cX1_setAllToOne 19 = .ok (.iconst 0, 1) := by decide +kernel
theorem dX1_setAllToOne_20 : decode cX1_setAllToOne 20 = .ok (.invokevirtual 22, 3) := by decide +kernel
theorem dX1_setAllToOne_23 : decode cX1_setAllToOne 23 = .ok (.iinc 1 1, 3) := by decide +kernel
theorem dX1_setAllToOne_26 : decode cX1_setAllToOne 26 = .ok (.goto (-16), 3) := by decide +kernel
theorem dX1_setAllToOne_29 : decode cX1_setAllToOne 29 = .ok (.return_, 1) := by decide +kernel
theorem dX1_copyFrom_0 : decode cX1_copyFrom 0 = .ok (.aload_n 1, 1) := by decide +kernel
theorem dX1_copyFrom_1 : decode cX1_copyFrom 1 = .ok (.getfield 9, 3) := by decide +kernel
theorem dX1_copyFrom_4 : decode cX1_copyFrom 4 = .ok (.aload_n 0, 1) := by decide +kernel
theorem dX1_copyFrom_5 : decode cX1_copyFrom 5 = .ok (.getfield 9, 3) := by decide +kernel
theorem dX1_copyFrom_8 : decode cX1_copyFrom 8 = .ok (.invokestatic 26, 3) := by decide +kernel
theorem dX1_copyFrom_11 : decode cX1_copyFrom 11 = .ok (.return_, 1) := by decide +kernel
theorem dX1_of_0 : decode cX1_of 0 = .ok (.aload_n 0, 1) := by decide +kernel
theorem dX1_of_1 : decode cX1_of 1 = .ok (.getfield 9, 3) := by decide +kernel
theorem dX1_of_4 : decode cX1_of 4 = .ok (.iload_n 1, 1) := by decide +kernel
theorem dX1_of_5 : decode cX1_of 5 = .ok (.bipush 6, 2) := by decide +kernel
theorem dX1_of_7 : decode cX1_of 7 = .ok (.imul, 1) := by decide +kernel
theorem dX1_of_8 : decode cX1_of 8 = .ok (.iload_n 2, 1) := by decide +kernel
theorem dX1_of_9 : decode cX1_of 9 = .ok (.iadd, 1) := by decide +kernel
theorem dX1_of_10 : decode cX1_of 10 = .ok (.invokestatic 30, 3) := by decide +kernel
theorem dX1_of_13 : decode cX1_of 13 = .ok (.ireturn, 1) := by decide +kernel
theorem dX1_change_0 : decode cX1_change 0 = .ok (.aload_n 0, 1) := by decide +kernel
theorem dX1_change_1 : decode cX1_change 1 = .ok (.getfield 9, 3) := by decide +kernel
theorem dX1_change_4 : decode cX1_change 4 = .ok (.iload_n 1, 1) := by decide +kernel
theorem dX1_change_5 : decode cX1_change 5 = .ok (.bipush 6, 2) := by decide +kernel
theorem dX1_change_7 : decode cX1_change 7 = .ok (.imul, 1) := by decide +kernel
theorem dX1_change_8 : decode cX1_change 8 = .ok (.iload_n 2, 1) := by decide +kernel
theorem dX1_change_9 : decode cX1_change 9 = .ok (.iadd, 1) := by decide +kernel
theorem dX1_change_10 : decode cX1_change 10 = .ok (.iload_n 3, 1) := by decide +kernel
theorem dX1_change_11 : decode cX1_change 11 = .ok (.invokestatic 34, 3) := by decide +kernel
theorem dX1_change_14 : decode cX1_change 14 = .ok (.return_, 1) := by decide +kernel
theorem dX2_init_0 : decode cX2_init 0 = .ok (.aload_n 0, 1) := by decide +kernel
theorem dX2_init_1 : decode cX2_init 1 = .ok (.invokespecial 3, 3) := by decide +kernel
theorem dX2_init_4 : decode cX2_init 4 = .ok (.aload_n 0, 1) := by decide +kernel
theorem dX2_init_5 : decode cX2_init 5 = .ok (.iconst 1, 1) := by decide +kernel
theorem dX2_init_6 : decode cX2_init 6 = .ok (.putfield 9, 3) := by decide +kernel
theorem dX2_init_9 : decode cX2_init 9 = .ok (.return_, 1) := by decide +kernel
theorem dX2_toStart_0 : decode cX2_toStart 0 = .ok (.aload_n 0, 1) := by decide +kernel
theorem dX2_toStart_1 : decode cX2_toStart 1 = .ok (.iconst 0, 1) := by decide +kernel
theorem dX2_toStart_2 : decode cX2_toStart 2 = .ok (.putfield 15, 3) := by decide +kernel
theorem dX2_toStart_5 : decode cX2_toStart 5 = .ok (.aload_n 0, 1) := by decide +kernel
theorem dX2_toStart_6 : decode cX2_toStart 6 = .ok (.iconst 1, 1) := by decide +kernel
theorem dX2_toStart_7 : decode cX2_toStart 7 = .ok (.putfield 9, 3) := by decide +kernel
theorem dX2_toStart_10 : decode cX2_toStart 10 = .ok (.return_, 1) := by decide +kernel
theorem dX2_run_0 : decode cX2_run 0 = .ok (.iload_n 2, 1) := by decide +kernel
theorem dX2_run_1 : decode cX2_run 1 = .ok (.aload_n 1, 1) := by decide +kernel
theorem dX2_run_2 : decode cX2_run 2 = .ok (.getfield 18, 3) := by decide +kernel
theorem dX2_run_5 : decode cX2_run 5 = .ok (.getfield 24, 3) := by decide +kernel
theorem dX2_run_8 : decode cX2_run 8 = .ok (.invokestatic 29, 3) := by decide +kernel
theorem dX2_run_11 : decode cX2_run 11 = .ok (.istore_n 3, 1) := by decide +kernel
theorem dX2_run_12 : decode cX2_run 12 = .ok (.aload_n 0, 1) := by decide +kernel
theorem dX2_run_13 : decode cX2_run 13 = .ok (.getfield 15, 3) := by decide +kernel
theorem dX2_run_16 : decode cX2_run 16 = .ok (.istore 4, 2) := by decide +kernel
theorem dX2_run_18 : decode cX2_run 18 = .ok (.iload 4, 2) := by decide +kernel
theorem dX2_run_20 : decode cX2_run 20 = .ok (.iload_n 3, 1) := by decide +kernel
theorem dX2_run_21 : decode cX2_run 21 = .ok (.if_icmp .ge 51, 3) := by decide +kernel
theorem dX2_run_24 : decode cX2_run 24 = .ok (.aload_n 1, 1) := by decide +kernel
theorem dX2_run_25 : decode cX2_run 25 = .ok (.getfield 35, 3) := by decide +kernel
theorem dX2_run_28 : decode cX2_run 28 = .ok (.aload_n 0, 1) := by decide +kernel
theorem dX2_run_29 : decode cX2_run 29 = .ok (.getfield 9, 3) := by decide +kernel
theorem dX2_run_32 : decode cX2_run 32 = .ok (.aload_n 1, 1) := by decide +kernel
theorem dX2_run_33 : decode cX2_run 33 = .ok (.getfield 18, 3) := by decide +kernel
theorem dX2_run_36 : decode cX2_run 36 = .ok (.iload 4, 2) := by decide +kernel
theorem dX2_run_38 : decode cX2_run 38 = .ok (.invokevirtual 39, 3) := by decide +kernel
theorem dX2_run_41 : decode cX2_run 41 = .ok (.invokevirtual 43, 3) := by decide +kernel
theorem dX2_run_44 : decode cX2_run 44 = .ok (.istore 5, 2) := by decide +kernel
theorem dX2_run_46 : decode cX2_run 46 = .ok (.iload 5, 2) := by decide +kernel
theorem dX2_run_48 : decode cX2_run 48 = .ok (.ifCond .ge 4, 3) := by decide +kernel
theorem dX2_run_51 : decode cX2_run 51 = .ok (.return_, 1) := by decide +kernel
theorem dX2_run_52 : decode cX2_run 52 = .ok (.aload_n 0, 1) := by decide +kernel
theorem dX2_run_53 : decode cX2_run 53 = .ok (.iload 5, 2) := by decide +kernel
theorem dX2_run_55 : decode cX2_run 55 = .ok (.putfield 9, 3) := by decide +kernel
theorem dX2_run_58 : decode cX2_run 58 = .ok (.aload_n 0, 1) := by decide +kernel
theorem dX2_run_59 : decode cX2_run 59 = .ok (.iload 4, 2) := by decide +kernel
theorem dX2_run_61 : decode cX2_run 61 = .ok (.iconst 1, 1) := by decide +kernel
theorem dX2_run_62 : decode cX2_run 62 = .ok (.iadd, 1) := by decide +kernel
theorem dX2_run_63 : decode cX2_run 63 = .ok (.putfield 15, 3) := by decide +kernel
theorem dX2_run_66 : decode cX2_run 66 = .ok (.iinc 4 1, 3) := by decide +kernel
theorem dX2_run_69 : decode cX2_run 69 = .ok (.goto (-51), 3) := by decide +kernel
theorem dX2_run_72 : decode cX2_run 72 = .ok (.return_, 1) := by decide +kernel
theorem dX2_isDone_0 : decode cX2_isDone 0 = .ok (.aload_n 0, 1) := by decide +kernel
theorem dX2_isDone_1 : decode cX2_isDone 1 = .ok (.getfield 15, 3) := by decide +kernel
theorem dX2_isDone_4 : decode cX2_isDone 4 = .ok (.aload_n 1, 1) := by decide +kernel
theorem dX2_isDone_5 : decode cX2_isDone 5 = .ok (.getfield 18, 3) := by decide +kernel
theorem dX2_isDone_8 : decode cX2_isDone 8 = .ok (.getfield 24, 3) := by decide +kernel
theorem dX2_isDone_11 : decode cX2_isDone 11 = .ok (.if_icmp .ne 21, 3) := by decide +kernel
theorem dX2_isDone_14 : decode cX2_isDone 14 = .ok (.aload_n 1, 1) := by decide +kernel
theorem dX2_isDone_15 : decode cX2_isDone 15 = .ok (.getfield 35, 3) := by decide +kernel
theorem dX2_isDone_18 : decode cX2_isDone 18 = .ok (.aload_n 0, 1) := by decide +kernel
theorem dX2_isDone_19 : decode cX2_isDone 19 = .ok (.getfield 9, 3) := by decide +kernel
theorem dX2_isDone_22 : decode cX2_isDone 22 = .ok (.invokevirtual 48, 3) := by decide +kernel
theorem dX2_isDone_25 : decode cX2_isDone 25 = .ok (.ifCond .eq 7, 3) := by decide +kernel
theorem dX2_isDone_28 : decode cX2_isDone 28 = .ok (.iconst 1, 1) := by decide +kernel
theorem dX2_isDone_29 : decode cX2_isDone 29 = .ok (.goto 4, 3) := by decide +kernel
theorem dX2_isDone_32 : decode cX2_isDone 32 = .ok (.iconst 0, 1) := by decide +kernel
theorem dX2_isDone_33 : decode cX2_isDone 33 = .ok (.ireturn, 1) := by decide +kernel
theorem dX3_init_0 : decode cX3_init 0 = .ok (.aload_n 0, 1) := by decide +kernel
theorem dX3_init_1 : decode cX3_init 1 = .ok (.invokespecial 3, 3) := by decide +kernel
theorem dX3_init_4 : decode cX3_init 4 = .ok (.aload_n 0, 1) := by decide +kernel
theorem dX3_init_5 : decode cX3_init 5 = .ok (.sipush 150, 3) := by decide +kernel
theorem dX3_init_8 : decode cX3_init 8 = .ok (.newarray .int, 2) := by decide +kernel
theorem dX3_init_10 : decode cX3_init 10 = .ok (.putfield 9, 3) := by decide +kernel
theorem dX3_init_13 : decode cX3_init 13 = .ok (.aload_n 0, 1) := by decide +kernel
theorem dX3_init_14 : decode cX3_init 14 = .ok (.new 15, 3) := by decide +kernel
theorem dX3_init_17 : decode cX3_init 17 = .ok (.dup, 1) := by decide +kernel
theorem dX3_init_18 : decode cX3_init 18 = .ok (.invokespecial 17, 3) := by decide +kernel
theorem dX3_init_21 : decode cX3_init 21 = .ok (.putfield 18, 3) := by decide +kernel
theorem dX3_init_24 : decode cX3_init 24 = .ok (.return_, 1) := by decide +kernel
theorem dX3_add_0 : decode cX3_add 0 = .ok (.aload_n 0, 1) := by decide +kernel
theorem dX3_add_1 : decode cX3_add 1 = .ok (.getfield 9, 3) := by decide +kernel
theorem dX3_add_4 : decode cX3_add 4 = .ok (.aload_n 0, 1) := by decide +kernel
theorem dX3_add_5 : decode cX3_add 5 = .ok (.getfield 22, 3) := by decide +kernel
theorem dX3_add_8 : decode cX3_add 8 = .ok (.iload_n 1, 1) := by decide +kernel
theorem dX3_add_9 : decode cX3_add 9 = .ok (.invokestatic 26, 3) := by decide +kernel
theorem dX3_add_12 : decode cX3_add 12 = .ok (.aload_n 0, 1) := by decide +kernel
theorem dX3_add_13 : decode cX3_add 13 = .ok (.dup, 1) := by decide +kernel
theorem dX3_add_14 : decode cX3_add 14 = .ok (.getfield 22, 3) := by decide +kernel
theorem dX3_add_17 : decode cX3_add 17 = .ok (.iconst 1, 1) := by decide +kernel
theorem dX3_add_18 : decode cX3_add 18 = .ok (.iadd, 1) := by decide +kernel
theorem dX3_add_19 : decode cX3_add 19 = .ok (.putfield 22, 3) := by decide +kernel
theorem dX3_add_22 : decode cX3_add 22 = .ok (.return_, 1) := by decide +kernel
theorem dX3_read_0 : decode cX3_read 0 = .ok (.aload_n 0, 1) := by decide +kernel
theorem dX3_read_1 : decode cX3_read 1 = .ok (.iconst 0, 1) := by decide +kernel
theorem dX3_read_2 : decode cX3_read 2 = .ok (.putfield 30, 3) := by decide +kernel
theorem dX3_read_5 : decode cX3_read 5 = .ok (.aload_n 0, 1) := by decide +kernel
theorem dX3_read_6 : decode cX3_read 6 = .ok (.invokevirtual 33, 3) := by decide +kernel
theorem dX3_read_9 : decode cX3_read 9 = .ok (.aload_n 0, 1) := by decide +kernel
theorem dX3_read_10 : decode cX3_read 10 = .ok (.invokevirtual 36, 3) := by decide +kernel
theorem dX3_read_13 : decode cX3_read 13 = .ok (.ifCond .ne 11, 3) := by decide +kernel
theorem dX3_read_16 : decode cX3_read 16 = .ok (.bipush (-10), 2) := by decide +kernel
theorem dX3_read_18 : decode cX3_read 18 = .ok (.aload_n 0, 1) := by decide +kernel
theorem dX3_read_19 : decode cX3_read 19 = .ok (.getfield 40, 3) := by decide +kernel
theorem dX3_read_22 : decode cX3_read 22 = .ok (.isub, 1) := by decide +kernel
theorem dX3_read_23 : decode cX3_read 23 = .ok (.ireturn, 1) := by decide +kernel
theorem dX3_read_24 : decode cX3_read 24 = .ok (.iconst 1, 1) := by decide +kernel
theorem dX3_read_25 : decode cX3_read 25 = .ok (.istore_n 1, 1) := by decide +kernel
theorem dX3_read_26 : decode cX3_read 26 = .ok (.aload_n 0, 1) := by decide +kernel
theorem dX3_read_27 : decode cX3_read 27 = .ok (.getfield 40, 3) := by decide +kernel
theorem dX3_read_30 : decode cX3_read 30 = .ok (.aload_n 0, 1) := by decide +kernel
theorem dX3_read_31 : decode cX3_read 31 = .ok (.getfield 22, 3) := by decide +kernel
theorem dX3_read_34 : decode cX3_read 34 = .ok (.if_icmp .ge 31, 3) := by decide +kernel
theorem dX3_read_37 : decode cX3_read 37 = .ok (.iload_n 1, 1) := by decide +kernel
theorem dX3_read_38 : decode cX3_read 38 = .ok (.sipush 150, 3) := by decide +kernel
theorem dX3_read_41 : decode cX3_read 41 = .ok (.if_icmp .ge 24, 3) := by decide +kernel
theorem dX3_read_44 : decode cX3_read 44 = .ok (.aload_n 0, 1) := by decide +kernel
theorem dX3_read_45 : decode cX3_read 45 = .ok (.invokevirtual 43, 3) := by decide +kernel
theorem dX3_read_48 : decode cX3_read 48 = .ok (.ifCond .ne 11, 3) := by decide +kernel
theorem dX3_read_51 : decode cX3_read 51 = .ok (.bipush (-10), 2) := by decide +kernel
theorem dX3_read_53 : decode cX3_read 53 = .ok (.aload_n 0, 1) := by decide +kernel
theorem dX3_read_54 : decode cX3_read 54 = .ok (.getfield 40, 3) := by decide +kernel
theorem dX3_read_57 : decode cX3_read 57 = .ok (.isub, 1) := by decide +kernel
theorem dX3_read_58 : decode cX3_read 58 = .ok (.ireturn, 1) := by decide +kernel
theorem dX3_read_59 : decode cX3_read 59 = .ok (.iinc 1 1, 3) := by decide +kernel
theorem dX3_read_62 : decode cX3_read 62 = .ok (.goto (-36), 3) := by decide +kernel
theorem dX3_read_65 : decode cX3_read 65 = .ok (.iload_n 1, 1) := by decide +kernel
theorem dX3_read_66 : decode cX3_read 66 = .ok (.ireturn, 1) := by decide +kernel
theorem dX3_readStates_0 : decode cX3_readStates 0 = .ok (.aload_n 0, 1) := by decide +kernel
theorem dX3_readStates_1 : decode cX3_readStates 1 = .ok (.ldc 46, 2) := by decide +kernel
theorem dX3_readStates_3 : decode cX3_readStates 3 = .ok (.invokevirtual 48, 3) := by decide +kernel
theorem dX3_readStates_6 : decode cX3_readStates 6 = .ok (.ifCond .ne 5, 3) := by decide +kernel
theorem dX3_readStates_9 : decode cX3_readStates 9 = .ok (.iconst 0, 1) := by decide +kernel
theorem dX3_readStates_10 : decode cX3_readStates 10 = .ok (.ireturn, 1) := by decide +kernel
theorem dX3_readStates_11 : decode cX3_readStates 11 = .ok (.aload_n 0, 1) := by decide +kernel
theorem dX3_readStates_12 : decode cX3_readStates 12 = .ok (.iconst 1, 1) := by decide +kernel
theorem dX3_readStates_13 : decode cX3_readStates 13 = .ok (.bipush 6, 2) := by decide +kernel
theorem dX3_readStates_15 : decode cX3_readStates 15 = .ok (.invokevirtual 52, 3) := by decide +kernel
theorem dX3_readStates_18 : decode cX3_readStates 18 = .ok (.istore_n 1, 1) := by decide +kernel
theorem dX3_readStates_19 : decode cX3_readStates 19 = .ok (.iload_n 1, 1) := by decide +kernel
theorem dX3_readStates_20 : decode cX3_readStates 20 = .ok (.ifCond .ge 5, 3) := by decide +kernel
theorem dX3_readStates_23 : decode cX3_readStates 23 = .ok (.iconst 0, 1) := by decide +kernel
theorem dX3_readStates_24 : decode cX3_readStates 24 = .ok (.ireturn, 1) := by decide +kernel
theorem dX3_readStates_25 : decode cX3_readStates 25 = .ok (.aload_n 0, 1) := by decide +kernel
theorem dX3_readStates_26 : decode cX3_readStates 26 = .ok (.getfield 18, 3) := by decide +kernel
theorem dX3_readStates_29 : decode cX3_readStates 29 = .ok (.iload_n 1, 1) := by decide +kernel
theorem dX3_readStates_30 : decode cX3_readStates 30 = .ok (.invokevirtual 56, 3) := by decide +kernel
theorem dX3_readStates_33 : decode cX3_readStates 33 = .ok (.aload_n 0, 1) := by decide +kernel
theorem dX3_readStates_34 : decode cX3_readStates 34 = .ok (.ldc 60, 2) := by decide +kernel
theorem dX3_readStates_36 : decode cX3_readStates 36 = .ok (.invokevirtual 48, 3) := by decide +kernel
theorem dX3_readStates_39 : decode cX3_readStates 39 = .ok (.ireturn, 1) := by decide +kernel
theorem dX3_readStatement_0 : decode cX3_readStatement 0 = .ok (.iconst 0, 1) := by decide +kernel
theorem dX3_readStatement_1 : decode cX3_readStatement 1 = .ok (.istore_n 1, 1) := by decide +kernel
theorem dX3_readStatement_2 : decode cX3_readStatement 2 = .ok (.aload_n 0, 1) := by decide +kernel
theorem dX3_readStatement_3 : decode cX3_readStatement 3 = .ok (.ldc 62, 2) := by decide +kernel
theorem dX3_readStatement_5 : decode cX3_readStatement 5 = .ok (.invokevirtual 48, 3) := by decide +kernel
theorem dX3_readStatement_8 : decode cX3_readStatement 8 = .ok (.ifCond .eq 11, 3) := by decide +kernel
theorem dX3_readStatement_11 : decode cX3_readStatement 11 = .ok (.aload_n 0, 1) := by decide +kernel
theorem dX3_readStatement_12 : decode cX3_readStatement 12 = .ok (.invokevirtual 64, 3) := by decide +kernel
theorem dX3_readStatement_15 : decode cX3_readStatement 15 = .ok (.istore_n 1, 1) := by decide +kernel
theorem dX3_readStatement_16 : decode cX3_readStatement 16 = .ok (.goto 71, 3) := by decide +kernel
theorem dX3_readStatement_19 : decode cX3_readStatement 19 = .ok (.aload_n 0, 1) := by decide +kernel
theorem dX3_readStatement_20 : decode cX3_readStatement 20 = .ok (.ldc 67, 2) := by decide +kernel
theorem dX3_readStatement_22 : decode cX3_readStatement 22 = .ok (.invokevirtual 48, 3) := by decide +kernel
theorem dX3_readStatement_25 : decode cX3_readStatement 25 = .ok (.ifCond .eq 12, 3) := by decide +kernel
theorem dX3_readStatement_28 : decode cX3_readStatement 28 = .ok (.aload_n 0, 1) := by decide +kernel
theorem dX3_readStatement_29 : decode cX3_readStatement 29 = .ok (.iconst 1, 1) := by decide +kernel
theorem dX3_readStatement_30 : decode cX3_readStatement 30 = .ok (.invokevirtual 69, 3) := by decide +kernel
theorem dX3_readStatement_33 : decode cX3_readStatement 33 = .ok (.istore_n 1, 1) := by decide +kernel
theorem dX3_readStatement_34 : decode cX3_readStatement 34 = .ok (.goto 53, 3) := by decide +kernel
theorem dX3_readStatement_37 : decode cX3_readStatement 37 = .ok (.aload_n 0, 1) := by decide +kernel
theorem dX3_readStatement_38 : decode cX3_readStatement 38 = .ok (.ldc 73, 2) := by decide +kernel
theorem dX3_readStatement_40 : decode cX3_readStatement 40 = .ok (.invokevirtual 48, 3) := by decide +kernel
theorem dX3_readStatement_43 : decode cX3_readStatement 43 = .ok (.ifCond .eq 12, 3) := by decide +kernel
theorem dX3_readStatement_46 : decode cX3_readStatement 46 = .ok (.aload_n 0, 1) := by decide +kernel
theorem dX3_readStatement_47 : decode cX3_readStatement 47 = .ok (.iconst 2, 1) := by decide +kernel
theorem dX3_readStatement_48 : decode cX3_readStatement 48 = .ok (.invokevirtual 69, 3) := by decide +kernel
theorem dX3_readStatement_51 : decode cX3_readStatement 51 = .ok (.istore_n 1, 1) := by decide +kernel
theorem dX3_readStatement_52 : decode cX3_readStatement 52 = .ok (.goto 35, 3) := by decide +kernel
theorem dX3_readStatement_55 : decode cX3_readStatement 55 = .ok (.aload_n 0, 1) := by decide +kernel
theorem dX3_readStatement_56 : decode cX3_readStatement 56 = .ok (.ldc 75, 2) := by decide +kernel
theorem dX3_readStatement_58 : decode cX3_readStatement 58 = .ok (.invokevirtual 48, 3) := by decide +kernel
theorem dX3_readStatement_61 : decode cX3_readStatement 61 = .ok (.ifCond .eq 12, 3) := by decide +kernel
theorem dX3_readStatement_64 : decode cX3_readStatement 64 = .ok (.aload_n 0, 1) := by decide +kernel
theorem dX3_readStatement_65 : decode cX3_readStatement 65 = .ok (.iconst 3, 1) := by decide +kernel
theorem dX3_readStatement_66 : decode cX3_readStatement 66 = .ok (.invokevirtual 69, 3) := by decide +kernel
theorem dX3_readStatement_69 : decode cX3_readStatement 69 = .ok (.istore_n 1, 1) := by decide +kernel
theorem dX3_readStatement_70 : decode cX3_readStatement 70 = .ok (.goto 17, 3) := by decide +kernel
theorem dX3_readStatement_73 : decode cX3_readStatement 73 = .ok (.aload_n 0, 1) := by decide +kernel
theorem dX3_readStatement_74 : decode cX3_readStatement 74 = .ok (.ldc 77, 2) := by decide +kernel
theorem dX3_readStatement_76 : decode cX3_readStatement 76 = .ok (.invokevirtual 48, 3) := by decide +kernel
theorem dX3_readStatement_79 : decode cX3_readStatement 79 = .ok (.ifCond .eq 8, 3) := by decide +kernel
theorem dX3_readStatement_82 : decode cX3_readStatement 82 = .ok (.aload_n 0, 1) := by decide +kernel
theorem dX3_readStatement_83 : decode cX3_readStatement 83 = .ok (.invokevirtual 79, 3) := by decide +kernel
theorem dX3_readStatement_86 : decode cX3_readStatement 86 = .ok (.istore_n 1, 1) := by decide +kernel
theorem dX3_readStatement_87 : decode cX3_readStatement 87 = .ok (.iload_n 1, 1) := by decide +kernel
theorem dX3_readStatement_88 : decode cX3_readStatement 88 = .ok (.ifCond .eq 16, 3) := by decide +kernel
theorem dX3_readStatement_91 : decode cX3_readStatement 91 = .ok (.aload_n 0, 1) := by decide +kernel
theorem dX3_readStatement_92 : decode cX3_readStatement 92 = .ok (.ldc 60, 2) := by decide +kernel
theorem dX3_readStatement_94 : decode cX3_readStatement 94 = .ok (.invokevirtual 48, 3) := by decide +kernel
theorem dX3_readStatement_97 : decode cX3_readStatement 97 = .ok (.ifCond .eq 7, 3) := by decide +kernel
theorem dX3_readStatement_100 : decode cX3_readStatement 100 = .ok (.iconst 1, 1) := by decide +kernel
theorem dX3_readStatement_101 : decode cX3_readStatement 101 = .ok (.goto 4, 3) := by decide +kernel
theorem dX3_readStatement_104 : decode cX3_readStatement 104 = .ok (.iconst 0, 1) := by decide +kernel
theorem dX3_readStatement_105 : decode cX3_readStatement 105 = .ok (.ireturn, 1) := by decide +kernel
theorem dX3_readAccept_0 : decode cX3_readAccept 0 = .ok (.aload_n 0, 1) := by decide +kernel
theorem dX3_readAccept_1 : decode cX3_readAccept 1 = .ok (.iconst 0, 1) := by decide +kernel
theorem dX3_readAccept_2 : decode cX3_readAccept 2 = .ok (.aload_n 0, 1) := by decide +kernel
theorem dX3_readAccept_3 : decode cX3_readAccept 3 = .ok (.getfield 18, 3) := by decide +kernel
theorem dX3_readAccept_6 : decode cX3_readAccept 6 = .ok (.getfield 82, 3) := by decide +kernel
theorem dX3_readAccept_9 : decode cX3_readAccept 9 = .ok (.getfield 86, 3) := by decide +kernel
theorem dX3_readAccept_12 : decode cX3_readAccept 12 = .ok (.iconst 1, 1) := by decide +kernel
theorem dX3_readAccept_13 : decode cX3_readAccept 13 = .ok (.isub, 1) := by decide +kernel
theorem dX3_readAccept_14 : decode cX3_readAccept 14 = .ok (.invokevirtual 52, 3) := by decide +kernel
theorem dX3_readAccept_17 : decode cX3_readAccept 17 = .ok (.istore_n 1, 1) := by decide +kernel
theorem dX3_readAccept_18 : decode cX3_readAccept 18 = .ok (.iload_n 1, 1) := by decide +kernel
theorem dX3_readAccept_19 : decode cX3_readAccept 19 = .ok (.ifCond .ge 5, 3) := by decide +kernel
theorem dX3_readAccept_22 : decode cX3_readAccept 22 = .ok (.iconst 0, 1) := by decide +kernel
theorem dX3_readAccept_23 : decode cX3_readAccept 23 = .ok (.ireturn, 1) := by decide +kernel
theorem dX3_readAccept_24 : decode cX3_readAccept 24 = .ok (.aload_n 0, 1) := by decide +kernel
theorem dX3_readAccept_25 : decode cX3_readAccept 25 = .ok (.getfield 18, 3) := by decide +kernel
theorem dX3_readAccept_28 : decode cX3_readAccept 28 = .ok (.getfield 82, 3) := by decide +kernel
theorem dX3_readAccept_31 : decode cX3_readAccept 31 = .ok (.iload_n 1, 1) := by decide +kernel
theorem dX3_readAccept_32 : decode cX3_readAccept 32 = .ok (.invokevirtual 90, 3) := by decide +kernel
theorem dX3_readAccept_35 : decode cX3_readAccept 35 = .ok (.iconst 1, 1) := by decide +kernel
theorem dX3_readAccept_36 : decode cX3_readAccept 36 = .ok (.ireturn, 1) := by decide +kernel
theorem dX3_readRule_0 : decode cX3_readRule 0 = .ok (.aload_n 0, 1) := by decide +kernel
theorem dX3_readRule_1 : decode cX3_readRule 1 = .ok (.iconst 0, 1) := by decide +kernel
theorem dX3_readRule_2 : decode cX3_readRule 2 = .ok (.aload_n 0, 1) := by decide +kernel
theorem dX3_readRule_3 : decode cX3_readRule 3 = .ok (.getfield 18, 3) := by decide +kernel
theorem dX3_readRule_6 : decode cX3_readRule 6 = .ok (.getfield 82, 3) := by decide +kernel
theorem dX3_readRule_9 : decode cX3_readRule 9 = .ok (.getfield 86, 3) := by decide +kernel
theorem dX3_readRule_12 : decode cX3_readRule 12 = .ok (.iconst 1, 1) := by decide +kernel
theorem dX3_readRule_13 : decode cX3_readRule 13 = .ok (.isub, 1) := by decide +kernel
theorem dX3_readRule_14 : decode cX3_readRule 14 = .ok (.invokevirtual 52, 3) := by decide +kernel
theorem dX3_readRule_17 : decode cX3_readRule 17 = .ok (.istore_n 2, 1) := by decide +kernel
theorem dX3_readRule_18 : decode cX3_readRule 18 = .ok (.iload_n 2, 1) := by decide +kernel
theorem dX3_readRule_19 : decode cX3_readRule 19 = .ok (.ifCond .ge 5, 3) := by decide +kernel
theorem dX3_readRule_22 : decode cX3_readRule 22 = .ok (.iconst 0, 1) := by decide +kernel
theorem dX3_readRule_23 : decode cX3_readRule 23 = .ok (.ireturn, 1) := by decide +kernel
theorem dX3_readRule_24 : decode cX3_readRule 24 = .ok (.aload_n 0, 1) := by decide +kernel
theorem dX3_readRule_25 : decode cX3_readRule 25 = .ok (.invokevirtual 93, 3) := by decide +kernel
theorem dX3_readRule_28 : decode cX3_readRule 28 = .ok (.istore_n 3, 1) := by decide +kernel
theorem dX3_readRule_29 : decode cX3_readRule 29 = .ok (.iload_n 3, 1) := by decide +kernel
theorem dX3_readRule_30 : decode cX3_readRule 30 = .ok (.ifCond .lt 18, 3) := by decide +kernel
theorem dX3_readRule_33 : decode cX3_readRule 33 = .ok (.aload_n 0, 1) := by decide +kernel
theorem dX3_readRule_34 : decode cX3_readRule 34 = .ok (.getfield 18, 3) := by decide +kernel
theorem dX3_readRule_37 : decode cX3_readRule 37 = .ok (.getfield 82, 3) := by decide +kernel
theorem dX3_readRule_40 : decode cX3_readRule 40 = .ok (.iload_n 2, 1) := by decide +kernel
theorem dX3_readRule_41 : decode cX3_readRule 41 = .ok (.iload_n 3, 1) := by decide +kernel
theorem dX3_readRule_42 : decode cX3_readRule 42 = .ok (.invokevirtual 97, 3) := by decide +kernel
theorem dX3_readRule_45 : decode cX3_readRule 45 = .ok (.ifCond .eq 5, 3) := by decide +kernel
theorem dX3_readRule_48 : decode cX3_readRule 48 = .ok (.iconst 0, 1) := by decide +kernel
theorem dX3_readRule_49 : decode cX3_readRule 49 = .ok (.ireturn, 1) := by decide +kernel
theorem dX3_readRule_50 : decode cX3_readRule 50 = .ok (.aload_n 0, 1) := by decide +kernel
theorem dX3_readRule_51 : decode cX3_readRule 51 = .ok (.invokevirtual 33, 3) := by decide +kernel
theorem dX3_readRule_54 : decode cX3_readRule 54 = .ok (.aload_n 0, 1) := by decide +kernel
theorem dX3_readRule_55 : decode cX3_readRule 55 = .ok (.iconst 0, 1) := by decide +kernel
theorem dX3_readRule_56 : decode cX3_readRule 56 = .ok (.aload_n 0, 1) := by decide +kernel
theorem dX3_readRule_57 : decode cX3_readRule 57 = .ok (.getfield 18, 3) := by decide +kernel
theorem dX3_readRule_60 : decode cX3_readRule 60 = .ok (.getfield 82, 3) := by decide +kernel
theorem dX3_readRule_63 : decode cX3_readRule 63 = .ok (.getfield 86, 3) := by decide +kernel
theorem dX3_readRule_66 : decode cX3_readRule 66 = .ok (.iconst 1, 1) := by decide +kernel
theorem dX3_readRule_67 : decode cX3_readRule 67 = .ok (.isub, 1) := by decide +kernel
theorem dX3_readRule_68 : decode cX3_readRule 68 = .ok (.invokevirtual 52, 3) := by decide +kernel
theorem dX3_readRule_71 : decode cX3_readRule 71 = .ok (.istore 4, 2) := by decide +kernel
theorem dX3_readRule_73 : decode cX3_readRule 73 = .ok (.iload 4, 2) := by decide +kernel
theorem dX3_readRule_75 : decode cX3_readRule 75 = .ok (.ifCond .ge 5, 3) := by decide +kernel
theorem dX3_readRule_78 : decode cX3_readRule 78 = .ok (.iconst 0, 1) := by decide +kernel
theorem dX3_readRule_79 : decode cX3_readRule 79 = .ok (.ireturn, 1) := by decide +kernel
theorem dX3_readRule_80 : decode cX3_readRule 80 = .ok (.iload_n 1, 1) := by decide +kernel
theorem dX3_readRule_81 : decode cX3_readRule 81 = .ok (.iconst 1, 1) := by decide +kernel
theorem dX3_readRule_82 : decode cX3_readRule 82 = .ok (.if_icmp .ne 7, 3) := by decide +kernel
theorem dX3_readRule_85 : decode cX3_readRule 85 = .ok (.iconst 0, 1) := by decide +kernel
theorem dX3_readRule_86 : decode cX3_readRule 86 = .ok (.goto 9, 3) := by decide +kernel
theorem dX3_readRule_89 : decode cX3_readRule 89 = .ok (.aload_n 0, 1) := by decide +kernel
theorem dX3_readRule_90 : decode cX3_readRule 90 = .ok (.iconst 0, 1) := by decide +kernel
theorem dX3_readRule_91 : decode cX3_readRule 91 = .ok (.iconst 1, 1) := by decide +kernel
theorem dX3_readRule_92 : decode cX3_readRule 92 = .ok (.invokevirtual 52, 3) := by decide +kernel
theorem dX3_readRule_95 : decode cX3_readRule 95 = .ok (.istore 5, 2) := by decide +kernel
theorem dX3_readRule_97 : decode cX3_readRule 97 = .ok (.iload 5, 2) := by decide +kernel
theorem dX3_readRule_99 : decode cX3_readRule 99 = .ok (.ifCond .ge 5, 3) := by decide +kernel
theorem dX3_readRule_102 : decode cX3_readRule 102 = .ok (.iconst 0, 1) := by decide +kernel
theorem dX3_readRule_103 : decode cX3_readRule 103 = .ok (.ireturn, 1) := by decide +kernel
theorem dX3_readRule_104 : decode cX3_readRule 104 = .ok (.aload_n 0, 1) := by decide +kernel
theorem dX3_readRule_105 : decode cX3_readRule 105 = .ok (.getfield 18, 3) := by decide +kernel
theorem dX3_readRule_108 : decode cX3_readRule 108 = .ok (.getfield 82, 3) := by decide +kernel
theorem dX3_readRule_111 : decode cX3_readRule 111 = .ok (.iload_n 1, 1) := by decide +kernel
theorem dX3_readRule_112 : decode cX3_readRule 112 = .ok (.iload_n 2, 1) := by decide +kernel
theorem dX3_readRule_113 : decode cX3_readRule 113 = .ok (.iload_n 3, 1) := by decide +kernel
theorem dX3_readRule_114 : decode cX3_readRule 114 = .ok (.iload 4, 2) := by decide +kernel
theorem dX3_readRule_116 : decode cX3_readRule 116 = .ok (.iload 5, 2) := by decide +kernel
theorem dX3_readRule_118 : decode cX3_readRule 118 = .ok (.invokevirtual 101, 3) := by decide +kernel
theorem dX3_readRule_121 : decode cX3_readRule 121 = .ok (.iconst 1, 1) := by decide +kernel
theorem dX3_readRule_122 : decode cX3_readRule 122 = .ok (.ireturn, 1) := by decide +kernel
theorem dX3_readCosts_0 : decode cX3_readCosts 0 = .ok (.aload_n 0, 1) := by decide +kernel
theorem dX3_readCosts_1 : decode cX3_readCosts 1 = .ok (.invokevirtual 93, 3) := by decide +kernel
theorem dX3_readCosts_4 : decode cX3_readCosts 4 = .ok (.istore_n 1, 1) := by decide +kernel
theorem dX3_readCosts_5 : decode cX3_readCosts 5 = .ok (.iload_n 1, 1) := by decide +kernel
theorem dX3_readCosts_6 : decode cX3_readCosts 6 = .ok (.ifCond .ge 5, 3) := by decide +kernel
theorem dX3_readCosts_9 : decode cX3_readCosts 9 = .ok (.iconst 0, 1) := by decide +kernel
theorem dX3_readCosts_10 : decode cX3_readCosts 10 = .ok (.ireturn, 1) := by decide +kernel
theorem dX3_readCosts_11 : decode cX3_readCosts 11 = .ok (.aload_n 0, 1) := by decide +kernel
theorem dX3_readCosts_12 : decode cX3_readCosts 12 = .ok (.invokevirtual 33, 3) := by decide +kernel
theorem dX3_readCosts_15 : decode cX3_readCosts 15 = .ok (.iconst 3, 1) := by decide +kernel
theorem dX3_readCosts_16 : decode cX3_readCosts 16 = .ok (.istore_n 2, 1) := by decide +kernel
theorem dX3_readCosts_17 : decode cX3_readCosts 17 = .ok (.iload_n 2, 1) := by decide +kernel
theorem dX3_readCosts_18 : decode cX3_readCosts 18 = .ok (.iconst 1, 1) := by decide +kernel
theorem dX3_readCosts_19 : decode cX3_readCosts 19 = .ok (.if_icmp .lt 36, 3) := by decide +kernel
theorem dX3_readCosts_22 : decode cX3_readCosts 22 = .ok (.aload_n 0, 1) := by decide +kernel
theorem dX3_readCosts_23 : decode cX3_readCosts 23 = .ok (.iconst 1, 1) := by decide +kernel
theorem dX3_readCosts_24 : decode cX3_readCosts 24 = .ok (.bipush 9, 2) := by decide +kernel
theorem dX3_readCosts_26 : decode cX3_readCosts 26 = .ok (.invokevirtual 52, 3) := by decide +kernel
theorem dX3_readCosts_29 : decode cX3_readCosts 29 = .ok (.istore_n 3, 1) := by decide +kernel
theorem dX3_readCosts_30 : decode cX3_readCosts 30 = .ok (.iload_n 3, 1) := by decide +kernel
theorem dX3_readCosts_31 : decode cX3_readCosts 31 = .ok (.ifCond .ge 5, 3) := by decide +kernel
theorem dX3_readCosts_34 : decode cX3_readCosts 34 = .ok (.iconst 0, 1) := by decide +kernel
theorem dX3_readCosts_35 : decode cX3_readCosts 35 = .ok (.ireturn, 1) := by decide +kernel
theorem dX3_readCosts_36 : decode cX3_readCosts 36 = .ok (.aload_n 0, 1) := by decide +kernel
theorem dX3_readCosts_37 : decode cX3_readCosts 37 = .ok (.getfield 18, 3) := by decide +kernel
theorem dX3_readCosts_40 : decode cX3_readCosts 40 = .ok (.getfield 105, 3) := by decide +kernel
theorem dX3_readCosts_43 : decode cX3_readCosts 43 = .ok (.iload_n 2, 1) := by decide +kernel
theorem dX3_readCosts_44 : decode cX3_readCosts 44 = .ok (.iload_n 1, 1) := by decide +kernel
theorem dX3_readCosts_45 : decode cX3_readCosts 45 = .ok (.iload_n 3, 1) := by decide +kernel
theorem dX3_readCosts_46 : decode cX3_readCosts 46 = .ok (.invokevirtual 109, 3) := by decide +kernel
theorem dX3_readCosts_49 : decode cX3_readCosts 49 = .ok (.iinc 2 (-1), 3) := by decide +kernel
theorem dX3_readCosts_52 : decode cX3_readCosts 52 = .ok (.goto (-35), 3) := by decide +kernel
theorem dX3_readCosts_55 : decode cX3_readCosts 55 = .ok (.iconst 1, 1) := by decide +kernel
theorem dX3_readCosts_56 : decode cX3_readCosts 56 = .ok (.ireturn, 1) := by decide +kernel
theorem dX3_takeWord_0 : decode cX3_takeWord 0 = .ok (.aload_n 0, 1) := by decide +kernel
theorem dX3_takeWord_1 : decode cX3_takeWord 1 = .ok (.getfield 30, 3) := by decide +kernel
theorem dX3_takeWord_4 : decode cX3_takeWord 4 = .ok (.aload_n 0, 1) := by decide +kernel
theorem dX3_takeWord_5 : decode cX3_takeWord 5 = .ok (.getfield 40, 3) := by decide +kernel
theorem dX3_takeWord_8 : decode cX3_takeWord 8 = .ok (.isub, 1) := by decide +kernel
theorem dX3_takeWord_9 : decode cX3_takeWord 9 = .ok (.aload_n 1, 1) := by decide +kernel
theorem dX3_takeWord_10 : decode cX3_takeWord 10 = .ok (.invokevirtual 115, 3) := by decide +kernel
theorem dX3_takeWord_13 : decode cX3_takeWord 13 = .ok (.if_icmp .eq 5, 3) := by decide +kernel
theorem dX3_takeWord_16 : decode cX3_takeWord 16 = .ok (.iconst 0, 1) := by decide +kernel
theorem dX3_takeWord_17 : decode cX3_takeWord 17 = .ok (.ireturn, 1) := by decide +kernel
theorem dX3_takeWord_18 : decode cX3_takeWord 18 = .ok (.iconst 0, 1) := by decide +kernel
theorem dX3_takeWord_19 : decode cX3_takeWord 19 = .ok (.istore_n 2, 1) := by decide +kernel
theorem dX3_takeWord_20 : decode cX3_takeWord 20 = .ok (.iload_n 2, 1) := by decide +kernel
theorem dX3_takeWord_21 : decode cX3_takeWord 21 = .ok (.aload_n 1, 1) := by decide +kernel
theorem dX3_takeWord_22 : decode cX3_takeWord 22 = .ok (.invokevirtual 115, 3) := by decide +kernel
theorem dX3_takeWord_25 : decode cX3_takeWord 25 = .ok (.if_icmp .ge 32, 3) := by decide +kernel
theorem dX3_takeWord_28 : decode cX3_takeWord 28 = .ok (.aload_n 0, 1) := by decide +kernel
theorem dX3_takeWord_29 : decode cX3_takeWord 29 = .ok (.getfield 9, 3) := by decide +kernel
theorem dX3_takeWord_32 : decode cX3_takeWord 32 = .ok (.aload_n 0, 1) := by decide +kernel
theorem dX3_takeWord_33 : decode cX3_takeWord 33 = .ok (.getfield 40, 3) := by decide +kernel
theorem dX3_takeWord_36 : decode cX3_takeWord 36 = .ok (.iload_n 2, 1) := by decide +kernel
theorem dX3_takeWord_37 : decode cX3_takeWord 37 = .ok (.iadd, 1) := by decide +kernel
theorem dX3_takeWord_38 : decode cX3_takeWord 38 = .ok (.invokestatic 119, 3) := by decide +kernel
theorem dX3_takeWord_41 : decode cX3_takeWord 41 = .ok (.aload_n 1, 1) := by decide +kernel
theorem dX3_takeWord_42 : decode cX3_takeWord 42 = .ok (.iload_n 2, 1) := by decide +kernel
theorem dX3_takeWord_43 : decode cX3_takeWord 43 = .ok (.invokevirtual 123, 3) := by decide +kernel
theorem dX3_takeWord_46 : decode cX3_takeWord 46 = .ok (.if_icmp .eq 5, 3) := by decide +kernel
theorem dX3_takeWord_49 : decode cX3_takeWord 49 = .ok (.iconst 0, 1) := by decide +kernel
theorem dX3_takeWord_50 : decode cX3_takeWord 50 = .ok (.ireturn, 1) := by decide +kernel
theorem dX3_takeWord_51 : decode cX3_takeWord 51 = .ok (.iinc 2 1, 3) := by decide +kernel
theorem dX3_takeWord_54 : decode cX3_takeWord 54 = .ok (.goto (-34), 3) := by decide +kernel
theorem dX3_takeWord_57 : decode cX3_takeWord 57 = .ok (.aload_n 0, 1) := by decide +kernel
theorem dX3_takeWord_58 : decode cX3_takeWord 58 = .ok (.invokevirtual 33, 3) := by decide +kernel
theorem dX3_takeWord_61 : decode cX3_takeWord 61 = .ok (.iconst 1, 1) := by decide +kernel
theorem dX3_takeWord_62 : decode cX3_takeWord 62 = .ok (.ireturn, 1) := by decide +kernel
theorem dX3_takeDigit_0 : decode cX3_takeDigit 0 = .ok (.aload_n 0, 1) := by decide +kernel
theorem dX3_takeDigit_1 : decode cX3_takeDigit 1 = .ok (.getfield 30, 3) := by decide +kernel
theorem dX3_takeDigit_4 : decode cX3_takeDigit 4 = .ok (.aload_n 0, 1) := by decide +kernel
theorem dX3_takeDigit_5 : decode cX3_takeDigit 5 = .ok (.getfield 40, 3) := by decide +kernel
theorem dX3_takeDigit_8 : decode cX3_takeDigit 8 = .ok (.isub, 1) := by decide +kernel
theorem dX3_takeDigit_9 : decode cX3_takeDigit 9 = .ok (.iconst 1, 1) := by decide +kernel
theorem dX3_takeDigit_10 : decode cX3_takeDigit 10 = .ok (.if_icmp .ne 20, 3) := by decide +kernel
theorem dX3_takeDigit_13 : decode cX3_takeDigit 13 = .ok (.aload_n 0, 1) := by decide +kernel
theorem dX3_takeDigit_14 : decode cX3_takeDigit 14 = .ok (.getfield 9, 3) := by decide +kernel
theorem dX3_takeDigit_17 : decode cX3_takeDigit 17 = .ok (.aload_n 0, 1) := by decide +kernel
theorem dX3_takeDigit_18 : decode cX3_takeDigit 18 = .ok (.getfield 40, 3) := by decide +kernel
theorem dX3_takeDigit_21 : decode cX3_takeDigit 21 = .ok (.invokestatic 119, 3) := by decide +kernel
theorem dX3_takeDigit_24 : decode cX3_takeDigit 24 = .ok (.bipush 48, 2) := by decide +kernel
theorem dX3_takeDigit_26 : decode cX3_takeDigit 26 = .ok (.isub, 1) := by decide +kernel
theorem dX3_takeDigit_27 : decode cX3_takeDigit 27 = .ok (.goto 4, 3) := by decide +kernel
theorem dX3_takeDigit_30 : decode cX3_takeDigit 30 = .ok (.iconst (-1), 1) := by decide +kernel
theorem dX3_takeDigit_31 : decode cX3_takeDigit 31 = .ok (.istore_n 3, 1) := by decide +kernel
theorem dX3_takeDigit_32 : decode cX3_takeDigit 32 = .ok (.iload_n 3, 1) := by decide +kernel
theorem dX3_takeDigit_33 : decode cX3_takeDigit 33 = .ok (.iload_n 1, 1) := by decide +kernel
theorem dX3_takeDigit_34 : decode cX3_takeDigit 34 = .ok (.if_icmp .lt 8, 3) := by decide +kernel
theorem dX3_takeDigit_37 : decode cX3_takeDigit 37 = .ok (.iload_n 3, 1) := by decide +kernel
theorem dX3_takeDigit_38 : decode cX3_takeDigit 38 = .ok (.iload_n 2, 1) := by decide +kernel
theorem dX3_takeDigit_39 : decode cX3_takeDigit 39 = .ok (.if_icmp .le 5, 3) := by decide +kernel
theorem dX3_takeDigit_42 : decode cX3_takeDigit 42 = .ok (.iconst (-1), 1) := by decide +kernel
theorem dX3_takeDigit_43 : decode cX3_takeDigit 43 = .ok (.ireturn, 1) := by decide +kernel
theorem dX3_takeDigit_44 : decode cX3_takeDigit 44 = .ok (.aload_n 0, 1) := by decide +kernel
theorem dX3_takeDigit_45 : decode cX3_takeDigit 45 = .ok (.invokevirtual 33, 3) := by decide +kernel
theorem dX3_takeDigit_48 : decode cX3_takeDigit 48 = .ok (.iload_n 3, 1) := by decide +kernel
theorem dX3_takeDigit_49 : decode cX3_takeDigit 49 = .ok (.ireturn, 1) := by decide +kernel
theorem dX3_kindHere_0 : decode cX3_kindHere 0 = .ok (.aload_n 0, 1) := by decide +kernel
theorem dX3_kindHere_1 : decode cX3_kindHere 1 = .ok (.getfield 30, 3) := by decide +kernel
theorem dX3_kindHere_4 : decode cX3_kindHere 4 = .ok (.aload_n 0, 1) := by decide +kernel
theorem dX3_kindHere_5 : decode cX3_kindHere 5 = .ok (.getfield 40, 3) := by decide +kernel
theorem dX3_kindHere_8 : decode cX3_kindHere 8 = .ok (.isub, 1) := by decide +kernel
theorem dX3_kindHere_9 : decode cX3_kindHere 9 = .ok (.iconst 1, 1) := by decide +kernel
theorem dX3_kindHere_10 : decode cX3_kindHere 10 = .ok (.if_icmp .ne 20, 3) := by decide +kernel
theorem dX3_kindHere_13 : decode cX3_kindHere 13 = .ok (.aload_n 0, 1) := by decide +kernel
theorem dX3_kindHere_14 : decode cX3_kindHere 14 = .ok (.getfield 9, 3) := by decide +kernel
theorem dX3_kindHere_17 : decode cX3_kindHere 17 = .ok (.aload_n 0, 1) := by decide +kernel
theorem dX3_kindHere_18 : decode cX3_kindHere 18 = .ok (.getfield 40, 3) := by decide +kernel
theorem dX3_kindHere_21 : decode cX3_kindHere 21 = .ok (.invokestatic 119, 3) := by decide +kernel
theorem dX3_kindHere_24 : decode cX3_kindHere 24 = .ok (.bipush 97, 2) := by decide +kernel
theorem dX3_kindHere_26 : decode cX3_kindHere 26 = .ok (.isub, 1) := by decide +kernel
theorem dX3_kindHere_27 : decode cX3_kindHere 27 = .ok (.goto 4, 3) := by decide +kernel
theorem dX3_kindHere_30 : decode cX3_kindHere 30 = .ok (.iconst (-1), 1) := by decide +kernel
theorem dX3_kindHere_31 : decode cX3_kindHere 31 = .ok (.istore_n 1, 1) := by decide +kernel
theorem dX3_kindHere_32 : decode cX3_kindHere 32 = .ok (.iload_n 1, 1) := by decide +kernel
theorem dX3_kindHere_33 : decode cX3_kindHere 33 = .ok (.invokestatic 127, 3) := by decide +kernel
theorem dX3_kindHere_36 : decode cX3_kindHere 36 = .ok (.ifCond .eq 7, 3) := by decide +kernel
theorem dX3_kindHere_39 : decode cX3_kindHere 39 = .ok (.iload_n 1, 1) := by decide +kernel
theorem dX3_kindHere_40 : decode cX3_kindHere 40 = .ok (.goto 4, 3) := by decide +kernel
theorem dX3_kindHere_43 : decode cX3_kindHere 43 = .ok (.iconst (-1), 1) := by decide +kernel
theorem dX3_kindHere_44 : decode cX3_kindHere 44 = .ok (.ireturn, 1) := by decide +kernel
theorem dX3_nextLexeme_0 : decode cX3_nextLexeme 0 = .ok (.aload_n 0, 1) := by decide +kernel
theorem dX3_nextLexeme_1 : decode cX3_nextLexeme 1 = .ok (.aload_n 0, 1) := by decide +kernel
theorem dX3_nextLexeme_2 : decode cX3_nextLexeme 2 = .ok (.getfield 30, 3) := by decide +kernel
theorem dX3_nextLexeme_5 : decode cX3_nextLexeme 5 = .ok (.putfield 40, 3) := by decide +kernel
theorem dX3_nextLexeme_8 : decode cX3_nextLexeme 8 = .ok (.aload_n 0, 1) := by decide +kernel
theorem dX3_nextLexeme_9 : decode cX3_nextLexeme 9 = .ok (.getfield 40, 3) := by decide +kernel
theorem dX3_nextLexeme_12 : decode cX3_nextLexeme 12 = .ok (.aload_n 0, 1) := by decide +kernel
theorem dX3_nextLexeme_13 : decode cX3_nextLexeme 13 = .ok (.getfield 22, 3) := by decide +kernel
theorem dX3_nextLexeme_16 : decode cX3_nextLexeme 16 = .ok (.if_icmp .ge 32, 3) := by decide +kernel
theorem dX3_nextLexeme_19 : decode cX3_nextLexeme 19 = .ok (.aload_n 0, 1) := by decide +kernel
theorem dX3_nextLexeme_20 : decode cX3_nextLexeme 20 = .ok (.getfield 9, 3) := by decide +kernel
theorem dX3_nextLexeme_23 : decode cX3_nextLexeme 23 = .ok (.aload_n 0, 1) := by decide +kernel
theorem dX3_nextLexeme_24 : decode cX3_nextLexeme 24 = .ok (.getfield 40, 3) := by decide +kernel
theorem dX3_nextLexeme_27 : decode cX3_nextLexeme 27 = .ok (.invokestatic 119, 3) := by decide +kernel
theorem dX3_nextLexeme_30 : decode cX3_nextLexeme 30 = .ok (.bipush 32, 2) := by decide +kernel
theorem dX3_nextLexeme_32 : decode cX3_nextLexeme 32 = .ok (.if_icmp .ne 16, 3) := by decide +kernel
theorem dX3_nextLexeme_35 : decode cX3_nextLexeme 35 = .ok (.aload_n 0, 1) := by decide +kernel
theorem dX3_nextLexeme_36 : decode cX3_nextLexeme 36 = .ok (.dup, 1) := by decide +kernel
theorem dX3_nextLexeme_37 : decode cX3_nextLexeme 37 = .ok (.getfield 40, 3) := by decide +kernel
theorem dX3_nextLexeme_40 : decode cX3_nextLexeme 40 = .ok (.iconst 1, 1) := by decide +kernel
theorem dX3_nextLexeme_41 : decode cX3_nextLexeme 41 = .ok (.iadd, 1) := by decide +kernel
theorem dX3_nextLexeme_42 : decode cX3_nextLexeme 42 = .ok (.putfield 40, 3) := by decide +kernel
theorem dX3_nextLexeme_45 : decode cX3_nextLexeme 45 = .ok (.goto (-37), 3) := by decide +kernel
theorem dX3_nextLexeme_48 : decode cX3_nextLexeme 48 = .ok (.aload_n 0, 1) := by decide +kernel
theorem dX3_nextLexeme_49 : decode cX3_nextLexeme 49 = .ok (.aload_n 0, 1) := by decide +kernel
theorem dX3_nextLexeme_50 : decode cX3_nextLexeme 50 = .ok (.getfield 40, 3) := by decide +kernel
theorem dX3_nextLexeme_53 : decode cX3_nextLexeme 53 = .ok (.putfield 30, 3) := by decide +kernel
theorem dX3_nextLexeme_56 : decode cX3_nextLexeme 56 = .ok (.aload_n 0, 1) := by decide +kernel
theorem dX3_nextLexeme_57 : decode cX3_nextLexeme 57 = .ok (.getfield 30, 3) := by decide +kernel
theorem dX3_nextLexeme_60 : decode cX3_nextLexeme 60 = .ok (.aload_n 0, 1) := by decide +kernel
theorem dX3_nextLexeme_61 : decode cX3_nextLexeme 61 = .ok (.getfield 22, 3) := by decide +kernel
theorem dX3_nextLexeme_64 : decode cX3_nextLexeme 64 = .ok (.if_icmp .ge 33, 3) := by decide +kernel
theorem dX3_nextLexeme_67 : decode cX3_nextLexeme 67 = .ok (.aload_n 0, 1) := by decide +kernel
theorem dX3_nextLexeme_68 : decode cX3_nextLexeme 68 = .ok (.getfield 9, 3) := by decide +kernel
theorem dX3_nextLexeme_71 : decode cX3_nextLexeme 71 = .ok (.aload_n 0, 1) := by decide +kernel
theorem dX3_nextLexeme_72 : decode cX3_nextLexeme 72 = .ok (.getfield 30, 3) := by decide +kernel
theorem dX3_nextLexeme_75 : decode cX3_nextLexeme 75 = .ok (.invokestatic 119, 3) := by decide +kernel
theorem dX3_nextLexeme_78 : decode cX3_nextLexeme 78 = .ok (.invokestatic 130, 3) := by decide +kernel
theorem dX3_nextLexeme_81 : decode cX3_nextLexeme 81 = .ok (.ifCond .eq 16, 3) := by decide +kernel
theorem dX3_nextLexeme_84 : decode cX3_nextLexeme 84 = .ok (.aload_n 0, 1) := by decide +kernel
theorem dX3_nextLexeme_85 : decode cX3_nextLexeme 85 = .ok (.dup, 1) := by decide +kernel
theorem dX3_nextLexeme_86 : decode cX3_nextLexeme 86 = .ok (.getfield 30, 3) := by decide +kernel
theorem dX3_nextLexeme_89 : decode cX3_nextLexeme 89 = .ok (.iconst 1, 1) := by decide +kernel
theorem dX3_nextLexeme_90 : decode cX3_nextLexeme 90 = .ok (.iadd, 1) := by decide +kernel
theorem dX3_nextLexeme_91 : decode cX3_nextLexeme 91 = .ok (.putfield 30, 3) := by decide +kernel
theorem dX3_nextLexeme_94 : decode cX3_nextLexeme 94 = .ok (.goto (-38), 3) := by decide +kernel
theorem dX3_nextLexeme_97 : decode cX3_nextLexeme 97 = .ok (.aload_n 0, 1) := by decide +kernel
theorem dX3_nextLexeme_98 : decode cX3_nextLexeme 98 = .ok (.getfield 30, 3) := by decide +kernel
theorem dX3_nextLexeme_101 : decode cX3_nextLexeme 101 = .ok (.aload_n 0, 1) := by decide +kernel
theorem dX3_nextLexeme_102 : decode cX3_nextLexeme 102 = .ok (.getfield 40, 3) := by decide +kernel
theorem dX3_nextLexeme_105 : decode cX3_nextLexeme 105 = .ok (.if_icmp .ne 24, 3) := by decide +kernel
theorem dX3_nextLexeme_108 : decode cX3_nextLexeme 108 = .ok (.aload_n 0, 1) := by decide +kernel
theorem dX3_nextLexeme_109 : decode cX3_nextLexeme 109 = .ok (.getfield 30, 3) := by decide +kernel
theorem dX3_nextLexeme_112 : decode cX3_nextLexeme 112 = .ok (.aload_n 0, 1) := by decide +kernel
theorem dX3_nextLexeme_113 : decode cX3_nextLexeme 113 = .ok (.getfield 22, 3) := by decide +kernel
theorem dX3_nextLexeme_116 : decode cX3_nextLexeme 116 = .ok (.if_icmp .ge 13, 3) := by decide +kernel
theorem dX3_nextLexeme_119 : decode cX3_nextLexeme 119 = .ok (.aload_n 0, 1) := by decide +kernel
theorem dX3_nextLexeme_120 : decode cX3_nextLexeme 120 = .ok (.dup, 1) := by decide +kernel
theorem dX3_nextLexeme_121 : decode cX3_nextLexeme 121 = .ok (.getfield 30, 3) := by decide +kernel
theorem dX3_nextLexeme_124 : decode cX3_nextLexeme 124 = .ok (.iconst 1, 1) := by decide +kernel
theorem dX3_nextLexeme_125 : decode cX3_nextLexeme 125 = .ok (.iadd, 1) := by decide +kernel
theorem dX3_nextLexeme_126 : decode cX3_nextLexeme 126 = .ok (.putfield 30, 3) := by decide +kernel
theorem dX3_nextLexeme_129 : decode cX3_nextLexeme 129 = .ok (.return_, 1) := by decide +kernel
theorem dX3_isLetter_0 : decode cX3_isLetter 0 = .ok (.iload_n 0, 1) := by decide +kernel
theorem dX3_isLetter_1 : decode cX3_isLetter 1 = .ok (.bipush 97, 2) := by decide +kernel
theorem dX3_isLetter_3 : decode cX3_isLetter 3 = .ok (.if_icmp .lt 13, 3) := by decide +kernel
theorem dX3_isLetter_6 : decode cX3_isLetter 6 = .ok (.iload_n 0, 1) := by decide +kernel
theorem dX3_isLetter_7 : decode cX3_isLetter 7 = .ok (.bipush 122, 2) := by decide +kernel
theorem dX3_isLetter_9 : decode cX3_isLetter 9 = .ok (.if_icmp .gt 7, 3) := by decide +kernel
theorem dX3_isLetter_12 : decode cX3_isLetter 12 = .ok (.iconst 1, 1) := by decide +kernel
theorem dX3_isLetter_13 : decode cX3_isLetter 13 = .ok (.goto 4, 3) := by decide +kernel
theorem dX3_isLetter_16 : decode cX3_isLetter 16 = .ok (.iconst 0, 1) := by decide +kernel
theorem dX3_isLetter_17 : decode cX3_isLetter 17 = .ok (.ireturn, 1) := by decide +kernel
theorem dX4_init_0 : decode cX4_init 0 = .ok (.aload_n 0, 1) := by decide +kernel
theorem dX4_init_1 : decode cX4_init 1 = .ok (.invokespecial 3, 3) := by decide +kernel
theorem dX4_init_4 : decode cX4_init 4 = .ok (.aload_n 0, 1) := by decide +kernel
theorem dX4_init_5 : decode cX4_init 5 = .ok (.bipush 8, 2) := by decide +kernel
theorem dX4_init_7 : decode cX4_init 7 = .ok (.anewarray 9, 3) := by decide +kernel
theorem dX4_init_10 : decode cX4_init 10 = .ok (.putfield 11, 3) := by decide +kernel
theorem dX4_init_13 : decode cX4_init 13 = .ok (.iconst 0, 1) := by decide +kernel
theorem dX4_init_14 : decode cX4_init 14 = .ok (.istore_n 1, 1) := by decide +kernel
theorem dX4_init_15 : decode cX4_init 15 = .ok (.iload_n 1, 1) := by decide +kernel
theorem dX4_init_16 : decode cX4_init 16 = .ok (.aload_n 0, 1) := by decide +kernel
theorem dX4_init_17 : decode cX4_init 17 = .ok (.getfield 11, 3) := by decide +kernel
theorem dX4_init_20 : decode cX4_init 20 = .ok (.arraylength, 1) := by decide +kernel
theorem dX4_init_21 : decode cX4_init 21 = .ok (.if_icmp .ge 22, 3) := by decide +kernel
theorem dX4_init_24 : decode cX4_init 24 = .ok (.aload_n 0, 1) := by decide +kernel
theorem dX4_init_25 : decode cX4_init 25 = .ok (.getfield 11, 3) := by decide +kernel
theorem dX4_init_28 : decode cX4_init 28 = .ok (.iload_n 1, 1) := by decide +kernel
theorem dX4_init_29 : decode cX4_init 29 = .ok (.new 9, 3) := by decide +kernel
theorem dX4_init_32 : decode cX4_init 32 = .ok (.dup, 1) := by decide +kernel
theorem dX4_init_33 : decode cX4_init 33 = .ok (.invokespecial 17, 3) := by decide +kernel
theorem dX4_init_36 : decode cX4_init 36 = .ok (.aastore, 1) := by decide +kernel
theorem dX4_init_37 : decode cX4_init 37 = .ok (.iinc 1 1, 3) := by decide +kernel
theorem dX4_init_40 : decode cX4_init 40 = .ok (.goto (-25), 3) := by decide +kernel
theorem dX4_init_43 : decode cX4_init 43 = .ok (.return_, 1) := by decide +kernel
theorem dX4_remember_0 : decode cX4_remember 0 = .ok (.aload_n 0, 1) := by decide +kernel
theorem dX4_remember_1 : decode cX4_remember 1 = .ok (.aload_n 0, 1) := by decide +kernel
theorem dX4_remember_2 : decode cX4_remember 2 = .ok (.getfield 18, 3) := by decide +kernel
theorem dX4_remember_5 : decode cX4_remember 5 = .ok (.invokevirtual 22, 3) := by decide +kernel
theorem dX4_remember_8 : decode cX4_remember 8 = .ok (.astore_n 2, 1) := by decide +kernel
theorem dX4_remember_9 : decode cX4_remember 9 = .ok (.aload_n 2, 1) := by decide +kernel
theorem dX4_remember_10 : decode cX4_remember 10 = .ok (.ifnull 8, 3) := by decide +kernel
theorem dX4_remember_13 : decode cX4_remember 13 = .ok (.aload_n 2, 1) := by decide +kernel
theorem dX4_remember_14 : decode cX4_remember 14 = .ok (.aload_n 1, 1) := by decide +kernel
theorem dX4_remember_15 : decode cX4_remember 15 = .ok (.invokevirtual 26, 3) := by decide +kernel
theorem dX4_remember_18 : decode cX4_remember 18 = .ok (.aload_n 0, 1) := by decide +kernel
theorem dX4_remember_19 : decode cX4_remember 19 = .ok (.aload_n 0, 1) := by decide +kernel
theorem dX4_remember_20 : decode cX4_remember 20 = .ok (.getfield 18, 3) := by decide +kernel
theorem dX4_remember_23 : decode cX4_remember 23 = .ok (.iconst 1, 1) := by decide +kernel
theorem dX4_remember_24 : decode cX4_remember 24 = .ok (.iadd, 1) := by decide +kernel
theorem dX4_remember_25 : decode cX4_remember 25 = .ok (.bipush 8, 2) := by decide +kernel
theorem dX4_remember_27 : decode cX4_remember 27 = .ok (.irem, 1) := by decide +kernel
theorem dX4_remember_28 : decode cX4_remember 28 = .ok (.putfield 18, 3) := by decide +kernel
theorem dX4_remember_31 : decode cX4_remember 31 = .ok (.aload_n 0, 1) := by decide +kernel
theorem dX4_remember_32 : decode cX4_remember 32 = .ok (.aload_n 0, 1) := by decide +kernel
theorem dX4_remember_33 : decode cX4_remember 33 = .ok (.getfield 30, 3) := by decide +kernel
theorem dX4_remember_36 : decode cX4_remember 36 = .ok (.iconst 1, 1) := by decide +kernel
theorem dX4_remember_37 : decode cX4_remember 37 = .ok (.iadd, 1) := by decide +kernel
theorem dX4_remember_38 : decode cX4_remember 38 = .ok (.bipush 8, 2) := by decide +kernel
theorem dX4_remember_40 : decode cX4_remember 40 = .ok (.invokestatic 33, 3) := by decide +kernel
theorem dX4_remember_43 : decode cX4_remember 43 = .ok (.putfield 30, 3) := by decide +kernel
theorem dX4_remember_46 : decode cX4_remember 46 = .ok (.return_, 1) := by decide +kernel
theorem dX4_recall_0 : decode cX4_recall 0 = .ok (.aload_n 0, 1) := by decide +kernel
theorem dX4_recall_1 : decode cX4_recall 1 = .ok (.aload_n 0, 1) := by decide +kernel
theorem dX4_recall_2 : decode cX4_recall 2 = .ok (.getfield 18, 3) := by decide +kernel
theorem dX4_recall_5 : decode cX4_recall 5 = .ok (.bipush 8, 2) := by decide +kernel
theorem dX4_recall_7 : decode cX4_recall 7 = .ok (.iadd, 1) := by decide +kernel
theorem dX4_recall_8 : decode cX4_recall 8 = .ok (.iconst 1, 1) := by decide +kernel
theorem dX4_recall_9 : decode cX4_recall 9 = .ok (.isub, 1) := by decide +kernel
theorem dX4_recall_10 : decode cX4_recall 10 = .ok (.bipush 8, 2) := by decide +kernel
theorem dX4_recall_12 : decode cX4_recall 12 = .ok (.irem, 1) := by decide +kernel
theorem dX4_recall_13 : decode cX4_recall 13 = .ok (.putfield 18, 3) := by decide +kernel
theorem dX4_recall_16 : decode cX4_recall 16 = .ok (.aload_n 0, 1) := by decide +kernel
theorem dX4_recall_17 : decode cX4_recall 17 = .ok (.aload_n 0, 1) := by decide +kernel
theorem dX4_recall_18 : decode cX4_recall 18 = .ok (.getfield 18, 3) := by decide +kernel
theorem dX4_recall_21 : decode cX4_recall 21 = .ok (.invokevirtual 22, 3) := by decide +kernel
theorem dX4_recall_24 : decode cX4_recall 24 = .ok (.astore_n 2, 1) := by decide +kernel
theorem dX4_recall_25 : decode cX4_recall 25 = .ok (.aload_n 2, 1) := by decide +kernel
theorem dX4_recall_26 : decode cX4_recall 26 = .ok (.ifnull 8, 3) := by decide +kernel
theorem dX4_recall_29 : decode cX4_recall 29 = .ok (.aload_n 1, 1) := by decide +kernel
theorem dX4_recall_30 : decode cX4_recall 30 = .ok (.aload_n 2, 1) := by decide +kernel
theorem dX4_recall_31 : decode cX4_recall 31 = .ok (.invokevirtual 26, 3) := by decide +kernel
theorem dX4_recall_34 : decode cX4_recall 34 = .ok (.aload_n 0, 1) := by decide +kernel
theorem dX4_recall_35 : decode cX4_recall 35 = .ok (.dup, 1) := by decide +kernel
theorem dX4_recall_36 : decode cX4_recall 36 = .ok (.getfield 30, 3) := by decide +kernel
theorem dX4_recall_39 : decode cX4_recall 39 = .ok (.iconst 1, 1) := by decide +kernel
theorem dX4_recall_40 : decode cX4_recall 40 = .ok (.isub, 1) := by decide +kernel
theorem dX4_recall_41 : decode cX4_recall 41 = .ok (.putfield 30, 3) := by decide +kernel
theorem dX4_recall_44 : decode cX4_recall 44 = .ok (.return_, 1) := by decide +kernel
theorem dX4_slotAt_0 : decode cX4_slotAt 0 = .ok (.iload_n 1, 1) := by decide +kernel
theorem dX4_slotAt_1 : decode cX4_slotAt 1 = .ok (.ifCond .lt 21, 3) := by decide +kernel
theorem dX4_slotAt_4 : decode cX4_slotAt 4 = .ok (.iload_n 1, 1) := by decide +kernel
theorem dX4_slotAt_5 : decode cX4_slotAt 5 = .ok (.aload_n 0, 1) := by decide +kernel
theorem dX4_slotAt_6 : decode cX4_slotAt 6 = .ok (.getfield 11, 3) := by decide +kernel
theorem dX4_slotAt_9 : decode cX4_slotAt 9 = .ok (.arraylength, 1) := by decide +kernel
theorem dX4_slotAt_10 : decode cX4_slotAt 10 = .ok (.if_icmp .ge 12, 3) := by decide +kernel
theorem dX4_slotAt_13 : decode cX4_slotAt 13 = .ok (.aload_n 0, 1) := by decide +kernel
theorem dX4_slotAt_14 : decode cX4_slotAt 14 = .ok (.getfield 11, 3) := by decide +kernel
theorem dX4_slotAt_17 : decode cX4_slotAt 17 = .ok (.iload_n 1, 1) := by decide +kernel
theorem dX4_slotAt_18 : decode cX4_slotAt 18 = .ok (.aaload, 1) := by decide +kernel
theorem dX4_slotAt_19 : decode cX4_slotAt 19 = .ok (.goto 4, 3) := by decide +kernel
theorem dX4_slotAt_22 : decode cX4_slotAt 22 = .ok (.aconst_null, 1) := by decide +kernel
theorem dX4_slotAt_23 : decode cX4_slotAt 23 = .ok (.areturn, 1) := by decide +kernel
theorem dX5_init_0 : decode cX5_init 0 = .ok (.aload_n 0, 1) := by decide +kernel
theorem dX5_init_1 : decode cX5_init 1 = .ok (.invokespecial 3, 3) := by decide +kernel
theorem dX5_init_4 : decode cX5_init 4 = .ok (.aload_n 0, 1) := by decide +kernel
theorem dX5_init_5 : decode cX5_init 5 = .ok (.sipush 576, 3) := by decide +kernel
theorem dX5_init_8 : decode cX5_init 8 = .ok (.newarray .int, 2) := by decide +kernel
theorem dX5_init_10 : decode cX5_init 10 = .ok (.putfield 9, 3) := by decide +kernel
theorem dX5_init_13 : decode cX5_init 13 = .ok (.aload_n 0, 1) := by decide +kernel
theorem dX5_init_14 : decode cX5_init 14 = .ok (.bipush 96, 2) := by decide +kernel
theorem dX5_init_16 : decode cX5_init 16 = .ok (.newarray .int, 2) := by decide +kernel
theorem dX5_init_18 : decode cX5_init 18 = .ok (.putfield 15, 3) := by decide +kernel
theorem dX5_init_21 : decode cX5_init 21 = .ok (.aload_n 0, 1) := by decide +kernel
theorem dX5_init_22 : decode cX5_init 22 = .ok (.bipush 96, 2) := by decide +kernel
theorem dX5_init_24 : decode cX5_init 24 = .ok (.newarray .int, 2) := by decide +kernel
theorem dX5_init_26 : decode cX5_init 26 = .ok (.putfield 18, 3) := by decide +kernel
theorem dX5_init_29 : decode cX5_init 29 = .ok (.return_, 1) := by decide +kernel
theorem dX5_explore_0 : decode cX5_explore 0 = .ok (.aload_n 0, 1) := by decide +kernel
theorem dX5_explore_1 : decode cX5_explore 1 = .ok (.getfield 18, 3) := by decide +kernel
theorem dX5_explore_4 : decode cX5_explore 4 = .ok (.iconst 0, 1) := by decide +kernel
theorem dX5_explore_5 : decode cX5_explore 5 = .ok (.invokestatic 21, 3) := by decide +kernel
theorem dX5_explore_8 : decode cX5_explore 8 = .ok (.aload_n 0, 1) := by decide +kernel
theorem dX5_explore_9 : decode cX5_explore 9 = .ok (.iconst 0, 1) := by decide +kernel
theorem dX5_explore_10 : decode cX5_explore 10 = .ok (.putfield 25, 3) := by decide +kernel
theorem dX5_explore_13 : decode cX5_explore 13 = .ok (.aload_n 0, 1) := by decide +kernel
theorem dX5_explore_14 : decode cX5_explore 14 = .ok (.iconst 1, 1) := by decide +kernel
theorem dX5_explore_15 : decode cX5_explore 15 = .ok (.invokevirtual 29, 3) := by decide +kernel
theorem dX5_explore_18 : decode cX5_explore 18 = .ok (.iconst 0, 1) := by decide +kernel
theorem dX5_explore_19 : decode cX5_explore 19 = .ok (.istore_n 2, 1) := by decide +kernel
theorem dX5_explore_20 : decode cX5_explore 20 = .ok (.iload_n 2, 1) := by decide +kernel
theorem dX5_explore_21 : decode cX5_explore 21 = .ok (.aload_n 0, 1) := by decide +kernel
theorem dX5_explore_22 : decode cX5_explore 22 = .ok (.getfield 25, 3) := by decide +kernel
theorem dX5_explore_25 : decode cX5_explore 25 = .ok (.if_icmp .ge 76, 3) := by decide +kernel
theorem dX5_explore_28 : decode cX5_explore 28 = .ok (.iload_n 2, 1) := by decide +kernel
theorem dX5_explore_29 : decode cX5_explore 29 = .ok (.bipush 96, 2) := by decide +kernel
theorem dX5_explore_31 : decode cX5_explore 31 = .ok (.if_icmp .ge 70, 3) := by decide +kernel
theorem dX5_explore_34 : decode cX5_explore 34 = .ok (.aload_n 0, 1) := by decide +kernel
theorem dX5_explore_35 : decode cX5_explore 35 = .ok (.getfield 15, 3) := by decide +kernel
theorem dX5_explore_38 : decode cX5_explore 38 = .ok (.iload_n 2, 1) := by decide +kernel
theorem dX5_explore_39 : decode cX5_explore 39 = .ok (.invokestatic 33, 3) := by decide +kernel
theorem dX5_explore_42 : decode cX5_explore 42 = .ok (.istore_n 3, 1) := by decide +kernel
theorem dX5_explore_43 : decode cX5_explore 43 = .ok (.iconst 0, 1) := by decide +kernel
theorem dX5_explore_44 : decode cX5_explore 44 = .ok (.istore 4, 2) := by decide +kernel
theorem dX5_explore_46 : decode cX5_explore 46 = .ok (.iload 4, 2) := by decide +kernel
theorem dX5_explore_48 : decode cX5_explore 48 = .ok (.bipush 6, 2) := by decide +kernel
theorem dX5_explore_50 : decode cX5_explore 50 = .ok (.if_icmp .ge 45, 3) := by decide +kernel
theorem dX5_explore_53 : decode cX5_explore 53 = .ok (.aload_n 1, 1) := by decide +kernel
theorem dX5_explore_54 : decode cX5_explore 54 = .ok (.iload_n 3, 1) := by decide +kernel
theorem dX5_explore_55 : decode cX5_explore 55 = .ok (.iload 4, 2) := by decide +kernel
theorem dX5_explore_57 : decode cX5_explore 57 = .ok (.invokevirtual 37, 3) := by decide +kernel
theorem dX5_explore_60 : decode cX5_explore 60 = .ok (.istore 5, 2) := by decide +kernel
theorem dX5_explore_62 : decode cX5_explore 62 = .ok (.aload_n 0, 1) := by decide +kernel
theorem dX5_explore_63 : decode cX5_explore 63 = .ok (.getfield 9, 3) := by decide +kernel
theorem dX5_explore_66 : decode cX5_explore 66 = .ok (.iload_n 3, 1) := by decide +kernel
theorem dX5_explore_67 : decode cX5_explore 67 = .ok (.bipush 6, 2) := by decide +kernel
theorem dX5_explore_69 : decode cX5_explore 69 = .ok (.imul, 1) := by decide +kernel
theorem dX5_explore_70 : decode cX5_explore 70 = .ok (.iload 4, 2) := by decide +kernel
theorem dX5_explore_72 : decode cX5_explore 72 = .ok (.iadd, 1) := by decide +kernel
theorem dX5_explore_73 : decode cX5_explore 73 = .ok (.iload 5, 2) := by decide +kernel
theorem dX5_explore_75 : decode cX5_explore 75 = .ok (.invokestatic 43, 3) := by decide +kernel
theorem dX5_explore_78 : decode cX5_explore 78 = .ok (.iload 5, 2) := by decide +kernel
theorem dX5_explore_80 : decode cX5_explore 80 = .ok (.ifCond .lt 9, 3) := by decide +kernel
theorem dX5_explore_83 : decode cX5_explore 83 = .ok (.aload_n 0, 1) := by decide +kernel
theorem dX5_explore_84 : decode cX5_explore 84 = .ok (.iload 5, 2) := by decide +kernel
theorem dX5_explore_86 : decode cX5_explore 86 = .ok (.invokevirtual 29, 3) := by decide +kernel
theorem dX5_explore_89 : decode cX5_explore 89 = .ok (.iinc 4 1, 3) := by decide +kernel
theorem dX5_explore_92 : decode cX5_explore 92 = .ok (.goto (-46), 3) := by decide +kernel
theorem dX5_explore_95 : decode cX5_explore 95 = .ok (.iinc 2 1, 3) := by decide +kernel
theorem dX5_explore_98 : decode cX5_explore 98 = .ok (.goto (-78), 3) := by decide +kernel
theorem dX5_explore_101 : decode cX5_explore 101 = .ok (.return_, 1) := by decide +kernel
theorem dX5_add_0 : decode cX5_add 0 = .ok (.aload_n 0, 1) := by decide +kernel
theorem dX5_add_1 : decode cX5_add 1 = .ok (.getfield 18, 3) := by decide +kernel
theorem dX5_add_4 : decode cX5_add 4 = .ok (.iload_n 1, 1) := by decide +kernel
theorem dX5_add_5 : decode cX5_add 5 = .ok (.invokestatic 33, 3) := by decide +kernel
theorem dX5_add_8 : decode cX5_add 8 = .ok (.ifCond .ne 34, 3) := by decide +kernel
theorem dX5_add_11 : decode cX5_add 11 = .ok (.aload_n 0, 1) := by decide +kernel
theorem dX5_add_12 : decode cX5_add 12 = .ok (.getfield 18, 3) := by decide +kernel
theorem dX5_add_15 : decode cX5_add 15 = .ok (.iload_n 1, 1) := by decide +kernel
theorem dX5_add_16 : decode cX5_add 16 = .ok (.iconst 1, 1) := by decide +kernel
theorem dX5_add_17 : decode cX5_add 17 = .ok (.invokestatic 43, 3) := by decide +kernel
theorem dX5_add_20 : decode cX5_add 20 = .ok (.aload_n 0, 1) := by decide +kernel
theorem dX5_add_21 : decode cX5_add 21 = .ok (.getfield 15, 3) := by decide +kernel
theorem dX5_add_24 : decode cX5_add 24 = .ok (.aload_n 0, 1) := by decide +kernel
theorem dX5_add_25 : decode cX5_add 25 = .ok (.getfield 25, 3) := by decide +kernel
theorem dX5_add_28 : decode cX5_add 28 = .ok (.iload_n 1, 1) := by decide +kernel
theorem dX5_add_29 : decode cX5_add 29 = .ok (.invokestatic 43, 3) := by decide +kernel
theorem dX5_add_32 : decode cX5_add 32 = .ok (.aload_n 0, 1) := by decide +kernel
theorem dX5_add_33 : decode cX5_add 33 = .ok (.dup, 1) := by decide +kernel
theorem dX5_add_34 : decode cX5_add 34 = .ok (.getfield 25, 3) := by decide +kernel
theorem dX5_add_37 : decode cX5_add 37 = .ok (.iconst 1, 1) := by decide +kernel
theorem dX5_add_38 : decode cX5_add 38 = .ok (.iadd, 1) := by decide +kernel
theorem dX5_add_39 : decode cX5_add 39 = .ok (.putfield 25, 3) := by decide +kernel
theorem dX5_add_42 : decode cX5_add 42 = .ok (.return_, 1) := by decide +kernel
theorem dX5_configurationAt_0 : decode cX5_configurationAt 0 = .ok (.aload_n 0, 1) := by decide +kernel
theorem dX5_configurationAt_1 : decode cX5_configurationAt 1 = .ok (.getfield 15, 3) := by decide +kernel
theorem dX5_configurationAt_4 : decode cX5_configurationAt 4 = .ok (.iload_n 1, 1) := by decide +kernel
theorem dX5_configurationAt_5 : decode cX5_configurationAt 5 = .ok (.invokestatic 33, 3) := by decide +kernel
theorem dX5_configurationAt_8 : decode cX5_configurationAt 8 = .ok (.ireturn, 1) := by decide +kernel
theorem dX5_after_0 : decode cX5_after 0 = .ok (.iload_n 1, 1) := by decide +kernel
theorem dX5_after_1 : decode cX5_after 1 = .ok (.bipush 6, 2) := by decide +kernel
theorem dX5_after_3 : decode cX5_after 3 = .ok (.imul, 1) := by decide +kernel
theorem dX5_after_4 : decode cX5_after 4 = .ok (.iload_n 2, 1) := by decide +kernel
theorem dX5_after_5 : decode cX5_after 5 = .ok (.iadd, 1) := by decide +kernel
theorem dX5_after_6 : decode cX5_after 6 = .ok (.istore_n 3, 1) := by decide +kernel
theorem dX5_after_7 : decode cX5_after 7 = .ok (.iload_n 3, 1) := by decide +kernel
theorem dX5_after_8 : decode cX5_after 8 = .ok (.ifCond .lt 21, 3) := by decide +kernel
theorem dX5_after_11 : decode cX5_after 11 = .ok (.iload_n 3, 1) := by decide +kernel
theorem dX5_after_12 : decode cX5_after 12 = .ok (.aload_n 0, 1) := by decide +kernel
theorem dX5_after_13 : decode cX5_after 13 = .ok (.getfield 9, 3) := by decide +kernel
theorem dX5_after_16 : decode cX5_after 16 = .ok (.arraylength, 1) := by decide +kernel
theorem dX5_after_17 : decode cX5_after 17 = .ok (.if_icmp .ge 12, 3) := by decide +kernel
theorem dX5_after_20 : decode cX5_after 20 = .ok (.aload_n 0, 1) := by decide +kernel
theorem dX5_after_21 : decode cX5_after 21 = .ok (.getfield 9, 3) := by decide +kernel
theorem dX5_after_24 : decode cX5_after 24 = .ok (.iload_n 3, 1) := by decide +kernel
theorem dX5_after_25 : decode cX5_after 25 = .ok (.iaload, 1) := by decide +kernel
theorem dX5_after_26 : decode cX5_after 26 = .ok (.goto 4, 3) := by decide +kernel
theorem dX5_after_29 : decode cX5_after 29 = .ok (.iconst (-1), 1) := by decide +kernel
theorem dX5_after_30 : decode cX5_after 30 = .ok (.ireturn, 1) := by decide +kernel
theorem dX6_init_0 : decode cX6_init 0 = .ok (.aload_n 0, 1) := by decide +kernel
theorem dX6_init_1 : decode cX6_init 1 = .ok (.invokespecial 3, 3) := by decide +kernel
theorem dX6_init_4 : decode cX6_init 4 = .ok (.aload_n 0, 1) := by decide +kernel
theorem dX6_init_5 : decode cX6_init 5 = .ok (.sipush 1248, 3) := by decide +kernel
theorem dX6_init_8 : decode cX6_init 8 = .ok (.newarray .int, 2) := by decide +kernel
theorem dX6_init_10 : decode cX6_init 10 = .ok (.putfield 9, 3) := by decide +kernel
theorem dX6_init_13 : decode cX6_init 13 = .ok (.aload_n 0, 1) := by decide +kernel
theorem dX6_init_14 : decode cX6_init 14 = .ok (.sipush 1248, 3) := by decide +kernel
theorem dX6_init_17 : decode cX6_init 17 = .ok (.newarray .int, 2) := by decide +kernel
theorem dX6_init_19 : decode cX6_init 19 = .ok (.putfield 15, 3) := by decide +kernel
theorem dX6_init_22 : decode cX6_init 22 = .ok (.return_, 1) := by decide +kernel
theorem dX6_add_0 : decode cX6_add 0 = .ok (.aload_n 0, 1) := by decide +kernel
theorem dX6_add_1 : decode cX6_add 1 = .ok (.getfield 18, 3) := by decide +kernel
theorem dX6_add_4 : decode cX6_add 4 = .ok (.sipush 1248, 3) := by decide +kernel
theorem dX6_add_7 : decode cX6_add 7 = .ok (.if_icmp .ge 37, 3) := by decide +kernel
theorem dX6_add_10 : decode cX6_add 10 = .ok (.aload_n 0, 1) := by decide +kernel
theorem dX6_add_11 : decode cX6_add 11 = .ok (.getfield 9, 3) := by decide +kernel
theorem dX6_add_14 : decode cX6_add 14 = .ok (.aload_n 0, 1) := by decide +kernel
theorem dX6_add_15 : decode cX6_add 15 = .ok (.getfield 18, 3) := by decide +kernel
theorem dX6_add_18 : decode cX6_add 18 = .ok (.iload_n 1, 1) := by decide +kernel
theorem dX6_add_19 : decode cX6_add 19 = .ok (.invokestatic 22, 3) := by decide +kernel
theorem dX6_add_22 : decode cX6_add 22 = .ok (.aload_n 0, 1) := by decide +kernel
theorem dX6_add_23 : decode cX6_add 23 = .ok (.getfield 15, 3) := by decide +kernel
theorem dX6_add_26 : decode cX6_add 26 = .ok (.aload_n 0, 1) := by decide +kernel
theorem dX6_add_27 : decode cX6_add 27 = .ok (.getfield 18, 3) := by decide +kernel
theorem dX6_add_30 : decode cX6_add 30 = .ok (.iload_n 2, 1) := by decide +kernel
theorem dX6_add_31 : decode cX6_add 31 = .ok (.invokestatic 22, 3) := by decide +kernel
theorem dX6_add_34 : decode cX6_add 34 = .ok (.aload_n 0, 1) := by decide +kernel
theorem dX6_add_35 : decode cX6_add 35 = .ok (.dup, 1) := by decide +kernel
theorem dX6_add_36 : decode cX6_add 36 = .ok (.getfield 18, 3) := by decide +kernel
theorem dX6_add_39 : decode cX6_add 39 = .ok (.iconst 1, 1) := by decide +kernel
theorem dX6_add_40 : decode cX6_add 40 = .ok (.iadd, 1) := by decide +kernel
theorem dX6_add_41 : decode cX6_add 41 = .ok (.putfield 18, 3) := by decide +kernel
theorem dX6_add_44 : decode cX6_add 44 = .ok (.return_, 1) := by decide +kernel
theorem dX6_operationAt_0 : decode cX6_operationAt 0 = .ok (.iload_n 1, 1) := by decide +kernel
theorem dX6_operationAt_1 : decode cX6_operationAt 1 = .ok (.aload_n 0, 1) := by decide +kernel
theorem dX6_operationAt_2 : decode cX6_operationAt 2 = .ok (.getfield 18, 3) := by decide +kernel
theorem dX6_operationAt_5 : decode cX6_operationAt 5 = .ok (.if_icmp .ge 14, 3) := by decide +kernel
theorem dX6_operationAt_8 : decode cX6_operationAt 8 = .ok (.aload_n 0, 1) := by decide +kernel
theorem dX6_operationAt_9 : decode cX6_operationAt 9 = .ok (.getfield 9, 3) := by decide +kernel
theorem dX6_operationAt_12 : decode cX6_operationAt 12 = .ok (.iload_n 1, 1) := by decide +kernel
theorem dX6_operationAt_13 : decode cX6_operationAt 13 = .ok (.invokestatic 26, 3) := by decide +kernel
theorem dX6_operationAt_16 : decode cX6_operationAt 16 = .ok (.goto 5, 3) := by decide +kernel
theorem dX6_operationAt_19 : decode cX6_operationAt 19 = .ok (.bipush (-9), 2) := by decide +kernel
theorem dX6_operationAt_21 : decode cX6_operationAt 21 = .ok (.ireturn, 1) := by decide +kernel
theorem dX6_kindAt_0 : decode cX6_kindAt 0 = .ok (.iload_n 1, 1) := by decide +kernel
theorem dX6_kindAt_1 : decode cX6_kindAt 1 = .ok (.aload_n 0, 1) := by decide +kernel
theorem dX6_kindAt_2 : decode cX6_kindAt 2 = .ok (.getfield 18, 3) := by decide +kernel
theorem dX6_kindAt_5 : decode cX6_kindAt 5 = .ok (.if_icmp .ge 14, 3) := by decide +kernel
theorem dX6_kindAt_8 : decode cX6_kindAt 8 = .ok (.aload_n 0, 1) := by decide +kernel
theorem dX6_kindAt_9 : decode cX6_kindAt 9 = .ok (.getfield 15, 3) := by decide +kernel
theorem dX6_kindAt_12 : decode cX6_kindAt 12 = .ok (.iload_n 1, 1) := by decide +kernel
theorem dX6_kindAt_13 : decode cX6_kindAt 13 = .ok (.invokestatic 26, 3) := by decide +kernel
theorem dX6_kindAt_16 : decode cX6_kindAt 16 = .ok (.goto 5, 3) := by decide +kernel
theorem dX6_kindAt_19 : decode cX6_kindAt 19 = .ok (.bipush (-9), 2) := by decide +kernel
theorem dX6_kindAt_21 : decode cX6_kindAt 21 = .ok (.ireturn, 1) := by decide +kernel
theorem dX6_countConsumed_0 : decode cX6_countConsumed 0 = .ok (.iconst 0, 1) := by decide +kernel
theorem dX6_countConsumed_1 : decode cX6_countConsumed 1 = .ok (.istore_n 1, 1) := by decide +kernel
theorem dX6_countConsumed_2 : decode cX6_countConsumed 2 = .ok (.iconst 0, 1) := by decide +kernel
theorem dX6_countConsumed_3 : decode cX6_countConsumed 3 = .ok (.istore_n 2, 1) := by decide +kernel
theorem dX6_countConsumed_4 : decode cX6_countConsumed 4 = .ok (.iload_n 2, 1) := by decide +kernel
theorem dX6_countConsumed_5 : decode cX6_countConsumed 5 = .ok (.aload_n 0, 1) := by decide +kernel
theorem dX6_countConsumed_6 : decode cX6_countConsumed 6 = .ok (.getfield 18, 3) := by decide +kernel
theorem dX6_countConsumed_9 : decode cX6_countConsumed 9 = .ok (.if_icmp .ge 21, 3) := by decide +kernel
theorem dX6_countConsumed_12 : decode cX6_countConsumed 12 = .ok (.aload_n 0, 1) := by decide +kernel
theorem dX6_countConsumed_13 : decode cX6_countConsumed 13 = .ok (.iload_n 2, 1) := by decide +kernel
theorem dX6_countConsumed_14 : decode cX6_countConsumed 14 = .ok (.invokevirtual 30, 3) := by decide +kernel
theorem dX6_countConsumed_17 : decode cX6_countConsumed 17 = .ok (.iconst 2, 1) := by decide +kernel
theorem dX6_countConsumed_18 : decode cX6_countConsumed 18 = .ok (.if_icmp .eq 6, 3) := by decide +kernel
theorem dX6_countConsumed_21 : decode cX6_countConsumed 21 = .ok (.iinc 1 1, 3) := by decide +kernel
theorem dX6_countConsumed_24 : decode cX6_countConsumed 24 = .ok (.iinc 2 1, 3) := by decide +kernel
theorem dX6_countConsumed_27 : decode cX6_countConsumed 27 = .ok (.goto (-23), 3) := by decide +kernel
theorem dX6_countConsumed_30 : decode cX6_countConsumed 30 = .ok (.iload_n 1, 1) := by decide +kernel
theorem dX6_countConsumed_31 : decode cX6_countConsumed 31 = .ok (.ireturn, 1) := by decide +kernel
theorem dX7_init_0 : decode cX7_init 0 = .ok (.aload_n 0, 1) := by decide +kernel
theorem dX7_init_1 : decode cX7_init 1 = .ok (.invokespecial 3, 3) := by decide +kernel
theorem dX7_init_4 : decode cX7_init 4 = .ok (.aload_n 0, 1) := by decide +kernel
theorem dX7_init_5 : decode cX7_init 5 = .ok (.new 9, 3) := by decide +kernel
theorem dX7_init_8 : decode cX7_init 8 = .ok (.dup, 1) := by decide +kernel
theorem dX7_init_9 : decode cX7_init 9 = .ok (.invokespecial 11, 3) := by decide +kernel
theorem dX7_init_12 : decode cX7_init 12 = .ok (.putfield 12, 3) := by decide +kernel
theorem dX7_init_15 : decode cX7_init 15 = .ok (.aload_n 0, 1) := by decide +kernel
theorem dX7_init_16 : decode cX7_init 16 = .ok (.new 18, 3) := by decide +kernel
theorem dX7_init_19 : decode cX7_init 19 = .ok (.dup, 1) := by decide +kernel
theorem dX7_init_20 : decode cX7_init 20 = .ok (.invokespecial 20, 3) := by decide +kernel
theorem dX7_init_23 : decode cX7_init 23 = .ok (.putfield 21, 3) := by decide +kernel
theorem dX7_init_26 : decode cX7_init 26 = .ok (.aload_n 0, 1) := by decide +kernel
theorem dX7_init_27 : decode cX7_init 27 = .ok (.sipush 1248, 3) := by decide +kernel
theorem dX7_init_30 : decode cX7_init 30 = .ok (.newarray .int, 2) := by decide +kernel
theorem dX7_init_32 : decode cX7_init 32 = .ok (.putfield 25, 3) := by decide +kernel
theorem dX7_init_35 : decode cX7_init 35 = .ok (.aload_n 0, 1) := by decide +kernel
theorem dX7_init_36 : decode cX7_init 36 = .ok (.sipush 1248, 3) := by decide +kernel
theorem dX7_init_39 : decode cX7_init 39 = .ok (.newarray .int, 2) := by decide +kernel
theorem dX7_init_41 : decode cX7_init 41 = .ok (.putfield 29, 3) := by decide +kernel
theorem dX7_init_44 : decode cX7_init 44 = .ok (.aload_n 0, 1) := by decide +kernel
theorem dX7_init_45 : decode cX7_init 45 = .ok (.sipush 1248, 3) := by decide +kernel
theorem dX7_init_48 : decode cX7_init 48 = .ok (.newarray .int, 2) := by decide +kernel
theorem dX7_init_50 : decode cX7_init 50 = .ok (.putfield 32, 3) := by decide +kernel
theorem dX7_init_53 : decode cX7_init 53 = .ok (.return_, 1) := by decide +kernel
theorem dX7_leastFrom_0 : decode cX7_leastFrom 0 = .ok (.aload_n 0, 1) := by decide +kernel
theorem dX7_leastFrom_1 : decode cX7_leastFrom 1 = .ok (.getfield 25, 3) := by decide +kernel
theorem dX7_leastFrom_4 : decode cX7_leastFrom 4 = .ok (.iload_n 1, 1) := by decide +kernel
theorem dX7_leastFrom_5 : decode cX7_leastFrom 5 = .ok (.bipush 96, 2) := by decide +kernel
theorem dX7_leastFrom_7 : decode cX7_leastFrom 7 = .ok (.imul, 1) := by decide +kernel
theorem dX7_leastFrom_8 : decode cX7_leastFrom 8 = .ok (.iload_n 2, 1) := by decide +kernel
theorem dX7_leastFrom_9 : decode cX7_leastFrom 9 = .ok (.iadd, 1) := by decide +kernel
theorem dX7_leastFrom_10 : decode cX7_leastFrom 10 = .ok (.invokestatic 35, 3) := by decide +kernel
theorem dX7_leastFrom_13 : decode cX7_leastFrom 13 = .ok (.ireturn, 1) := by decide +kernel
theorem dX7_secondFrom_0 : decode cX7_secondFrom 0 = .ok (.aload_n 0, 1) := by decide +kernel
theorem dX7_secondFrom_1 : decode cX7_secondFrom 1 = .ok (.getfield 29, 3) := by decide +kernel
theorem dX7_secondFrom_4 : decode cX7_secondFrom 4 = .ok (.iload_n 1, 1) := by decide +kernel
theorem dX7_secondFrom_5 : decode cX7_secondFrom 5 = .ok (.bipush 96, 2) := by decide +kernel
theorem dX7_secondFrom_7 : decode cX7_secondFrom 7 = .ok (.imul, 1) := by decide +kernel
theorem dX7_secondFrom_8 : decode cX7_secondFrom 8 = .ok (.iload_n 2, 1) := by decide +kernel
theorem dX7_secondFrom_9 : decode cX7_secondFrom 9 = .ok (.iadd, 1) := by decide +kernel
theorem dX7_secondFrom_10 : decode cX7_secondFrom 10 = .ok (.invokestatic 35, 3) := by decide +kernel
theorem dX7_secondFrom_13 : decode cX7_secondFrom 13 = .ok (.ireturn, 1) := by decide +kernel
theorem dX7_waysFrom_0 : decode cX7_waysFrom 0 = .ok (.aload_n 0, 1) := by decide +kernel
theorem dX7_waysFrom_1 : decode cX7_waysFrom 1 = .ok (.getfield 32, 3) := by decide +kernel
theorem dX7_waysFrom_4 : decode cX7_waysFrom 4 = .ok (.iload_n 1, 1) := by decide +kernel
theorem dX7_waysFrom_5 : decode cX7_waysFrom 5 = .ok (.bipush 96, 2) := by decide +kernel
theorem dX7_waysFrom_7 : decode cX7_waysFrom 7 = .ok (.imul, 1) := by decide +kernel
theorem dX7_waysFrom_8 : decode cX7_waysFrom 8 = .ok (.iload_n 2, 1) := by decide +kernel
theorem dX7_waysFrom_9 : decode cX7_waysFrom 9 = .ok (.iadd, 1) := by decide +kernel
theorem dX7_waysFrom_10 : decode cX7_waysFrom 10 = .ok (.invokestatic 35, 3) := by decide +kernel
theorem dX7_waysFrom_13 : decode cX7_waysFrom 13 = .ok (.ireturn, 1) := by decide +kernel
theorem dX7_solve_0 : decode cX7_solve 0 = .ok (.aload_n 0, 1) := by decide +kernel
theorem dX7_solve_1 : decode cX7_solve 1 = .ok (.getfield 39, 3) := by decide +kernel
theorem dX7_solve_4 : decode cX7_solve 4 = .ok (.ifCond .eq 12, 3) := by decide +kernel
theorem dX7_solve_7 : decode cX7_solve 7 = .ok (.aload_n 0, 1) := by decide +kernel
theorem dX7_solve_8 : decode cX7_solve 8 = .ok (.getfield 43, 3) := by decide +kernel
theorem dX7_solve_11 : decode cX7_solve 11 = .ok (.iload_n 2, 1) := by decide +kernel
theorem dX7_solve_12 : decode cX7_solve 12 = .ok (.if_icmp .ne 4, 3) := by decide +kernel
theorem dX7_solve_15 : decode cX7_solve 15 = .ok (.return_, 1) := by decide +kernel
theorem dX7_solve_16 : decode cX7_solve 16 = .ok (.aload_n 0, 1) := by decide +kernel
theorem dX7_solve_17 : decode cX7_solve 17 = .ok (.iload_n 2, 1) := by decide +kernel
theorem dX7_solve_18 : decode cX7_solve 18 = .ok (.putfield 43, 3) := by decide +kernel
theorem dX7_solve_21 : decode cX7_solve 21 = .ok (.aload_n 0, 1) := by decide +kernel
theorem dX7_solve_22 : decode cX7_solve 22 = .ok (.getfield 12, 3) := by decide +kernel
theorem dX7_solve_25 : decode cX7_solve 25 = .ok (.aload_n 1, 1) := by decide +kernel
theorem dX7_solve_26 : decode cX7_solve 26 = .ok (.invokevirtual 47, 3) := by decide +kernel
theorem dX7_solve_29 : decode cX7_solve 29 = .ok (.aload_n 0, 1) := by decide +kernel
theorem dX7_solve_30 : decode cX7_solve 30 = .ok (.getfield 21, 3) := by decide +kernel
theorem dX7_solve_33 : decode cX7_solve 33 = .ok (.aload_n 0, 1) := by decide +kernel
theorem dX7_solve_34 : decode cX7_solve 34 = .ok (.getfield 12, 3) := by decide +kernel
theorem dX7_solve_37 : decode cX7_solve 37 = .ok (.getfield 51, 3) := by decide +kernel
theorem dX7_solve_40 : decode cX7_solve 40 = .ok (.invokevirtual 55, 3) := by decide +kernel
theorem dX7_solve_43 : decode cX7_solve 43 = .ok (.aload_n 0, 1) := by decide +kernel
theorem dX7_solve_44 : decode cX7_solve 44 = .ok (.getfield 12, 3) := by decide +kernel
theorem dX7_solve_47 : decode cX7_solve 47 = .ok (.getfield 59, 3) := by decide +kernel
theorem dX7_solve_50 : decode cX7_solve 50 = .ok (.getfield 63, 3) := by decide +kernel
theorem dX7_solve_53 : decode cX7_solve 53 = .ok (.istore_n 3, 1) := by decide +kernel
theorem dX7_solve_54 : decode cX7_solve 54 = .ok (.iload_n 3, 1) := by decide +kernel
theorem dX7_solve_55 : decode cX7_solve 55 = .ok (.ifCond .lt 14, 3) := by decide +kernel
theorem dX7_solve_58 : decode cX7_solve 58 = .ok (.aload_n 0, 1) := by decide +kernel
theorem dX7_solve_59 : decode cX7_solve 59 = .ok (.iload_n 3, 1) := by decide +kernel
theorem dX7_solve_60 : decode cX7_solve 60 = .ok (.invokevirtual 68, 3) := by decide +kernel
theorem dX7_solve_63 : decode cX7_solve 63 = .ok (.iinc 3 (-1), 3) := by decide +kernel
theorem dX7_solve_66 : decode cX7_solve 66 = .ok (.goto (-12), 3) := by decide +kernel
theorem dX7_solve_69 : decode cX7_solve 69 = .ok (.aload_n 0, 1) := by decide +kernel
theorem dX7_solve_70 : decode cX7_solve 70 = .ok (.iconst 1, 1) := by decide +kernel
theorem dX7_solve_71 : decode cX7_solve 71 = .ok (.putfield 39, 3) := by decide +kernel
theorem dX7_solve_74 : decode cX7_solve 74 = .ok (.return_, 1) := by decide +kernel
theorem dX7_settleLevel_0 : decode cX7_settleLevel 0 = .ok (.iconst 0, 1) := by decide +kernel
theorem dX7_settleLevel_1 : decode cX7_settleLevel 1 = .ok (.istore_n 2, 1) := by decide +kernel
theorem dX7_settleLevel_2 : decode cX7_settleLevel 2 = .ok (.iload_n 2, 1) := by decide +kernel
theorem dX7_settleLevel_3 : decode cX7_settleLevel 3 = .ok (.bipush 96, 2) := by decide +kernel
theorem dX7_settleLevel_5 : decode cX7_settleLevel 5 = .ok (.if_icmp .ge 24, 3) := by decide +kernel
theorem dX7_settleLevel_8 : decode cX7_settleLevel 8 = .ok (.aload_n 0, 1) := by decide +kernel
theorem dX7_settleLevel_9 : decode cX7_settleLevel 9 = .ok (.iload_n 1, 1) := by decide +kernel
theorem dX7_settleLevel_10 : decode cX7_settleLevel 10 = .ok (.bipush 96, 2) := by decide +kernel
theorem dX7_settleLevel_12 : decode cX7_settleLevel 12 = .ok (.imul, 1) := by decide +kernel
theorem dX7_settleLevel_13 : decode cX7_settleLevel 13 = .ok (.iload_n 2, 1) := by decide +kernel
theorem dX7_settleLevel_14 : decode cX7_settleLevel 14 = .ok (.iadd, 1) := by decide +kernel
theorem dX7_settleLevel_15 : decode cX7_settleLevel 15 = .ok (.ldc 72, 2) := by decide +kernel
theorem dX7_settleLevel_17 : decode cX7_settleLevel 17 = .ok (.ldc 72, 2) := by decide +kernel
theorem dX7_settleLevel_19 : decode cX7_settleLevel 19 = .ok (.iconst 0, 1) := by decide +kernel
theorem dX7_settleLevel_20 : decode cX7_settleLevel 20 = .ok (.invokevirtual 73, 3) := by decide +kernel
theorem dX7_settleLevel_23 : decode cX7_settleLevel 23 = .ok (.iinc 2 1, 3) := by decide +kernel
theorem dX7_settleLevel_26 : decode cX7_settleLevel 26 = .ok (.goto (-24), 3) := by decide +kernel
theorem dX7_settleLevel_29 : decode cX7_settleLevel 29 = .ok (.iconst 1, 1) := by decide +kernel
theorem dX7_settleLevel_30 : decode cX7_settleLevel 30 = .ok (.istore_n 2, 1) := by decide +kernel
theorem dX7_settleLevel_31 : decode cX7_settleLevel 31 = .ok (.iconst 0, 1) := by decide +kernel
theorem dX7_settleLevel_32 : decode cX7_settleLevel 32 = .ok (.istore_n 3, 1) := by decide +kernel
theorem dX7_settleLevel_33 : decode cX7_settleLevel 33 = .ok (.iload_n 2, 1) := by decide +kernel
theorem dX7_settleLevel_34 : decode cX7_settleLevel 34 = .ok (.ifCond .eq 59, 3) := by decide +kernel
theorem dX7_settleLevel_37 : decode cX7_settleLevel 37 = .ok (.iload_n 3, 1) := by decide +kernel
theorem dX7_settleLevel_38 : decode cX7_settleLevel 38 = .ok (.sipush 1000, 3) := by decide +kernel
theorem dX7_settleLevel_41 : decode cX7_settleLevel 41 = .ok (.if_icmp .ge 52, 3) := by decide +kernel
theorem dX7_settleLevel_44 : decode cX7_settleLevel 44 = .ok (.iconst 0, 1) := by decide +kernel
theorem dX7_settleLevel_45 : decode cX7_settleLevel 45 = .ok (.istore_n 2, 1) := by decide +kernel
theorem dX7_settleLevel_46 : decode cX7_settleLevel 46 = .ok (.aload_n 0, 1) := by decide +kernel
theorem dX7_settleLevel_47 : decode cX7_settleLevel 47 = .ok (.getfield 21, 3) := by decide +kernel
theorem dX7_settleLevel_50 : decode cX7_settleLevel 50 = .ok (.getfield 77, 3) := by decide +kernel
theorem dX7_settleLevel_53 : decode cX7_settleLevel 53 = .ok (.iconst 1, 1) := by decide +kernel
theorem dX7_settleLevel_54 : decode cX7_settleLevel 54 = .ok (.isub, 1) := by decide +kernel
theorem dX7_settleLevel_55 : decode cX7_settleLevel 55 = .ok (.istore 4, 2) := by decide +kernel
theorem dX7_settleLevel_57 : decode cX7_settleLevel 57 = .ok (.iload 4, 2) := by decide +kernel
theorem dX7_settleLevel_59 : decode cX7_settleLevel 59 = .ok (.ifCond .lt 28, 3) := by decide +kernel
theorem dX7_settleLevel_62 : decode cX7_settleLevel 62 = .ok (.aload_n 0, 1) := by decide +kernel
theorem dX7_settleLevel_63 : decode cX7_settleLevel 63 = .ok (.iload_n 1, 1) := by decide +kernel
theorem dX7_settleLevel_64 : decode cX7_settleLevel 64 = .ok (.aload_n 0, 1) := by decide +kernel
theorem dX7_settleLevel_65 : decode cX7_settleLevel 65 = .ok (.getfield 21, 3) := by decide +kernel
theorem dX7_settleLevel_68 : decode cX7_settleLevel 68 = .ok (.iload 4, 2) := by decide +kernel
theorem dX7_settleLevel_70 : decode cX7_settleLevel 70 = .ok (.invokevirtual 78, 3) := by decide +kernel
theorem dX7_settleLevel_73 : decode cX7_settleLevel 73 = .ok (.invokevirtual 82, 3) := by decide +kernel
theorem dX7_settleLevel_76 : decode cX7_settleLevel 76 = .ok (.ifCond .eq 5, 3) := by decide +kernel
theorem dX7_settleLevel_79 : decode cX7_settleLevel 79 = .ok (.iconst 1, 1) := by decide +kernel
theorem dX7_settleLevel_80 : decode cX7_settleLevel 80 = .ok (.istore_n 2, 1) := by decide +kernel
theorem dX7_settleLevel_81 : decode cX7_settleLevel 81 = .ok (.iinc 4 (-1), 3) := by decide +kernel
theorem dX7_settleLevel_84 : decode cX7_settleLevel 84 = .ok (.goto (-27), 3) := by decide +kernel
theorem dX7_settleLevel_87 : decode cX7_settleLevel 87 = .ok (.iinc 3 1, 3) := by decide +kernel
theorem dX7_settleLevel_90 : decode cX7_settleLevel 90 = .ok (.goto (-57), 3) := by decide +kernel
theorem dX7_settleLevel_93 : decode cX7_settleLevel 93 = .ok (.return_, 1) := by decide +kernel
theorem dX7_store_0 : decode cX7_store 0 = .ok (.aload_n 0, 1) := by decide +kernel
theorem dX7_store_1 : decode cX7_store 1 = .ok (.getfield 25, 3) := by decide +kernel
theorem dX7_store_4 : decode cX7_store 4 = .ok (.iload_n 1, 1) := by decide +kernel
theorem dX7_store_5 : decode cX7_store 5 = .ok (.iload_n 2, 1) := by decide +kernel
theorem dX7_store_6 : decode cX7_store 6 = .ok (.invokestatic 86, 3) := by decide +kernel
theorem dX7_store_9 : decode cX7_store 9 = .ok (.aload_n 0, 1) := by decide +kernel
theorem dX7_store_10 : decode cX7_store 10 = .ok (.getfield 29, 3) := by decide +kernel
theorem dX7_store_13 : decode cX7_store 13 = .ok (.iload_n 1, 1) := by decide +kernel
theorem dX7_store_14 : decode cX7_store 14 = .ok (.iload_n 3, 1) := by decide +kernel
theorem dX7_store_15 : decode cX7_store 15 = .ok (.invokestatic 86, 3) := by decide +kernel
theorem dX7_store_18 : decode cX7_store 18 = .ok (.aload_n 0, 1) := by decide +kernel
theorem dX7_store_19 : decode cX7_store 19 = .ok (.getfield 32, 3) := by decide +kernel
theorem dX7_store_22 : decode cX7_store 22 = .ok (.iload_n 1, 1) := by decide +kernel
theorem dX7_store_23 : decode cX7_store 23 = .ok (.iload 4, 2) := by decide +kernel
theorem dX7_store_25 : decode cX7_store 25 = .ok (.invokestatic 86, 3) := by decide +kernel
theorem dX7_store_28 : decode cX7_store 28 = .ok (.return_, 1) := by decide +kernel
theorem dX7_refresh_0 : decode cX7_refresh 0 = .ok (.aload_n 0, 1) := by decide +kernel
theorem dX7_refresh_1 : decode cX7_refresh 1 = .ok (.iload_n 1, 1) := by decide +kernel
theorem dX7_refresh_2 : decode cX7_refresh 2 = .ok (.iload_n 2, 1) := by decide +kernel
theorem dX7_refresh_3 : decode cX7_refresh 3 = .ok (.invokevirtual 90, 3) := by decide +kernel
theorem dX7_refresh_6 : decode cX7_refresh 6 = .ok (.istore_n 3, 1) := by decide +kernel
theorem dX7_refresh_7 : decode cX7_refresh 7 = .ok (.aload_n 0, 1) := by decide +kernel
theorem dX7_refresh_8 : decode cX7_refresh 8 = .ok (.iload_n 3, 1) := by decide +kernel
theorem dX7_refresh_9 : decode cX7_refresh 9 = .ok (.ifCond .eq 7, 3) := by decide +kernel
theorem dX7_refresh_12 : decode cX7_refresh 12 = .ok (.iconst 0, 1) := by decide +kernel
theorem dX7_refresh_13 : decode cX7_refresh 13 = .ok (.goto 5, 3) := by decide +kernel
theorem dX7_refresh_16 : decode cX7_refresh 16 = .ok (.ldc 72, 2) := by decide +kernel
theorem dX7_refresh_18 : decode cX7_refresh 18 = .ok (.putfield 93, 3) := by decide +kernel
theorem dX7_refresh_21 : decode cX7_refresh 21 = .ok (.aload_n 0, 1) := by decide +kernel
theorem dX7_refresh_22 : decode cX7_refresh 22 = .ok (.ldc 72, 2) := by decide +kernel
theorem dX7_refresh_24 : decode cX7_refresh 24 = .ok (.putfield 96, 3) := by decide +kernel
theorem dX7_refresh_27 : decode cX7_refresh 27 = .ok (.aload_n 0, 1) := by decide +kernel
theorem dX7_refresh_28 : decode cX7_refresh 28 = .ok (.iload_n 3, 1) := by decide +kernel
theorem dX7_refresh_29 : decode cX7_refresh 29 = .ok (.ifCond .eq 7, 3) := by decide +kernel
theorem dX7_refresh_32 : decode cX7_refresh 32 = .ok (.iconst 1, 1) := by decide +kernel
theorem dX7_refresh_33 : decode cX7_refresh 33 = .ok (.goto 4, 3) := by decide +kernel
theorem dX7_refresh_36 : decode cX7_refresh 36 = .ok (.iconst 0, 1) := by decide +kernel
theorem dX7_refresh_37 : decode cX7_refresh 37 = .ok (.putfield 99, 3) := by decide +kernel
theorem dX7_refresh_40 : decode cX7_refresh 40 = .ok (.iconst 0, 1) := by decide +kernel
theorem dX7_refresh_41 : decode cX7_refresh 41 = .ok (.istore 4, 2) := by decide +kernel
theorem dX7_refresh_43 : decode cX7_refresh 43 = .ok (.iload 4, 2) := by decide +kernel
theorem dX7_refresh_45 : decode cX7_refresh 45 = .ok (.bipush 6, 2) := by decide +kernel
theorem dX7_refresh_47 : decode cX7_refresh 47 = .ok (.if_icmp .ge 35, 3) := by decide +kernel
theorem dX7_refresh_50 : decode cX7_refresh 50 = .ok (.aload_n 0, 1) := by decide +kernel
theorem dX7_refresh_51 : decode cX7_refresh 51 = .ok (.getfield 21, 3) := by decide +kernel
theorem dX7_refresh_54 : decode cX7_refresh 54 = .ok (.iload_n 2, 1) := by decide +kernel
theorem dX7_refresh_55 : decode cX7_refresh 55 = .ok (.iload 4, 2) := by decide +kernel
theorem dX7_refresh_57 : decode cX7_refresh 57 = .ok (.invokevirtual 102, 3) := by decide +kernel
theorem dX7_refresh_60 : decode cX7_refresh 60 = .ok (.istore 5, 2) := by decide +kernel
theorem dX7_refresh_62 : decode cX7_refresh 62 = .ok (.iload 5, 2) := by decide +kernel
theorem dX7_refresh_64 : decode cX7_refresh 64 = .ok (.ifCond .lt 12, 3) := by decide +kernel
theorem dX7_refresh_67 : decode cX7_refresh 67 = .ok (.aload_n 0, 1) := by decide +kernel
theorem dX7_refresh_68 : decode cX7_refresh 68 = .ok (.iload_n 1, 1) := by decide +kernel
theorem dX7_refresh_69 : decode cX7_refresh 69 = .ok (.iload 4, 2) := by decide +kernel
theorem dX7_refresh_71 : decode cX7_refresh 71 = .ok (.iload 5, 2) := by decide +kernel
theorem dX7_refresh_73 : decode cX7_refresh 73 = .ok (.invokevirtual 106, 3) := by decide +kernel
theorem dX7_refresh_76 : decode cX7_refresh 76 = .ok (.iinc 4 1, 3) := by decide +kernel
theorem dX7_refresh_79 : decode cX7_refresh 79 = .ok (.goto (-36), 3) := by decide +kernel
theorem dX7_refresh_82 : decode cX7_refresh 82 = .ok (.aload_n 0, 1) := by decide +kernel
theorem dX7_refresh_83 : decode cX7_refresh 83 = .ok (.getfield 12, 3) := by decide +kernel
theorem dX7_refresh_86 : decode cX7_refresh 86 = .ok (.getfield 59, 3) := by decide +kernel
theorem dX7_refresh_89 : decode cX7_refresh 89 = .ok (.iload_n 1, 1) := by decide +kernel
theorem dX7_refresh_90 : decode cX7_refresh 90 = .ok (.invokevirtual 110, 3) := by decide +kernel
theorem dX7_refresh_93 : decode cX7_refresh 93 = .ok (.istore 4, 2) := by decide +kernel
theorem dX7_refresh_95 : decode cX7_refresh 95 = .ok (.iload 4, 2) := by decide +kernel
theorem dX7_refresh_97 : decode cX7_refresh 97 = .ok (.ifCond .lt 28, 3) := by decide +kernel
theorem dX7_refresh_100 : decode cX7_refresh 100 = .ok (.aload_n 0, 1) := by decide +kernel
theorem dX7_refresh_101 : decode cX7_refresh 101 = .ok (.aload_n 0, 1) := by decide +kernel
theorem dX7_refresh_102 : decode cX7_refresh 102 = .ok (.getfield 12, 3) := by decide +kernel
theorem dX7_refresh_105 : decode cX7_refresh 105 = .ok (.getfield 113, 3) := by decide +kernel
theorem dX7_refresh_108 : decode cX7_refresh 108 = .ok (.iconst 2, 1) := by decide +kernel
theorem dX7_refresh_109 : decode cX7_refresh 109 = .ok (.iload 4, 2) := by decide +kernel
theorem dX7_refresh_111 : decode cX7_refresh 111 = .ok (.invokevirtual 117, 3) := by decide +kernel
theorem dX7_refresh_114 : decode cX7_refresh 114 = .ok (.iload_n 1, 1) := by decide +kernel
theorem dX7_refresh_115 : decode cX7_refresh 115 = .ok (.iconst 1, 1) := by decide +kernel
theorem dX7_refresh_116 : decode cX7_refresh 116 = .ok (.iadd, 1) := by decide +kernel
theorem dX7_refresh_117 : decode cX7_refresh 117 = .ok (.bipush 96, 2) := by decide +kernel
theorem dX7_refresh_119 : decode cX7_refresh 119 = .ok (.imul, 1) := by decide +kernel
theorem dX7_refresh_120 : decode cX7_refresh 120 = .ok (.iload_n 2, 1) := by decide +kernel
theorem dX7_refresh_121 : decode cX7_refresh 121 = .ok (.iadd, 1) := by decide +kernel
theorem dX7_refresh_122 : decode cX7_refresh 122 = .ok (.invokevirtual 122, 3) := by decide +kernel
theorem dX7_refresh_125 : decode cX7_refresh 125 = .ok (.iload_n 1, 1) := by decide +kernel
theorem dX7_refresh_126 : decode cX7_refresh 126 = .ok (.bipush 96, 2) := by decide +kernel
theorem dX7_refresh_128 : decode cX7_refresh 128 = .ok (.imul, 1) := by decide +kernel
theorem dX7_refresh_129 : decode cX7_refresh 129 = .ok (.iload_n 2, 1) := by decide +kernel
theorem dX7_refresh_130 : decode cX7_refresh 130 = .ok (.iadd, 1) := by decide +kernel
theorem dX7_refresh_131 : decode cX7_refresh 131 = .ok (.istore 5, 2) := by decide +kernel
theorem dX7_refresh_133 : decode cX7_refresh 133 = .ok (.aload_n 0, 1) := by decide +kernel
theorem dX7_refresh_134 : decode cX7_refresh 134 = .ok (.getfield 25, 3) := by decide +kernel
theorem dX7_refresh_137 : decode cX7_refresh 137 = .ok (.iload 5, 2) := by decide +kernel
theorem dX7_refresh_139 : decode cX7_refresh 139 = .ok (.invokestatic 35, 3) := by decide +kernel
theorem dX7_refresh_142 : decode cX7_refresh 142 = .ok (.aload_n 0, 1) := by decide +kernel
theorem dX7_refresh_143 : decode cX7_refresh 143 = .ok (.getfield 93, 3) := by decide +kernel
theorem dX7_refresh_146 : decode cX7_refresh 146 = .ok (.if_icmp .ne 39, 3) := by decide +kernel
theorem dX7_refresh_149 : decode cX7_refresh 149 = .ok (.aload_n 0, 1) := by decide +kernel
theorem dX7_refresh_150 : decode cX7_refresh 150 = .ok (.getfield 29, 3) := by decide +kernel
theorem dX7_refresh_153 : decode cX7_refresh 153 = .ok (.iload 5, 2) := by decide +kernel
theorem dX7_refresh_155 : decode cX7_refresh 155 = .ok (.invokestatic 35, 3) := by decide +kernel
theorem dX7_refresh_158 : decode cX7_refresh 158 = .ok (.aload_n 0, 1) := by decide +kernel
theorem dX7_refresh_159 : decode cX7_refresh 159 = .ok (.getfield 96, 3) := by decide +kernel
theorem dX7_refresh_162 : decode cX7_refresh 162 = .ok (.if_icmp .ne 23, 3) := by decide +kernel
theorem dX7_refresh_165 : decode cX7_refresh 165 = .ok (.aload_n 0, 1) := by decide +kernel
theorem dX7_refresh_166 : decode cX7_refresh 166 = .ok (.getfield 32, 3) := by decide +kernel
theorem dX7_refresh_169 : decode cX7_refresh 169 = .ok (.iload 5, 2) := by decide +kernel
theorem dX7_refresh_171 : decode cX7_refresh 171 = .ok (.invokestatic 35, 3) := by decide +kernel
theorem dX7_refresh_174 : decode cX7_refresh 174 = .ok (.aload_n 0, 1) := by decide +kernel
theorem dX7_refresh_175 : decode cX7_refresh 175 = .ok (.getfield 99, 3) := by decide +kernel
theorem dX7_refresh_178 : decode cX7_refresh 178 = .ok (.if_icmp .ne 7, 3) := by decide +kernel
theorem dX7_refresh_181 : decode cX7_refresh 181 = .ok (.iconst 1, 1) := by decide +kernel
theorem dX7_refresh_182 : decode cX7_refresh 182 = .ok (.goto 4, 3) := by decide +kernel
theorem dX7_refresh_185 : decode cX7_refresh 185 = .ok (.iconst 0, 1) := by decide +kernel
theorem dX7_refresh_186 : decode cX7_refresh 186 = .ok (.istore 6, 2) := by decide +kernel
theorem dX7_refresh_188 : decode cX7_refresh 188 = .ok (.aload_n 0, 1) := by decide +kernel
theorem dX7_refresh_189 : decode cX7_refresh 189 = .ok (.iload 5, 2) := by decide +kernel
theorem dX7_refresh_191 : decode cX7_refresh 191 = .ok (.aload_n 0, 1) := by decide +kernel
theorem dX7_refresh_192 : decode cX7_refresh 192 = .ok (.getfield 93, 3) := by decide +kernel
theorem dX7_refresh_195 : decode cX7_refresh 195 = .ok (.aload_n 0, 1) := by decide +kernel
theorem dX7_refresh_196 : decode cX7_refresh 196 = .ok (.getfield 96, 3) := by decide +kernel
theorem dX7_refresh_199 : decode cX7_refresh 199 = .ok (.aload_n 0, 1) := by decide +kernel
theorem dX7_refresh_200 : decode cX7_refresh 200 = .ok (.getfield 99, 3) := by decide +kernel
theorem dX7_refresh_203 : decode cX7_refresh 203 = .ok (.invokevirtual 73, 3) := by decide +kernel
theorem dX7_refresh_206 : decode cX7_refresh 206 = .ok (.iload 6, 2) := by decide +kernel
theorem dX7_refresh_208 : decode cX7_refresh 208 = .ok (.ifCond .ne 7, 3) := by decide +kernel
theorem dX7_refresh_211 : decode cX7_refresh 211 = .ok (.iconst 1, 1) := by decide +kernel
theorem dX7_refresh_212 : decode cX7_refresh 212 = .ok (.goto 4, 3) := by decide +kernel
theorem dX7_refresh_215 : decode cX7_refresh 215 = .ok (.iconst 0, 1) := by decide +kernel
theorem dX7_refresh_216 : decode cX7_refresh 216 = .ok (.ireturn, 1) := by decide +kernel
theorem dX7_offerConsumption_0 : decode cX7_offerConsumption 0 = .ok (.aload_n 0, 1) := by decide +kernel
theorem dX7_offerConsumption_1 : decode cX7_offerConsumption 1 = .ok (.getfield 12, 3) := by decide +kernel
theorem dX7_offerConsumption_4 : decode cX7_offerConsumption 4 = .ok (.getfield 59, 3) := by decide +kernel
theorem dX7_offerConsumption_7 : decode cX7_offerConsumption 7 = .ok (.iload_n 1, 1) := by decide +kernel
theorem dX7_offerConsumption_8 : decode cX7_offerConsumption 8 = .ok (.invokevirtual 110, 3) := by decide +kernel
theorem dX7_offerConsumption_11 : decode cX7_offerConsumption 11 = .ok (.istore 4, 2) := by decide +kernel
theorem dX7_offerConsumption_13 : decode cX7_offerConsumption 13 = .ok (.iload_n 1, 1) := by decide +kernel
theorem dX7_offerConsumption_14 : decode cX7_offerConsumption 14 = .ok (.iconst 1, 1) := by decide +kernel
theorem dX7_offerConsumption_15 : decode cX7_offerConsumption 15 = .ok (.iadd, 1) := by decide +kernel
theorem dX7_offerConsumption_16 : decode cX7_offerConsumption 16 = .ok (.bipush 96, 2) := by decide +kernel
theorem dX7_offerConsumption_18 : decode cX7_offerConsumption 18 = .ok (.imul, 1) := by decide +kernel
theorem dX7_offerConsumption_19 : decode cX7_offerConsumption 19 = .ok (.istore 5, 2) := by decide +kernel
theorem dX7_offerConsumption_21 : decode cX7_offerConsumption 21 = .ok (.iload 4, 2) := by decide +kernel
theorem dX7_offerConsumption_23 : decode cX7_offerConsumption 23 = .ok (.iload_n 2, 1) := by decide +kernel
theorem dX7_offerConsumption_24 : decode cX7_offerConsumption 24 = .ok (.if_icmp .ne 33, 3) := by decide +kernel
theorem dX7_offerConsumption_27 : decode cX7_offerConsumption 27 = .ok (.aload_n 0, 1) := by decide +kernel
theorem dX7_offerConsumption_28 : decode cX7_offerConsumption 28 = .ok (.getfield 43, 3) := by decide +kernel
theorem dX7_offerConsumption_31 : decode cX7_offerConsumption 31 = .ok (.ifCond .ne 26, 3) := by decide +kernel
theorem dX7_offerConsumption_34 : decode cX7_offerConsumption 34 = .ok (.aload_n 0, 1) := by decide +kernel
theorem dX7_offerConsumption_35 : decode cX7_offerConsumption 35 = .ok (.aload_n 0, 1) := by decide +kernel
theorem dX7_offerConsumption_36 : decode cX7_offerConsumption 36 = .ok (.getfield 12, 3) := by decide +kernel
theorem dX7_offerConsumption_39 : decode cX7_offerConsumption 39 = .ok (.getfield 113, 3) := by decide +kernel
theorem dX7_offerConsumption_42 : decode cX7_offerConsumption 42 = .ok (.iconst 0, 1) := by decide +kernel
theorem dX7_offerConsumption_43 : decode cX7_offerConsumption 43 = .ok (.iload_n 2, 1) := by decide +kernel
theorem dX7_offerConsumption_44 : decode cX7_offerConsumption 44 = .ok (.invokevirtual 117, 3) := by decide +kernel
theorem dX7_offerConsumption_47 : decode cX7_offerConsumption 47 = .ok (.iload 5, 2) := by decide +kernel
theorem dX7_offerConsumption_49 : decode cX7_offerConsumption 49 = .ok (.iload_n 3, 1) := by decide +kernel
theorem dX7_offerConsumption_50 : decode cX7_offerConsumption 50 = .ok (.iadd, 1) := by decide +kernel
theorem dX7_offerConsumption_51 : decode cX7_offerConsumption 51 = .ok (.invokevirtual 122, 3) := by decide +kernel
theorem dX7_offerConsumption_54 : decode cX7_offerConsumption 54 = .ok (.goto 34, 3) := by decide +kernel
theorem dX7_offerConsumption_57 : decode cX7_offerConsumption 57 = .ok (.iload 4, 2) := by decide +kernel
theorem dX7_offerConsumption_59 : decode cX7_offerConsumption 59 = .ok (.ifCond .lt 29, 3) := by decide +kernel
theorem dX7_offerConsumption_62 : decode cX7_offerConsumption 62 = .ok (.iload 4, 2) := by decide +kernel
theorem dX7_offerConsumption_64 : decode cX7_offerConsumption 64 = .ok (.iload_n 2, 1) := by decide +kernel
theorem dX7_offerConsumption_65 : decode cX7_offerConsumption 65 = .ok (.if_icmp .eq 23, 3) := by decide +kernel
theorem dX7_offerConsumption_68 : decode cX7_offerConsumption 68 = .ok (.aload_n 0, 1) := by decide +kernel
theorem dX7_offerConsumption_69 : decode cX7_offerConsumption 69 = .ok (.aload_n 0, 1) := by decide +kernel
theorem dX7_offerConsumption_70 : decode cX7_offerConsumption 70 = .ok (.getfield 12, 3) := by decide +kernel
theorem dX7_offerConsumption_73 : decode cX7_offerConsumption 73 = .ok (.getfield 113, 3) := by decide +kernel
theorem dX7_offerConsumption_76 : decode cX7_offerConsumption 76 = .ok (.iconst 1, 1) := by decide +kernel
theorem dX7_offerConsumption_77 : decode cX7_offerConsumption 77 = .ok (.iload_n 2, 1) := by decide +kernel
theorem dX7_offerConsumption_78 : decode cX7_offerConsumption 78 = .ok (.invokevirtual 117, 3) := by decide +kernel
theorem dX7_offerConsumption_81 : decode cX7_offerConsumption 81 = .ok (.iload 5, 2) := by decide +kernel
theorem dX7_offerConsumption_83 : decode cX7_offerConsumption 83 = .ok (.iload_n 3, 1) := by decide +kernel
theorem dX7_offerConsumption_84 : decode cX7_offerConsumption 84 = .ok (.iadd, 1) := by decide +kernel
theorem dX7_offerConsumption_85 : decode cX7_offerConsumption 85 = .ok (.invokevirtual 122, 3) := by decide +kernel
theorem dX7_offerConsumption_88 : decode cX7_offerConsumption 88 = .ok (.aload_n 0, 1) := by decide +kernel
theorem dX7_offerConsumption_89 : decode cX7_offerConsumption 89 = .ok (.aload_n 0, 1) := by decide +kernel
theorem dX7_offerConsumption_90 : decode cX7_offerConsumption 90 = .ok (.getfield 12, 3) := by decide +kernel
theorem dX7_offerConsumption_93 : decode cX7_offerConsumption 93 = .ok (.getfield 113, 3) := by decide +kernel
theorem dX7_offerConsumption_96 : decode cX7_offerConsumption 96 = .ok (.iconst 3, 1) := by decide +kernel
theorem dX7_offerConsumption_97 : decode cX7_offerConsumption 97 = .ok (.iload_n 2, 1) := by decide +kernel
theorem dX7_offerConsumption_98 : decode cX7_offerConsumption 98 = .ok (.invokevirtual 117, 3) := by decide +kernel
theorem dX7_offerConsumption_101 : decode cX7_offerConsumption 101 = .ok (.iload_n 1, 1) := by decide +kernel
theorem dX7_offerConsumption_102 : decode cX7_offerConsumption 102 = .ok (.bipush 96, 2) := by decide +kernel
theorem dX7_offerConsumption_104 : decode cX7_offerConsumption 104 = .ok (.imul, 1) := by decide +kernel
theorem dX7_offerConsumption_105 : decode cX7_offerConsumption 105 = .ok (.iload_n 3, 1) := by decide +kernel
theorem dX7_offerConsumption_106 : decode cX7_offerConsumption 106 = .ok (.iadd, 1) := by decide +kernel
theorem dX7_offerConsumption_107 : decode cX7_offerConsumption 107 = .ok (.invokevirtual 122, 3) := by decide +kernel
theorem dX7_offerConsumption_110 : decode cX7_offerConsumption 110 = .ok (.return_, 1) := by decide +kernel
theorem dX7_offer_0 : decode cX7_offer 0 = .ok (.iload_n 1, 1) := by decide +kernel
theorem dX7_offer_1 : decode cX7_offer 1 = .ok (.aload_n 0, 1) := by decide +kernel
theorem dX7_offer_2 : decode cX7_offer 2 = .ok (.getfield 25, 3) := by decide +kernel
theorem dX7_offer_5 : decode cX7_offer 5 = .ok (.iload_n 2, 1) := by decide +kernel
theorem dX7_offer_6 : decode cX7_offer 6 = .ok (.invokestatic 35, 3) := by decide +kernel
theorem dX7_offer_9 : decode cX7_offer 9 = .ok (.iadd, 1) := by decide +kernel
theorem dX7_offer_10 : decode cX7_offer 10 = .ok (.istore_n 3, 1) := by decide +kernel
theorem dX7_offer_11 : decode cX7_offer 11 = .ok (.iload_n 3, 1) := by decide +kernel
theorem dX7_offer_12 : decode cX7_offer 12 = .ok (.ldc 72, 2) := by decide +kernel
theorem dX7_offer_14 : decode cX7_offer 14 = .ok (.if_icmp .lt 4, 3) := by decide +kernel
theorem dX7_offer_17 : decode cX7_offer 17 = .ok (.return_, 1) := by decide +kernel
theorem dX7_offer_18 : decode cX7_offer 18 = .ok (.iload_n 3, 1) := by decide +kernel
theorem dX7_offer_19 : decode cX7_offer 19 = .ok (.aload_n 0, 1) := by decide +kernel
theorem dX7_offer_20 : decode cX7_offer 20 = .ok (.getfield 93, 3) := by decide +kernel
theorem dX7_offer_23 : decode cX7_offer 23 = .ok (.if_icmp .ge 31, 3) := by decide +kernel
theorem dX7_offer_26 : decode cX7_offer 26 = .ok (.aload_n 0, 1) := by decide +kernel
theorem dX7_offer_27 : decode cX7_offer 27 = .ok (.aload_n 0, 1) := by decide +kernel
theorem dX7_offer_28 : decode cX7_offer 28 = .ok (.getfield 93, 3) := by decide +kernel
theorem dX7_offer_31 : decode cX7_offer 31 = .ok (.putfield 96, 3) := by decide +kernel
theorem dX7_offer_34 : decode cX7_offer 34 = .ok (.aload_n 0, 1) := by decide +kernel
theorem dX7_offer_35 : decode cX7_offer 35 = .ok (.iload_n 3, 1) := by decide +kernel
theorem dX7_offer_36 : decode cX7_offer 36 = .ok (.putfield 93, 3) := by decide +kernel
theorem dX7_offer_39 : decode cX7_offer 39 = .ok (.aload_n 0, 1) := by decide +kernel
theorem dX7_offer_40 : decode cX7_offer 40 = .ok (.aload_n 0, 1) := by decide +kernel
theorem dX7_offer_41 : decode cX7_offer 41 = .ok (.getfield 32, 3) := by decide +kernel
theorem dX7_offer_44 : decode cX7_offer 44 = .ok (.iload_n 2, 1) := by decide +kernel
theorem dX7_offer_45 : decode cX7_offer 45 = .ok (.invokestatic 35, 3) := by decide +kernel
theorem dX7_offer_48 : decode cX7_offer 48 = .ok (.putfield 99, 3) := by decide +kernel
theorem dX7_offer_51 : decode cX7_offer 51 = .ok (.goto 49, 3) := by decide +kernel
theorem dX7_offer_54 : decode cX7_offer 54 = .ok (.iload_n 3, 1) := by decide +kernel
theorem dX7_offer_55 : decode cX7_offer 55 = .ok (.aload_n 0, 1) := by decide +kernel
theorem dX7_offer_56 : decode cX7_offer 56 = .ok (.getfield 93, 3) := by decide +kernel
theorem dX7_offer_59 : decode cX7_offer 59 = .ok (.if_icmp .ne 29, 3) := by decide +kernel
theorem dX7_offer_62 : decode cX7_offer 62 = .ok (.aload_n 0, 1) := by decide +kernel
theorem dX7_offer_63 : decode cX7_offer 63 = .ok (.aload_n 0, 1) := by decide +kernel
theorem dX7_offer_64 : decode cX7_offer 64 = .ok (.getfield 99, 3) := by decide +kernel
theorem dX7_offer_67 : decode cX7_offer 67 = .ok (.aload_n 0, 1) := by decide +kernel
theorem dX7_offer_68 : decode cX7_offer 68 = .ok (.getfield 32, 3) := by decide +kernel
theorem dX7_offer_71 : decode cX7_offer 71 = .ok (.iload_n 2, 1) := by decide +kernel
theorem dX7_offer_72 : decode cX7_offer 72 = .ok (.invokestatic 35, 3) := by decide +kernel
theorem dX7_offer_75 : decode cX7_offer 75 = .ok (.iadd, 1) := by decide +kernel
theorem dX7_offer_76 : decode cX7_offer 76 = .ok (.sipush 1000, 3) := by decide +kernel
theorem dX7_offer_79 : decode cX7_offer 79 = .ok (.invokestatic 126, 3) := by decide +kernel
theorem dX7_offer_82 : decode cX7_offer 82 = .ok (.putfield 99, 3) := by decide +kernel
theorem dX7_offer_85 : decode cX7_offer 85 = .ok (.goto 15, 3) := by decide +kernel
theorem dX7_offer_88 : decode cX7_offer 88 = .ok (.aload_n 0, 1) := by decide +kernel
theorem dX7_offer_89 : decode cX7_offer 89 = .ok (.aload_n 0, 1) := by decide +kernel
theorem dX7_offer_90 : decode cX7_offer 90 = .ok (.getfield 96, 3) := by decide +kernel
theorem dX7_offer_93 : decode cX7_offer 93 = .ok (.iload_n 3, 1) := by decide +kernel
theorem dX7_offer_94 : decode cX7_offer 94 = .ok (.invokestatic 126, 3) := by decide +kernel
theorem dX7_offer_97 : decode cX7_offer 97 = .ok (.putfield 96, 3) := by decide +kernel
theorem dX7_offer_100 : decode cX7_offer 100 = .ok (.aload_n 0, 1) := by decide +kernel
theorem dX7_offer_101 : decode cX7_offer 101 = .ok (.aload_n 0, 1) := by decide +kernel
theorem dX7_offer_102 : decode cX7_offer 102 = .ok (.getfield 96, 3) := by decide +kernel
theorem dX7_offer_105 : decode cX7_offer 105 = .ok (.iload_n 1, 1) := by decide +kernel
theorem dX7_offer_106 : decode cX7_offer 106 = .ok (.aload_n 0, 1) := by decide +kernel
theorem dX7_offer_107 : decode cX7_offer 107 = .ok (.getfield 29, 3) := by decide +kernel
theorem dX7_offer_110 : decode cX7_offer 110 = .ok (.iload_n 2, 1) := by decide +kernel
theorem dX7_offer_111 : decode cX7_offer 111 = .ok (.invokestatic 35, 3) := by decide +kernel
theorem dX7_offer_114 : decode cX7_offer 114 = .ok (.iadd, 1) := by decide +kernel
theorem dX7_offer_115 : decode cX7_offer 115 = .ok (.invokestatic 126, 3) := by decide +kernel
theorem dX7_offer_118 : decode cX7_offer 118 = .ok (.putfield 96, 3) := by decide +kernel
theorem dX7_offer_121 : decode cX7_offer 121 = .ok (.return_, 1) := by decide +kernel
theorem dX7_firstMove_0 : decode cX7_firstMove 0 = .ok (.aload_n 0, 1) := by decide +kernel
theorem dX7_firstMove_1 : decode cX7_firstMove 1 = .ok (.getfield 43, 3) := by decide +kernel
theorem dX7_firstMove_4 : decode cX7_firstMove 4 = .ok (.ifCond .ne 7, 3) := by decide +kernel
theorem dX7_firstMove_7 : decode cX7_firstMove 7 = .ok (.iconst 0, 1) := by decide +kernel
theorem dX7_firstMove_8 : decode cX7_firstMove 8 = .ok (.goto 4, 3) := by decide +kernel
theorem dX7_firstMove_11 : decode cX7_firstMove 11 = .ok (.iconst 1, 1) := by decide +kernel
theorem dX7_firstMove_12 : decode cX7_firstMove 12 = .ok (.ireturn, 1) := by decide +kernel
theorem dX7_isEnd_0 : decode cX7_isEnd 0 = .ok (.aload_n 0, 1) := by decide +kernel
theorem dX7_isEnd_1 : decode cX7_isEnd 1 = .ok (.getfield 12, 3) := by decide +kernel
theorem dX7_isEnd_4 : decode cX7_isEnd 4 = .ok (.getfield 59, 3) := by decide +kernel
theorem dX7_isEnd_7 : decode cX7_isEnd 7 = .ok (.getfield 63, 3) := by decide +kernel
theorem dX7_isEnd_10 : decode cX7_isEnd 10 = .ok (.istore_n 3, 1) := by decide +kernel
theorem dX7_isEnd_11 : decode cX7_isEnd 11 = .ok (.aload_n 0, 1) := by decide +kernel
theorem dX7_isEnd_12 : decode cX7_isEnd 12 = .ok (.getfield 43, 3) := by decide +kernel
theorem dX7_isEnd_15 : decode cX7_isEnd 15 = .ok (.ifCond .ne 28, 3) := by decide +kernel
theorem dX7_isEnd_18 : decode cX7_isEnd 18 = .ok (.iload_n 1, 1) := by decide +kernel
theorem dX7_isEnd_19 : decode cX7_isEnd 19 = .ok (.iload_n 3, 1) := by decide +kernel
theorem dX7_isEnd_20 : decode cX7_isEnd 20 = .ok (.if_icmp .ne 21, 3) := by decide +kernel
theorem dX7_isEnd_23 : decode cX7_isEnd 23 = .ok (.aload_n 0, 1) := by decide +kernel
theorem dX7_isEnd_24 : decode cX7_isEnd 24 = .ok (.getfield 12, 3) := by decide +kernel
theorem dX7_isEnd_27 : decode cX7_isEnd 27 = .ok (.getfield 51, 3) := by decide +kernel
theorem dX7_isEnd_30 : decode cX7_isEnd 30 = .ok (.iload_n 2, 1) := by decide +kernel
theorem dX7_isEnd_31 : decode cX7_isEnd 31 = .ok (.invokevirtual 131, 3) := by decide +kernel
theorem dX7_isEnd_34 : decode cX7_isEnd 34 = .ok (.ifCond .eq 7, 3) := by decide +kernel
theorem dX7_isEnd_37 : decode cX7_isEnd 37 = .ok (.iconst 1, 1) := by decide +kernel
theorem dX7_isEnd_38 : decode cX7_isEnd 38 = .ok (.goto 4, 3) := by decide +kernel
theorem dX7_isEnd_41 : decode cX7_isEnd 41 = .ok (.iconst 0, 1) := by decide +kernel
theorem dX7_isEnd_42 : decode cX7_isEnd 42 = .ok (.ireturn, 1) := by decide +kernel
theorem dX7_isEnd_43 : decode cX7_isEnd 43 = .ok (.iload_n 1, 1) := by decide +kernel
theorem dX7_isEnd_44 : decode cX7_isEnd 44 = .ok (.aload_n 0, 1) := by decide +kernel
theorem dX7_isEnd_45 : decode cX7_isEnd 45 = .ok (.getfield 43, 3) := by decide +kernel
theorem dX7_isEnd_48 : decode cX7_isEnd 48 = .ok (.iadd, 1) := by decide +kernel
theorem dX7_isEnd_49 : decode cX7_isEnd 49 = .ok (.iload_n 3, 1) := by decide +kernel
theorem dX7_isEnd_50 : decode cX7_isEnd 50 = .ok (.invokestatic 126, 3) := by decide +kernel
theorem dX7_isEnd_53 : decode cX7_isEnd 53 = .ok (.istore 4, 2) := by decide +kernel
theorem dX7_isEnd_55 : decode cX7_isEnd 55 = .ok (.iload_n 2, 1) := by decide +kernel
theorem dX7_isEnd_56 : decode cX7_isEnd 56 = .ok (.istore 5, 2) := by decide +kernel
theorem dX7_isEnd_58 : decode cX7_isEnd 58 = .ok (.iload_n 1, 1) := by decide +kernel
theorem dX7_isEnd_59 : decode cX7_isEnd 59 = .ok (.istore 6, 2) := by decide +kernel
theorem dX7_isEnd_61 : decode cX7_isEnd 61 = .ok (.iload 6, 2) := by decide +kernel
theorem dX7_isEnd_63 : decode cX7_isEnd 63 = .ok (.iload 4, 2) := by decide +kernel
theorem dX7_isEnd_65 : decode cX7_isEnd 65 = .ok (.if_icmp .ge 39, 3) := by decide +kernel
theorem dX7_isEnd_68 : decode cX7_isEnd 68 = .ok (.aload_n 0, 1) := by decide +kernel
theorem dX7_isEnd_69 : decode cX7_isEnd 69 = .ok (.getfield 21, 3) := by decide +kernel
theorem dX7_isEnd_72 : decode cX7_isEnd 72 = .ok (.iload 5, 2) := by decide +kernel
theorem dX7_isEnd_74 : decode cX7_isEnd 74 = .ok (.aload_n 0, 1) := by decide +kernel
theorem dX7_isEnd_75 : decode cX7_isEnd 75 = .ok (.getfield 12, 3) := by decide +kernel
theorem dX7_isEnd_78 : decode cX7_isEnd 78 = .ok (.getfield 59, 3) := by decide +kernel
theorem dX7_isEnd_81 : decode cX7_isEnd 81 = .ok (.iload 6, 2) := by decide +kernel
theorem dX7_isEnd_83 : decode cX7_isEnd 83 = .ok (.invokevirtual 110, 3) := by decide +kernel
theorem dX7_isEnd_86 : decode cX7_isEnd 86 = .ok (.invokevirtual 102, 3) := by decide +kernel
theorem dX7_isEnd_89 : decode cX7_isEnd 89 = .ok (.istore 5, 2) := by decide +kernel
theorem dX7_isEnd_91 : decode cX7_isEnd 91 = .ok (.iload 5, 2) := by decide +kernel
theorem dX7_isEnd_93 : decode cX7_isEnd 93 = .ok (.ifCond .ge 5, 3) := by decide +kernel
theorem dX7_isEnd_96 : decode cX7_isEnd 96 = .ok (.iconst 0, 1) := by decide +kernel
theorem dX7_isEnd_97 : decode cX7_isEnd 97 = .ok (.ireturn, 1) := by decide +kernel
theorem dX7_isEnd_98 : decode cX7_isEnd 98 = .ok (.iinc 6 1, 3) := by decide +kernel
theorem dX7_isEnd_101 : decode cX7_isEnd 101 = .ok (.goto (-40), 3) := by decide +kernel
theorem dX7_isEnd_104 : decode cX7_isEnd 104 = .ok (.iload_n 1, 1) := by decide +kernel
theorem dX7_isEnd_105 : decode cX7_isEnd 105 = .ok (.aload_n 0, 1) := by decide +kernel
theorem dX7_isEnd_106 : decode cX7_isEnd 106 = .ok (.getfield 43, 3) := by decide +kernel
theorem dX7_isEnd_109 : decode cX7_isEnd 109 = .ok (.iadd, 1) := by decide +kernel
theorem dX7_isEnd_110 : decode cX7_isEnd 110 = .ok (.iload_n 3, 1) := by decide +kernel
theorem dX7_isEnd_111 : decode cX7_isEnd 111 = .ok (.if_icmp .le 18, 3) := by decide +kernel
theorem dX7_isEnd_114 : decode cX7_isEnd 114 = .ok (.aload_n 0, 1) := by decide +kernel
theorem dX7_isEnd_115 : decode cX7_isEnd 115 = .ok (.getfield 12, 3) := by decide +kernel
theorem dX7_isEnd_118 : decode cX7_isEnd 118 = .ok (.getfield 51, 3) := by decide +kernel
theorem dX7_isEnd_121 : decode cX7_isEnd 121 = .ok (.iload 5, 2) := by decide +kernel
theorem dX7_isEnd_123 : decode cX7_isEnd 123 = .ok (.invokevirtual 131, 3) := by decide +kernel
theorem dX7_isEnd_126 : decode cX7_isEnd 126 = .ok (.ifCond .eq 7, 3) := by decide +kernel
theorem dX7_isEnd_129 : decode cX7_isEnd 129 = .ok (.iconst 1, 1) := by decide +kernel
theorem dX7_isEnd_130 : decode cX7_isEnd 130 = .ok (.goto 4, 3) := by decide +kernel
theorem dX7_isEnd_133 : decode cX7_isEnd 133 = .ok (.iconst 0, 1) := by decide +kernel
theorem dX7_isEnd_134 : decode cX7_isEnd 134 = .ok (.ireturn, 1) := by decide +kernel
theorem dX7_targetOf_0 : decode cX7_targetOf 0 = .ok (.getstatic 137, 3) := by decide +kernel
theorem dX7_targetOf_3 : decode cX7_targetOf 3 = .ok (.iload_n 3, 1) := by decide +kernel
theorem dX7_targetOf_4 : decode cX7_targetOf 4 = .ok (.invokestatic 35, 3) := by decide +kernel
theorem dX7_targetOf_7 : decode cX7_targetOf 7 = .ok (.istore 4, 2) := by decide +kernel
theorem dX7_targetOf_9 : decode cX7_targetOf 9 = .ok (.aload_n 0, 1) := by decide +kernel
theorem dX7_targetOf_10 : decode cX7_targetOf 10 = .ok (.getfield 12, 3) := by decide +kernel
theorem dX7_targetOf_13 : decode cX7_targetOf 13 = .ok (.getfield 59, 3) := by decide +kernel
theorem dX7_targetOf_16 : decode cX7_targetOf 16 = .ok (.iload_n 1, 1) := by decide +kernel
theorem dX7_targetOf_17 : decode cX7_targetOf 17 = .ok (.invokevirtual 110, 3) := by decide +kernel
theorem dX7_targetOf_20 : decode cX7_targetOf 20 = .ok (.istore 5, 2) := by decide +kernel
theorem dX7_targetOf_22 : decode cX7_targetOf 22 = .ok (.iload 4, 2) := by decide +kernel
theorem dX7_targetOf_24 : decode cX7_targetOf 24 = .ok (.iconst 3, 1) := by decide +kernel
theorem dX7_targetOf_25 : decode cX7_targetOf 25 = .ok (.if_icmp .eq 10, 3) := by decide +kernel
theorem dX7_targetOf_28 : decode cX7_targetOf 28 = .ok (.iload 5, 2) := by decide +kernel
theorem dX7_targetOf_30 : decode cX7_targetOf 30 = .ok (.ifCond .ge 5, 3) := by decide +kernel
theorem dX7_targetOf_33 : decode cX7_targetOf 33 = .ok (.iconst (-1), 1) := by decide +kernel
theorem dX7_targetOf_34 : decode cX7_targetOf 34 = .ok (.ireturn, 1) := by decide +kernel
theorem dX7_targetOf_35 : decode cX7_targetOf 35 = .ok (.iload_n 3, 1) := by decide +kernel
theorem dX7_targetOf_36 : decode cX7_targetOf 36 = .ok (.iload 5, 2) := by decide +kernel
theorem dX7_targetOf_38 : decode cX7_targetOf 38 = .ok (.invokestatic 140, 3) := by decide +kernel
theorem dX7_targetOf_41 : decode cX7_targetOf 41 = .ok (.istore 6, 2) := by decide +kernel
theorem dX7_targetOf_43 : decode cX7_targetOf 43 = .ok (.iload 4, 2) := by decide +kernel
theorem dX7_targetOf_45 : decode cX7_targetOf 45 = .ok (.iconst 1, 1) := by decide +kernel
theorem dX7_targetOf_46 : decode cX7_targetOf 46 = .ok (.if_icmp .ne 12, 3) := by decide +kernel
theorem dX7_targetOf_49 : decode cX7_targetOf 49 = .ok (.iload 6, 2) := by decide +kernel
theorem dX7_targetOf_51 : decode cX7_targetOf 51 = .ok (.iload 5, 2) := by decide +kernel
theorem dX7_targetOf_53 : decode cX7_targetOf 53 = .ok (.if_icmp .ne 5, 3) := by decide +kernel
theorem dX7_targetOf_56 : decode cX7_targetOf 56 = .ok (.iconst (-1), 1) := by decide +kernel
theorem dX7_targetOf_57 : decode cX7_targetOf 57 = .ok (.ireturn, 1) := by decide +kernel
theorem dX7_targetOf_58 : decode cX7_targetOf 58 = .ok (.iload 4, 2) := by decide +kernel
theorem dX7_targetOf_60 : decode cX7_targetOf 60 = .ok (.iconst 3, 1) := by decide +kernel
theorem dX7_targetOf_61 : decode cX7_targetOf 61 = .ok (.if_icmp .ne 7, 3) := by decide +kernel
theorem dX7_targetOf_64 : decode cX7_targetOf 64 = .ok (.iload_n 1, 1) := by decide +kernel
theorem dX7_targetOf_65 : decode cX7_targetOf 65 = .ok (.goto 6, 3) := by decide +kernel
theorem dX7_targetOf_68 : decode cX7_targetOf 68 = .ok (.iload_n 1, 1) := by decide +kernel
theorem dX7_targetOf_69 : decode cX7_targetOf 69 = .ok (.iconst 1, 1) := by decide +kernel
theorem dX7_targetOf_70 : decode cX7_targetOf 70 = .ok (.iadd, 1) := by decide +kernel
theorem dX7_targetOf_71 : decode cX7_targetOf 71 = .ok (.istore 7, 2) := by decide +kernel
theorem dX7_targetOf_73 : decode cX7_targetOf 73 = .ok (.iload 4, 2) := by decide +kernel
theorem dX7_targetOf_75 : decode cX7_targetOf 75 = .ok (.iconst 2, 1) := by decide +kernel
theorem dX7_targetOf_76 : decode cX7_targetOf 76 = .ok (.if_icmp .ne 7, 3) := by decide +kernel
theorem dX7_targetOf_79 : decode cX7_targetOf 79 = .ok (.iload_n 2, 1) := by decide +kernel
theorem dX7_targetOf_80 : decode cX7_targetOf 80 = .ok (.goto 13, 3) := by decide +kernel
theorem dX7_targetOf_83 : decode cX7_targetOf 83 = .ok (.aload_n 0, 1) := by decide +kernel
theorem dX7_targetOf_84 : decode cX7_targetOf 84 = .ok (.getfield 21, 3) := by decide +kernel
theorem dX7_targetOf_87 : decode cX7_targetOf 87 = .ok (.iload_n 2, 1) := by decide +kernel
theorem dX7_targetOf_88 : decode cX7_targetOf 88 = .ok (.iload 6, 2) := by decide +kernel
theorem dX7_targetOf_90 : decode cX7_targetOf 90 = .ok (.invokevirtual 102, 3) := by decide +kernel
theorem dX7_targetOf_93 : decode cX7_targetOf 93 = .ok (.istore 8, 2) := by decide +kernel
theorem dX7_targetOf_95 : decode cX7_targetOf 95 = .ok (.iload 8, 2) := by decide +kernel
theorem dX7_targetOf_97 : decode cX7_targetOf 97 = .ok (.ifCond .ge 7, 3) := by decide +kernel
theorem dX7_targetOf_100 : decode cX7_targetOf 100 = .ok (.iconst (-1), 1) := by decide +kernel
theorem dX7_targetOf_101 : decode cX7_targetOf 101 = .ok (.goto 11, 3) := by decide +kernel
theorem dX7_targetOf_104 : decode cX7_targetOf 104 = .ok (.iload 7, 2) := by decide +kernel
theorem dX7_targetOf_106 : decode cX7_targetOf 106 = .ok (.bipush 96, 2) := by decide +kernel
theorem dX7_targetOf_108 : decode cX7_targetOf 108 = .ok (.imul, 1) := by decide +kernel
theorem dX7_targetOf_109 : decode cX7_targetOf 109 = .ok (.iload 8, 2) := by decide +kernel
theorem dX7_targetOf_111 : decode cX7_targetOf 111 = .ok (.iadd, 1) := by decide +kernel
theorem dX7_targetOf_112 : decode cX7_targetOf 112 = .ok (.ireturn, 1) := by decide +kernel
theorem dX7_kindOf_0 : decode cX7_kindOf 0 = .ok (.getstatic 143, 3) := by decide +kernel
theorem dX7_kindOf_3 : decode cX7_kindOf 3 = .ok (.iload_n 0, 1) := by decide +kernel
theorem dX7_kindOf_4 : decode cX7_kindOf 4 = .ok (.invokestatic 35, 3) := by decide +kernel
theorem dX7_kindOf_7 : decode cX7_kindOf 7 = .ok (.istore_n 2, 1) := by decide +kernel
theorem dX7_kindOf_8 : decode cX7_kindOf 8 = .ok (.iload_n 2, 1) := by decide +kernel
theorem dX7_kindOf_9 : decode cX7_kindOf 9 = .ok (.ifCond .ge 7, 3) := by decide +kernel
theorem dX7_kindOf_12 : decode cX7_kindOf 12 = .ok (.iload_n 1, 1) := by decide +kernel
theorem dX7_kindOf_13 : decode cX7_kindOf 13 = .ok (.goto 4, 3) := by decide +kernel
theorem dX7_kindOf_16 : decode cX7_kindOf 16 = .ok (.iload_n 2, 1) := by decide +kernel
theorem dX7_kindOf_17 : decode cX7_kindOf 17 = .ok (.ireturn, 1) := by decide +kernel
theorem dX7_priceOf_0 : decode cX7_priceOf 0 = .ok (.aload_n 0, 1) := by decide +kernel
theorem dX7_priceOf_1 : decode cX7_priceOf 1 = .ok (.getfield 12, 3) := by decide +kernel
theorem dX7_priceOf_4 : decode cX7_priceOf 4 = .ok (.getfield 113, 3) := by decide +kernel
theorem dX7_priceOf_7 : decode cX7_priceOf 7 = .ok (.getstatic 137, 3) := by decide +kernel
theorem dX7_priceOf_10 : decode cX7_priceOf 10 = .ok (.iload_n 1, 1) := by decide +kernel
theorem dX7_priceOf_11 : decode cX7_priceOf 11 = .ok (.invokestatic 35, 3) := by decide +kernel
theorem dX7_priceOf_14 : decode cX7_priceOf 14 = .ok (.iload_n 1, 1) := by decide +kernel
theorem dX7_priceOf_15 : decode cX7_priceOf 15 = .ok (.iload_n 2, 1) := by decide +kernel
theorem dX7_priceOf_16 : decode cX7_priceOf 16 = .ok (.invokestatic 140, 3) := by decide +kernel
theorem dX7_priceOf_19 : decode cX7_priceOf 19 = .ok (.invokevirtual 117, 3) := by decide +kernel
theorem dX7_priceOf_22 : decode cX7_priceOf 22 = .ok (.ireturn, 1) := by decide +kernel
theorem dX7_trace_0 : decode cX7_trace 0 = .ok (.aload_n 3, 1) := by decide +kernel
theorem dX7_trace_1 : decode cX7_trace 1 = .ok (.iconst 0, 1) := by decide +kernel
theorem dX7_trace_2 : decode cX7_trace 2 = .ok (.putfield 146, 3) := by decide +kernel
theorem dX7_trace_5 : decode cX7_trace 5 = .ok (.aload_n 0, 1) := by decide +kernel
theorem dX7_trace_6 : decode cX7_trace 6 = .ok (.iload_n 2, 1) := by decide +kernel
theorem dX7_trace_7 : decode cX7_trace 7 = .ok (.putfield 151, 3) := by decide +kernel
theorem dX7_trace_10 : decode cX7_trace 10 = .ok (.iconst 0, 1) := by decide +kernel
theorem dX7_trace_11 : decode cX7_trace 11 = .ok (.istore 4, 2) := by decide +kernel
theorem dX7_trace_13 : decode cX7_trace 13 = .ok (.iload 4, 2) := by decide +kernel
theorem dX7_trace_15 : decode cX7_trace 15 = .ok (.sipush 1248, 3) := by decide +kernel
theorem dX7_trace_18 : decode cX7_trace 18 = .ok (.if_icmp .ge 113, 3) := by decide +kernel
theorem dX7_trace_21 : decode cX7_trace 21 = .ok (.aload_n 0, 1) := by decide +kernel
theorem dX7_trace_22 : decode cX7_trace 22 = .ok (.aload_n 1, 1) := by decide +kernel
theorem dX7_trace_23 : decode cX7_trace 23 = .ok (.getfield 154, 3) := by decide +kernel
theorem dX7_trace_26 : decode cX7_trace 26 = .ok (.aload_n 1, 1) := by decide +kernel
theorem dX7_trace_27 : decode cX7_trace 27 = .ok (.getfield 159, 3) := by decide +kernel
theorem dX7_trace_30 : decode cX7_trace 30 = .ok (.invokevirtual 90, 3) := by decide +kernel
theorem dX7_trace_33 : decode cX7_trace 33 = .ok (.ifCond .ne 98, 3) := by decide +kernel
theorem dX7_trace_36 : decode cX7_trace 36 = .ok (.aload_n 0, 1) := by decide +kernel
theorem dX7_trace_37 : decode cX7_trace 37 = .ok (.aload_n 1, 1) := by decide +kernel
theorem dX7_trace_38 : decode cX7_trace 38 = .ok (.getfield 154, 3) := by decide +kernel
theorem dX7_trace_41 : decode cX7_trace 41 = .ok (.aload_n 1, 1) := by decide +kernel
theorem dX7_trace_42 : decode cX7_trace 42 = .ok (.getfield 159, 3) := by decide +kernel
theorem dX7_trace_45 : decode cX7_trace 45 = .ok (.invokevirtual 162, 3) := by decide +kernel
theorem dX7_trace_48 : decode cX7_trace 48 = .ok (.istore 5, 2) := by decide +kernel
theorem dX7_trace_50 : decode cX7_trace 50 = .ok (.iload 5, 2) := by decide +kernel
theorem dX7_trace_52 : decode cX7_trace 52 = .ok (.ifCond .ge 4, 3) := by decide +kernel
theorem dX7_trace_55 : decode cX7_trace 55 = .ok (.return_, 1) := by decide +kernel
theorem dX7_trace_56 : decode cX7_trace 56 = .ok (.aload_n 0, 1) := by decide +kernel
theorem dX7_trace_57 : decode cX7_trace 57 = .ok (.getfield 12, 3) := by decide +kernel
theorem dX7_trace_60 : decode cX7_trace 60 = .ok (.getfield 59, 3) := by decide +kernel
theorem dX7_trace_63 : decode cX7_trace 63 = .ok (.aload_n 1, 1) := by decide +kernel
theorem dX7_trace_64 : decode cX7_trace 64 = .ok (.getfield 154, 3) := by decide +kernel
theorem dX7_trace_67 : decode cX7_trace 67 = .ok (.invokevirtual 110, 3) := by decide +kernel
theorem dX7_trace_70 : decode cX7_trace 70 = .ok (.istore 6, 2) := by decide +kernel
theorem dX7_trace_72 : decode cX7_trace 72 = .ok (.aload_n 3, 1) := by decide +kernel
theorem dX7_trace_73 : decode cX7_trace 73 = .ok (.getstatic 137, 3) := by decide +kernel
theorem dX7_trace_76 : decode cX7_trace 76 = .ok (.iload 5, 2) := by decide +kernel
theorem dX7_trace_78 : decode cX7_trace 78 = .ok (.invokestatic 35, 3) := by decide +kernel
theorem dX7_trace_81 : decode cX7_trace 81 = .ok (.iload 5, 2) := by decide +kernel
theorem dX7_trace_83 : decode cX7_trace 83 = .ok (.iload 6, 2) := by decide +kernel
theorem dX7_trace_85 : decode cX7_trace 85 = .ok (.invokestatic 140, 3) := by decide +kernel
theorem dX7_trace_88 : decode cX7_trace 88 = .ok (.invokevirtual 165, 3) := by decide +kernel
theorem dX7_trace_91 : decode cX7_trace 91 = .ok (.aload_n 0, 1) := by decide +kernel
theorem dX7_trace_92 : decode cX7_trace 92 = .ok (.aload_n 1, 1) := by decide +kernel
theorem dX7_trace_93 : decode cX7_trace 93 = .ok (.getfield 154, 3) := by decide +kernel
theorem dX7_trace_96 : decode cX7_trace 96 = .ok (.aload_n 1, 1) := by decide +kernel
theorem dX7_trace_97 : decode cX7_trace 97 = .ok (.getfield 159, 3) := by decide +kernel
theorem dX7_trace_100 : decode cX7_trace 100 = .ok (.iload 5, 2) := by decide +kernel
theorem dX7_trace_102 : decode cX7_trace 102 = .ok (.invokevirtual 168, 3) := by decide +kernel
theorem dX7_trace_105 : decode cX7_trace 105 = .ok (.istore 7, 2) := by decide +kernel
theorem dX7_trace_107 : decode cX7_trace 107 = .ok (.aload_n 1, 1) := by decide +kernel
theorem dX7_trace_108 : decode cX7_trace 108 = .ok (.iload 7, 2) := by decide +kernel
theorem dX7_trace_110 : decode cX7_trace 110 = .ok (.bipush 96, 2) := by decide +kernel
theorem dX7_trace_112 : decode cX7_trace 112 = .ok (.idiv, 1) := by decide +kernel
theorem dX7_trace_113 : decode cX7_trace 113 = .ok (.putfield 154, 3) := by decide +kernel
theorem dX7_trace_116 : decode cX7_trace 116 = .ok (.aload_n 1, 1) := by decide +kernel
theorem dX7_trace_117 : decode cX7_trace 117 = .ok (.iload 7, 2) := by decide +kernel
theorem dX7_trace_119 : decode cX7_trace 119 = .ok (.bipush 96, 2) := by decide +kernel
theorem dX7_trace_121 : decode cX7_trace 121 = .ok (.irem, 1) := by decide +kernel
theorem dX7_trace_122 : decode cX7_trace 122 = .ok (.putfield 159, 3) := by decide +kernel
theorem dX7_trace_125 : decode cX7_trace 125 = .ok (.iinc 4 1, 3) := by decide +kernel
theorem dX7_trace_128 : decode cX7_trace 128 = .ok (.goto (-115), 3) := by decide +kernel
theorem dX7_trace_131 : decode cX7_trace 131 = .ok (.return_, 1) := by decide +kernel
theorem dX7_pickMove_0 : decode cX7_pickMove 0 = .ok (.aload_n 0, 1) := by decide +kernel
theorem dX7_pickMove_1 : decode cX7_pickMove 1 = .ok (.iload_n 1, 1) := by decide +kernel
theorem dX7_pickMove_2 : decode cX7_pickMove 2 = .ok (.iload_n 2, 1) := by decide +kernel
theorem dX7_pickMove_3 : decode cX7_pickMove 3 = .ok (.invokevirtual 172, 3) := by decide +kernel
theorem dX7_pickMove_6 : decode cX7_pickMove 6 = .ok (.istore_n 3, 1) := by decide +kernel
theorem dX7_pickMove_7 : decode cX7_pickMove 7 = .ok (.aload_n 0, 1) := by decide +kernel
theorem dX7_pickMove_8 : decode cX7_pickMove 8 = .ok (.getfield 12, 3) := by decide +kernel
theorem dX7_pickMove_11 : decode cX7_pickMove 11 = .ok (.getfield 59, 3) := by decide +kernel
theorem dX7_pickMove_14 : decode cX7_pickMove 14 = .ok (.iload_n 1, 1) := by decide +kernel
theorem dX7_pickMove_15 : decode cX7_pickMove 15 = .ok (.invokevirtual 110, 3) := by decide +kernel
theorem dX7_pickMove_18 : decode cX7_pickMove 18 = .ok (.istore 4, 2) := by decide +kernel
theorem dX7_pickMove_20 : decode cX7_pickMove 20 = .ok (.aload_n 0, 1) := by decide +kernel
theorem dX7_pickMove_21 : decode cX7_pickMove 21 = .ok (.invokevirtual 175, 3) := by decide +kernel
theorem dX7_pickMove_24 : decode cX7_pickMove 24 = .ok (.istore 5, 2) := by decide +kernel
theorem dX7_pickMove_26 : decode cX7_pickMove 26 = .ok (.iload 5, 2) := by decide +kernel
theorem dX7_pickMove_28 : decode cX7_pickMove 28 = .ok (.bipush 14, 2) := by decide +kernel
theorem dX7_pickMove_30 : decode cX7_pickMove 30 = .ok (.if_icmp .ge 80, 3) := by decide +kernel
theorem dX7_pickMove_33 : decode cX7_pickMove 33 = .ok (.aload_n 0, 1) := by decide +kernel
theorem dX7_pickMove_34 : decode cX7_pickMove 34 = .ok (.iload_n 1, 1) := by decide +kernel
theorem dX7_pickMove_35 : decode cX7_pickMove 35 = .ok (.iload_n 2, 1) := by decide +kernel
theorem dX7_pickMove_36 : decode cX7_pickMove 36 = .ok (.iload 5, 2) := by decide +kernel
theorem dX7_pickMove_38 : decode cX7_pickMove 38 = .ok (.invokevirtual 168, 3) := by decide +kernel
theorem dX7_pickMove_41 : decode cX7_pickMove 41 = .ok (.istore 6, 2) := by decide +kernel
theorem dX7_pickMove_43 : decode cX7_pickMove 43 = .ok (.iload 6, 2) := by decide +kernel
theorem dX7_pickMove_45 : decode cX7_pickMove 45 = .ok (.ifCond .lt 59, 3) := by decide +kernel
theorem dX7_pickMove_48 : decode cX7_pickMove 48 = .ok (.aload_n 0, 1) := by decide +kernel
theorem dX7_pickMove_49 : decode cX7_pickMove 49 = .ok (.iload 5, 2) := by decide +kernel
theorem dX7_pickMove_51 : decode cX7_pickMove 51 = .ok (.iload 4, 2) := by decide +kernel
theorem dX7_pickMove_53 : decode cX7_pickMove 53 = .ok (.invokevirtual 179, 3) := by decide +kernel
theorem dX7_pickMove_56 : decode cX7_pickMove 56 = .ok (.aload_n 0, 1) := by decide +kernel
theorem dX7_pickMove_57 : decode cX7_pickMove 57 = .ok (.getfield 25, 3) := by decide +kernel
theorem dX7_pickMove_60 : decode cX7_pickMove 60 = .ok (.iload 6, 2) := by decide +kernel
theorem dX7_pickMove_62 : decode cX7_pickMove 62 = .ok (.invokestatic 35, 3) := by decide +kernel
theorem dX7_pickMove_65 : decode cX7_pickMove 65 = .ok (.iadd, 1) := by decide +kernel
theorem dX7_pickMove_66 : decode cX7_pickMove 66 = .ok (.iload_n 3, 1) := by decide +kernel
theorem dX7_pickMove_67 : decode cX7_pickMove 67 = .ok (.if_icmp .ne 37, 3) := by decide +kernel
theorem dX7_pickMove_70 : decode cX7_pickMove 70 = .ok (.aload_n 0, 1) := by decide +kernel
theorem dX7_pickMove_71 : decode cX7_pickMove 71 = .ok (.getfield 32, 3) := by decide +kernel
theorem dX7_pickMove_74 : decode cX7_pickMove 74 = .ok (.iload 6, 2) := by decide +kernel
theorem dX7_pickMove_76 : decode cX7_pickMove 76 = .ok (.invokestatic 35, 3) := by decide +kernel
theorem dX7_pickMove_79 : decode cX7_pickMove 79 = .ok (.istore 7, 2) := by decide +kernel
theorem dX7_pickMove_81 : decode cX7_pickMove 81 = .ok (.aload_n 0, 1) := by decide +kernel
theorem dX7_pickMove_82 : decode cX7_pickMove 82 = .ok (.getfield 151, 3) := by decide +kernel
theorem dX7_pickMove_85 : decode cX7_pickMove 85 = .ok (.iload 7, 2) := by decide +kernel
theorem dX7_pickMove_87 : decode cX7_pickMove 87 = .ok (.if_icmp .ge 6, 3) := by decide +kernel
theorem dX7_pickMove_90 : decode cX7_pickMove 90 = .ok (.iload 5, 2) := by decide +kernel
theorem dX7_pickMove_92 : decode cX7_pickMove 92 = .ok (.ireturn, 1) := by decide +kernel
theorem dX7_pickMove_93 : decode cX7_pickMove 93 = .ok (.aload_n 0, 1) := by decide +kernel
theorem dX7_pickMove_94 : decode cX7_pickMove 94 = .ok (.dup, 1) := by decide +kernel
theorem dX7_pickMove_95 : decode cX7_pickMove 95 = .ok (.getfield 151, 3) := by decide +kernel
theorem dX7_pickMove_98 : decode cX7_pickMove 98 = .ok (.iload 7, 2) := by decide +kernel
theorem dX7_pickMove_100 : decode cX7_pickMove 100 = .ok (.isub, 1) := by decide +kernel
theorem dX7_pickMove_101 : decode cX7_pickMove 101 = .ok (.putfield 151, 3) := by decide +kernel
theorem dX7_pickMove_104 : decode cX7_pickMove 104 = .ok (.iinc 5 1, 3) := by decide +kernel
theorem dX7_pickMove_107 : decode cX7_pickMove 107 = .ok (.goto (-81), 3) := by decide +kernel
theorem dX7_pickMove_110 : decode cX7_pickMove 110 = .ok (.iconst (-1), 1) := by decide +kernel
theorem dX7_pickMove_111 : decode cX7_pickMove 111 = .ok (.ireturn, 1) := by decide +kernel
theorem dX8_init_0 : decode cX8_init 0 = .ok (.aload_n 0, 1) := by decide +kernel
theorem dX8_init_1 : decode cX8_init 1 = .ok (.invokespecial 1, 3) := by decide +kernel
theorem dX8_init_4 : decode cX8_init 4 = .ok (.aload_n 0, 1) := by decide +kernel
theorem dX8_init_5 : decode cX8_init 5 = .ok (.new 7, 3) := by decide +kernel
theorem dX8_init_8 : decode cX8_init 8 = .ok (.dup, 1) := by decide +kernel
theorem dX8_init_9 : decode cX8_init 9 = .ok (.invokespecial 9, 3) := by decide +kernel
theorem dX8_init_12 : decode cX8_init 12 = .ok (.putfield 10, 3) := by decide +kernel
theorem dX8_init_15 : decode cX8_init 15 = .ok (.aload_n 0, 1) := by decide +kernel
theorem dX8_init_16 : decode cX8_init 16 = .ok (.new 16, 3) := by decide +kernel
theorem dX8_init_19 : decode cX8_init 19 = .ok (.dup, 1) := by decide +kernel
theorem dX8_init_20 : decode cX8_init 20 = .ok (.invokespecial 18, 3) := by decide +kernel
theorem dX8_init_23 : decode cX8_init 23 = .ok (.putfield 19, 3) := by decide +kernel
theorem dX8_init_26 : decode cX8_init 26 = .ok (.aload_n 0, 1) := by decide +kernel
theorem dX8_init_27 : decode cX8_init 27 = .ok (.new 23, 3) := by decide +kernel
theorem dX8_init_30 : decode cX8_init 30 = .ok (.dup, 1) := by decide +kernel
theorem dX8_init_31 : decode cX8_init 31 = .ok (.invokespecial 25, 3) := by decide +kernel
theorem dX8_init_34 : decode cX8_init 34 = .ok (.putfield 26, 3) := by decide +kernel
theorem dX8_init_37 : decode cX8_init 37 = .ok (.return_, 1) := by decide +kernel
theorem dX8_clear_0 : decode cX8_clear 0 = .ok (.aload_n 0, 1) := by decide +kernel
theorem dX8_clear_1 : decode cX8_clear 1 = .ok (.getfield 10, 3) := by decide +kernel
theorem dX8_clear_4 : decode cX8_clear 4 = .ok (.iload_n 1, 1) := by decide +kernel
theorem dX8_clear_5 : decode cX8_clear 5 = .ok (.invokevirtual 30, 3) := by decide +kernel
theorem dX8_clear_8 : decode cX8_clear 8 = .ok (.aload_n 0, 1) := by decide +kernel
theorem dX8_clear_9 : decode cX8_clear 9 = .ok (.getfield 19, 3) := by decide +kernel
theorem dX8_clear_12 : decode cX8_clear 12 = .ok (.invokevirtual 34, 3) := by decide +kernel
theorem dX8_clear_15 : decode cX8_clear 15 = .ok (.aload_n 0, 1) := by decide +kernel
theorem dX8_clear_16 : decode cX8_clear 16 = .ok (.getfield 26, 3) := by decide +kernel
theorem dX8_clear_19 : decode cX8_clear 19 = .ok (.iconst 0, 1) := by decide +kernel
theorem dX8_clear_20 : decode cX8_clear 20 = .ok (.putfield 37, 3) := by decide +kernel
theorem dX8_clear_23 : decode cX8_clear 23 = .ok (.return_, 1) := by decide +kernel
theorem dX8_copyFrom_0 : decode cX8_copyFrom 0 = .ok (.aload_n 0, 1) := by decide +kernel
theorem dX8_copyFrom_1 : decode cX8_copyFrom 1 = .ok (.getfield 10, 3) := by decide +kernel
theorem dX8_copyFrom_4 : decode cX8_copyFrom 4 = .ok (.aload_n 1, 1) := by decide +kernel
theorem dX8_copyFrom_5 : decode cX8_copyFrom 5 = .ok (.getfield 10, 3) := by decide +kernel
theorem dX8_copyFrom_8 : decode cX8_copyFrom 8 = .ok (.invokevirtual 41, 3) := by decide +kernel
theorem dX8_copyFrom_11 : decode cX8_copyFrom 11 = .ok (.aload_n 0, 1) := by decide +kernel
theorem dX8_copyFrom_12 : decode cX8_copyFrom 12 = .ok (.getfield 19, 3) := by decide +kernel
theorem dX8_copyFrom_15 : decode cX8_copyFrom 15 = .ok (.aload_n 1, 1) := by decide +kernel
theorem dX8_copyFrom_16 : decode cX8_copyFrom 16 = .ok (.getfield 19, 3) := by decide +kernel
theorem dX8_copyFrom_19 : decode cX8_copyFrom 19 = .ok (.invokevirtual 45, 3) := by decide +kernel
theorem dX8_copyFrom_22 : decode cX8_copyFrom 22 = .ok (.aload_n 0, 1) := by decide +kernel
theorem dX8_copyFrom_23 : decode cX8_copyFrom 23 = .ok (.getfield 26, 3) := by decide +kernel
theorem dX8_copyFrom_26 : decode cX8_copyFrom 26 = .ok (.aload_n 1, 1) := by decide +kernel
theorem dX8_copyFrom_27 : decode cX8_copyFrom 27 = .ok (.getfield 26, 3) := by decide +kernel
theorem dX8_copyFrom_30 : decode cX8_copyFrom 30 = .ok (.invokevirtual 48, 3) := by decide +kernel
theorem dX8_copyFrom_33 : decode cX8_copyFrom 33 = .ok (.return_, 1) := by decide +kernel
theorem dX9_init_0 : decode cX9_init 0 = .ok (.aload_n 0, 1) := by decide +kernel
theorem dX9_init_1 : decode cX9_init 1 = .ok (.invokespecial 3, 3) := by decide +kernel
theorem dX9_init_4 : decode cX9_init 4 = .ok (.aload_n 0, 1) := by decide +kernel
theorem dX9_init_5 : decode cX9_init 5 = .ok (.bipush 12, 2) := by decide +kernel
theorem dX9_init_7 : decode cX9_init 7 = .ok (.newarray .int, 2) := by decide +kernel
theorem dX9_init_9 : decode cX9_init 9 = .ok (.putfield 9, 3) := by decide +kernel
theorem dX9_init_12 : decode cX9_init 12 = .ok (.return_, 1) := by decide +kernel
theorem dX9_copyFrom_0 : decode cX9_copyFrom 0 = .ok (.aload_n 0, 1) := by decide +kernel
theorem dX9_copyFrom_1 : decode cX9_copyFrom 1 = .ok (.aload_n 1, 1) := by decide +kernel
theorem dX9_copyFrom_2 : decode cX9_copyFrom 2 = .ok (.getfield 15, 3) := by decide +kernel
theorem dX9_copyFrom_5 : decode cX9_copyFrom 5 = .ok (.putfield 15, 3) := by decide +kernel
theorem dX9_copyFrom_8 : decode cX9_copyFrom 8 = .ok (.aload_n 1, 1) := by decide +kernel
theorem dX9_copyFrom_9 : decode cX9_copyFrom 9 = .ok (.getfield 9, 3) := by decide +kernel
theorem dX9_copyFrom_12 : decode cX9_copyFrom 12 = .ok (.aload_n 0, 1) := by decide +kernel
theorem dX9_copyFrom_13 : decode cX9_copyFrom 13 = .ok (.getfield 9, 3) := by decide +kernel
theorem dX9_copyFrom_16 : decode cX9_copyFrom 16 = .ok (.invokestatic 19, 3) := by decide +kernel
theorem dX9_copyFrom_19 : decode cX9_copyFrom 19 = .ok (.return_, 1) := by decide +kernel
theorem dX9_kindAt_0 : decode cX9_kindAt 0 = .ok (.iload_n 1, 1) := by decide +kernel
theorem dX9_kindAt_1 : decode cX9_kindAt 1 = .ok (.ifCond .lt 29, 3) := by decide +kernel
theorem dX9_kindAt_4 : decode cX9_kindAt 4 = .ok (.iload_n 1, 1) := by decide +kernel
theorem dX9_kindAt_5 : decode cX9_kindAt 5 = .ok (.aload_n 0, 1) := by decide +kernel
theorem dX9_kindAt_6 : decode cX9_kindAt 6 = .ok (.getfield 15, 3) := by decide +kernel
theorem dX9_kindAt_9 : decode cX9_kindAt 9 = .ok (.if_icmp .ge 21, 3) := by decide +kernel
theorem dX9_kindAt_12 : decode cX9_kindAt 12 = .ok (.iload_n 1, 1) := by decide +kernel
theorem dX9_kindAt_13 : decode cX9_kindAt 13 = .ok (.aload_n 0, 1) := by decide +kernel
theorem dX9_kindAt_14 : decode cX9_kindAt 14 = .ok (.getfield 9, 3) := by decide +kernel
theorem dX9_kindAt_17 : decode cX9_kindAt 17 = .ok (.arraylength, 1) := by decide +kernel
theorem dX9_kindAt_18 : decode cX9_kindAt 18 = .ok (.if_icmp .ge 12, 3) := by decide +kernel
theorem dX9_kindAt_21 : decode cX9_kindAt 21 = .ok (.aload_n 0, 1) := by decide +kernel
theorem dX9_kindAt_22 : decode cX9_kindAt 22 = .ok (.getfield 9, 3) := by decide +kernel
theorem dX9_kindAt_25 : decode cX9_kindAt 25 = .ok (.iload_n 1, 1) := by decide +kernel
theorem dX9_kindAt_26 : decode cX9_kindAt 26 = .ok (.iaload, 1) := by decide +kernel
theorem dX9_kindAt_27 : decode cX9_kindAt 27 = .ok (.goto 4, 3) := by decide +kernel
theorem dX9_kindAt_30 : decode cX9_kindAt 30 = .ok (.iconst (-1), 1) := by decide +kernel
theorem dX9_kindAt_31 : decode cX9_kindAt 31 = .ok (.ireturn, 1) := by decide +kernel
theorem dX9_add_0 : decode cX9_add 0 = .ok (.aload_n 0, 1) := by decide +kernel
theorem dX9_add_1 : decode cX9_add 1 = .ok (.getfield 15, 3) := by decide +kernel
theorem dX9_add_4 : decode cX9_add 4 = .ok (.bipush 12, 2) := by decide +kernel
theorem dX9_add_6 : decode cX9_add 6 = .ok (.if_icmp .lt 4, 3) := by decide +kernel
theorem dX9_add_9 : decode cX9_add 9 = .ok (.return_, 1) := by decide +kernel
theorem dX9_add_10 : decode cX9_add 10 = .ok (.aload_n 0, 1) := by decide +kernel
theorem dX9_add_11 : decode cX9_add 11 = .ok (.getfield 15, 3) := by decide +kernel
theorem dX9_add_14 : decode cX9_add 14 = .ok (.istore_n 3, 1) := by decide +kernel
theorem dX9_add_15 : decode cX9_add 15 = .ok (.iload_n 3, 1) := by decide +kernel
theorem dX9_add_16 : decode cX9_add 16 = .ok (.iload_n 1, 1) := by decide +kernel
theorem dX9_add_17 : decode cX9_add 17 = .ok (.if_icmp .le 27, 3) := by decide +kernel
theorem dX9_add_20 : decode cX9_add 20 = .ok (.aload_n 0, 1) := by decide +kernel
theorem dX9_add_21 : decode cX9_add 21 = .ok (.getfield 9, 3) := by decide +kernel
theorem dX9_add_24 : decode cX9_add 24 = .ok (.iload_n 3, 1) := by decide +kernel
theorem dX9_add_25 : decode cX9_add 25 = .ok (.aload_n 0, 1) := by decide +kernel
theorem dX9_add_26 : decode cX9_add 26 = .ok (.getfield 9, 3) := by decide +kernel
theorem dX9_add_29 : decode cX9_add 29 = .ok (.iload_n 3, 1) := by decide +kernel
theorem dX9_add_30 : decode cX9_add 30 = .ok (.iconst 1, 1) := by decide +kernel
theorem dX9_add_31 : decode cX9_add 31 = .ok (.isub, 1) := by decide +kernel
theorem dX9_add_32 : decode cX9_add 32 = .ok (.invokestatic 23, 3) := by decide +kernel
theorem dX9_add_35 : decode cX9_add 35 = .ok (.invokestatic 27, 3) := by decide +kernel
theorem dX9_add_38 : decode cX9_add 38 = .ok (.iinc 3 (-1), 3) := by decide +kernel
theorem dX9_add_41 : decode cX9_add 41 = .ok (.goto (-26), 3) := by decide +kernel
theorem dX9_add_44 : decode cX9_add 44 = .ok (.aload_n 0, 1) := by decide +kernel
theorem dX9_add_45 : decode cX9_add 45 = .ok (.getfield 9, 3) := by decide +kernel
theorem dX9_add_48 : decode cX9_add 48 = .ok (.iload_n 1, 1) := by decide +kernel
theorem dX9_add_49 : decode cX9_add 49 = .ok (.iload_n 2, 1) := by decide +kernel
theorem dX9_add_50 : decode cX9_add 50 = .ok (.invokestatic 27, 3) := by decide +kernel
theorem dX9_add_53 : decode cX9_add 53 = .ok (.aload_n 0, 1) := by decide +kernel
theorem dX9_add_54 : decode cX9_add 54 = .ok (.dup, 1) := by decide +kernel
theorem dX9_add_55 : decode cX9_add 55 = .ok (.getfield 15, 3) := by decide +kernel
theorem dX9_add_58 : decode cX9_add 58 = .ok (.iconst 1, 1) := by decide +kernel
theorem dX9_add_59 : decode cX9_add 59 = .ok (.iadd, 1) := by decide +kernel
theorem dX9_add_60 : decode cX9_add 60 = .ok (.putfield 15, 3) := by decide +kernel
theorem dX9_add_63 : decode cX9_add 63 = .ok (.return_, 1) := by decide +kernel
theorem dX9_remove_0 : decode cX9_remove 0 = .ok (.aload_n 0, 1) := by decide +kernel
theorem dX9_remove_1 : decode cX9_remove 1 = .ok (.iload_n 1, 1) := by decide +kernel
theorem dX9_remove_2 : decode cX9_remove 2 = .ok (.invokevirtual 31, 3) := by decide +kernel
theorem dX9_remove_5 : decode cX9_remove 5 = .ok (.istore_n 2, 1) := by decide +kernel
theorem dX9_remove_6 : decode cX9_remove 6 = .ok (.iload_n 1, 1) := by decide +kernel
theorem dX9_remove_7 : decode cX9_remove 7 = .ok (.istore_n 3, 1) := by decide +kernel
theorem dX9_remove_8 : decode cX9_remove 8 = .ok (.iload_n 3, 1) := by decide +kernel
theorem dX9_remove_9 : decode cX9_remove 9 = .ok (.aload_n 0, 1) := by decide +kernel
theorem dX9_remove_10 : decode cX9_remove 10 = .ok (.getfield 15, 3) := by decide +kernel
theorem dX9_remove_13 : decode cX9_remove 13 = .ok (.iconst 1, 1) := by decide +kernel
theorem dX9_remove_14 : decode cX9_remove 14 = .ok (.isub, 1) := by decide +kernel
theorem dX9_remove_15 : decode cX9_remove 15 = .ok (.if_icmp .ge 27, 3) := by decide +kernel
theorem dX9_remove_18 : decode cX9_remove 18 = .ok (.aload_n 0, 1) := by decide +kernel
theorem dX9_remove_19 : decode cX9_remove 19 = .ok (.getfield 9, 3) := by decide +kernel
theorem dX9_remove_22 : decode cX9_remove 22 = .ok (.iload_n 3, 1) := by decide +kernel
theorem dX9_remove_23 : decode cX9_remove 23 = .ok (.aload_n 0, 1) := by decide +kernel
theorem dX9_remove_24 : decode cX9_remove 24 = .ok (.getfield 9, 3) := by decide +kernel
theorem dX9_remove_27 : decode cX9_remove 27 = .ok (.iload_n 3, 1) := by decide +kernel
theorem dX9_remove_28 : decode cX9_remove 28 = .ok (.iconst 1, 1) := by decide +kernel
theorem dX9_remove_29 : decode cX9_remove 29 = .ok (.iadd, 1) := by decide +kernel
theorem dX9_remove_30 : decode cX9_remove 30 = .ok (.invokestatic 23, 3) := by decide +kernel
theorem dX9_remove_33 : decode cX9_remove 33 = .ok (.invokestatic 27, 3) := by decide +kernel
theorem dX9_remove_36 : decode cX9_remove 36 = .ok (.iinc 3 1, 3) := by decide +kernel
theorem dX9_remove_39 : decode cX9_remove 39 = .ok (.goto (-31), 3) := by decide +kernel
theorem dX9_remove_42 : decode cX9_remove 42 = .ok (.aload_n 0, 1) := by decide +kernel
theorem dX9_remove_43 : decode cX9_remove 43 = .ok (.dup, 1) := by decide +kernel
theorem dX9_remove_44 : decode cX9_remove 44 = .ok (.getfield 15, 3) := by decide +kernel
theorem dX9_remove_47 : decode cX9_remove 47 = .ok (.iconst 1, 1) := by decide +kernel
theorem dX9_remove_48 : decode cX9_remove 48 = .ok (.isub, 1) := by decide +kernel
theorem dX9_remove_49 : decode cX9_remove 49 = .ok (.putfield 15, 3) := by decide +kernel
theorem dX9_remove_52 : decode cX9_remove 52 = .ok (.iload_n 2, 1) := by decide +kernel
theorem dX9_remove_53 : decode cX9_remove 53 = .ok (.ireturn, 1) := by decide +kernel
theorem dX9_takeConsumed_0 : decode cX9_takeConsumed 0 = .ok (.aload_n 0, 1) := by decide +kernel
theorem dX9_takeConsumed_1 : decode cX9_takeConsumed 1 = .ok (.iconst 0, 1) := by decide +kernel
theorem dX9_takeConsumed_2 : decode cX9_takeConsumed 2 = .ok (.putfield 15, 3) := by decide +kernel
theorem dX9_takeConsumed_5 : decode cX9_takeConsumed 5 = .ok (.iconst 0, 1) := by decide +kernel
theorem dX9_takeConsumed_6 : decode cX9_takeConsumed 6 = .ok (.istore_n 2, 1) := by decide +kernel
theorem dX9_takeConsumed_7 : decode cX9_takeConsumed 7 = .ok (.iload_n 2, 1) := by decide +kernel
theorem dX9_takeConsumed_8 : decode cX9_takeConsumed 8 = .ok (.aload_n 1, 1) := by decide +kernel
theorem dX9_takeConsumed_9 : decode cX9_takeConsumed 9 = .ok (.getfield 35, 3) := by decide +kernel
theorem dX9_takeConsumed_12 : decode cX9_takeConsumed 12 = .ok (.if_icmp .ge 31, 3) := by decide +kernel
theorem dX9_takeConsumed_15 : decode cX9_takeConsumed 15 = .ok (.aload_n 1, 1) := by decide +kernel
theorem dX9_takeConsumed_16 : decode cX9_takeConsumed 16 = .ok (.iload_n 2, 1) := by decide +kernel
theorem dX9_takeConsumed_17 : decode cX9_takeConsumed 17 = .ok (.invokevirtual 40, 3) := by decide +kernel
theorem dX9_takeConsumed_20 : decode cX9_takeConsumed 20 = .ok (.iconst 2, 1) := by decide +kernel
theorem dX9_takeConsumed_21 : decode cX9_takeConsumed 21 = .ok (.if_icmp .eq 16, 3) := by decide +kernel
theorem dX9_takeConsumed_24 : decode cX9_takeConsumed 24 = .ok (.aload_n 0, 1) := by decide +kernel
theorem dX9_takeConsumed_25 : decode cX9_takeConsumed 25 = .ok (.aload_n 0, 1) := by decide +kernel
theorem dX9_takeConsumed_26 : decode cX9_takeConsumed 26 = .ok (.getfield 15, 3) := by decide +kernel
theorem dX9_takeConsumed_29 : decode cX9_takeConsumed 29 = .ok (.aload_n 1, 1) := by decide +kernel
theorem dX9_takeConsumed_30 : decode cX9_takeConsumed 30 = .ok (.iload_n 2, 1) := by decide +kernel
theorem dX9_takeConsumed_31 : decode cX9_takeConsumed 31 = .ok (.invokevirtual 43, 3) := by decide +kernel
theorem dX9_takeConsumed_34 : decode cX9_takeConsumed 34 = .ok (.invokevirtual 44, 3) := by decide +kernel
theorem dX9_takeConsumed_37 : decode cX9_takeConsumed 37 = .ok (.iinc 2 1, 3) := by decide +kernel
theorem dX9_takeConsumed_40 : decode cX9_takeConsumed 40 = .ok (.goto (-33), 3) := by decide +kernel
theorem dX9_takeConsumed_43 : decode cX9_takeConsumed 43 = .ok (.return_, 1) := by decide +kernel
theorem dX10_init_0 : decode cX10_init 0 = .ok (.aload_n 0, 1) := by decide +kernel
theorem dX10_init_1 : decode cX10_init 1 = .ok (.invokespecial 3, 3) := by decide +kernel
theorem dX10_init_4 : decode cX10_init 4 = .ok (.aload_n 0, 1) := by decide +kernel
theorem dX10_init_5 : decode cX10_init 5 = .ok (.new 9, 3) := by decide +kernel
theorem dX10_init_8 : decode cX10_init 8 = .ok (.dup, 1) := by decide +kernel
theorem dX10_init_9 : decode cX10_init 9 = .ok (.invokespecial 11, 3) := by decide +kernel
theorem dX10_init_12 : decode cX10_init 12 = .ok (.putfield 12, 3) := by decide +kernel
theorem dX10_init_15 : decode cX10_init 15 = .ok (.aload_n 0, 1) := by decide +kernel
theorem dX10_init_16 : decode cX10_init 16 = .ok (.new 16, 3) := by decide +kernel
theorem dX10_init_19 : decode cX10_init 19 = .ok (.dup, 1) := by decide +kernel
theorem dX10_init_20 : decode cX10_init 20 = .ok (.invokespecial 18, 3) := by decide +kernel
theorem dX10_init_23 : decode cX10_init 23 = .ok (.putfield 19, 3) := by decide +kernel
theorem dX10_init_26 : decode cX10_init 26 = .ok (.aload_n 0, 1) := by decide +kernel
theorem dX10_init_27 : decode cX10_init 27 = .ok (.new 23, 3) := by decide +kernel
theorem dX10_init_30 : decode cX10_init 30 = .ok (.dup, 1) := by decide +kernel
theorem dX10_init_31 : decode cX10_init 31 = .ok (.invokespecial 25, 3) := by decide +kernel
theorem dX10_init_34 : decode cX10_init 34 = .ok (.putfield 26, 3) := by decide +kernel
theorem dX10_init_37 : decode cX10_init 37 = .ok (.aload_n 0, 1) := by decide +kernel
theorem dX10_init_38 : decode cX10_init 38 = .ok (.new 30, 3) := by decide +kernel
theorem dX10_init_41 : decode cX10_init 41 = .ok (.dup, 1) := by decide +kernel
theorem dX10_init_42 : decode cX10_init 42 = .ok (.invokespecial 32, 3) := by decide +kernel
theorem dX10_init_45 : decode cX10_init 45 = .ok (.putfield 33, 3) := by decide +kernel
theorem dX10_init_48 : decode cX10_init 48 = .ok (.aload_n 0, 1) := by decide +kernel
theorem dX10_init_49 : decode cX10_init 49 = .ok (.new 30, 3) := by decide +kernel
theorem dX10_init_52 : decode cX10_init 52 = .ok (.dup, 1) := by decide +kernel
theorem dX10_init_53 : decode cX10_init 53 = .ok (.invokespecial 32, 3) := by decide +kernel
theorem dX10_init_56 : decode cX10_init 56 = .ok (.putfield 37, 3) := by decide +kernel
theorem dX10_init_59 : decode cX10_init 59 = .ok (.aload_n 0, 1) := by decide +kernel
theorem dX10_init_60 : decode cX10_init 60 = .ok (.new 40, 3) := by decide +kernel
theorem dX10_init_63 : decode cX10_init 63 = .ok (.dup, 1) := by decide +kernel
theorem dX10_init_64 : decode cX10_init 64 = .ok (.invokespecial 42, 3) := by decide +kernel
theorem dX10_init_67 : decode cX10_init 67 = .ok (.putfield 43, 3) := by decide +kernel
theorem dX10_init_70 : decode cX10_init 70 = .ok (.aload_n 0, 1) := by decide +kernel
theorem dX10_init_71 : decode cX10_init 71 = .ok (.new 47, 3) := by decide +kernel
theorem dX10_init_74 : decode cX10_init 74 = .ok (.dup, 1) := by decide +kernel
theorem dX10_init_75 : decode cX10_init 75 = .ok (.invokespecial 49, 3) := by decide +kernel
theorem dX10_init_78 : decode cX10_init 78 = .ok (.putfield 50, 3) := by decide +kernel
theorem dX10_init_81 : decode cX10_init 81 = .ok (.aload_n 0, 1) := by decide +kernel
theorem dX10_init_82 : decode cX10_init 82 = .ok (.getfield 12, 3) := by decide +kernel
theorem dX10_init_85 : decode cX10_init 85 = .ok (.getfield 54, 3) := by decide +kernel
theorem dX10_init_88 : decode cX10_init 88 = .ok (.iconst 0, 1) := by decide +kernel
theorem dX10_init_89 : decode cX10_init 89 = .ok (.invokevirtual 58, 3) := by decide +kernel
theorem dX10_init_92 : decode cX10_init 92 = .ok (.return_, 1) := by decide +kernel
theorem dX10_appendCharacter_0 : decode cX10_appendCharacter 0 = .ok (.iload_n 1, 1) := by decide +kernel
theorem dX10_appendCharacter_1 : decode cX10_appendCharacter 1 = .ok (.ifCond .lt 10, 3) := by decide +kernel
theorem dX10_appendCharacter_4 : decode cX10_appendCharacter 4 = .ok (.iload_n 1, 1) := by decide +kernel
theorem dX10_appendCharacter_5 : decode cX10_appendCharacter 5 = .ok (.sipush 255, 3) := by decide +kernel
theorem dX10_appendCharacter_8 : decode cX10_appendCharacter 8 = .ok (.if_icmp .le 5, 3) := by decide +kernel
theorem dX10_appendCharacter_11 : decode cX10_appendCharacter 11 = .ok (.iconst (-1), 1) := by decide +kernel
theorem dX10_appendCharacter_12 : decode cX10_appendCharacter 12 = .ok (.ireturn, 1) := by decide +kernel
theorem dX10_appendCharacter_13 : decode cX10_appendCharacter 13 = .ok (.aload_n 0, 1) := by decide +kernel
theorem dX10_appendCharacter_14 : decode cX10_appendCharacter 14 = .ok (.getfield 26, 3) := by decide +kernel
theorem dX10_appendCharacter_17 : decode cX10_appendCharacter 17 = .ok (.getfield 64, 3) := by decide +kernel
theorem dX10_appendCharacter_20 : decode cX10_appendCharacter 20 = .ok (.sipush 150, 3) := by decide +kernel
theorem dX10_appendCharacter_23 : decode cX10_appendCharacter 23 = .ok (.if_icmp .lt 6, 3) := by decide +kernel
theorem dX10_appendCharacter_26 : decode cX10_appendCharacter 26 = .ok (.bipush (-3), 2) := by decide +kernel
theorem dX10_appendCharacter_28 : decode cX10_appendCharacter 28 = .ok (.ireturn, 1) := by decide +kernel
theorem dX10_appendCharacter_29 : decode cX10_appendCharacter 29 = .ok (.aload_n 0, 1) := by decide +kernel
theorem dX10_appendCharacter_30 : decode cX10_appendCharacter 30 = .ok (.getfield 26, 3) := by decide +kernel
theorem dX10_appendCharacter_33 : decode cX10_appendCharacter 33 = .ok (.iload_n 1, 1) := by decide +kernel
theorem dX10_appendCharacter_34 : decode cX10_appendCharacter 34 = .ok (.invokevirtual 68, 3) := by decide +kernel
theorem dX10_appendCharacter_37 : decode cX10_appendCharacter 37 = .ok (.aload_n 0, 1) := by decide +kernel
theorem dX10_appendCharacter_38 : decode cX10_appendCharacter 38 = .ok (.getfield 26, 3) := by decide +kernel
theorem dX10_appendCharacter_41 : decode cX10_appendCharacter 41 = .ok (.getfield 64, 3) := by decide +kernel
theorem dX10_appendCharacter_44 : decode cX10_appendCharacter 44 = .ok (.ireturn, 1) := by decide +kernel
theorem dX10_clearText_0 : decode cX10_clearText 0 = .ok (.aload_n 0, 1) := by decide +kernel
theorem dX10_clearText_1 : decode cX10_clearText 1 = .ok (.getfield 26, 3) := by decide +kernel
theorem dX10_clearText_4 : decode cX10_clearText 4 = .ok (.getfield 64, 3) := by decide +kernel
theorem dX10_clearText_7 : decode cX10_clearText 7 = .ok (.istore_n 1, 1) := by decide +kernel
theorem dX10_clearText_8 : decode cX10_clearText 8 = .ok (.aload_n 0, 1) := by decide +kernel
theorem dX10_clearText_9 : decode cX10_clearText 9 = .ok (.getfield 26, 3) := by decide +kernel
theorem dX10_clearText_12 : decode cX10_clearText 12 = .ok (.iconst 0, 1) := by decide +kernel
theorem dX10_clearText_13 : decode cX10_clearText 13 = .ok (.putfield 64, 3) := by decide +kernel
theorem dX10_clearText_16 : decode cX10_clearText 16 = .ok (.iload_n 1, 1) := by decide +kernel
theorem dX10_clearText_17 : decode cX10_clearText 17 = .ok (.ireturn, 1) := by decide +kernel
theorem dX10_loadGrammar_0 : decode cX10_loadGrammar 0 = .ok (.aload_n 0, 1) := by decide +kernel
theorem dX10_loadGrammar_1 : decode cX10_loadGrammar 1 = .ok (.getfield 26, 3) := by decide +kernel
theorem dX10_loadGrammar_4 : decode cX10_loadGrammar 4 = .ok (.invokevirtual 71, 3) := by decide +kernel
theorem dX10_loadGrammar_7 : decode cX10_loadGrammar 7 = .ok (.istore_n 1, 1) := by decide +kernel
theorem dX10_loadGrammar_8 : decode cX10_loadGrammar 8 = .ok (.iload_n 1, 1) := by decide +kernel
theorem dX10_loadGrammar_9 : decode cX10_loadGrammar 9 = .ok (.ifCond .ge 5, 3) := by decide +kernel
theorem dX10_loadGrammar_12 : decode cX10_loadGrammar 12 = .ok (.iload_n 1, 1) := by decide +kernel
theorem dX10_loadGrammar_13 : decode cX10_loadGrammar 13 = .ok (.ireturn, 1) := by decide +kernel
theorem dX10_loadGrammar_14 : decode cX10_loadGrammar 14 = .ok (.aload_n 0, 1) := by decide +kernel
theorem dX10_loadGrammar_15 : decode cX10_loadGrammar 15 = .ok (.invokevirtual 75, 3) := by decide +kernel
theorem dX10_loadGrammar_18 : decode cX10_loadGrammar 18 = .ok (.aload_n 0, 1) := by decide +kernel
theorem dX10_loadGrammar_19 : decode cX10_loadGrammar 19 = .ok (.getfield 12, 3) := by decide +kernel
theorem dX10_loadGrammar_22 : decode cX10_loadGrammar 22 = .ok (.aload_n 0, 1) := by decide +kernel
theorem dX10_loadGrammar_23 : decode cX10_loadGrammar 23 = .ok (.getfield 26, 3) := by decide +kernel
theorem dX10_loadGrammar_26 : decode cX10_loadGrammar 26 = .ok (.getfield 78, 3) := by decide +kernel
theorem dX10_loadGrammar_29 : decode cX10_loadGrammar 29 = .ok (.invokevirtual 81, 3) := by decide +kernel
theorem dX10_loadGrammar_32 : decode cX10_loadGrammar 32 = .ok (.aload_n 0, 1) := by decide +kernel
theorem dX10_loadGrammar_33 : decode cX10_loadGrammar 33 = .ok (.getfield 26, 3) := by decide +kernel
theorem dX10_loadGrammar_36 : decode cX10_loadGrammar 36 = .ok (.iconst 0, 1) := by decide +kernel
theorem dX10_loadGrammar_37 : decode cX10_loadGrammar 37 = .ok (.putfield 64, 3) := by decide +kernel
theorem dX10_loadGrammar_40 : decode cX10_loadGrammar 40 = .ok (.iload_n 1, 1) := by decide +kernel
theorem dX10_loadGrammar_41 : decode cX10_loadGrammar 41 = .ok (.ireturn, 1) := by decide +kernel
theorem dX10_appendToken_0 : decode cX10_appendToken 0 = .ok (.aload_n 0, 1) := by decide +kernel
theorem dX10_appendToken_1 : decode cX10_appendToken 1 = .ok (.aload_n 0, 1) := by decide +kernel
theorem dX10_appendToken_2 : decode cX10_appendToken 2 = .ok (.getfield 12, 3) := by decide +kernel
theorem dX10_appendToken_5 : decode cX10_appendToken 5 = .ok (.getfield 85, 3) := by decide +kernel
theorem dX10_appendToken_8 : decode cX10_appendToken 8 = .ok (.getfield 89, 3) := by decide +kernel
theorem dX10_appendToken_11 : decode cX10_appendToken 11 = .ok (.iload_n 1, 1) := by decide +kernel
theorem dX10_appendToken_12 : decode cX10_appendToken 12 = .ok (.invokevirtual 94, 3) := by decide +kernel
theorem dX10_appendToken_15 : decode cX10_appendToken 15 = .ok (.ireturn, 1) := by decide +kernel
theorem dX10_insertToken_0 : decode cX10_insertToken 0 = .ok (.aload_n 0, 1) := by decide +kernel
theorem dX10_insertToken_1 : decode cX10_insertToken 1 = .ok (.iload_n 1, 1) := by decide +kernel
theorem dX10_insertToken_2 : decode cX10_insertToken 2 = .ok (.iload_n 2, 1) := by decide +kernel
theorem dX10_insertToken_3 : decode cX10_insertToken 3 = .ok (.invokevirtual 94, 3) := by decide +kernel
theorem dX10_insertToken_6 : decode cX10_insertToken 6 = .ok (.ireturn, 1) := by decide +kernel
theorem dX10_addToken_0 : decode cX10_addToken 0 = .ok (.iload_n 1, 1) := by decide +kernel
theorem dX10_addToken_1 : decode cX10_addToken 1 = .ok (.ifCond .lt 24, 3) := by decide +kernel
theorem dX10_addToken_4 : decode cX10_addToken 4 = .ok (.iload_n 1, 1) := by decide +kernel
theorem dX10_addToken_5 : decode cX10_addToken 5 = .ok (.aload_n 0, 1) := by decide +kernel
theorem dX10_addToken_6 : decode cX10_addToken 6 = .ok (.getfield 12, 3) := by decide +kernel
theorem dX10_addToken_9 : decode cX10_addToken 9 = .ok (.getfield 85, 3) := by decide +kernel
theorem dX10_addToken_12 : decode cX10_addToken 12 = .ok (.getfield 89, 3) := by decide +kernel
theorem dX10_addToken_15 : decode cX10_addToken 15 = .ok (.if_icmp .gt 10, 3) := by decide +kernel
theorem dX10_addToken_18 : decode cX10_addToken 18 = .ok (.iload_n 2, 1) := by decide +kernel
theorem dX10_addToken_19 : decode cX10_addToken 19 = .ok (.invokestatic 98, 3) := by decide +kernel
theorem dX10_addToken_22 : decode cX10_addToken 22 = .ok (.ifCond .ne 5, 3) := by decide +kernel
theorem dX10_addToken_25 : decode cX10_addToken 25 = .ok (.iconst (-1), 1) := by decide +kernel
theorem dX10_addToken_26 : decode cX10_addToken 26 = .ok (.ireturn, 1) := by decide +kernel
theorem dX10_addToken_27 : decode cX10_addToken 27 = .ok (.aload_n 0, 1) := by decide +kernel
theorem dX10_addToken_28 : decode cX10_addToken 28 = .ok (.getfield 12, 3) := by decide +kernel
theorem dX10_addToken_31 : decode cX10_addToken 31 = .ok (.getfield 85, 3) := by decide +kernel
theorem dX10_addToken_34 : decode cX10_addToken 34 = .ok (.getfield 89, 3) := by decide +kernel
theorem dX10_addToken_37 : decode cX10_addToken 37 = .ok (.bipush 12, 2) := by decide +kernel
theorem dX10_addToken_39 : decode cX10_addToken 39 = .ok (.if_icmp .lt 6, 3) := by decide +kernel
theorem dX10_addToken_42 : decode cX10_addToken 42 = .ok (.bipush (-3), 2) := by decide +kernel
theorem dX10_addToken_44 : decode cX10_addToken 44 = .ok (.ireturn, 1) := by decide +kernel
theorem dX10_addToken_45 : decode cX10_addToken 45 = .ok (.aload_n 0, 1) := by decide +kernel
theorem dX10_addToken_46 : decode cX10_addToken 46 = .ok (.invokevirtual 75, 3) := by decide +kernel
theorem dX10_addToken_49 : decode cX10_addToken 49 = .ok (.aload_n 0, 1) := by decide +kernel
theorem dX10_addToken_50 : decode cX10_addToken 50 = .ok (.getfield 12, 3) := by decide +kernel
theorem dX10_addToken_53 : decode cX10_addToken 53 = .ok (.getfield 85, 3) := by decide +kernel
theorem dX10_addToken_56 : decode cX10_addToken 56 = .ok (.iload_n 1, 1) := by decide +kernel
theorem dX10_addToken_57 : decode cX10_addToken 57 = .ok (.iload_n 2, 1) := by decide +kernel
theorem dX10_addToken_58 : decode cX10_addToken 58 = .ok (.invokevirtual 102, 3) := by decide +kernel
theorem dX10_addToken_61 : decode cX10_addToken 61 = .ok (.aload_n 0, 1) := by decide +kernel
theorem dX10_addToken_62 : decode cX10_addToken 62 = .ok (.getfield 12, 3) := by decide +kernel
theorem dX10_addToken_65 : decode cX10_addToken 65 = .ok (.getfield 85, 3) := by decide +kernel
theorem dX10_addToken_68 : decode cX10_addToken 68 = .ok (.getfield 89, 3) := by decide +kernel
theorem dX10_addToken_71 : decode cX10_addToken 71 = .ok (.ireturn, 1) := by decide +kernel
theorem dX10_removeToken_0 : decode cX10_removeToken 0 = .ok (.aload_n 0, 1) := by decide +kernel
theorem dX10_removeToken_1 : decode cX10_removeToken 1 = .ok (.iload_n 1, 1) := by decide +kernel
theorem dX10_removeToken_2 : decode cX10_removeToken 2 = .ok (.invokevirtual 105, 3) := by decide +kernel
theorem dX10_removeToken_5 : decode cX10_removeToken 5 = .ok (.ifCond .ne 5, 3) := by decide +kernel
theorem dX10_removeToken_8 : decode cX10_removeToken 8 = .ok (.iconst (-1), 1) := by decide +kernel
theorem dX10_removeToken_9 : decode cX10_removeToken 9 = .ok (.ireturn, 1) := by decide +kernel
theorem dX10_removeToken_10 : decode cX10_removeToken 10 = .ok (.aload_n 0, 1) := by decide +kernel
theorem dX10_removeToken_11 : decode cX10_removeToken 11 = .ok (.invokevirtual 75, 3) := by decide +kernel
theorem dX10_removeToken_14 : decode cX10_removeToken 14 = .ok (.aload_n 0, 1) := by decide +kernel
theorem dX10_removeToken_15 : decode cX10_removeToken 15 = .ok (.getfield 12, 3) := by decide +kernel
theorem dX10_removeToken_18 : decode cX10_removeToken 18 = .ok (.getfield 85, 3) := by decide +kernel
theorem dX10_removeToken_21 : decode cX10_removeToken 21 = .ok (.iload_n 1, 1) := by decide +kernel
theorem dX10_removeToken_22 : decode cX10_removeToken 22 = .ok (.invokevirtual 108, 3) := by decide +kernel
theorem dX10_removeToken_25 : decode cX10_removeToken 25 = .ok (.ireturn, 1) := by decide +kernel
theorem dX10_clearTokens_0 : decode cX10_clearTokens 0 = .ok (.aload_n 0, 1) := by decide +kernel
theorem dX10_clearTokens_1 : decode cX10_clearTokens 1 = .ok (.getfield 12, 3) := by decide +kernel
theorem dX10_clearTokens_4 : decode cX10_clearTokens 4 = .ok (.getfield 85, 3) := by decide +kernel
theorem dX10_clearTokens_7 : decode cX10_clearTokens 7 = .ok (.getfield 89, 3) := by decide +kernel
theorem dX10_clearTokens_10 : decode cX10_clearTokens 10 = .ok (.istore_n 1, 1) := by decide +kernel
theorem dX10_clearTokens_11 : decode cX10_clearTokens 11 = .ok (.iload_n 1, 1) := by decide +kernel
theorem dX10_clearTokens_12 : decode cX10_clearTokens 12 = .ok (.ifCond .ne 6, 3) := by decide +kernel
theorem dX10_clearTokens_15 : decode cX10_clearTokens 15 = .ok (.bipush (-2), 2) := by decide +kernel
theorem dX10_clearTokens_17 : decode cX10_clearTokens 17 = .ok (.ireturn, 1) := by decide +kernel
theorem dX10_clearTokens_18 : decode cX10_clearTokens 18 = .ok (.aload_n 0, 1) := by decide +kernel
theorem dX10_clearTokens_19 : decode cX10_clearTokens 19 = .ok (.invokevirtual 75, 3) := by decide +kernel
theorem dX10_clearTokens_22 : decode cX10_clearTokens 22 = .ok (.aload_n 0, 1) := by decide +kernel
theorem dX10_clearTokens_23 : decode cX10_clearTokens 23 = .ok (.getfield 12, 3) := by decide +kernel
theorem dX10_clearTokens_26 : decode cX10_clearTokens 26 = .ok (.getfield 85, 3) := by decide +kernel
theorem dX10_clearTokens_29 : decode cX10_clearTokens 29 = .ok (.iconst 0, 1) := by decide +kernel
theorem dX10_clearTokens_30 : decode cX10_clearTokens 30 = .ok (.putfield 89, 3) := by decide +kernel
theorem dX10_clearTokens_33 : decode cX10_clearTokens 33 = .ok (.iload_n 1, 1) := by decide +kernel
theorem dX10_clearTokens_34 : decode cX10_clearTokens 34 = .ok (.ireturn, 1) := by decide +kernel
theorem dX10_setInsertionCost_0 : decode cX10_setInsertionCost 0 = .ok (.aload_n 0, 1) := by decide +kernel
theorem dX10_setInsertionCost_1 : decode cX10_setInsertionCost 1 = .ok (.iconst 3, 1) := by decide +kernel
theorem dX10_setInsertionCost_2 : decode cX10_setInsertionCost 2 = .ok (.iload_n 1, 1) := by decide +kernel
theorem dX10_setInsertionCost_3 : decode cX10_setInsertionCost 3 = .ok (.iload_n 2, 1) := by decide +kernel
theorem dX10_setInsertionCost_4 : decode cX10_setInsertionCost 4 = .ok (.invokevirtual 112, 3) := by decide +kernel
theorem dX10_setInsertionCost_7 : decode cX10_setInsertionCost 7 = .ok (.ireturn, 1) := by decide +kernel
theorem dX10_setDeletionCost_0 : decode cX10_setDeletionCost 0 = .ok (.aload_n 0, 1) := by decide +kernel
theorem dX10_setDeletionCost_1 : decode cX10_setDeletionCost 1 = .ok (.iconst 2, 1) := by decide +kernel
theorem dX10_setDeletionCost_2 : decode cX10_setDeletionCost 2 = .ok (.iload_n 1, 1) := by decide +kernel
theorem dX10_setDeletionCost_3 : decode cX10_setDeletionCost 3 = .ok (.iload_n 2, 1) := by decide +kernel
theorem dX10_setDeletionCost_4 : decode cX10_setDeletionCost 4 = .ok (.invokevirtual 112, 3) := by decide +kernel
theorem dX10_setDeletionCost_7 : decode cX10_setDeletionCost 7 = .ok (.ireturn, 1) := by decide +kernel
theorem dX10_setReplacementCost_0 : decode cX10_setReplacementCost 0 = .ok (.aload_n 0, 1) := by decide +kernel
theorem dX10_setReplacementCost_1 : decode cX10_setReplacementCost 1 = .ok (.iconst 1, 1) := by decide +kernel
theorem dX10_setReplacementCost_2 : decode cX10_setReplacementCost 2 = .ok (.iload_n 1, 1) := by decide +kernel
theorem dX10_setReplacementCost_3 : decode cX10_setReplacementCost 3 = .ok (.iload_n 2, 1) := by decide +kernel
theorem dX10_setReplacementCost_4 : decode cX10_setReplacementCost 4 = .ok (.invokevirtual 112, 3) := by decide +kernel
theorem dX10_setReplacementCost_7 : decode cX10_setReplacementCost 7 = .ok (.ireturn, 1) := by decide +kernel
theorem dX10_changeCost_0 : decode cX10_changeCost 0 = .ok (.iload_n 2, 1) := by decide +kernel
theorem dX10_changeCost_1 : decode cX10_changeCost 1 = .ok (.invokestatic 98, 3) := by decide +kernel
theorem dX10_changeCost_4 : decode cX10_changeCost 4 = .ok (.ifCond .eq 14, 3) := by decide +kernel
theorem dX10_changeCost_7 : decode cX10_changeCost 7 = .ok (.iload_n 3, 1) := by decide +kernel
theorem dX10_changeCost_8 : decode cX10_changeCost 8 = .ok (.iconst 1, 1) := by decide +kernel
theorem dX10_changeCost_9 : decode cX10_changeCost 9 = .ok (.if_icmp .lt 9, 3) := by decide +kernel
theorem dX10_changeCost_12 : decode cX10_changeCost 12 = .ok (.iload_n 3, 1) := by decide +kernel
theorem dX10_changeCost_13 : decode cX10_changeCost 13 = .ok (.bipush 9, 2) := by decide +kernel
theorem dX10_changeCost_15 : decode cX10_changeCost 15 = .ok (.if_icmp .le 5, 3) := by decide +kernel
theorem dX10_changeCost_18 : decode cX10_changeCost 18 = .ok (.iconst (-1), 1) := by decide +kernel
theorem dX10_changeCost_19 : decode cX10_changeCost 19 = .ok (.ireturn, 1) := by decide +kernel
theorem dX10_changeCost_20 : decode cX10_changeCost 20 = .ok (.aload_n 0, 1) := by decide +kernel
theorem dX10_changeCost_21 : decode cX10_changeCost 21 = .ok (.getfield 12, 3) := by decide +kernel
theorem dX10_changeCost_24 : decode cX10_changeCost 24 = .ok (.getfield 116, 3) := by decide +kernel
theorem dX10_changeCost_27 : decode cX10_changeCost 27 = .ok (.iload_n 1, 1) := by decide +kernel
theorem dX10_changeCost_28 : decode cX10_changeCost 28 = .ok (.iload_n 2, 1) := by decide +kernel
theorem dX10_changeCost_29 : decode cX10_changeCost 29 = .ok (.invokevirtual 120, 3) := by decide +kernel
theorem dX10_changeCost_32 : decode cX10_changeCost 32 = .ok (.istore 4, 2) := by decide +kernel
theorem dX10_changeCost_34 : decode cX10_changeCost 34 = .ok (.aload_n 0, 1) := by decide +kernel
theorem dX10_changeCost_35 : decode cX10_changeCost 35 = .ok (.invokevirtual 75, 3) := by decide +kernel
theorem dX10_changeCost_38 : decode cX10_changeCost 38 = .ok (.aload_n 0, 1) := by decide +kernel
theorem dX10_changeCost_39 : decode cX10_changeCost 39 = .ok (.getfield 12, 3) := by decide +kernel
theorem dX10_changeCost_42 : decode cX10_changeCost 42 = .ok (.getfield 116, 3) := by decide +kernel
theorem dX10_changeCost_45 : decode cX10_changeCost 45 = .ok (.iload_n 1, 1) := by decide +kernel
theorem dX10_changeCost_46 : decode cX10_changeCost 46 = .ok (.iload_n 2, 1) := by decide +kernel
theorem dX10_changeCost_47 : decode cX10_changeCost 47 = .ok (.iload_n 3, 1) := by decide +kernel
theorem dX10_changeCost_48 : decode cX10_changeCost 48 = .ok (.invokevirtual 125, 3) := by decide +kernel
theorem dX10_changeCost_51 : decode cX10_changeCost 51 = .ok (.iload 4, 2) := by decide +kernel
theorem dX10_changeCost_53 : decode cX10_changeCost 53 = .ok (.ireturn, 1) := by decide +kernel
theorem dX10_undo_0 : decode cX10_undo 0 = .ok (.aload_n 0, 1) := by decide +kernel
theorem dX10_undo_1 : decode cX10_undo 1 = .ok (.getfield 19, 3) := by decide +kernel
theorem dX10_undo_4 : decode cX10_undo 4 = .ok (.getfield 129, 3) := by decide +kernel
theorem dX10_undo_7 : decode cX10_undo 7 = .ok (.ifCond .ne 6, 3) := by decide +kernel
theorem dX10_undo_10 : decode cX10_undo 10 = .ok (.bipush (-2), 2) := by decide +kernel
theorem dX10_undo_12 : decode cX10_undo 12 = .ok (.ireturn, 1) := by decide +kernel
theorem dX10_undo_13 : decode cX10_undo 13 = .ok (.aload_n 0, 1) := by decide +kernel
theorem dX10_undo_14 : decode cX10_undo 14 = .ok (.getfield 19, 3) := by decide +kernel
theorem dX10_undo_17 : decode cX10_undo 17 = .ok (.aload_n 0, 1) := by decide +kernel
theorem dX10_undo_18 : decode cX10_undo 18 = .ok (.getfield 12, 3) := by decide +kernel
theorem dX10_undo_21 : decode cX10_undo 21 = .ok (.invokevirtual 130, 3) := by decide +kernel
theorem dX10_undo_24 : decode cX10_undo 24 = .ok (.aload_n 0, 1) := by decide +kernel
theorem dX10_undo_25 : decode cX10_undo 25 = .ok (.invokevirtual 133, 3) := by decide +kernel
theorem dX10_undo_28 : decode cX10_undo 28 = .ok (.aload_n 0, 1) := by decide +kernel
theorem dX10_undo_29 : decode cX10_undo 29 = .ok (.getfield 19, 3) := by decide +kernel
theorem dX10_undo_32 : decode cX10_undo 32 = .ok (.getfield 129, 3) := by decide +kernel
theorem dX10_undo_35 : decode cX10_undo 35 = .ok (.ireturn, 1) := by decide +kernel
theorem dX10_beginEdit_0 : decode cX10_beginEdit 0 = .ok (.aload_n 0, 1) := by decide +kernel
theorem dX10_beginEdit_1 : decode cX10_beginEdit 1 = .ok (.getfield 19, 3) := by decide +kernel
theorem dX10_beginEdit_4 : decode cX10_beginEdit 4 = .ok (.aload_n 0, 1) := by decide +kernel
theorem dX10_beginEdit_5 : decode cX10_beginEdit 5 = .ok (.getfield 12, 3) := by decide +kernel
theorem dX10_beginEdit_8 : decode cX10_beginEdit 8 = .ok (.invokevirtual 136, 3) := by decide +kernel
theorem dX10_beginEdit_11 : decode cX10_beginEdit 11 = .ok (.aload_n 0, 1) := by decide +kernel
theorem dX10_beginEdit_12 : decode cX10_beginEdit 12 = .ok (.invokevirtual 133, 3) := by decide +kernel
theorem dX10_beginEdit_15 : decode cX10_beginEdit 15 = .ok (.return_, 1) := by decide +kernel
theorem dX10_forgetTables_0 : decode cX10_forgetTables 0 = .ok (.aload_n 0, 1) := by decide +kernel
theorem dX10_forgetTables_1 : decode cX10_forgetTables 1 = .ok (.getfield 33, 3) := by decide +kernel
theorem dX10_forgetTables_4 : decode cX10_forgetTables 4 = .ok (.iconst 0, 1) := by decide +kernel
theorem dX10_forgetTables_5 : decode cX10_forgetTables 5 = .ok (.putfield 139, 3) := by decide +kernel
theorem dX10_forgetTables_8 : decode cX10_forgetTables 8 = .ok (.aload_n 0, 1) := by decide +kernel
theorem dX10_forgetTables_9 : decode cX10_forgetTables 9 = .ok (.getfield 37, 3) := by decide +kernel
theorem dX10_forgetTables_12 : decode cX10_forgetTables 12 = .ok (.iconst 0, 1) := by decide +kernel
theorem dX10_forgetTables_13 : decode cX10_forgetTables 13 = .ok (.putfield 139, 3) := by decide +kernel
theorem dX10_forgetTables_16 : decode cX10_forgetTables 16 = .ok (.return_, 1) := by decide +kernel
theorem dX10_stateCount_0 : decode cX10_stateCount 0 = .ok (.aload_n 0, 1) := by decide +kernel
theorem dX10_stateCount_1 : decode cX10_stateCount 1 = .ok (.getfield 12, 3) := by decide +kernel
theorem dX10_stateCount_4 : decode cX10_stateCount 4 = .ok (.getfield 54, 3) := by decide +kernel
theorem dX10_stateCount_7 : decode cX10_stateCount 7 = .ok (.getfield 143, 3) := by decide +kernel
theorem dX10_stateCount_10 : decode cX10_stateCount 10 = .ok (.ireturn, 1) := by decide +kernel
theorem dX10_isAccepting_0 : decode cX10_isAccepting 0 = .ok (.iload_n 1, 1) := by decide +kernel
theorem dX10_isAccepting_1 : decode cX10_isAccepting 1 = .ok (.ifCond .lt 9, 3) := by decide +kernel
theorem dX10_isAccepting_4 : decode cX10_isAccepting 4 = .ok (.iload_n 1, 1) := by decide +kernel
theorem dX10_isAccepting_5 : decode cX10_isAccepting 5 = .ok (.bipush 6, 2) := by decide +kernel
theorem dX10_isAccepting_7 : decode cX10_isAccepting 7 = .ok (.if_icmp .lt 5, 3) := by decide +kernel
theorem dX10_isAccepting_10 : decode cX10_isAccepting 10 = .ok (.iconst (-1), 1) := by decide +kernel
theorem dX10_isAccepting_11 : decode cX10_isAccepting 11 = .ok (.ireturn, 1) := by decide +kernel
theorem dX10_isAccepting_12 : decode cX10_isAccepting 12 = .ok (.aload_n 0, 1) := by decide +kernel
theorem dX10_isAccepting_13 : decode cX10_isAccepting 13 = .ok (.getfield 12, 3) := by decide +kernel
theorem dX10_isAccepting_16 : decode cX10_isAccepting 16 = .ok (.getfield 54, 3) := by decide +kernel
theorem dX10_isAccepting_19 : decode cX10_isAccepting 19 = .ok (.iload_n 1, 1) := by decide +kernel
theorem dX10_isAccepting_20 : decode cX10_isAccepting 20 = .ok (.invokevirtual 146, 3) := by decide +kernel
theorem dX10_isAccepting_23 : decode cX10_isAccepting 23 = .ok (.ifCond .eq 7, 3) := by decide +kernel
theorem dX10_isAccepting_26 : decode cX10_isAccepting 26 = .ok (.iconst 1, 1) := by decide +kernel
theorem dX10_isAccepting_27 : decode cX10_isAccepting 27 = .ok (.goto 4, 3) := by decide +kernel
theorem dX10_isAccepting_30 : decode cX10_isAccepting 30 = .ok (.iconst 0, 1) := by decide +kernel
theorem dX10_isAccepting_31 : decode cX10_isAccepting 31 = .ok (.ireturn, 1) := by decide +kernel
theorem dX10_ruleCount_0 : decode cX10_ruleCount 0 = .ok (.aload_n 0, 1) := by decide +kernel
theorem dX10_ruleCount_1 : decode cX10_ruleCount 1 = .ok (.getfield 12, 3) := by decide +kernel
theorem dX10_ruleCount_4 : decode cX10_ruleCount 4 = .ok (.getfield 54, 3) := by decide +kernel
theorem dX10_ruleCount_7 : decode cX10_ruleCount 7 = .ok (.invokevirtual 149, 3) := by decide +kernel
theorem dX10_ruleCount_10 : decode cX10_ruleCount 10 = .ok (.ireturn, 1) := by decide +kernel
theorem dX10_tokenCount_0 : decode cX10_tokenCount 0 = .ok (.aload_n 0, 1) := by decide +kernel
theorem dX10_tokenCount_1 : decode cX10_tokenCount 1 = .ok (.getfield 12, 3) := by decide +kernel
theorem dX10_tokenCount_4 : decode cX10_tokenCount 4 = .ok (.getfield 85, 3) := by decide +kernel
theorem dX10_tokenCount_7 : decode cX10_tokenCount 7 = .ok (.getfield 89, 3) := by decide +kernel
theorem dX10_tokenCount_10 : decode cX10_tokenCount 10 = .ok (.ireturn, 1) := by decide +kernel
theorem dX10_tokenAt_0 : decode cX10_tokenAt 0 = .ok (.aload_n 0, 1) := by decide +kernel
theorem dX10_tokenAt_1 : decode cX10_tokenAt 1 = .ok (.iload_n 1, 1) := by decide +kernel
theorem dX10_tokenAt_2 : decode cX10_tokenAt 2 = .ok (.invokevirtual 105, 3) := by decide +kernel
theorem dX10_tokenAt_5 : decode cX10_tokenAt 5 = .ok (.ifCond .eq 17, 3) := by decide +kernel
theorem dX10_tokenAt_8 : decode cX10_tokenAt 8 = .ok (.aload_n 0, 1) := by decide +kernel
theorem dX10_tokenAt_9 : decode cX10_tokenAt 9 = .ok (.getfield 12, 3) := by decide +kernel
theorem dX10_tokenAt_12 : decode cX10_tokenAt 12 = .ok (.getfield 85, 3) := by decide +kernel
theorem dX10_tokenAt_15 : decode cX10_tokenAt 15 = .ok (.iload_n 1, 1) := by decide +kernel
theorem dX10_tokenAt_16 : decode cX10_tokenAt 16 = .ok (.invokevirtual 152, 3) := by decide +kernel
theorem dX10_tokenAt_19 : decode cX10_tokenAt 19 = .ok (.goto 4, 3) := by decide +kernel
theorem dX10_tokenAt_22 : decode cX10_tokenAt 22 = .ok (.iconst (-1), 1) := by decide +kernel
theorem dX10_tokenAt_23 : decode cX10_tokenAt 23 = .ok (.ireturn, 1) := by decide +kernel
theorem dX10_isToken_0 : decode cX10_isToken 0 = .ok (.iload_n 1, 1) := by decide +kernel
theorem dX10_isToken_1 : decode cX10_isToken 1 = .ok (.ifCond .lt 21, 3) := by decide +kernel
theorem dX10_isToken_4 : decode cX10_isToken 4 = .ok (.iload_n 1, 1) := by decide +kernel
theorem dX10_isToken_5 : decode cX10_isToken 5 = .ok (.aload_n 0, 1) := by decide +kernel
theorem dX10_isToken_6 : decode cX10_isToken 6 = .ok (.getfield 12, 3) := by decide +kernel
theorem dX10_isToken_9 : decode cX10_isToken 9 = .ok (.getfield 85, 3) := by decide +kernel
theorem dX10_isToken_12 : decode cX10_isToken 12 = .ok (.getfield 89, 3) := by decide +kernel
theorem dX10_isToken_15 : decode cX10_isToken 15 = .ok (.if_icmp .ge 7, 3) := by decide +kernel
theorem dX10_isToken_18 : decode cX10_isToken 18 = .ok (.iconst 1, 1) := by decide +kernel
theorem dX10_isToken_19 : decode cX10_isToken 19 = .ok (.goto 4, 3) := by decide +kernel
theorem dX10_isToken_22 : decode cX10_isToken 22 = .ok (.iconst 0, 1) := by decide +kernel
theorem dX10_isToken_23 : decode cX10_isToken 23 = .ok (.ireturn, 1) := by decide +kernel
theorem dX10_errorPosition_0 : decode cX10_errorPosition 0 = .ok (.aload_n 0, 1) := by decide +kernel
theorem dX10_errorPosition_1 : decode cX10_errorPosition 1 = .ok (.invokevirtual 155, 3) := by decide +kernel
theorem dX10_errorPosition_4 : decode cX10_errorPosition 4 = .ok (.ifCond .eq 13, 3) := by decide +kernel
theorem dX10_errorPosition_7 : decode cX10_errorPosition 7 = .ok (.aload_n 0, 1) := by decide +kernel
theorem dX10_errorPosition_8 : decode cX10_errorPosition 8 = .ok (.getfield 50, 3) := by decide +kernel
theorem dX10_errorPosition_11 : decode cX10_errorPosition 11 = .ok (.getfield 159, 3) := by decide +kernel
theorem dX10_errorPosition_14 : decode cX10_errorPosition 14 = .ok (.goto 5, 3) := by decide +kernel
theorem dX10_errorPosition_17 : decode cX10_errorPosition 17 = .ok (.bipush (-9), 2) := by decide +kernel
theorem dX10_errorPosition_19 : decode cX10_errorPosition 19 = .ok (.ireturn, 1) := by decide +kernel
theorem dX10_stateAfter_0 : decode cX10_stateAfter 0 = .ok (.aload_n 0, 1) := by decide +kernel
theorem dX10_stateAfter_1 : decode cX10_stateAfter 1 = .ok (.iload_n 1, 1) := by decide +kernel
theorem dX10_stateAfter_2 : decode cX10_stateAfter 2 = .ok (.invokevirtual 162, 3) := by decide +kernel
theorem dX10_stateAfter_5 : decode cX10_stateAfter 5 = .ok (.istore_n 2, 1) := by decide +kernel
theorem dX10_stateAfter_6 : decode cX10_stateAfter 6 = .ok (.iload_n 2, 1) := by decide +kernel
theorem dX10_stateAfter_7 : decode cX10_stateAfter 7 = .ok (.ifCond .ge 7, 3) := by decide +kernel
theorem dX10_stateAfter_10 : decode cX10_stateAfter 10 = .ok (.iload_n 2, 1) := by decide +kernel
theorem dX10_stateAfter_11 : decode cX10_stateAfter 11 = .ok (.goto 13, 3) := by decide +kernel
theorem dX10_stateAfter_14 : decode cX10_stateAfter 14 = .ok (.aload_n 0, 1) := by decide +kernel
theorem dX10_stateAfter_15 : decode cX10_stateAfter 15 = .ok (.getfield 50, 3) := by decide +kernel
theorem dX10_stateAfter_18 : decode cX10_stateAfter 18 = .ok (.getfield 165, 3) := by decide +kernel
theorem dX10_stateAfter_21 : decode cX10_stateAfter 21 = .ok (.bipush 16, 2) := by decide +kernel
theorem dX10_stateAfter_23 : decode cX10_stateAfter 23 = .ok (.idiv, 1) := by decide +kernel
theorem dX10_stateAfter_24 : decode cX10_stateAfter 24 = .ok (.ireturn, 1) := by decide +kernel
theorem dX10_depthAfter_0 : decode cX10_depthAfter 0 = .ok (.aload_n 0, 1) := by decide +kernel
theorem dX10_depthAfter_1 : decode cX10_depthAfter 1 = .ok (.iload_n 1, 1) := by decide +kernel
theorem dX10_depthAfter_2 : decode cX10_depthAfter 2 = .ok (.invokevirtual 162, 3) := by decide +kernel
theorem dX10_depthAfter_5 : decode cX10_depthAfter 5 = .ok (.istore_n 2, 1) := by decide +kernel
theorem dX10_depthAfter_6 : decode cX10_depthAfter 6 = .ok (.iload_n 2, 1) := by decide +kernel
theorem dX10_depthAfter_7 : decode cX10_depthAfter 7 = .ok (.ifCond .ge 7, 3) := by decide +kernel
theorem dX10_depthAfter_10 : decode cX10_depthAfter 10 = .ok (.iload_n 2, 1) := by decide +kernel
theorem dX10_depthAfter_11 : decode cX10_depthAfter 11 = .ok (.goto 16, 3) := by decide +kernel
theorem dX10_depthAfter_14 : decode cX10_depthAfter 14 = .ok (.aload_n 0, 1) := by decide +kernel
theorem dX10_depthAfter_15 : decode cX10_depthAfter 15 = .ok (.getfield 50, 3) := by decide +kernel
theorem dX10_depthAfter_18 : decode cX10_depthAfter 18 = .ok (.getfield 165, 3) := by decide +kernel
theorem dX10_depthAfter_21 : decode cX10_depthAfter 21 = .ok (.bipush 16, 2) := by decide +kernel
theorem dX10_depthAfter_23 : decode cX10_depthAfter 23 = .ok (.irem, 1) := by decide +kernel
theorem dX10_depthAfter_24 : decode cX10_depthAfter 24 = .ok (.invokestatic 168, 3) := by decide +kernel
theorem dX10_depthAfter_27 : decode cX10_depthAfter 27 = .ok (.ireturn, 1) := by decide +kernel
theorem dX10_expectedKinds_0 : decode cX10_expectedKinds 0 = .ok (.aload_n 0, 1) := by decide +kernel
theorem dX10_expectedKinds_1 : decode cX10_expectedKinds 1 = .ok (.invokevirtual 155, 3) := by decide +kernel
theorem dX10_expectedKinds_4 : decode cX10_expectedKinds 4 = .ok (.ifCond .ne 6, 3) := by decide +kernel
theorem dX10_expectedKinds_7 : decode cX10_expectedKinds 7 = .ok (.bipush (-2), 2) := by decide +kernel
theorem dX10_expectedKinds_9 : decode cX10_expectedKinds 9 = .ok (.ireturn, 1) := by decide +kernel
theorem dX10_expectedKinds_10 : decode cX10_expectedKinds 10 = .ok (.iconst 0, 1) := by decide +kernel
theorem dX10_expectedKinds_11 : decode cX10_expectedKinds 11 = .ok (.istore_n 1, 1) := by decide +kernel
theorem dX10_expectedKinds_12 : decode cX10_expectedKinds 12 = .ok (.iconst 0, 1) := by decide +kernel
theorem dX10_expectedKinds_13 : decode cX10_expectedKinds 13 = .ok (.istore_n 2, 1) := by decide +kernel
theorem dX10_expectedKinds_14 : decode cX10_expectedKinds 14 = .ok (.iload_n 2, 1) := by decide +kernel
theorem dX10_expectedKinds_15 : decode cX10_expectedKinds 15 = .ok (.bipush 6, 2) := by decide +kernel
theorem dX10_expectedKinds_17 : decode cX10_expectedKinds 17 = .ok (.if_icmp .ge 36, 3) := by decide +kernel
theorem dX10_expectedKinds_20 : decode cX10_expectedKinds 20 = .ok (.aload_n 0, 1) := by decide +kernel
theorem dX10_expectedKinds_21 : decode cX10_expectedKinds 21 = .ok (.getfield 12, 3) := by decide +kernel
theorem dX10_expectedKinds_24 : decode cX10_expectedKinds 24 = .ok (.getfield 54, 3) := by decide +kernel
theorem dX10_expectedKinds_27 : decode cX10_expectedKinds 27 = .ok (.aload_n 0, 1) := by decide +kernel
theorem dX10_expectedKinds_28 : decode cX10_expectedKinds 28 = .ok (.getfield 50, 3) := by decide +kernel
theorem dX10_expectedKinds_31 : decode cX10_expectedKinds 31 = .ok (.getfield 165, 3) := by decide +kernel
theorem dX10_expectedKinds_34 : decode cX10_expectedKinds 34 = .ok (.iload_n 2, 1) := by decide +kernel
theorem dX10_expectedKinds_35 : decode cX10_expectedKinds 35 = .ok (.invokevirtual 171, 3) := by decide +kernel
theorem dX10_expectedKinds_38 : decode cX10_expectedKinds 38 = .ok (.ifCond .lt 9, 3) := by decide +kernel
theorem dX10_expectedKinds_41 : decode cX10_expectedKinds 41 = .ok (.iload_n 1, 1) := by decide +kernel
theorem dX10_expectedKinds_42 : decode cX10_expectedKinds 42 = .ok (.iconst 1, 1) := by decide +kernel
theorem dX10_expectedKinds_43 : decode cX10_expectedKinds 43 = .ok (.iload_n 2, 1) := by decide +kernel
theorem dX10_expectedKinds_44 : decode cX10_expectedKinds 44 = .ok (.ishl, 1) := by decide +kernel
theorem dX10_expectedKinds_45 : decode cX10_expectedKinds 45 = .ok (.ior, 1) := by decide +kernel
theorem dX10_expectedKinds_46 : decode cX10_expectedKinds 46 = .ok (.istore_n 1, 1) := by decide +kernel
theorem dX10_expectedKinds_47 : decode cX10_expectedKinds 47 = .ok (.iinc 2 1, 3) := by decide +kernel
theorem dX10_expectedKinds_50 : decode cX10_expectedKinds 50 = .ok (.goto (-36), 3) := by decide +kernel
theorem dX10_expectedKinds_53 : decode cX10_expectedKinds 53 = .ok (.iload_n 1, 1) := by decide +kernel
theorem dX10_expectedKinds_54 : decode cX10_expectedKinds 54 = .ok (.ireturn, 1) := by decide +kernel
theorem dX10_findError_0 : decode cX10_findError 0 = .ok (.aload_n 0, 1) := by decide +kernel
theorem dX10_findError_1 : decode cX10_findError 1 = .ok (.getfield 50, 3) := by decide +kernel
theorem dX10_findError_4 : decode cX10_findError 4 = .ok (.invokevirtual 174, 3) := by decide +kernel
theorem dX10_findError_7 : decode cX10_findError 7 = .ok (.aload_n 0, 1) := by decide +kernel
theorem dX10_findError_8 : decode cX10_findError 8 = .ok (.getfield 50, 3) := by decide +kernel
theorem dX10_findError_11 : decode cX10_findError 11 = .ok (.aload_n 0, 1) := by decide +kernel
theorem dX10_findError_12 : decode cX10_findError 12 = .ok (.getfield 12, 3) := by decide +kernel
theorem dX10_findError_15 : decode cX10_findError 15 = .ok (.bipush 12, 2) := by decide +kernel
theorem dX10_findError_17 : decode cX10_findError 17 = .ok (.invokevirtual 177, 3) := by decide +kernel
theorem dX10_findError_20 : decode cX10_findError 20 = .ok (.aload_n 0, 1) := by decide +kernel
theorem dX10_findError_21 : decode cX10_findError 21 = .ok (.getfield 50, 3) := by decide +kernel
theorem dX10_findError_24 : decode cX10_findError 24 = .ok (.aload_n 0, 1) := by decide +kernel
theorem dX10_findError_25 : decode cX10_findError 25 = .ok (.getfield 12, 3) := by decide +kernel
theorem dX10_findError_28 : decode cX10_findError 28 = .ok (.invokevirtual 181, 3) := by decide +kernel
theorem dX10_findError_31 : decode cX10_findError 31 = .ok (.ifCond .ne 7, 3) := by decide +kernel
theorem dX10_findError_34 : decode cX10_findError 34 = .ok (.iconst 1, 1) := by decide +kernel
theorem dX10_findError_35 : decode cX10_findError 35 = .ok (.goto 4, 3) := by decide +kernel
theorem dX10_findError_38 : decode cX10_findError 38 = .ok (.iconst 0, 1) := by decide +kernel
theorem dX10_findError_39 : decode cX10_findError 39 = .ok (.ireturn, 1) := by decide +kernel
theorem dX10_runFirst_0 : decode cX10_runFirst 0 = .ok (.iload_n 1, 1) := by decide +kernel
theorem dX10_runFirst_1 : decode cX10_runFirst 1 = .ok (.ifCond .lt 17, 3) := by decide +kernel
theorem dX10_runFirst_4 : decode cX10_runFirst 4 = .ok (.iload_n 1, 1) := by decide +kernel
theorem dX10_runFirst_5 : decode cX10_runFirst 5 = .ok (.aload_n 0, 1) := by decide +kernel
theorem dX10_runFirst_6 : decode cX10_runFirst 6 = .ok (.getfield 12, 3) := by decide +kernel
theorem dX10_runFirst_9 : decode cX10_runFirst 9 = .ok (.getfield 85, 3) := by decide +kernel
theorem dX10_runFirst_12 : decode cX10_runFirst 12 = .ok (.getfield 89, 3) := by decide +kernel
theorem dX10_runFirst_15 : decode cX10_runFirst 15 = .ok (.if_icmp .le 5, 3) := by decide +kernel
theorem dX10_runFirst_18 : decode cX10_runFirst 18 = .ok (.iconst (-1), 1) := by decide +kernel
theorem dX10_runFirst_19 : decode cX10_runFirst 19 = .ok (.ireturn, 1) := by decide +kernel
theorem dX10_runFirst_20 : decode cX10_runFirst 20 = .ok (.aload_n 0, 1) := by decide +kernel
theorem dX10_runFirst_21 : decode cX10_runFirst 21 = .ok (.getfield 50, 3) := by decide +kernel
theorem dX10_runFirst_24 : decode cX10_runFirst 24 = .ok (.invokevirtual 174, 3) := by decide +kernel
theorem dX10_runFirst_27 : decode cX10_runFirst 27 = .ok (.aload_n 0, 1) := by decide +kernel
theorem dX10_runFirst_28 : decode cX10_runFirst 28 = .ok (.getfield 50, 3) := by decide +kernel
theorem dX10_runFirst_31 : decode cX10_runFirst 31 = .ok (.aload_n 0, 1) := by decide +kernel
theorem dX10_runFirst_32 : decode cX10_runFirst 32 = .ok (.getfield 12, 3) := by decide +kernel
theorem dX10_runFirst_35 : decode cX10_runFirst 35 = .ok (.iload_n 1, 1) := by decide +kernel
theorem dX10_runFirst_36 : decode cX10_runFirst 36 = .ok (.invokevirtual 177, 3) := by decide +kernel
theorem dX10_runFirst_39 : decode cX10_runFirst 39 = .ok (.aload_n 0, 1) := by decide +kernel
theorem dX10_runFirst_40 : decode cX10_runFirst 40 = .ok (.getfield 50, 3) := by decide +kernel
theorem dX10_runFirst_43 : decode cX10_runFirst 43 = .ok (.getfield 159, 3) := by decide +kernel
theorem dX10_runFirst_46 : decode cX10_runFirst 46 = .ok (.iload_n 1, 1) := by decide +kernel
theorem dX10_runFirst_47 : decode cX10_runFirst 47 = .ok (.if_icmp .ge 8, 3) := by decide +kernel
theorem dX10_runFirst_50 : decode cX10_runFirst 50 = .ok (.bipush (-2), 2) := by decide +kernel
theorem dX10_runFirst_52 : decode cX10_runFirst 52 = .ok (.goto 4, 3) := by decide +kernel
theorem dX10_runFirst_55 : decode cX10_runFirst 55 = .ok (.iconst 0, 1) := by decide +kernel
theorem dX10_runFirst_56 : decode cX10_runFirst 56 = .ok (.ireturn, 1) := by decide +kernel
theorem dX10_depthOf_0 : decode cX10_depthOf 0 = .ok (.iconst 0, 1) := by decide +kernel
theorem dX10_depthOf_1 : decode cX10_depthOf 1 = .ok (.istore_n 1, 1) := by decide +kernel
theorem dX10_depthOf_2 : decode cX10_depthOf 2 = .ok (.iconst 2, 1) := by decide +kernel
theorem dX10_depthOf_3 : decode cX10_depthOf 3 = .ok (.istore_n 2, 1) := by decide +kernel
theorem dX10_depthOf_4 : decode cX10_depthOf 4 = .ok (.iload_n 2, 1) := by decide +kernel
theorem dX10_depthOf_5 : decode cX10_depthOf 5 = .ok (.iload_n 0, 1) := by decide +kernel
theorem dX10_depthOf_6 : decode cX10_depthOf 6 = .ok (.if_icmp .gt 19, 3) := by decide +kernel
theorem dX10_depthOf_9 : decode cX10_depthOf 9 = .ok (.iload_n 2, 1) := by decide +kernel
theorem dX10_depthOf_10 : decode cX10_depthOf 10 = .ok (.bipush 16, 2) := by decide +kernel
theorem dX10_depthOf_12 : decode cX10_depthOf 12 = .ok (.if_icmp .ge 13, 3) := by decide +kernel
theorem dX10_depthOf_15 : decode cX10_depthOf 15 = .ok (.iinc 1 1, 3) := by decide +kernel
theorem dX10_depthOf_18 : decode cX10_depthOf 18 = .ok (.iload_n 2, 1) := by decide +kernel
theorem dX10_depthOf_19 : decode cX10_depthOf 19 = .ok (.iconst 2, 1) := by decide +kernel
theorem dX10_depthOf_20 : decode cX10_depthOf 20 = .ok (.imul, 1) := by decide +kernel
theorem dX10_depthOf_21 : decode cX10_depthOf 21 = .ok (.istore_n 2, 1) := by decide +kernel
theorem dX10_depthOf_22 : decode cX10_depthOf 22 = .ok (.goto (-18), 3) := by decide +kernel
theorem dX10_depthOf_25 : decode cX10_depthOf 25 = .ok (.iload_n 1, 1) := by decide +kernel
theorem dX10_depthOf_26 : decode cX10_depthOf 26 = .ok (.ireturn, 1) := by decide +kernel
theorem dX10_repairCost_0 : decode cX10_repairCost 0 = .ok (.aload_n 0, 1) := by decide +kernel
theorem dX10_repairCost_1 : decode cX10_repairCost 1 = .ok (.getfield 33, 3) := by decide +kernel
theorem dX10_repairCost_4 : decode cX10_repairCost 4 = .ok (.aload_n 0, 1) := by decide +kernel
theorem dX10_repairCost_5 : decode cX10_repairCost 5 = .ok (.getfield 12, 3) := by decide +kernel
theorem dX10_repairCost_8 : decode cX10_repairCost 8 = .ok (.iconst 0, 1) := by decide +kernel
theorem dX10_repairCost_9 : decode cX10_repairCost 9 = .ok (.invokevirtual 185, 3) := by decide +kernel
theorem dX10_repairCost_12 : decode cX10_repairCost 12 = .ok (.aload_n 0, 1) := by decide +kernel
theorem dX10_repairCost_13 : decode cX10_repairCost 13 = .ok (.getfield 33, 3) := by decide +kernel
theorem dX10_repairCost_16 : decode cX10_repairCost 16 = .ok (.iconst 0, 1) := by decide +kernel
theorem dX10_repairCost_17 : decode cX10_repairCost 17 = .ok (.iconst 1, 1) := by decide +kernel
theorem dX10_repairCost_18 : decode cX10_repairCost 18 = .ok (.invokevirtual 188, 3) := by decide +kernel
theorem dX10_repairCost_21 : decode cX10_repairCost 21 = .ok (.invokestatic 191, 3) := by decide +kernel
theorem dX10_repairCost_24 : decode cX10_repairCost 24 = .ok (.ireturn, 1) := by decide +kernel
theorem dX10_repairCount_0 : decode cX10_repairCount 0 = .ok (.aload_n 0, 1) := by decide +kernel
theorem dX10_repairCount_1 : decode cX10_repairCount 1 = .ok (.getfield 33, 3) := by decide +kernel
theorem dX10_repairCount_4 : decode cX10_repairCount 4 = .ok (.aload_n 0, 1) := by decide +kernel
theorem dX10_repairCount_5 : decode cX10_repairCount 5 = .ok (.getfield 12, 3) := by decide +kernel
theorem dX10_repairCount_8 : decode cX10_repairCount 8 = .ok (.iconst 0, 1) := by decide +kernel
theorem dX10_repairCount_9 : decode cX10_repairCount 9 = .ok (.invokevirtual 185, 3) := by decide +kernel
theorem dX10_repairCount_12 : decode cX10_repairCount 12 = .ok (.aload_n 0, 1) := by decide +kernel
theorem dX10_repairCount_13 : decode cX10_repairCount 13 = .ok (.getfield 33, 3) := by decide +kernel
theorem dX10_repairCount_16 : decode cX10_repairCount 16 = .ok (.iconst 0, 1) := by decide +kernel
theorem dX10_repairCount_17 : decode cX10_repairCount 17 = .ok (.iconst 1, 1) := by decide +kernel
theorem dX10_repairCount_18 : decode cX10_repairCount 18 = .ok (.invokevirtual 194, 3) := by decide +kernel
theorem dX10_repairCount_21 : decode cX10_repairCount 21 = .ok (.ireturn, 1) := by decide +kernel
theorem dX10_secondCost_0 : decode cX10_secondCost 0 = .ok (.aload_n 0, 1) := by decide +kernel
theorem dX10_secondCost_1 : decode cX10_secondCost 1 = .ok (.getfield 33, 3) := by decide +kernel
theorem dX10_secondCost_4 : decode cX10_secondCost 4 = .ok (.aload_n 0, 1) := by decide +kernel
theorem dX10_secondCost_5 : decode cX10_secondCost 5 = .ok (.getfield 12, 3) := by decide +kernel
theorem dX10_secondCost_8 : decode cX10_secondCost 8 = .ok (.iconst 0, 1) := by decide +kernel
theorem dX10_secondCost_9 : decode cX10_secondCost 9 = .ok (.invokevirtual 185, 3) := by decide +kernel
theorem dX10_secondCost_12 : decode cX10_secondCost 12 = .ok (.aload_n 0, 1) := by decide +kernel
theorem dX10_secondCost_13 : decode cX10_secondCost 13 = .ok (.getfield 33, 3) := by decide +kernel
theorem dX10_secondCost_16 : decode cX10_secondCost 16 = .ok (.iconst 0, 1) := by decide +kernel
theorem dX10_secondCost_17 : decode cX10_secondCost 17 = .ok (.iconst 1, 1) := by decide +kernel
theorem dX10_secondCost_18 : decode cX10_secondCost 18 = .ok (.invokevirtual 197, 3) := by decide +kernel
theorem dX10_secondCost_21 : decode cX10_secondCost 21 = .ok (.invokestatic 191, 3) := by decide +kernel
theorem dX10_secondCost_24 : decode cX10_secondCost 24 = .ok (.ireturn, 1) := by decide +kernel
theorem dX10_repairLength_0 : decode cX10_repairLength 0 = .ok (.aload_n 0, 1) := by decide +kernel
theorem dX10_repairLength_1 : decode cX10_repairLength 1 = .ok (.iload_n 1, 1) := by decide +kernel
theorem dX10_repairLength_2 : decode cX10_repairLength 2 = .ok (.invokevirtual 200, 3) := by decide +kernel
theorem dX10_repairLength_5 : decode cX10_repairLength 5 = .ok (.istore_n 2, 1) := by decide +kernel
theorem dX10_repairLength_6 : decode cX10_repairLength 6 = .ok (.iload_n 2, 1) := by decide +kernel
theorem dX10_repairLength_7 : decode cX10_repairLength 7 = .ok (.ifCond .ge 7, 3) := by decide +kernel
theorem dX10_repairLength_10 : decode cX10_repairLength 10 = .ok (.iload_n 2, 1) := by decide +kernel
theorem dX10_repairLength_11 : decode cX10_repairLength 11 = .ok (.goto 10, 3) := by decide +kernel
theorem dX10_repairLength_14 : decode cX10_repairLength 14 = .ok (.aload_n 0, 1) := by decide +kernel
theorem dX10_repairLength_15 : decode cX10_repairLength 15 = .ok (.getfield 43, 3) := by decide +kernel
theorem dX10_repairLength_18 : decode cX10_repairLength 18 = .ok (.getfield 203, 3) := by decide +kernel
theorem dX10_repairLength_21 : decode cX10_repairLength 21 = .ok (.ireturn, 1) := by decide +kernel
theorem dX10_repairOperation_0 : decode cX10_repairOperation 0 = .ok (.iload_n 2, 1) := by decide +kernel
theorem dX10_repairOperation_1 : decode cX10_repairOperation 1 = .ok (.ifCond .ge 7, 3) := by decide +kernel
theorem dX10_repairOperation_4 : decode cX10_repairOperation 4 = .ok (.iconst (-1), 1) := by decide +kernel
theorem dX10_repairOperation_5 : decode cX10_repairOperation 5 = .ok (.goto 8, 3) := by decide +kernel
theorem dX10_repairOperation_8 : decode cX10_repairOperation 8 = .ok (.aload_n 0, 1) := by decide +kernel
theorem dX10_repairOperation_9 : decode cX10_repairOperation 9 = .ok (.iload_n 1, 1) := by decide +kernel
theorem dX10_repairOperation_10 : decode cX10_repairOperation 10 = .ok (.invokevirtual 200, 3) := by decide +kernel
theorem dX10_repairOperation_13 : decode cX10_repairOperation 13 = .ok (.istore_n 3, 1) := by decide +kernel
theorem dX10_repairOperation_14 : decode cX10_repairOperation 14 = .ok (.iload_n 3, 1) := by decide +kernel
theorem dX10_repairOperation_15 : decode cX10_repairOperation 15 = .ok (.ifCond .ge 7, 3) := by decide +kernel
theorem dX10_repairOperation_18 : decode cX10_repairOperation 18 = .ok (.iload_n 3, 1) := by decide +kernel
theorem dX10_repairOperation_19 : decode cX10_repairOperation 19 = .ok (.goto 11, 3) := by decide +kernel
theorem dX10_repairOperation_22 : decode cX10_repairOperation 22 = .ok (.aload_n 0, 1) := by decide +kernel
theorem dX10_repairOperation_23 : decode cX10_repairOperation 23 = .ok (.getfield 43, 3) := by decide +kernel
theorem dX10_repairOperation_26 : decode cX10_repairOperation 26 = .ok (.iload_n 2, 1) := by decide +kernel
theorem dX10_repairOperation_27 : decode cX10_repairOperation 27 = .ok (.invokevirtual 204, 3) := by decide +kernel
theorem dX10_repairOperation_30 : decode cX10_repairOperation 30 = .ok (.ireturn, 1) := by decide +kernel
theorem dX10_repairKind_0 : decode cX10_repairKind 0 = .ok (.iload_n 2, 1) := by decide +kernel
theorem dX10_repairKind_1 : decode cX10_repairKind 1 = .ok (.ifCond .ge 7, 3) := by decide +kernel
theorem dX10_repairKind_4 : decode cX10_repairKind 4 = .ok (.iconst (-1), 1) := by decide +kernel
theorem dX10_repairKind_5 : decode cX10_repairKind 5 = .ok (.goto 8, 3) := by decide +kernel
theorem dX10_repairKind_8 : decode cX10_repairKind 8 = .ok (.aload_n 0, 1) := by decide +kernel
theorem dX10_repairKind_9 : decode cX10_repairKind 9 = .ok (.iload_n 1, 1) := by decide +kernel
theorem dX10_repairKind_10 : decode cX10_repairKind 10 = .ok (.invokevirtual 200, 3) := by decide +kernel
theorem dX10_repairKind_13 : decode cX10_repairKind 13 = .ok (.istore_n 3, 1) := by decide +kernel
theorem dX10_repairKind_14 : decode cX10_repairKind 14 = .ok (.iload_n 3, 1) := by decide +kernel
theorem dX10_repairKind_15 : decode cX10_repairKind 15 = .ok (.ifCond .ge 7, 3) := by decide +kernel
theorem dX10_repairKind_18 : decode cX10_repairKind 18 = .ok (.iload_n 3, 1) := by decide +kernel
theorem dX10_repairKind_19 : decode cX10_repairKind 19 = .ok (.goto 11, 3) := by decide +kernel
theorem dX10_repairKind_22 : decode cX10_repairKind 22 = .ok (.aload_n 0, 1) := by decide +kernel
theorem dX10_repairKind_23 : decode cX10_repairKind 23 = .ok (.getfield 43, 3) := by decide +kernel
theorem dX10_repairKind_26 : decode cX10_repairKind 26 = .ok (.iload_n 2, 1) := by decide +kernel
theorem dX10_repairKind_27 : decode cX10_repairKind 27 = .ok (.invokevirtual 207, 3) := by decide +kernel
theorem dX10_repairKind_30 : decode cX10_repairKind 30 = .ok (.ireturn, 1) := by decide +kernel
theorem dX10_applyRepair_0 : decode cX10_applyRepair 0 = .ok (.aload_n 0, 1) := by decide +kernel
theorem dX10_applyRepair_1 : decode cX10_applyRepair 1 = .ok (.iload_n 1, 1) := by decide +kernel
theorem dX10_applyRepair_2 : decode cX10_applyRepair 2 = .ok (.invokevirtual 200, 3) := by decide +kernel
theorem dX10_applyRepair_5 : decode cX10_applyRepair 5 = .ok (.istore_n 2, 1) := by decide +kernel
theorem dX10_applyRepair_6 : decode cX10_applyRepair 6 = .ok (.iload_n 2, 1) := by decide +kernel
theorem dX10_applyRepair_7 : decode cX10_applyRepair 7 = .ok (.ifCond .ge 5, 3) := by decide +kernel
theorem dX10_applyRepair_10 : decode cX10_applyRepair 10 = .ok (.iload_n 2, 1) := by decide +kernel
theorem dX10_applyRepair_11 : decode cX10_applyRepair 11 = .ok (.ireturn, 1) := by decide +kernel
theorem dX10_applyRepair_12 : decode cX10_applyRepair 12 = .ok (.aload_n 0, 1) := by decide +kernel
theorem dX10_applyRepair_13 : decode cX10_applyRepair 13 = .ok (.getfield 43, 3) := by decide +kernel
theorem dX10_applyRepair_16 : decode cX10_applyRepair 16 = .ok (.invokevirtual 208, 3) := by decide +kernel
theorem dX10_applyRepair_19 : decode cX10_applyRepair 19 = .ok (.bipush 12, 2) := by decide +kernel
theorem dX10_applyRepair_21 : decode cX10_applyRepair 21 = .ok (.if_icmp .le 6, 3) := by decide +kernel
theorem dX10_applyRepair_24 : decode cX10_applyRepair 24 = .ok (.bipush (-3), 2) := by decide +kernel
theorem dX10_applyRepair_26 : decode cX10_applyRepair 26 = .ok (.ireturn, 1) := by decide +kernel
theorem dX10_applyRepair_27 : decode cX10_applyRepair 27 = .ok (.aload_n 0, 1) := by decide +kernel
theorem dX10_applyRepair_28 : decode cX10_applyRepair 28 = .ok (.invokevirtual 75, 3) := by decide +kernel
theorem dX10_applyRepair_31 : decode cX10_applyRepair 31 = .ok (.aload_n 0, 1) := by decide +kernel
theorem dX10_applyRepair_32 : decode cX10_applyRepair 32 = .ok (.getfield 12, 3) := by decide +kernel
theorem dX10_applyRepair_35 : decode cX10_applyRepair 35 = .ok (.getfield 85, 3) := by decide +kernel
theorem dX10_applyRepair_38 : decode cX10_applyRepair 38 = .ok (.aload_n 0, 1) := by decide +kernel
theorem dX10_applyRepair_39 : decode cX10_applyRepair 39 = .ok (.getfield 43, 3) := by decide +kernel
theorem dX10_applyRepair_42 : decode cX10_applyRepair 42 = .ok (.invokevirtual 211, 3) := by decide +kernel
theorem dX10_applyRepair_45 : decode cX10_applyRepair 45 = .ok (.aload_n 0, 1) := by decide +kernel
theorem dX10_applyRepair_46 : decode cX10_applyRepair 46 = .ok (.getfield 12, 3) := by decide +kernel
theorem dX10_applyRepair_49 : decode cX10_applyRepair 49 = .ok (.getfield 85, 3) := by decide +kernel
theorem dX10_applyRepair_52 : decode cX10_applyRepair 52 = .ok (.getfield 89, 3) := by decide +kernel
theorem dX10_applyRepair_55 : decode cX10_applyRepair 55 = .ok (.ireturn, 1) := by decide +kernel
theorem dX10_traceBest_0 : decode cX10_traceBest 0 = .ok (.iload_n 1, 1) := by decide +kernel
theorem dX10_traceBest_1 : decode cX10_traceBest 1 = .ok (.ifCond .lt 9, 3) := by decide +kernel
theorem dX10_traceBest_4 : decode cX10_traceBest 4 = .ok (.iload_n 1, 1) := by decide +kernel
theorem dX10_traceBest_5 : decode cX10_traceBest 5 = .ok (.bipush 7, 2) := by decide +kernel
theorem dX10_traceBest_7 : decode cX10_traceBest 7 = .ok (.if_icmp .le 5, 3) := by decide +kernel
theorem dX10_traceBest_10 : decode cX10_traceBest 10 = .ok (.iconst (-1), 1) := by decide +kernel
theorem dX10_traceBest_11 : decode cX10_traceBest 11 = .ok (.ireturn, 1) := by decide +kernel
theorem dX10_traceBest_12 : decode cX10_traceBest 12 = .ok (.aload_n 0, 1) := by decide +kernel
theorem dX10_traceBest_13 : decode cX10_traceBest 13 = .ok (.getfield 33, 3) := by decide +kernel
theorem dX10_traceBest_16 : decode cX10_traceBest 16 = .ok (.aload_n 0, 1) := by decide +kernel
theorem dX10_traceBest_17 : decode cX10_traceBest 17 = .ok (.getfield 12, 3) := by decide +kernel
theorem dX10_traceBest_20 : decode cX10_traceBest 20 = .ok (.iconst 0, 1) := by decide +kernel
theorem dX10_traceBest_21 : decode cX10_traceBest 21 = .ok (.invokevirtual 185, 3) := by decide +kernel
theorem dX10_traceBest_24 : decode cX10_traceBest 24 = .ok (.iload_n 1, 1) := by decide +kernel
theorem dX10_traceBest_25 : decode cX10_traceBest 25 = .ok (.aload_n 0, 1) := by decide +kernel
theorem dX10_traceBest_26 : decode cX10_traceBest 26 = .ok (.getfield 33, 3) := by decide +kernel
theorem dX10_traceBest_29 : decode cX10_traceBest 29 = .ok (.iconst 0, 1) := by decide +kernel
theorem dX10_traceBest_30 : decode cX10_traceBest 30 = .ok (.iconst 1, 1) := by decide +kernel
theorem dX10_traceBest_31 : decode cX10_traceBest 31 = .ok (.invokevirtual 194, 3) := by decide +kernel
theorem dX10_traceBest_34 : decode cX10_traceBest 34 = .ok (.if_icmp .lt 6, 3) := by decide +kernel
theorem dX10_traceBest_37 : decode cX10_traceBest 37 = .ok (.bipush (-2), 2) := by decide +kernel
theorem dX10_traceBest_39 : decode cX10_traceBest 39 = .ok (.ireturn, 1) := by decide +kernel
theorem dX10_traceBest_40 : decode cX10_traceBest 40 = .ok (.aload_n 0, 1) := by decide +kernel
theorem dX10_traceBest_41 : decode cX10_traceBest 41 = .ok (.getfield 50, 3) := by decide +kernel
theorem dX10_traceBest_44 : decode cX10_traceBest 44 = .ok (.invokevirtual 174, 3) := by decide +kernel
theorem dX10_traceBest_47 : decode cX10_traceBest 47 = .ok (.aload_n 0, 1) := by decide +kernel
theorem dX10_traceBest_48 : decode cX10_traceBest 48 = .ok (.getfield 33, 3) := by decide +kernel
theorem dX10_traceBest_51 : decode cX10_traceBest 51 = .ok (.aload_n 0, 1) := by decide +kernel
theorem dX10_traceBest_52 : decode cX10_traceBest 52 = .ok (.getfield 50, 3) := by decide +kernel
theorem dX10_traceBest_55 : decode cX10_traceBest 55 = .ok (.iload_n 1, 1) := by decide +kernel
theorem dX10_traceBest_56 : decode cX10_traceBest 56 = .ok (.aload_n 0, 1) := by decide +kernel
theorem dX10_traceBest_57 : decode cX10_traceBest 57 = .ok (.getfield 43, 3) := by decide +kernel
theorem dX10_traceBest_60 : decode cX10_traceBest 60 = .ok (.invokevirtual 215, 3) := by decide +kernel
theorem dX10_traceBest_63 : decode cX10_traceBest 63 = .ok (.iconst 0, 1) := by decide +kernel
theorem dX10_traceBest_64 : decode cX10_traceBest 64 = .ok (.ireturn, 1) := by decide +kernel
theorem dX10_costOrNone_0 : decode cX10_costOrNone 0 = .ok (.iload_n 0, 1) := by decide +kernel
theorem dX10_costOrNone_1 : decode cX10_costOrNone 1 = .ok (.ldc 219, 2) := by decide +kernel
theorem dX10_costOrNone_3 : decode cX10_costOrNone 3 = .ok (.if_icmp .lt 8, 3) := by decide +kernel
theorem dX10_costOrNone_6 : decode cX10_costOrNone 6 = .ok (.bipush (-9), 2) := by decide +kernel
theorem dX10_costOrNone_8 : decode cX10_costOrNone 8 = .ok (.goto 4, 3) := by decide +kernel
theorem dX10_costOrNone_11 : decode cX10_costOrNone 11 = .ok (.iload_n 0, 1) := by decide +kernel
theorem dX10_costOrNone_12 : decode cX10_costOrNone 12 = .ok (.ireturn, 1) := by decide +kernel
theorem dX10_localCost_0 : decode cX10_localCost 0 = .ok (.aload_n 0, 1) := by decide +kernel
theorem dX10_localCost_1 : decode cX10_localCost 1 = .ok (.iload_n 1, 1) := by decide +kernel
theorem dX10_localCost_2 : decode cX10_localCost 2 = .ok (.invokevirtual 220, 3) := by decide +kernel
theorem dX10_localCost_5 : decode cX10_localCost 5 = .ok (.istore_n 2, 1) := by decide +kernel
theorem dX10_localCost_6 : decode cX10_localCost 6 = .ok (.iload_n 2, 1) := by decide +kernel
theorem dX10_localCost_7 : decode cX10_localCost 7 = .ok (.ifCond .ge 7, 3) := by decide +kernel
theorem dX10_localCost_10 : decode cX10_localCost 10 = .ok (.iload_n 2, 1) := by decide +kernel
theorem dX10_localCost_11 : decode cX10_localCost 11 = .ok (.goto 24, 3) := by decide +kernel
theorem dX10_localCost_14 : decode cX10_localCost 14 = .ok (.aload_n 0, 1) := by decide +kernel
theorem dX10_localCost_15 : decode cX10_localCost 15 = .ok (.getfield 37, 3) := by decide +kernel
theorem dX10_localCost_18 : decode cX10_localCost 18 = .ok (.aload_n 0, 1) := by decide +kernel
theorem dX10_localCost_19 : decode cX10_localCost 19 = .ok (.getfield 50, 3) := by decide +kernel
theorem dX10_localCost_22 : decode cX10_localCost 22 = .ok (.getfield 159, 3) := by decide +kernel
theorem dX10_localCost_25 : decode cX10_localCost 25 = .ok (.aload_n 0, 1) := by decide +kernel
theorem dX10_localCost_26 : decode cX10_localCost 26 = .ok (.getfield 50, 3) := by decide +kernel
theorem dX10_localCost_29 : decode cX10_localCost 29 = .ok (.getfield 165, 3) := by decide +kernel
theorem dX10_localCost_32 : decode cX10_localCost 32 = .ok (.invokevirtual 188, 3) := by decide +kernel
theorem dX10_localCost_35 : decode cX10_localCost 35 = .ok (.ireturn, 1) := by decide +kernel
theorem dX10_localOperation_0 : decode cX10_localOperation 0 = .ok (.iload_n 2, 1) := by decide +kernel
theorem dX10_localOperation_1 : decode cX10_localOperation 1 = .ok (.ifCond .ge 7, 3) := by decide +kernel
theorem dX10_localOperation_4 : decode cX10_localOperation 4 = .ok (.iconst (-1), 1) := by decide +kernel
theorem dX10_localOperation_5 : decode cX10_localOperation 5 = .ok (.goto 8, 3) := by decide +kernel
theorem dX10_localOperation_8 : decode cX10_localOperation 8 = .ok (.aload_n 0, 1) := by decide +kernel
theorem dX10_localOperation_9 : decode cX10_localOperation 9 = .ok (.iload_n 1, 1) := by decide +kernel
theorem dX10_localOperation_10 : decode cX10_localOperation 10 = .ok (.invokevirtual 220, 3) := by decide +kernel
theorem dX10_localOperation_13 : decode cX10_localOperation 13 = .ok (.istore_n 3, 1) := by decide +kernel
theorem dX10_localOperation_14 : decode cX10_localOperation 14 = .ok (.iload_n 3, 1) := by decide +kernel
theorem dX10_localOperation_15 : decode cX10_localOperation 15 = .ok (.ifCond .ge 5, 3) := by decide +kernel
theorem dX10_localOperation_18 : decode cX10_localOperation 18 = .ok (.iload_n 3, 1) := by decide +kernel
theorem dX10_localOperation_19 : decode cX10_localOperation 19 = .ok (.ireturn, 1) := by decide +kernel
theorem dX10_localOperation_20 : decode cX10_localOperation 20 = .ok (.aload_n 0, 1) := by decide +kernel
theorem dX10_localOperation_21 : decode cX10_localOperation 21 = .ok (.getfield 37, 3) := by decide +kernel
theorem dX10_localOperation_24 : decode cX10_localOperation 24 = .ok (.aload_n 0, 1) := by decide +kernel
theorem dX10_localOperation_25 : decode cX10_localOperation 25 = .ok (.getfield 50, 3) := by decide +kernel
theorem dX10_localOperation_28 : decode cX10_localOperation 28 = .ok (.iconst 0, 1) := by decide +kernel
theorem dX10_localOperation_29 : decode cX10_localOperation 29 = .ok (.aload_n 0, 1) := by decide +kernel
theorem dX10_localOperation_30 : decode cX10_localOperation 30 = .ok (.getfield 43, 3) := by decide +kernel
theorem dX10_localOperation_33 : decode cX10_localOperation 33 = .ok (.invokevirtual 215, 3) := by decide +kernel
theorem dX10_localOperation_36 : decode cX10_localOperation 36 = .ok (.aload_n 0, 1) := by decide +kernel
theorem dX10_localOperation_37 : decode cX10_localOperation 37 = .ok (.getfield 43, 3) := by decide +kernel
theorem dX10_localOperation_40 : decode cX10_localOperation 40 = .ok (.iload_n 2, 1) := by decide +kernel
theorem dX10_localOperation_41 : decode cX10_localOperation 41 = .ok (.invokevirtual 204, 3) := by decide +kernel
theorem dX10_localOperation_44 : decode cX10_localOperation 44 = .ok (.ireturn, 1) := by decide +kernel
theorem dX10_localKind_0 : decode cX10_localKind 0 = .ok (.iload_n 2, 1) := by decide +kernel
theorem dX10_localKind_1 : decode cX10_localKind 1 = .ok (.ifCond .ge 7, 3) := by decide +kernel
theorem dX10_localKind_4 : decode cX10_localKind 4 = .ok (.iconst (-1), 1) := by decide +kernel
theorem dX10_localKind_5 : decode cX10_localKind 5 = .ok (.goto 8, 3) := by decide +kernel
theorem dX10_localKind_8 : decode cX10_localKind 8 = .ok (.aload_n 0, 1) := by decide +kernel
theorem dX10_localKind_9 : decode cX10_localKind 9 = .ok (.iload_n 1, 1) := by decide +kernel
theorem dX10_localKind_10 : decode cX10_localKind 10 = .ok (.invokevirtual 220, 3) := by decide +kernel
theorem dX10_localKind_13 : decode cX10_localKind 13 = .ok (.istore_n 3, 1) := by decide +kernel
theorem dX10_localKind_14 : decode cX10_localKind 14 = .ok (.iload_n 3, 1) := by decide +kernel
theorem dX10_localKind_15 : decode cX10_localKind 15 = .ok (.ifCond .ge 5, 3) := by decide +kernel
theorem dX10_localKind_18 : decode cX10_localKind 18 = .ok (.iload_n 3, 1) := by decide +kernel
theorem dX10_localKind_19 : decode cX10_localKind 19 = .ok (.ireturn, 1) := by decide +kernel
theorem dX10_localKind_20 : decode cX10_localKind 20 = .ok (.aload_n 0, 1) := by decide +kernel
theorem dX10_localKind_21 : decode cX10_localKind 21 = .ok (.getfield 37, 3) := by decide +kernel
theorem dX10_localKind_24 : decode cX10_localKind 24 = .ok (.aload_n 0, 1) := by decide +kernel
theorem dX10_localKind_25 : decode cX10_localKind 25 = .ok (.getfield 50, 3) := by decide +kernel
theorem dX10_localKind_28 : decode cX10_localKind 28 = .ok (.iconst 0, 1) := by decide +kernel
theorem dX10_localKind_29 : decode cX10_localKind 29 = .ok (.aload_n 0, 1) := by decide +kernel
theorem dX10_localKind_30 : decode cX10_localKind 30 = .ok (.getfield 43, 3) := by decide +kernel
theorem dX10_localKind_33 : decode cX10_localKind 33 = .ok (.invokevirtual 215, 3) := by decide +kernel
theorem dX10_localKind_36 : decode cX10_localKind 36 = .ok (.aload_n 0, 1) := by decide +kernel
theorem dX10_localKind_37 : decode cX10_localKind 37 = .ok (.getfield 43, 3) := by decide +kernel
theorem dX10_localKind_40 : decode cX10_localKind 40 = .ok (.iload_n 2, 1) := by decide +kernel
theorem dX10_localKind_41 : decode cX10_localKind 41 = .ok (.invokevirtual 207, 3) := by decide +kernel
theorem dX10_localKind_44 : decode cX10_localKind 44 = .ok (.ireturn, 1) := by decide +kernel
theorem dX10_sweepCost_0 : decode cX10_sweepCost 0 = .ok (.iload_n 1, 1) := by decide +kernel
theorem dX10_sweepCost_1 : decode cX10_sweepCost 1 = .ok (.invokestatic 223, 3) := by decide +kernel
theorem dX10_sweepCost_4 : decode cX10_sweepCost 4 = .ok (.ifCond .ne 5, 3) := by decide +kernel
theorem dX10_sweepCost_7 : decode cX10_sweepCost 7 = .ok (.iconst (-1), 1) := by decide +kernel
theorem dX10_sweepCost_8 : decode cX10_sweepCost 8 = .ok (.ireturn, 1) := by decide +kernel
theorem dX10_sweepCost_9 : decode cX10_sweepCost 9 = .ok (.aload_n 0, 1) := by decide +kernel
theorem dX10_sweepCost_10 : decode cX10_sweepCost 10 = .ok (.getfield 37, 3) := by decide +kernel
theorem dX10_sweepCost_13 : decode cX10_sweepCost 13 = .ok (.aload_n 0, 1) := by decide +kernel
theorem dX10_sweepCost_14 : decode cX10_sweepCost 14 = .ok (.getfield 12, 3) := by decide +kernel
theorem dX10_sweepCost_17 : decode cX10_sweepCost 17 = .ok (.iload_n 1, 1) := by decide +kernel
theorem dX10_sweepCost_18 : decode cX10_sweepCost 18 = .ok (.invokevirtual 185, 3) := by decide +kernel
theorem dX10_sweepCost_21 : decode cX10_sweepCost 21 = .ok (.aload_n 0, 1) := by decide +kernel
theorem dX10_sweepCost_22 : decode cX10_sweepCost 22 = .ok (.getfield 50, 3) := by decide +kernel
theorem dX10_sweepCost_25 : decode cX10_sweepCost 25 = .ok (.invokevirtual 174, 3) := by decide +kernel
theorem dX10_sweepCost_28 : decode cX10_sweepCost 28 = .ok (.iconst 0, 1) := by decide +kernel
theorem dX10_sweepCost_29 : decode cX10_sweepCost 29 = .ok (.istore_n 2, 1) := by decide +kernel
theorem dX10_sweepCost_30 : decode cX10_sweepCost 30 = .ok (.iconst 0, 1) := by decide +kernel
theorem dX10_sweepCost_31 : decode cX10_sweepCost 31 = .ok (.istore_n 3, 1) := by decide +kernel
theorem dX10_sweepCost_32 : decode cX10_sweepCost 32 = .ok (.iload_n 3, 1) := by decide +kernel
theorem dX10_sweepCost_33 : decode cX10_sweepCost 33 = .ok (.bipush 13, 2) := by decide +kernel
theorem dX10_sweepCost_35 : decode cX10_sweepCost 35 = .ok (.if_icmp .gt 92, 3) := by decide +kernel
theorem dX10_sweepCost_38 : decode cX10_sweepCost 38 = .ok (.aload_n 0, 1) := by decide +kernel
theorem dX10_sweepCost_39 : decode cX10_sweepCost 39 = .ok (.getfield 50, 3) := by decide +kernel
theorem dX10_sweepCost_42 : decode cX10_sweepCost 42 = .ok (.aload_n 0, 1) := by decide +kernel
theorem dX10_sweepCost_43 : decode cX10_sweepCost 43 = .ok (.getfield 12, 3) := by decide +kernel
theorem dX10_sweepCost_46 : decode cX10_sweepCost 46 = .ok (.bipush 12, 2) := by decide +kernel
theorem dX10_sweepCost_48 : decode cX10_sweepCost 48 = .ok (.invokevirtual 177, 3) := by decide +kernel
theorem dX10_sweepCost_51 : decode cX10_sweepCost 51 = .ok (.aload_n 0, 1) := by decide +kernel
theorem dX10_sweepCost_52 : decode cX10_sweepCost 52 = .ok (.getfield 50, 3) := by decide +kernel
theorem dX10_sweepCost_55 : decode cX10_sweepCost 55 = .ok (.aload_n 0, 1) := by decide +kernel
theorem dX10_sweepCost_56 : decode cX10_sweepCost 56 = .ok (.getfield 12, 3) := by decide +kernel
theorem dX10_sweepCost_59 : decode cX10_sweepCost 59 = .ok (.invokevirtual 181, 3) := by decide +kernel
theorem dX10_sweepCost_62 : decode cX10_sweepCost 62 = .ok (.ifCond .eq 5, 3) := by decide +kernel
theorem dX10_sweepCost_65 : decode cX10_sweepCost 65 = .ok (.iload_n 2, 1) := by decide +kernel
theorem dX10_sweepCost_66 : decode cX10_sweepCost 66 = .ok (.ireturn, 1) := by decide +kernel
theorem dX10_sweepCost_67 : decode cX10_sweepCost 67 = .ok (.aload_n 0, 1) := by decide +kernel
theorem dX10_sweepCost_68 : decode cX10_sweepCost 68 = .ok (.getfield 37, 3) := by decide +kernel
theorem dX10_sweepCost_71 : decode cX10_sweepCost 71 = .ok (.aload_n 0, 1) := by decide +kernel
theorem dX10_sweepCost_72 : decode cX10_sweepCost 72 = .ok (.getfield 50, 3) := by decide +kernel
theorem dX10_sweepCost_75 : decode cX10_sweepCost 75 = .ok (.getfield 159, 3) := by decide +kernel
theorem dX10_sweepCost_78 : decode cX10_sweepCost 78 = .ok (.aload_n 0, 1) := by decide +kernel
theorem dX10_sweepCost_79 : decode cX10_sweepCost 79 = .ok (.getfield 50, 3) := by decide +kernel
theorem dX10_sweepCost_82 : decode cX10_sweepCost 82 = .ok (.getfield 165, 3) := by decide +kernel
theorem dX10_sweepCost_85 : decode cX10_sweepCost 85 = .ok (.invokevirtual 188, 3) := by decide +kernel
theorem dX10_sweepCost_88 : decode cX10_sweepCost 88 = .ok (.istore 4, 2) := by decide +kernel
theorem dX10_sweepCost_90 : decode cX10_sweepCost 90 = .ok (.iload 4, 2) := by decide +kernel
theorem dX10_sweepCost_92 : decode cX10_sweepCost 92 = .ok (.ldc 219, 2) := by decide +kernel
theorem dX10_sweepCost_94 : decode cX10_sweepCost 94 = .ok (.if_icmp .lt 6, 3) := by decide +kernel
theorem dX10_sweepCost_97 : decode cX10_sweepCost 97 = .ok (.bipush (-9), 2) := by decide +kernel
theorem dX10_sweepCost_99 : decode cX10_sweepCost 99 = .ok (.ireturn, 1) := by decide +kernel
theorem dX10_sweepCost_100 : decode cX10_sweepCost 100 = .ok (.iload_n 2, 1) := by decide +kernel
theorem dX10_sweepCost_101 : decode cX10_sweepCost 101 = .ok (.iload 4, 2) := by decide +kernel
theorem dX10_sweepCost_103 : decode cX10_sweepCost 103 = .ok (.iadd, 1) := by decide +kernel
theorem dX10_sweepCost_104 : decode cX10_sweepCost 104 = .ok (.istore_n 2, 1) := by decide +kernel
theorem dX10_sweepCost_105 : decode cX10_sweepCost 105 = .ok (.aload_n 0, 1) := by decide +kernel
theorem dX10_sweepCost_106 : decode cX10_sweepCost 106 = .ok (.getfield 37, 3) := by decide +kernel
theorem dX10_sweepCost_109 : decode cX10_sweepCost 109 = .ok (.aload_n 0, 1) := by decide +kernel
theorem dX10_sweepCost_110 : decode cX10_sweepCost 110 = .ok (.getfield 50, 3) := by decide +kernel
theorem dX10_sweepCost_113 : decode cX10_sweepCost 113 = .ok (.iconst 0, 1) := by decide +kernel
theorem dX10_sweepCost_114 : decode cX10_sweepCost 114 = .ok (.aload_n 0, 1) := by decide +kernel
theorem dX10_sweepCost_115 : decode cX10_sweepCost 115 = .ok (.getfield 43, 3) := by decide +kernel
theorem dX10_sweepCost_118 : decode cX10_sweepCost 118 = .ok (.invokevirtual 215, 3) := by decide +kernel
theorem dX10_sweepCost_121 : decode cX10_sweepCost 121 = .ok (.iinc 3 1, 3) := by decide +kernel
theorem dX10_sweepCost_124 : decode cX10_sweepCost 124 = .ok (.goto (-92), 3) := by decide +kernel
theorem dX10_sweepCost_127 : decode cX10_sweepCost 127 = .ok (.bipush (-9), 2) := by decide +kernel
theorem dX10_sweepCost_129 : decode cX10_sweepCost 129 = .ok (.ireturn, 1) := by decide +kernel
theorem dX10_undoCount_0 : decode cX10_undoCount 0 = .ok (.aload_n 0, 1) := by decide +kernel
theorem dX10_undoCount_1 : decode cX10_undoCount 1 = .ok (.getfield 19, 3) := by decide +kernel
theorem dX10_undoCount_4 : decode cX10_undoCount 4 = .ok (.getfield 129, 3) := by decide +kernel
theorem dX10_undoCount_7 : decode cX10_undoCount 7 = .ok (.ireturn, 1) := by decide +kernel
theorem dX10_solveLocal_0 : decode cX10_solveLocal 0 = .ok (.iload_n 1, 1) := by decide +kernel
theorem dX10_solveLocal_1 : decode cX10_solveLocal 1 = .ok (.invokestatic 223, 3) := by decide +kernel
theorem dX10_solveLocal_4 : decode cX10_solveLocal 4 = .ok (.ifCond .ne 5, 3) := by decide +kernel
theorem dX10_solveLocal_7 : decode cX10_solveLocal 7 = .ok (.iconst (-1), 1) := by decide +kernel
theorem dX10_solveLocal_8 : decode cX10_solveLocal 8 = .ok (.ireturn, 1) := by decide +kernel
theorem dX10_solveLocal_9 : decode cX10_solveLocal 9 = .ok (.aload_n 0, 1) := by decide +kernel
theorem dX10_solveLocal_10 : decode cX10_solveLocal 10 = .ok (.invokevirtual 155, 3) := by decide +kernel
theorem dX10_solveLocal_13 : decode cX10_solveLocal 13 = .ok (.ifCond .ne 6, 3) := by decide +kernel
theorem dX10_solveLocal_16 : decode cX10_solveLocal 16 = .ok (.bipush (-2), 2) := by decide +kernel
theorem dX10_solveLocal_18 : decode cX10_solveLocal 18 = .ok (.ireturn, 1) := by decide +kernel
theorem dX10_solveLocal_19 : decode cX10_solveLocal 19 = .ok (.aload_n 0, 1) := by decide +kernel
theorem dX10_solveLocal_20 : decode cX10_solveLocal 20 = .ok (.getfield 37, 3) := by decide +kernel
theorem dX10_solveLocal_23 : decode cX10_solveLocal 23 = .ok (.aload_n 0, 1) := by decide +kernel
theorem dX10_solveLocal_24 : decode cX10_solveLocal 24 = .ok (.getfield 12, 3) := by decide +kernel
theorem dX10_solveLocal_27 : decode cX10_solveLocal 27 = .ok (.iload_n 1, 1) := by decide +kernel
theorem dX10_solveLocal_28 : decode cX10_solveLocal 28 = .ok (.invokevirtual 185, 3) := by decide +kernel
theorem dX10_solveLocal_31 : decode cX10_solveLocal 31 = .ok (.aload_n 0, 1) := by decide +kernel
theorem dX10_solveLocal_32 : decode cX10_solveLocal 32 = .ok (.getfield 37, 3) := by decide +kernel
theorem dX10_solveLocal_35 : decode cX10_solveLocal 35 = .ok (.aload_n 0, 1) := by decide +kernel
theorem dX10_solveLocal_36 : decode cX10_solveLocal 36 = .ok (.getfield 50, 3) := by decide +kernel
theorem dX10_solveLocal_39 : decode cX10_solveLocal 39 = .ok (.getfield 159, 3) := by decide +kernel
theorem dX10_solveLocal_42 : decode cX10_solveLocal 42 = .ok (.aload_n 0, 1) := by decide +kernel
theorem dX10_solveLocal_43 : decode cX10_solveLocal 43 = .ok (.getfield 50, 3) := by decide +kernel
theorem dX10_solveLocal_46 : decode cX10_solveLocal 46 = .ok (.getfield 165, 3) := by decide +kernel
theorem dX10_solveLocal_49 : decode cX10_solveLocal 49 = .ok (.invokevirtual 188, 3) := by decide +kernel
theorem dX10_solveLocal_52 : decode cX10_solveLocal 52 = .ok (.ldc 219, 2) := by decide +kernel
theorem dX10_solveLocal_54 : decode cX10_solveLocal 54 = .ok (.if_icmp .lt 8, 3) := by decide +kernel
theorem dX10_solveLocal_57 : decode cX10_solveLocal 57 = .ok (.bipush (-9), 2) := by decide +kernel
theorem dX10_solveLocal_59 : decode cX10_solveLocal 59 = .ok (.goto 4, 3) := by decide +kernel
theorem dX10_solveLocal_62 : decode cX10_solveLocal 62 = .ok (.iconst 0, 1) := by decide +kernel
theorem dX10_solveLocal_63 : decode cX10_solveLocal 63 = .ok (.ireturn, 1) := by decide +kernel
theorem dX10_isLookAhead_0 : decode cX10_isLookAhead 0 = .ok (.iload_n 0, 1) := by decide +kernel
theorem dX10_isLookAhead_1 : decode cX10_isLookAhead 1 = .ok (.iconst 1, 1) := by decide +kernel
theorem dX10_isLookAhead_2 : decode cX10_isLookAhead 2 = .ok (.if_icmp .lt 12, 3) := by decide +kernel
theorem dX10_isLookAhead_5 : decode cX10_isLookAhead 5 = .ok (.iload_n 0, 1) := by decide +kernel
theorem dX10_isLookAhead_6 : decode cX10_isLookAhead 6 = .ok (.iconst 5, 1) := by decide +kernel
theorem dX10_isLookAhead_7 : decode cX10_isLookAhead 7 = .ok (.if_icmp .gt 7, 3) := by decide +kernel
theorem dX10_isLookAhead_10 : decode cX10_isLookAhead 10 = .ok (.iconst 1, 1) := by decide +kernel
theorem dX10_isLookAhead_11 : decode cX10_isLookAhead 11 = .ok (.goto 4, 3) := by decide +kernel
theorem dX10_isLookAhead_14 : decode cX10_isLookAhead 14 = .ok (.iconst 0, 1) := by decide +kernel
theorem dX10_isLookAhead_15 : decode cX10_isLookAhead 15 = .ok (.ireturn, 1) := by decide +kernel
theorem dX10_isKind_0 : decode cX10_isKind 0 = .ok (.iload_n 0, 1) := by decide +kernel
theorem dX10_isKind_1 : decode cX10_isKind 1 = .ok (.ifCond .lt 13, 3) := by decide +kernel
theorem dX10_isKind_4 : decode cX10_isKind 4 = .ok (.iload_n 0, 1) := by decide +kernel
theorem dX10_isKind_5 : decode cX10_isKind 5 = .ok (.bipush 6, 2) := by decide +kernel
theorem dX10_isKind_7 : decode cX10_isKind 7 = .ok (.if_icmp .ge 7, 3) := by decide +kernel
theorem dX10_isKind_10 : decode cX10_isKind 10 = .ok (.iconst 1, 1) := by decide +kernel
theorem dX10_isKind_11 : decode cX10_isKind 11 = .ok (.goto 4, 3) := by decide +kernel
theorem dX10_isKind_14 : decode cX10_isKind 14 = .ok (.iconst 0, 1) := by decide +kernel
theorem dX10_isKind_15 : decode cX10_isKind 15 = .ok (.ireturn, 1) := by decide +kernel
theorem dX10_at_0 : decode cX10_at 0 = .ok (.iload_n 1, 1) := by decide +kernel
theorem dX10_at_1 : decode cX10_at 1 = .ok (.ifCond .lt 15, 3) := by decide +kernel
theorem dX10_at_4 : decode cX10_at 4 = .ok (.iload_n 1, 1) := by decide +kernel
theorem dX10_at_5 : decode cX10_at 5 = .ok (.aload_n 0, 1) := by decide +kernel
theorem dX10_at_6 : decode cX10_at 6 = .ok (.arraylength, 1) := by decide +kernel
theorem dX10_at_7 : decode cX10_at 7 = .ok (.if_icmp .ge 9, 3) := by decide +kernel
theorem dX10_at_10 : decode cX10_at 10 = .ok (.aload_n 0, 1) := by decide +kernel
theorem dX10_at_11 : decode cX10_at 11 = .ok (.iload_n 1, 1) := by decide +kernel
theorem dX10_at_12 : decode cX10_at 12 = .ok (.iaload, 1) := by decide +kernel
theorem dX10_at_13 : decode cX10_at 13 = .ok (.goto 4, 3) := by decide +kernel
theorem dX10_at_16 : decode cX10_at 16 = .ok (.iconst (-1), 1) := by decide +kernel
theorem dX10_at_17 : decode cX10_at 17 = .ok (.ireturn, 1) := by decide +kernel
theorem dX10_put_0 : decode cX10_put 0 = .ok (.iload_n 1, 1) := by decide +kernel
theorem dX10_put_1 : decode cX10_put 1 = .ok (.ifCond .lt 13, 3) := by decide +kernel
theorem dX10_put_4 : decode cX10_put 4 = .ok (.iload_n 1, 1) := by decide +kernel
theorem dX10_put_5 : decode cX10_put 5 = .ok (.aload_n 0, 1) := by decide +kernel
theorem dX10_put_6 : decode cX10_put 6 = .ok (.arraylength, 1) := by decide +kernel
theorem dX10_put_7 : decode cX10_put 7 = .ok (.if_icmp .ge 7, 3) := by decide +kernel
theorem dX10_put_10 : decode cX10_put 10 = .ok (.aload_n 0, 1) := by decide +kernel
theorem dX10_put_11 : decode cX10_put 11 = .ok (.iload_n 1, 1) := by decide +kernel
theorem dX10_put_12 : decode cX10_put 12 = .ok (.iload_n 2, 1) := by decide +kernel
theorem dX10_put_13 : decode cX10_put 13 = .ok (.iastore, 1) := by decide +kernel
theorem dX10_put_14 : decode cX10_put 14 = .ok (.return_, 1) := by decide +kernel
theorem dX10_copy_0 : decode cX10_copy 0 = .ok (.iconst 0, 1) := by decide +kernel
theorem dX10_copy_1 : decode cX10_copy 1 = .ok (.istore_n 2, 1) := by decide +kernel
theorem dX10_copy_2 : decode cX10_copy 2 = .ok (.iload_n 2, 1) := by decide +kernel
theorem dX10_copy_3 : decode cX10_copy 3 = .ok (.aload_n 1, 1) := by decide +kernel
theorem dX10_copy_4 : decode cX10_copy 4 = .ok (.arraylength, 1) := by decide +kernel
theorem dX10_copy_5 : decode cX10_copy 5 = .ok (.if_icmp .ge 21, 3) := by decide +kernel
theorem dX10_copy_8 : decode cX10_copy 8 = .ok (.iload_n 2, 1) := by decide +kernel
theorem dX10_copy_9 : decode cX10_copy 9 = .ok (.aload_n 0, 1) := by decide +kernel
theorem dX10_copy_10 : decode cX10_copy 10 = .ok (.arraylength, 1) := by decide +kernel
theorem dX10_copy_11 : decode cX10_copy 11 = .ok (.if_icmp .ge 15, 3) := by decide +kernel
theorem dX10_copy_14 : decode cX10_copy 14 = .ok (.aload_n 1, 1) := by decide +kernel
theorem dX10_copy_15 : decode cX10_copy 15 = .ok (.iload_n 2, 1) := by decide +kernel
theorem dX10_copy_16 : decode cX10_copy 16 = .ok (.aload_n 0, 1) := by decide +kernel
theorem dX10_copy_17 : decode cX10_copy 17 = .ok (.iload_n 2, 1) := by decide +kernel
theorem dX10_copy_18 : decode cX10_copy 18 = .ok (.iaload, 1) := by decide +kernel
theorem dX10_copy_19 : decode cX10_copy 19 = .ok (.iastore, 1) := by decide +kernel
theorem dX10_copy_20 : decode cX10_copy 20 = .ok (.iinc 2 1, 3) := by decide +kernel
theorem dX10_copy_23 : decode cX10_copy 23 = .ok (.goto (-21), 3) := by decide +kernel
theorem dX10_copy_26 : decode cX10_copy 26 = .ok (.return_, 1) := by decide +kernel
theorem dX10_fill_0 : decode cX10_fill 0 = .ok (.iconst 0, 1) := by decide +kernel
theorem dX10_fill_1 : decode cX10_fill 1 = .ok (.istore_n 2, 1) := by decide +kernel
theorem dX10_fill_2 : decode cX10_fill 2 = .ok (.iload_n 2, 1) := by decide +kernel
theorem dX10_fill_3 : decode cX10_fill 3 = .ok (.aload_n 0, 1) := by decide +kernel
theorem dX10_fill_4 : decode cX10_fill 4 = .ok (.arraylength, 1) := by decide +kernel
theorem dX10_fill_5 : decode cX10_fill 5 = .ok (.if_icmp .ge 13, 3) := by decide +kernel
theorem dX10_fill_8 : decode cX10_fill 8 = .ok (.aload_n 0, 1) := by decide +kernel
theorem dX10_fill_9 : decode cX10_fill 9 = .ok (.iload_n 2, 1) := by decide +kernel
theorem dX10_fill_10 : decode cX10_fill 10 = .ok (.iload_n 1, 1) := by decide +kernel
theorem dX10_fill_11 : decode cX10_fill 11 = .ok (.iastore, 1) := by decide +kernel
theorem dX10_fill_12 : decode cX10_fill 12 = .ok (.iinc 2 1, 3) := by decide +kernel
theorem dX10_fill_15 : decode cX10_fill 15 = .ok (.goto (-13), 3) := by decide +kernel
theorem dX10_fill_18 : decode cX10_fill 18 = .ok (.return_, 1) := by decide +kernel
theorem dX11_init_0 : decode cX11_init 0 = .ok (.aload_n 0, 1) := by decide +kernel
theorem dX11_init_1 : decode cX11_init 1 = .ok (.invokespecial 1, 3) := by decide +kernel
theorem dX11_init_4 : decode cX11_init 4 = .ok (.aload_n 0, 1) := by decide +kernel
theorem dX11_init_5 : decode cX11_init 5 = .ok (.bipush 69, 2) := by decide +kernel
theorem dX11_init_7 : decode cX11_init 7 = .ok (.newarray .int, 2) := by decide +kernel
theorem dX11_init_9 : decode cX11_init 9 = .ok (.putfield 7, 3) := by decide +kernel
theorem dX11_init_12 : decode cX11_init 12 = .ok (.aload_n 0, 1) := by decide +kernel
theorem dX11_init_13 : decode cX11_init 13 = .ok (.bipush 69, 2) := by decide +kernel
theorem dX11_init_15 : decode cX11_init 15 = .ok (.newarray .int, 2) := by decide +kernel
theorem dX11_init_17 : decode cX11_init 17 = .ok (.putfield 13, 3) := by decide +kernel
theorem dX11_init_20 : decode cX11_init 20 = .ok (.aload_n 0, 1) := by decide +kernel
theorem dX11_init_21 : decode cX11_init 21 = .ok (.sipush 552, 3) := by decide +kernel
theorem dX11_init_24 : decode cX11_init 24 = .ok (.newarray .int, 2) := by decide +kernel
theorem dX11_init_26 : decode cX11_init 26 = .ok (.putfield 16, 3) := by decide +kernel
theorem dX11_init_29 : decode cX11_init 29 = .ok (.aload_n 0, 1) := by decide +kernel
theorem dX11_init_30 : decode cX11_init 30 = .ok (.sipush 150, 3) := by decide +kernel
theorem dX11_init_33 : decode cX11_init 33 = .ok (.newarray .int, 2) := by decide +kernel
theorem dX11_init_35 : decode cX11_init 35 = .ok (.putfield 19, 3) := by decide +kernel
theorem dX11_init_38 : decode cX11_init 38 = .ok (.aload_n 0, 1) := by decide +kernel
theorem dX11_init_39 : decode cX11_init 39 = .ok (.sipush 1248, 3) := by decide +kernel
theorem dX11_init_42 : decode cX11_init 42 = .ok (.newarray .int, 2) := by decide +kernel
theorem dX11_init_44 : decode cX11_init 44 = .ok (.putfield 22, 3) := by decide +kernel
theorem dX11_init_47 : decode cX11_init 47 = .ok (.aload_n 0, 1) := by decide +kernel
theorem dX11_init_48 : decode cX11_init 48 = .ok (.sipush 1248, 3) := by decide +kernel
theorem dX11_init_51 : decode cX11_init 51 = .ok (.newarray .int, 2) := by decide +kernel
theorem dX11_init_53 : decode cX11_init 53 = .ok (.putfield 25, 3) := by decide +kernel
theorem dX11_init_56 : decode cX11_init 56 = .ok (.aload_n 0, 1) := by decide +kernel
theorem dX11_init_57 : decode cX11_init 57 = .ok (.sipush 1248, 3) := by decide +kernel
theorem dX11_init_60 : decode cX11_init 60 = .ok (.newarray .int, 2) := by decide +kernel
theorem dX11_init_62 : decode cX11_init 62 = .ok (.putfield 28, 3) := by decide +kernel
theorem dX11_init_65 : decode cX11_init 65 = .ok (.aload_n 0, 1) := by decide +kernel
theorem dX11_init_66 : decode cX11_init 66 = .ok (.sipush 1248, 3) := by decide +kernel
theorem dX11_init_69 : decode cX11_init 69 = .ok (.newarray .int, 2) := by decide +kernel
theorem dX11_init_71 : decode cX11_init 71 = .ok (.putfield 31, 3) := by decide +kernel
theorem dX11_init_74 : decode cX11_init 74 = .ok (.aload_n 0, 1) := by decide +kernel
theorem dX11_init_75 : decode cX11_init 75 = .ok (.sipush 1248, 3) := by decide +kernel
theorem dX11_init_78 : decode cX11_init 78 = .ok (.newarray .int, 2) := by decide +kernel
theorem dX11_init_80 : decode cX11_init 80 = .ok (.putfield 34, 3) := by decide +kernel
theorem dX11_init_83 : decode cX11_init 83 = .ok (.aload_n 0, 1) := by decide +kernel
theorem dX11_init_84 : decode cX11_init 84 = .ok (.sipush 1248, 3) := by decide +kernel
theorem dX11_init_87 : decode cX11_init 87 = .ok (.newarray .int, 2) := by decide +kernel
theorem dX11_init_89 : decode cX11_init 89 = .ok (.putfield 37, 3) := by decide +kernel
theorem dX11_init_92 : decode cX11_init 92 = .ok (.aload_n 0, 1) := by decide +kernel
theorem dX11_init_93 : decode cX11_init 93 = .ok (.getfield 7, 3) := by decide +kernel
theorem dX11_init_96 : decode cX11_init 96 = .ok (.invokestatic 40, 3) := by decide +kernel
theorem dX11_init_99 : decode cX11_init 99 = .ok (.aload_n 0, 1) := by decide +kernel
theorem dX11_init_100 : decode cX11_init 100 = .ok (.getfield 7, 3) := by decide +kernel
theorem dX11_init_103 : decode cX11_init 103 = .ok (.iconst 0, 1) := by decide +kernel
theorem dX11_init_104 : decode cX11_init 104 = .ok (.iconst 1, 1) := by decide +kernel
theorem dX11_init_105 : decode cX11_init 105 = .ok (.iastore, 1) := by decide +kernel
theorem dX11_init_106 : decode cX11_init 106 = .ok (.aload_n 0, 1) := by decide +kernel
theorem dX11_init_107 : decode cX11_init 107 = .ok (.getfield 7, 3) := by decide +kernel
theorem dX11_init_110 : decode cX11_init 110 = .ok (.iconst 1, 1) := by decide +kernel
theorem dX11_init_111 : decode cX11_init 111 = .ok (.iconst 1, 1) := by decide +kernel
theorem dX11_init_112 : decode cX11_init 112 = .ok (.iastore, 1) := by decide +kernel
theorem dX11_init_113 : decode cX11_init 113 = .ok (.return_, 1) := by decide +kernel
theorem dX11_in_0 : decode cX11_in 0 = .ok (.iload_n 0, 1) := by decide +kernel
theorem dX11_in_1 : decode cX11_in 1 = .ok (.iload_n 1, 1) := by decide +kernel
theorem dX11_in_2 : decode cX11_in 2 = .ok (.if_icmp .lt 12, 3) := by decide +kernel
theorem dX11_in_5 : decode cX11_in 5 = .ok (.iload_n 0, 1) := by decide +kernel
theorem dX11_in_6 : decode cX11_in 6 = .ok (.iload_n 2, 1) := by decide +kernel
theorem dX11_in_7 : decode cX11_in 7 = .ok (.if_icmp .gt 7, 3) := by decide +kernel
theorem dX11_in_10 : decode cX11_in 10 = .ok (.iconst 1, 1) := by decide +kernel
theorem dX11_in_11 : decode cX11_in 11 = .ok (.goto 4, 3) := by decide +kernel
theorem dX11_in_14 : decode cX11_in 14 = .ok (.iconst 0, 1) := by decide +kernel
theorem dX11_in_15 : decode cX11_in 15 = .ok (.ireturn, 1) := by decide +kernel
theorem dX11_clearData_0 : decode cX11_clearData 0 = .ok (.iconst 0, 1) := by decide +kernel
theorem dX11_clearData_1 : decode cX11_clearData 1 = .ok (.istore_n 1, 1) := by decide +kernel
theorem dX11_clearData_2 : decode cX11_clearData 2 = .ok (.iload_n 1, 1) := by decide +kernel
theorem dX11_clearData_3 : decode cX11_clearData 3 = .ok (.bipush 69, 2) := by decide +kernel
theorem dX11_clearData_5 : decode cX11_clearData 5 = .ok (.if_icmp .ge 29, 3) := by decide +kernel
theorem dX11_clearData_8 : decode cX11_clearData 8 = .ok (.aload_n 0, 1) := by decide +kernel
theorem dX11_clearData_9 : decode cX11_clearData 9 = .ok (.iload_n 1, 1) := by decide +kernel
theorem dX11_clearData_10 : decode cX11_clearData 10 = .ok (.iload_n 1, 1) := by decide +kernel
theorem dX11_clearData_11 : decode cX11_clearData 11 = .ok (.bipush 38, 2) := by decide +kernel
theorem dX11_clearData_13 : decode cX11_clearData 13 = .ok (.if_icmp .lt 13, 3) := by decide +kernel
theorem dX11_clearData_16 : decode cX11_clearData 16 = .ok (.iload_n 1, 1) := by decide +kernel
theorem dX11_clearData_17 : decode cX11_clearData 17 = .ok (.bipush 56, 2) := by decide +kernel
theorem dX11_clearData_19 : decode cX11_clearData 19 = .ok (.if_icmp .ge 7, 3) := by decide +kernel
theorem dX11_clearData_22 : decode cX11_clearData 22 = .ok (.iconst 1, 1) := by decide +kernel
theorem dX11_clearData_23 : decode cX11_clearData 23 = .ok (.goto 4, 3) := by decide +kernel
theorem dX11_clearData_26 : decode cX11_clearData 26 = .ok (.iconst 0, 1) := by decide +kernel
theorem dX11_clearData_27 : decode cX11_clearData 27 = .ok (.iastore, 1) := by decide +kernel
theorem dX11_clearData_28 : decode cX11_clearData 28 = .ok (.iinc 1 1, 3) := by decide +kernel
theorem dX11_clearData_31 : decode cX11_clearData 31 = .ok (.goto (-29), 3) := by decide +kernel
theorem dX11_clearData_34 : decode cX11_clearData 34 = .ok (.return_, 1) := by decide +kernel
theorem dX11_copyData_0 : decode cX11_copyData 0 = .ok (.iconst 0, 1) := by decide +kernel
theorem dX11_copyData_1 : decode cX11_copyData 1 = .ok (.istore 4, 2) := by decide +kernel
theorem dX11_copyData_3 : decode cX11_copyData 3 = .ok (.iload 4, 2) := by decide +kernel
theorem dX11_copyData_5 : decode cX11_copyData 5 = .ok (.bipush 69, 2) := by decide +kernel
theorem dX11_copyData_7 : decode cX11_copyData 7 = .ok (.if_icmp .ge 21, 3) := by decide +kernel
theorem dX11_copyData_10 : decode cX11_copyData 10 = .ok (.aload_n 2, 1) := by decide +kernel
theorem dX11_copyData_11 : decode cX11_copyData 11 = .ok (.iload_n 3, 1) := by decide +kernel
theorem dX11_copyData_12 : decode cX11_copyData 12 = .ok (.iload 4, 2) := by decide +kernel
theorem dX11_copyData_14 : decode cX11_copyData 14 = .ok (.iadd, 1) := by decide +kernel
theorem dX11_copyData_15 : decode cX11_copyData 15 = .ok (.aload_n 0, 1) := by decide +kernel
theorem dX11_copyData_16 : decode cX11_copyData 16 = .ok (.iload_n 1, 1) := by decide +kernel
theorem dX11_copyData_17 : decode cX11_copyData 17 = .ok (.iload 4, 2) := by decide +kernel
theorem dX11_copyData_19 : decode cX11_copyData 19 = .ok (.iadd, 1) := by decide +kernel
theorem dX11_copyData_20 : decode cX11_copyData 20 = .ok (.iaload, 1) := by decide +kernel
theorem dX11_copyData_21 : decode cX11_copyData 21 = .ok (.iastore, 1) := by decide +kernel
theorem dX11_copyData_22 : decode cX11_copyData 22 = .ok (.iinc 4 1, 3) := by decide +kernel
theorem dX11_copyData_25 : decode cX11_copyData 25 = .ok (.goto (-22), 3) := by decide +kernel
theorem dX11_copyData_28 : decode cX11_copyData 28 = .ok (.return_, 1) := by decide +kernel
theorem dX11_save_0 : decode cX11_save 0 = .ok (.aload_n 0, 1) := by decide +kernel
theorem dX11_save_1 : decode cX11_save 1 = .ok (.getfield 44, 3) := by decide +kernel
theorem dX11_save_4 : decode cX11_save 4 = .ok (.bipush 8, 2) := by decide +kernel
theorem dX11_save_6 : decode cX11_save 6 = .ok (.if_icmp .ne 43, 3) := by decide +kernel
theorem dX11_save_9 : decode cX11_save 9 = .ok (.iconst 0, 1) := by decide +kernel
theorem dX11_save_10 : decode cX11_save 10 = .ok (.istore_n 1, 1) := by decide +kernel
theorem dX11_save_11 : decode cX11_save 11 = .ok (.iload_n 1, 1) := by decide +kernel
theorem dX11_save_12 : decode cX11_save 12 = .ok (.sipush 483, 3) := by decide +kernel
theorem dX11_save_15 : decode cX11_save 15 = .ok (.if_icmp .ge 24, 3) := by decide +kernel
theorem dX11_save_18 : decode cX11_save 18 = .ok (.aload_n 0, 1) := by decide +kernel
theorem dX11_save_19 : decode cX11_save 19 = .ok (.getfield 16, 3) := by decide +kernel
theorem dX11_save_22 : decode cX11_save 22 = .ok (.iload_n 1, 1) := by decide +kernel
theorem dX11_save_23 : decode cX11_save 23 = .ok (.aload_n 0, 1) := by decide +kernel
theorem dX11_save_24 : decode cX11_save 24 = .ok (.getfield 16, 3) := by decide +kernel
theorem dX11_save_27 : decode cX11_save 27 = .ok (.iload_n 1, 1) := by decide +kernel
theorem dX11_save_28 : decode cX11_save 28 = .ok (.bipush 69, 2) := by decide +kernel
theorem dX11_save_30 : decode cX11_save 30 = .ok (.iadd, 1) := by decide +kernel
theorem dX11_save_31 : decode cX11_save 31 = .ok (.iaload, 1) := by decide +kernel
theorem dX11_save_32 : decode cX11_save 32 = .ok (.iastore, 1) := by decide +kernel
theorem dX11_save_33 : decode cX11_save 33 = .ok (.iinc 1 1, 3) := by decide +kernel
theorem dX11_save_36 : decode cX11_save 36 = .ok (.goto (-25), 3) := by decide +kernel
theorem dX11_save_39 : decode cX11_save 39 = .ok (.aload_n 0, 1) := by decide +kernel
theorem dX11_save_40 : decode cX11_save 40 = .ok (.dup, 1) := by decide +kernel
theorem dX11_save_41 : decode cX11_save 41 = .ok (.getfield 44, 3) := by decide +kernel
theorem dX11_save_44 : decode cX11_save 44 = .ok (.iconst 1, 1) := by decide +kernel
theorem dX11_save_45 : decode cX11_save 45 = .ok (.isub, 1) := by decide +kernel
theorem dX11_save_46 : decode cX11_save 46 = .ok (.putfield 44, 3) := by decide +kernel
theorem dX11_save_49 : decode cX11_save 49 = .ok (.aload_n 0, 1) := by decide +kernel
theorem dX11_save_50 : decode cX11_save 50 = .ok (.getfield 7, 3) := by decide +kernel
theorem dX11_save_53 : decode cX11_save 53 = .ok (.iconst 0, 1) := by decide +kernel
theorem dX11_save_54 : decode cX11_save 54 = .ok (.aload_n 0, 1) := by decide +kernel
theorem dX11_save_55 : decode cX11_save 55 = .ok (.getfield 16, 3) := by decide +kernel
theorem dX11_save_58 : decode cX11_save 58 = .ok (.bipush 69, 2) := by decide +kernel
theorem dX11_save_60 : decode cX11_save 60 = .ok (.aload_n 0, 1) := by decide +kernel
theorem dX11_save_61 : decode cX11_save 61 = .ok (.getfield 44, 3) := by decide +kernel
theorem dX11_save_64 : decode cX11_save 64 = .ok (.imul, 1) := by decide +kernel
theorem dX11_save_65 : decode cX11_save 65 = .ok (.invokestatic 48, 3) := by decide +kernel
theorem dX11_save_68 : decode cX11_save 68 = .ok (.aload_n 0, 1) := by decide +kernel
theorem dX11_save_69 : decode cX11_save 69 = .ok (.dup, 1) := by decide +kernel
theorem dX11_save_70 : decode cX11_save 70 = .ok (.getfield 44, 3) := by decide +kernel
theorem dX11_save_73 : decode cX11_save 73 = .ok (.iconst 1, 1) := by decide +kernel
theorem dX11_save_74 : decode cX11_save 74 = .ok (.iadd, 1) := by decide +kernel
theorem dX11_save_75 : decode cX11_save 75 = .ok (.putfield 44, 3) := by decide +kernel
theorem dX11_save_78 : decode cX11_save 78 = .ok (.return_, 1) := by decide +kernel
theorem dX11_isLetter_0 : decode cX11_isLetter 0 = .ok (.aload_n 0, 1) := by decide +kernel
theorem dX11_isLetter_1 : decode cX11_isLetter 1 = .ok (.getfield 52, 3) := by decide +kernel
theorem dX11_isLetter_4 : decode cX11_isLetter 4 = .ok (.aload_n 0, 1) := by decide +kernel
theorem dX11_isLetter_5 : decode cX11_isLetter 5 = .ok (.getfield 55, 3) := by decide +kernel
theorem dX11_isLetter_8 : decode cX11_isLetter 8 = .ok (.if_icmp .ge 26, 3) := by decide +kernel
theorem dX11_isLetter_11 : decode cX11_isLetter 11 = .ok (.aload_n 0, 1) := by decide +kernel
theorem dX11_isLetter_12 : decode cX11_isLetter 12 = .ok (.getfield 19, 3) := by decide +kernel
theorem dX11_isLetter_15 : decode cX11_isLetter 15 = .ok (.aload_n 0, 1) := by decide +kernel
theorem dX11_isLetter_16 : decode cX11_isLetter 16 = .ok (.getfield 52, 3) := by decide +kernel
theorem dX11_isLetter_19 : decode cX11_isLetter 19 = .ok (.iaload, 1) := by decide +kernel
theorem dX11_isLetter_20 : decode cX11_isLetter 20 = .ok (.bipush 97, 2) := by decide +kernel
theorem dX11_isLetter_22 : decode cX11_isLetter 22 = .ok (.bipush 122, 2) := by decide +kernel
theorem dX11_isLetter_24 : decode cX11_isLetter 24 = .ok (.invokestatic 58, 3) := by decide +kernel
theorem dX11_isLetter_27 : decode cX11_isLetter 27 = .ok (.ifCond .eq 7, 3) := by decide +kernel
theorem dX11_isLetter_30 : decode cX11_isLetter 30 = .ok (.iconst 1, 1) := by decide +kernel
theorem dX11_isLetter_31 : decode cX11_isLetter 31 = .ok (.goto 4, 3) := by decide +kernel
theorem dX11_isLetter_34 : decode cX11_isLetter 34 = .ok (.iconst 0, 1) := by decide +kernel
theorem dX11_isLetter_35 : decode cX11_isLetter 35 = .ok (.ireturn, 1) := by decide +kernel
theorem dX11_next_0 : decode cX11_next 0 = .ok (.aload_n 0, 1) := by decide +kernel
theorem dX11_next_1 : decode cX11_next 1 = .ok (.getfield 52, 3) := by decide +kernel
theorem dX11_next_4 : decode cX11_next 4 = .ok (.aload_n 0, 1) := by decide +kernel
theorem dX11_next_5 : decode cX11_next 5 = .ok (.getfield 55, 3) := by decide +kernel
theorem dX11_next_8 : decode cX11_next 8 = .ok (.if_icmp .ge 30, 3) := by decide +kernel
theorem dX11_next_11 : decode cX11_next 11 = .ok (.aload_n 0, 1) := by decide +kernel
theorem dX11_next_12 : decode cX11_next 12 = .ok (.getfield 19, 3) := by decide +kernel
theorem dX11_next_15 : decode cX11_next 15 = .ok (.aload_n 0, 1) := by decide +kernel
theorem dX11_next_16 : decode cX11_next 16 = .ok (.getfield 52, 3) := by decide +kernel
theorem dX11_next_19 : decode cX11_next 19 = .ok (.iaload, 1) := by decide +kernel
theorem dX11_next_20 : decode cX11_next 20 = .ok (.bipush 32, 2) := by decide +kernel
theorem dX11_next_22 : decode cX11_next 22 = .ok (.if_icmp .ne 16, 3) := by decide +kernel
theorem dX11_next_25 : decode cX11_next 25 = .ok (.aload_n 0, 1) := by decide +kernel
theorem dX11_next_26 : decode cX11_next 26 = .ok (.dup, 1) := by decide +kernel
theorem dX11_next_27 : decode cX11_next 27 = .ok (.getfield 52, 3) := by decide +kernel
theorem dX11_next_30 : decode cX11_next 30 = .ok (.iconst 1, 1) := by decide +kernel
theorem dX11_next_31 : decode cX11_next 31 = .ok (.iadd, 1) := by decide +kernel
theorem dX11_next_32 : decode cX11_next 32 = .ok (.putfield 52, 3) := by decide +kernel
theorem dX11_next_35 : decode cX11_next 35 = .ok (.goto (-35), 3) := by decide +kernel
theorem dX11_next_38 : decode cX11_next 38 = .ok (.aload_n 0, 1) := by decide +kernel
theorem dX11_next_39 : decode cX11_next 39 = .ok (.aload_n 0, 1) := by decide +kernel
theorem dX11_next_40 : decode cX11_next 40 = .ok (.getfield 52, 3) := by decide +kernel
theorem dX11_next_43 : decode cX11_next 43 = .ok (.putfield 62, 3) := by decide +kernel
theorem dX11_next_46 : decode cX11_next 46 = .ok (.aload_n 0, 1) := by decide +kernel
theorem dX11_next_47 : decode cX11_next 47 = .ok (.lconst 0, 1) := by decide +kernel
theorem dX11_next_48 : decode cX11_next 48 = .ok (.putfield 65, 3) := by decide +kernel
theorem dX11_next_51 : decode cX11_next 51 = .ok (.aload_n 0, 1) := by decide +kernel
theorem dX11_next_52 : decode cX11_next 52 = .ok (.getfield 52, 3) := by decide +kernel
theorem dX11_next_55 : decode cX11_next 55 = .ok (.aload_n 0, 1) := by decide +kernel
theorem dX11_next_56 : decode cX11_next 56 = .ok (.getfield 55, 3) := by decide +kernel
theorem dX11_next_59 : decode cX11_next 59 = .ok (.if_icmp .ne 11, 3) := by decide +kernel
theorem dX11_next_62 : decode cX11_next 62 = .ok (.aload_n 0, 1) := by decide +kernel
theorem dX11_next_63 : decode cX11_next 63 = .ok (.sipush 1000, 3) := by decide +kernel
theorem dX11_next_66 : decode cX11_next 66 = .ok (.putfield 69, 3) := by decide +kernel
theorem dX11_next_69 : decode cX11_next 69 = .ok (.return_, 1) := by decide +kernel
theorem dX11_next_70 : decode cX11_next 70 = .ok (.aload_n 0, 1) := by decide +kernel
theorem dX11_next_71 : decode cX11_next 71 = .ok (.invokevirtual 72, 3) := by decide +kernel
theorem dX11_next_74 : decode cX11_next 74 = .ok (.ifCond .ne 27, 3) := by decide +kernel
theorem dX11_next_77 : decode cX11_next 77 = .ok (.aload_n 0, 1) := by decide +kernel
theorem dX11_next_78 : decode cX11_next 78 = .ok (.aload_n 0, 1) := by decide +kernel
theorem dX11_next_79 : decode cX11_next 79 = .ok (.getfield 19, 3) := by decide +kernel
theorem dX11_next_82 : decode cX11_next 82 = .ok (.aload_n 0, 1) := by decide +kernel
theorem dX11_next_83 : decode cX11_next 83 = .ok (.getfield 52, 3) := by decide +kernel
theorem dX11_next_86 : decode cX11_next 86 = .ok (.iaload, 1) := by decide +kernel
theorem dX11_next_87 : decode cX11_next 87 = .ok (.putfield 69, 3) := by decide +kernel
theorem dX11_next_90 : decode cX11_next 90 = .ok (.aload_n 0, 1) := by decide +kernel
theorem dX11_next_91 : decode cX11_next 91 = .ok (.dup, 1) := by decide +kernel
theorem dX11_next_92 : decode cX11_next 92 = .ok (.getfield 52, 3) := by decide +kernel
theorem dX11_next_95 : decode cX11_next 95 = .ok (.iconst 1, 1) := by decide +kernel
theorem dX11_next_96 : decode cX11_next 96 = .ok (.iadd, 1) := by decide +kernel
theorem dX11_next_97 : decode cX11_next 97 = .ok (.putfield 52, 3) := by decide +kernel
theorem dX11_next_100 : decode cX11_next 100 = .ok (.return_, 1) := by decide +kernel
theorem dX11_next_101 : decode cX11_next 101 = .ok (.aload_n 0, 1) := by decide +kernel
theorem dX11_next_102 : decode cX11_next 102 = .ok (.sipush 1001, 3) := by decide +kernel
theorem dX11_next_105 : decode cX11_next 105 = .ok (.putfield 69, 3) := by decide +kernel
theorem dX11_next_108 : decode cX11_next 108 = .ok (.aload_n 0, 1) := by decide +kernel
theorem dX11_next_109 : decode cX11_next 109 = .ok (.invokevirtual 72, 3) := by decide +kernel
theorem dX11_next_112 : decode cX11_next 112 = .ok (.ifCond .eq 16, 3) := by decide +kernel
theorem dX11_next_115 : decode cX11_next 115 = .ok (.aload_n 0, 1) := by decide +kernel
theorem dX11_next_116 : decode cX11_next 116 = .ok (.dup, 1) := by decide +kernel
theorem dX11_next_117 : decode cX11_next 117 = .ok (.getfield 52, 3) := by decide +kernel
theorem dX11_next_120 : decode cX11_next 120 = .ok (.iconst 1, 1) := by decide +kernel
theorem dX11_next_121 : decode cX11_next 121 = .ok (.iadd, 1) := by decide +kernel
theorem dX11_next_122 : decode cX11_next 122 = .ok (.putfield 52, 3) := by decide +kernel
theorem dX11_next_125 : decode cX11_next 125 = .ok (.goto (-17), 3) := by decide +kernel
theorem dX11_next_128 : decode cX11_next 128 = .ok (.aload_n 0, 1) := by decide +kernel
theorem dX11_next_129 : decode cX11_next 129 = .ok (.getfield 52, 3) := by decide +kernel
theorem dX11_next_132 : decode cX11_next 132 = .ok (.iconst 1, 1) := by decide +kernel
theorem dX11_next_133 : decode cX11_next 133 = .ok (.isub, 1) := by decide +kernel
theorem dX11_next_134 : decode cX11_next 134 = .ok (.istore_n 1, 1) := by decide +kernel
theorem dX11_next_135 : decode cX11_next 135 = .ok (.iload_n 1, 1) := by decide +kernel
theorem dX11_next_136 : decode cX11_next 136 = .ok (.aload_n 0, 1) := by decide +kernel
theorem dX11_next_137 : decode cX11_next 137 = .ok (.getfield 62, 3) := by decide +kernel
theorem dX11_next_140 : decode cX11_next 140 = .ok (.if_icmp .lt 49, 3) := by decide +kernel
theorem dX11_next_143 : decode cX11_next 143 = .ok (.aload_n 0, 1) := by decide +kernel
theorem dX11_next_144 : decode cX11_next 144 = .ok (.getfield 52, 3) := by decide +kernel
theorem dX11_next_147 : decode cX11_next 147 = .ok (.aload_n 0, 1) := by decide +kernel
theorem dX11_next_148 : decode cX11_next 148 = .ok (.getfield 62, 3) := by decide +kernel
theorem dX11_next_151 : decode cX11_next 151 = .ok (.isub, 1) := by decide +kernel
theorem dX11_next_152 : decode cX11_next 152 = .ok (.bipush 8, 2) := by decide +kernel
theorem dX11_next_154 : decode cX11_next 154 = .ok (.if_icmp .ge 35, 3) := by decide +kernel
theorem dX11_next_157 : decode cX11_next 157 = .ok (.aload_n 0, 1) := by decide +kernel
theorem dX11_next_158 : decode cX11_next 158 = .ok (.ldc2_w 76, 3) := by decide +kernel
theorem dX11_next_161 : decode cX11_next 161 = .ok (.aload_n 0, 1) := by decide +kernel
theorem dX11_next_162 : decode cX11_next 162 = .ok (.getfield 65, 3) := by decide +kernel
theorem dX11_next_165 : decode cX11_next 165 = .ok (.lmul, 1) := by decide +kernel
theorem dX11_next_166 : decode cX11_next 166 = .ok (.aload_n 0, 1) := by decide +kernel
theorem dX11_next_167 : decode cX11_next 167 = .ok (.getfield 19, 3) := by decide +kernel
theorem dX11_next_170 : decode cX11_next 170 = .ok (.iload_n 1, 1) := by decide +kernel
theorem dX11_next_171 : decode cX11_next 171 = .ok (.iaload, 1) := by decide +kernel
theorem dX11_next_172 : decode cX11_next 172 = .ok (.i2l, 1) := by decide +kernel
theorem dX11_next_173 : decode cX11_next 173 = .ok (.ladd, 1) := by decide +kernel
theorem dX11_next_174 : decode cX11_next 174 = .ok (.ldc2_w 78, 3) := by decide +kernel
theorem dX11_next_177 : decode cX11_next 177 = .ok (.lsub, 1) := by decide +kernel
theorem dX11_next_178 : decode cX11_next 178 = .ok (.lconst 1, 1) := by decide +kernel
theorem dX11_next_179 : decode cX11_next 179 = .ok (.ladd, 1) := by decide +kernel
theorem dX11_next_180 : decode cX11_next 180 = .ok (.putfield 65, 3) := by decide +kernel
theorem dX11_next_183 : decode cX11_next 183 = .ok (.iinc 1 (-1), 3) := by decide +kernel
theorem dX11_next_186 : decode cX11_next 186 = .ok (.goto (-51), 3) := by decide +kernel
theorem dX11_next_189 : decode cX11_next 189 = .ok (.return_, 1) := by decide +kernel
theorem dX11_readDigit_0 : decode cX11_readDigit 0 = .ok (.aload_n 0, 1) := by decide +kernel
theorem dX11_readDigit_1 : decode cX11_readDigit 1 = .ok (.invokevirtual 80, 3) := by decide +kernel
theorem dX11_readDigit_4 : decode cX11_readDigit 4 = .ok (.aload_n 0, 1) := by decide +kernel
theorem dX11_readDigit_5 : decode cX11_readDigit 5 = .ok (.aload_n 0, 1) := by decide +kernel
theorem dX11_readDigit_6 : decode cX11_readDigit 6 = .ok (.getfield 69, 3) := by decide +kernel
theorem dX11_readDigit_9 : decode cX11_readDigit 9 = .ok (.bipush 48, 2) := by decide +kernel
theorem dX11_readDigit_11 : decode cX11_readDigit 11 = .ok (.isub, 1) := by decide +kernel
theorem dX11_readDigit_12 : decode cX11_readDigit 12 = .ok (.putfield 83, 3) := by decide +kernel
theorem dX11_readDigit_15 : decode cX11_readDigit 15 = .ok (.aload_n 0, 1) := by decide +kernel
theorem dX11_readDigit_16 : decode cX11_readDigit 16 = .ok (.getfield 83, 3) := by decide +kernel
theorem dX11_readDigit_19 : decode cX11_readDigit 19 = .ok (.iload_n 1, 1) := by decide +kernel
theorem dX11_readDigit_20 : decode cX11_readDigit 20 = .ok (.iload_n 2, 1) := by decide +kernel
theorem dX11_readDigit_21 : decode cX11_readDigit 21 = .ok (.invokestatic 58, 3) := by decide +kernel
theorem dX11_readDigit_24 : decode cX11_readDigit 24 = .ok (.ireturn, 1) := by decide +kernel
theorem dX11_readState_0 : decode cX11_readState 0 = .ok (.aload_n 0, 1) := by decide +kernel
theorem dX11_readState_1 : decode cX11_readState 1 = .ok (.iconst 0, 1) := by decide +kernel
theorem dX11_readState_2 : decode cX11_readState 2 = .ok (.aload_n 0, 1) := by decide +kernel
theorem dX11_readState_3 : decode cX11_readState 3 = .ok (.getfield 13, 3) := by decide +kernel
theorem dX11_readState_6 : decode cX11_readState 6 = .ok (.iconst 0, 1) := by decide +kernel
theorem dX11_readState_7 : decode cX11_readState 7 = .ok (.iaload, 1) := by decide +kernel
theorem dX11_readState_8 : decode cX11_readState 8 = .ok (.iconst 1, 1) := by decide +kernel
theorem dX11_readState_9 : decode cX11_readState 9 = .ok (.isub, 1) := by decide +kernel
theorem dX11_readState_10 : decode cX11_readState 10 = .ok (.invokevirtual 86, 3) := by decide +kernel
theorem dX11_readState_13 : decode cX11_readState 13 = .ok (.ireturn, 1) := by decide +kernel
theorem dX11_readKind_0 : decode cX11_readKind 0 = .ok (.aload_n 0, 1) := by decide +kernel
theorem dX11_readKind_1 : decode cX11_readKind 1 = .ok (.invokevirtual 80, 3) := by decide +kernel
theorem dX11_readKind_4 : decode cX11_readKind 4 = .ok (.aload_n 0, 1) := by decide +kernel
theorem dX11_readKind_5 : decode cX11_readKind 5 = .ok (.getfield 69, 3) := by decide +kernel
theorem dX11_readKind_8 : decode cX11_readKind 8 = .ok (.sipush 1001, 3) := by decide +kernel
theorem dX11_readKind_11 : decode cX11_readKind 11 = .ok (.if_icmp .ne 27, 3) := by decide +kernel
theorem dX11_readKind_14 : decode cX11_readKind 14 = .ok (.aload_n 0, 1) := by decide +kernel
theorem dX11_readKind_15 : decode cX11_readKind 15 = .ok (.getfield 65, 3) := by decide +kernel
theorem dX11_readKind_18 : decode cX11_readKind 18 = .ok (.lconst 0, 1) := by decide +kernel
theorem dX11_readKind_19 : decode cX11_readKind 19 = .ok (.lcmp, 1) := by decide +kernel
theorem dX11_readKind_20 : decode cX11_readKind 20 = .ok (.ifCond .le 18, 3) := by decide +kernel
theorem dX11_readKind_23 : decode cX11_readKind 23 = .ok (.aload_n 0, 1) := by decide +kernel
theorem dX11_readKind_24 : decode cX11_readKind 24 = .ok (.getfield 65, 3) := by decide +kernel
theorem dX11_readKind_27 : decode cX11_readKind 27 = .ok (.ldc2_w 90, 3) := by decide +kernel
theorem dX11_readKind_30 : decode cX11_readKind 30 = .ok (.lcmp, 1) := by decide +kernel
theorem dX11_readKind_31 : decode cX11_readKind 31 = .ok (.ifCond .gt 7, 3) := by decide +kernel
theorem dX11_readKind_34 : decode cX11_readKind 34 = .ok (.iconst 1, 1) := by decide +kernel
theorem dX11_readKind_35 : decode cX11_readKind 35 = .ok (.goto 4, 3) := by decide +kernel
theorem dX11_readKind_38 : decode cX11_readKind 38 = .ok (.iconst 0, 1) := by decide +kernel
theorem dX11_readKind_39 : decode cX11_readKind 39 = .ok (.istore_n 1, 1) := by decide +kernel
theorem dX11_readKind_40 : decode cX11_readKind 40 = .ok (.aload_n 0, 1) := by decide +kernel
theorem dX11_readKind_41 : decode cX11_readKind 41 = .ok (.iload_n 1, 1) := by decide +kernel
theorem dX11_readKind_42 : decode cX11_readKind 42 = .ok (.ifCond .eq 13, 3) := by decide +kernel
theorem dX11_readKind_45 : decode cX11_readKind 45 = .ok (.aload_n 0, 1) := by decide +kernel
theorem dX11_readKind_46 : decode cX11_readKind 46 = .ok (.getfield 65, 3) := by decide +kernel
theorem dX11_readKind_49 : decode cX11_readKind 49 = .ok (.l2i, 1) := by decide +kernel
theorem dX11_readKind_50 : decode cX11_readKind 50 = .ok (.iconst 1, 1) := by decide +kernel
theorem dX11_readKind_51 : decode cX11_readKind 51 = .ok (.isub, 1) := by decide +kernel
theorem dX11_readKind_52 : decode cX11_readKind 52 = .ok (.goto 5, 3) := by decide +kernel
theorem dX11_readKind_55 : decode cX11_readKind 55 = .ok (.bipush (-9), 2) := by decide +kernel
theorem dX11_readKind_57 : decode cX11_readKind 57 = .ok (.putfield 83, 3) := by decide +kernel
theorem dX11_readKind_60 : decode cX11_readKind 60 = .ok (.iload_n 1, 1) := by decide +kernel
theorem dX11_readKind_61 : decode cX11_readKind 61 = .ok (.ireturn, 1) := by decide +kernel
theorem dX11_readAccept_0 : decode cX11_readAccept 0 = .ok (.aload_n 0, 1) := by decide +kernel
theorem dX11_readAccept_1 : decode cX11_readAccept 1 = .ok (.invokevirtual 92, 3) := by decide +kernel
theorem dX11_readAccept_4 : decode cX11_readAccept 4 = .ok (.istore_n 1, 1) := by decide +kernel
theorem dX11_readAccept_5 : decode cX11_readAccept 5 = .ok (.aload_n 0, 1) := by decide +kernel
theorem dX11_readAccept_6 : decode cX11_readAccept 6 = .ok (.getfield 13, 3) := by decide +kernel
theorem dX11_readAccept_9 : decode cX11_readAccept 9 = .ok (.iconst 1, 1) := by decide +kernel
theorem dX11_readAccept_10 : decode cX11_readAccept 10 = .ok (.dup2, 1) := by decide +kernel
theorem dX11_readAccept_11 : decode cX11_readAccept 11 = .ok (.iaload, 1) := by decide +kernel
theorem dX11_readAccept_12 : decode cX11_readAccept 12 = .ok (.iload_n 1, 1) := by decide +kernel
theorem dX11_readAccept_13 : decode cX11_readAccept 13 = .ok (.ifCond .eq 12, 3) := by decide +kernel
theorem dX11_readAccept_16 : decode cX11_readAccept 16 = .ok (.iconst 1, 1) := by decide +kernel
theorem dX11_readAccept_17 : decode cX11_readAccept 17 = .ok (.aload_n 0, 1) := by decide +kernel
theorem dX11_readAccept_18 : decode cX11_readAccept 18 = .ok (.getfield 83, 3) := by decide +kernel
theorem dX11_readAccept_21 : decode cX11_readAccept 21 = .ok (.ishl, 1) := by decide +kernel
theorem dX11_readAccept_22 : decode cX11_readAccept 22 = .ok (.goto 4, 3) := by decide +kernel
theorem dX11_readAccept_25 : decode cX11_readAccept 25 = .ok (.iconst 0, 1) := by decide +kernel
theorem dX11_readAccept_26 : decode cX11_readAccept 26 = .ok (.ior, 1) := by decide +kernel
theorem dX11_readAccept_27 : decode cX11_readAccept 27 = .ok (.iastore, 1) := by decide +kernel
theorem dX11_readAccept_28 : decode cX11_readAccept 28 = .ok (.iload_n 1, 1) := by decide +kernel
theorem dX11_readAccept_29 : decode cX11_readAccept 29 = .ok (.ireturn, 1) := by decide +kernel
theorem dX11_readRule_0 : decode cX11_readRule 0 = .ok (.aload_n 0, 1) := by decide +kernel
theorem dX11_readRule_1 : decode cX11_readRule 1 = .ok (.invokevirtual 92, 3) := by decide +kernel
theorem dX11_readRule_4 : decode cX11_readRule 4 = .ok (.ifCond .ne 5, 3) := by decide +kernel
theorem dX11_readRule_7 : decode cX11_readRule 7 = .ok (.iconst 0, 1) := by decide +kernel
theorem dX11_readRule_8 : decode cX11_readRule 8 = .ok (.ireturn, 1) := by decide +kernel
theorem dX11_readRule_9 : decode cX11_readRule 9 = .ok (.aload_n 0, 1) := by decide +kernel
theorem dX11_readRule_10 : decode cX11_readRule 10 = .ok (.getfield 83, 3) := by decide +kernel
theorem dX11_readRule_13 : decode cX11_readRule 13 = .ok (.istore_n 2, 1) := by decide +kernel
theorem dX11_readRule_14 : decode cX11_readRule 14 = .ok (.aload_n 0, 1) := by decide +kernel
theorem dX11_readRule_15 : decode cX11_readRule 15 = .ok (.invokevirtual 95, 3) := by decide +kernel
theorem dX11_readRule_18 : decode cX11_readRule 18 = .ok (.ifCond .eq 22, 3) := by decide +kernel
theorem dX11_readRule_21 : decode cX11_readRule 21 = .ok (.aload_n 0, 1) := by decide +kernel
theorem dX11_readRule_22 : decode cX11_readRule 22 = .ok (.getfield 13, 3) := by decide +kernel
theorem dX11_readRule_25 : decode cX11_readRule 25 = .ok (.iconst 2, 1) := by decide +kernel
theorem dX11_readRule_26 : decode cX11_readRule 26 = .ok (.bipush 6, 2) := by decide +kernel
theorem dX11_readRule_28 : decode cX11_readRule 28 = .ok (.iload_n 2, 1) := by decide +kernel
theorem dX11_readRule_29 : decode cX11_readRule 29 = .ok (.imul, 1) := by decide +kernel
theorem dX11_readRule_30 : decode cX11_readRule 30 = .ok (.iadd, 1) := by decide +kernel
theorem dX11_readRule_31 : decode cX11_readRule 31 = .ok (.aload_n 0, 1) := by decide +kernel
theorem dX11_readRule_32 : decode cX11_readRule 32 = .ok (.getfield 83, 3) := by decide +kernel
theorem dX11_readRule_35 : decode cX11_readRule 35 = .ok (.iadd, 1) := by decide +kernel
theorem dX11_readRule_36 : decode cX11_readRule 36 = .ok (.iaload, 1) := by decide +kernel
theorem dX11_readRule_37 : decode cX11_readRule 37 = .ok (.ifCond .eq 5, 3) := by decide +kernel
theorem dX11_readRule_40 : decode cX11_readRule 40 = .ok (.iconst 0, 1) := by decide +kernel
theorem dX11_readRule_41 : decode cX11_readRule 41 = .ok (.ireturn, 1) := by decide +kernel
theorem dX11_readRule_42 : decode cX11_readRule 42 = .ok (.iconst 2, 1) := by decide +kernel
theorem dX11_readRule_43 : decode cX11_readRule 43 = .ok (.bipush 6, 2) := by decide +kernel
theorem dX11_readRule_45 : decode cX11_readRule 45 = .ok (.iload_n 2, 1) := by decide +kernel
theorem dX11_readRule_46 : decode cX11_readRule 46 = .ok (.imul, 1) := by decide +kernel
theorem dX11_readRule_47 : decode cX11_readRule 47 = .ok (.iadd, 1) := by decide +kernel
theorem dX11_readRule_48 : decode cX11_readRule 48 = .ok (.aload_n 0, 1) := by decide +kernel
theorem dX11_readRule_49 : decode cX11_readRule 49 = .ok (.getfield 83, 3) := by decide +kernel
theorem dX11_readRule_52 : decode cX11_readRule 52 = .ok (.iadd, 1) := by decide +kernel
theorem dX11_readRule_53 : decode cX11_readRule 53 = .ok (.istore_n 3, 1) := by decide +kernel
theorem dX11_readRule_54 : decode cX11_readRule 54 = .ok (.aload_n 0, 1) := by decide +kernel
theorem dX11_readRule_55 : decode cX11_readRule 55 = .ok (.invokevirtual 92, 3) := by decide +kernel
theorem dX11_readRule_58 : decode cX11_readRule 58 = .ok (.ifCond .ne 5, 3) := by decide +kernel
theorem dX11_readRule_61 : decode cX11_readRule 61 = .ok (.iconst 0, 1) := by decide +kernel
theorem dX11_readRule_62 : decode cX11_readRule 62 = .ok (.ireturn, 1) := by decide +kernel
theorem dX11_readRule_63 : decode cX11_readRule 63 = .ok (.bipush 100, 2) := by decide +kernel
theorem dX11_readRule_65 : decode cX11_readRule 65 = .ok (.iload_n 1, 1) := by decide +kernel
theorem dX11_readRule_66 : decode cX11_readRule 66 = .ok (.imul, 1) := by decide +kernel
theorem dX11_readRule_67 : decode cX11_readRule 67 = .ok (.bipush 10, 2) := by decide +kernel
theorem dX11_readRule_69 : decode cX11_readRule 69 = .ok (.aload_n 0, 1) := by decide +kernel
theorem dX11_readRule_70 : decode cX11_readRule 70 = .ok (.getfield 83, 3) := by decide +kernel
theorem dX11_readRule_73 : decode cX11_readRule 73 = .ok (.imul, 1) := by decide +kernel
theorem dX11_readRule_74 : decode cX11_readRule 74 = .ok (.iadd, 1) := by decide +kernel
theorem dX11_readRule_75 : decode cX11_readRule 75 = .ok (.istore 4, 2) := by decide +kernel
theorem dX11_readRule_77 : decode cX11_readRule 77 = .ok (.iload_n 1, 1) := by decide +kernel
theorem dX11_readRule_78 : decode cX11_readRule 78 = .ok (.iconst 1, 1) := by decide +kernel
theorem dX11_readRule_79 : decode cX11_readRule 79 = .ok (.if_icmp .eq 12, 3) := by decide +kernel
theorem dX11_readRule_82 : decode cX11_readRule 82 = .ok (.aload_n 0, 1) := by decide +kernel
theorem dX11_readRule_83 : decode cX11_readRule 83 = .ok (.iconst 0, 1) := by decide +kernel
theorem dX11_readRule_84 : decode cX11_readRule 84 = .ok (.iconst 1, 1) := by decide +kernel
theorem dX11_readRule_85 : decode cX11_readRule 85 = .ok (.invokevirtual 86, 3) := by decide +kernel
theorem dX11_readRule_88 : decode cX11_readRule 88 = .ok (.ifCond .eq 7, 3) := by decide +kernel
theorem dX11_readRule_91 : decode cX11_readRule 91 = .ok (.iconst 1, 1) := by decide +kernel
theorem dX11_readRule_92 : decode cX11_readRule 92 = .ok (.goto 4, 3) := by decide +kernel
theorem dX11_readRule_95 : decode cX11_readRule 95 = .ok (.iconst 0, 1) := by decide +kernel
theorem dX11_readRule_96 : decode cX11_readRule 96 = .ok (.istore 5, 2) := by decide +kernel
theorem dX11_readRule_98 : decode cX11_readRule 98 = .ok (.aload_n 0, 1) := by decide +kernel
theorem dX11_readRule_99 : decode cX11_readRule 99 = .ok (.getfield 13, 3) := by decide +kernel
theorem dX11_readRule_102 : decode cX11_readRule 102 = .ok (.iload_n 3, 1) := by decide +kernel
theorem dX11_readRule_103 : decode cX11_readRule 103 = .ok (.iload_n 1, 1) := by decide +kernel
theorem dX11_readRule_104 : decode cX11_readRule 104 = .ok (.iconst 1, 1) := by decide +kernel
theorem dX11_readRule_105 : decode cX11_readRule 105 = .ok (.if_icmp .ne 8, 3) := by decide +kernel
theorem dX11_readRule_108 : decode cX11_readRule 108 = .ok (.iload 4, 2) := by decide +kernel
theorem dX11_readRule_110 : decode cX11_readRule 110 = .ok (.goto 10, 3) := by decide +kernel
theorem dX11_readRule_113 : decode cX11_readRule 113 = .ok (.iload 4, 2) := by decide +kernel
theorem dX11_readRule_115 : decode cX11_readRule 115 = .ok (.aload_n 0, 1) := by decide +kernel
theorem dX11_readRule_116 : decode cX11_readRule 116 = .ok (.getfield 83, 3) := by decide +kernel
theorem dX11_readRule_119 : decode cX11_readRule 119 = .ok (.iadd, 1) := by decide +kernel
theorem dX11_readRule_120 : decode cX11_readRule 120 = .ok (.iastore, 1) := by decide +kernel
theorem dX11_readRule_121 : decode cX11_readRule 121 = .ok (.iload 5, 2) := by decide +kernel
theorem dX11_readRule_123 : decode cX11_readRule 123 = .ok (.ireturn, 1) := by decide +kernel
theorem dX11_readCost_0 : decode cX11_readCost 0 = .ok (.aload_n 0, 1) := by decide +kernel
theorem dX11_readCost_1 : decode cX11_readCost 1 = .ok (.invokevirtual 95, 3) := by decide +kernel
theorem dX11_readCost_4 : decode cX11_readCost 4 = .ok (.ifCond .ne 5, 3) := by decide +kernel
theorem dX11_readCost_7 : decode cX11_readCost 7 = .ok (.iconst 0, 1) := by decide +kernel
theorem dX11_readCost_8 : decode cX11_readCost 8 = .ok (.ireturn, 1) := by decide +kernel
theorem dX11_readCost_9 : decode cX11_readCost 9 = .ok (.aload_n 0, 1) := by decide +kernel
theorem dX11_readCost_10 : decode cX11_readCost 10 = .ok (.getfield 83, 3) := by decide +kernel
theorem dX11_readCost_13 : decode cX11_readCost 13 = .ok (.istore_n 1, 1) := by decide +kernel
theorem dX11_readCost_14 : decode cX11_readCost 14 = .ok (.bipush 38, 2) := by decide +kernel
theorem dX11_readCost_16 : decode cX11_readCost 16 = .ok (.istore_n 2, 1) := by decide +kernel
theorem dX11_readCost_17 : decode cX11_readCost 17 = .ok (.iload_n 2, 1) := by decide +kernel
theorem dX11_readCost_18 : decode cX11_readCost 18 = .ok (.bipush 56, 2) := by decide +kernel
theorem dX11_readCost_20 : decode cX11_readCost 20 = .ok (.if_icmp .ge 33, 3) := by decide +kernel
theorem dX11_readCost_23 : decode cX11_readCost 23 = .ok (.aload_n 0, 1) := by decide +kernel
theorem dX11_readCost_24 : decode cX11_readCost 24 = .ok (.iconst 1, 1) := by decide +kernel
theorem dX11_readCost_25 : decode cX11_readCost 25 = .ok (.bipush 9, 2) := by decide +kernel
theorem dX11_readCost_27 : decode cX11_readCost 27 = .ok (.invokevirtual 86, 3) := by decide +kernel
theorem dX11_readCost_30 : decode cX11_readCost 30 = .ok (.ifCond .ne 5, 3) := by decide +kernel
theorem dX11_readCost_33 : decode cX11_readCost 33 = .ok (.iconst 0, 1) := by decide +kernel
theorem dX11_readCost_34 : decode cX11_readCost 34 = .ok (.ireturn, 1) := by decide +kernel
theorem dX11_readCost_35 : decode cX11_readCost 35 = .ok (.aload_n 0, 1) := by decide +kernel
theorem dX11_readCost_36 : decode cX11_readCost 36 = .ok (.getfield 13, 3) := by decide +kernel
theorem dX11_readCost_39 : decode cX11_readCost 39 = .ok (.iload_n 2, 1) := by decide +kernel
theorem dX11_readCost_40 : decode cX11_readCost 40 = .ok (.iload_n 1, 1) := by decide +kernel
theorem dX11_readCost_41 : decode cX11_readCost 41 = .ok (.iadd, 1) := by decide +kernel
theorem dX11_readCost_42 : decode cX11_readCost 42 = .ok (.aload_n 0, 1) := by decide +kernel
theorem dX11_readCost_43 : decode cX11_readCost 43 = .ok (.getfield 83, 3) := by decide +kernel
theorem dX11_readCost_46 : decode cX11_readCost 46 = .ok (.iastore, 1) := by decide +kernel
theorem dX11_readCost_47 : decode cX11_readCost 47 = .ok (.iinc 2 6, 3) := by decide +kernel
theorem dX11_readCost_50 : decode cX11_readCost 50 = .ok (.goto (-33), 3) := by decide +kernel
theorem dX11_readCost_53 : decode cX11_readCost 53 = .ok (.iconst 1, 1) := by decide +kernel
theorem dX11_readCost_54 : decode cX11_readCost 54 = .ok (.ireturn, 1) := by decide +kernel
theorem dX11_readStatement_0 : decode cX11_readStatement 0 = .ok (.aload_n 0, 1) := by decide +kernel
theorem dX11_readStatement_1 : decode cX11_readStatement 1 = .ok (.getfield 69, 3) := by decide +kernel
theorem dX11_readStatement_4 : decode cX11_readStatement 4 = .ok (.sipush 1001, 3) := by decide +kernel
theorem dX11_readStatement_7 : decode cX11_readStatement 7 = .ok (.if_icmp .ne 23, 3) := by decide +kernel
theorem dX11_readStatement_10 : decode cX11_readStatement 10 = .ok (.iload_n 1, 1) := by decide +kernel
theorem dX11_readStatement_11 : decode cX11_readStatement 11 = .ok (.aload_n 0, 1) := by decide +kernel
theorem dX11_readStatement_12 : decode cX11_readStatement 12 = .ok (.getfield 65, 3) := by decide +kernel
theorem dX11_readStatement_15 : decode cX11_readStatement 15 = .ok (.ldc2_w 98, 3) := by decide +kernel
theorem dX11_readStatement_18 : decode cX11_readStatement 18 = .ok (.lcmp, 1) := by decide +kernel
theorem dX11_readStatement_19 : decode cX11_readStatement 19 = .ok (.ifCond .ne 7, 3) := by decide +kernel
theorem dX11_readStatement_22 : decode cX11_readStatement 22 = .ok (.iconst 1, 1) := by decide +kernel
theorem dX11_readStatement_23 : decode cX11_readStatement 23 = .ok (.goto 4, 3) := by decide +kernel
theorem dX11_readStatement_26 : decode cX11_readStatement 26 = .ok (.iconst 0, 1) := by decide +kernel
theorem dX11_readStatement_27 : decode cX11_readStatement 27 = .ok (.if_icmp .eq 5, 3) := by decide +kernel
theorem dX11_readStatement_30 : decode cX11_readStatement 30 = .ok (.iconst 0, 1) := by decide +kernel
theorem dX11_readStatement_31 : decode cX11_readStatement 31 = .ok (.ireturn, 1) := by decide +kernel
theorem dX11_readStatement_32 : decode cX11_readStatement 32 = .ok (.iload_n 1, 1) := by decide +kernel
theorem dX11_readStatement_33 : decode cX11_readStatement 33 = .ok (.ifCond .eq 23, 3) := by decide +kernel
theorem dX11_readStatement_36 : decode cX11_readStatement 36 = .ok (.aload_n 0, 1) := by decide +kernel
theorem dX11_readStatement_37 : decode cX11_readStatement 37 = .ok (.iconst 1, 1) := by decide +kernel
theorem dX11_readStatement_38 : decode cX11_readStatement 38 = .ok (.bipush 6, 2) := by decide +kernel
theorem dX11_readStatement_40 : decode cX11_readStatement 40 = .ok (.invokevirtual 86, 3) := by decide +kernel
theorem dX11_readStatement_43 : decode cX11_readStatement 43 = .ok (.istore_n 2, 1) := by decide +kernel
theorem dX11_readStatement_44 : decode cX11_readStatement 44 = .ok (.aload_n 0, 1) := by decide +kernel
theorem dX11_readStatement_45 : decode cX11_readStatement 45 = .ok (.getfield 13, 3) := by decide +kernel
theorem dX11_readStatement_48 : decode cX11_readStatement 48 = .ok (.iconst 0, 1) := by decide +kernel
theorem dX11_readStatement_49 : decode cX11_readStatement 49 = .ok (.aload_n 0, 1) := by decide +kernel
theorem dX11_readStatement_50 : decode cX11_readStatement 50 = .ok (.getfield 83, 3) := by decide +kernel
theorem dX11_readStatement_53 : decode cX11_readStatement 53 = .ok (.iastore, 1) := by decide +kernel
theorem dX11_readStatement_54 : decode cX11_readStatement 54 = .ok (.iload_n 2, 1) := by decide +kernel
theorem dX11_readStatement_55 : decode cX11_readStatement 55 = .ok (.ireturn, 1) := by decide +kernel
theorem dX11_readStatement_56 : decode cX11_readStatement 56 = .ok (.aload_n 0, 1) := by decide +kernel
theorem dX11_readStatement_57 : decode cX11_readStatement 57 = .ok (.getfield 65, 3) := by decide +kernel
theorem dX11_readStatement_60 : decode cX11_readStatement 60 = .ok (.ldc2_w 100, 3) := by decide +kernel
theorem dX11_readStatement_63 : decode cX11_readStatement 63 = .ok (.lcmp, 1) := by decide +kernel
theorem dX11_readStatement_64 : decode cX11_readStatement 64 = .ok (.ifCond .ne 8, 3) := by decide +kernel
theorem dX11_readStatement_67 : decode cX11_readStatement 67 = .ok (.aload_n 0, 1) := by decide +kernel
theorem dX11_readStatement_68 : decode cX11_readStatement 68 = .ok (.invokevirtual 102, 3) := by decide +kernel
theorem dX11_readStatement_71 : decode cX11_readStatement 71 = .ok (.ireturn, 1) := by decide +kernel
theorem dX11_readStatement_72 : decode cX11_readStatement 72 = .ok (.aload_n 0, 1) := by decide +kernel
theorem dX11_readStatement_73 : decode cX11_readStatement 73 = .ok (.getfield 65, 3) := by decide +kernel
theorem dX11_readStatement_76 : decode cX11_readStatement 76 = .ok (.ldc2_w 105, 3) := by decide +kernel
theorem dX11_readStatement_79 : decode cX11_readStatement 79 = .ok (.lcmp, 1) := by decide +kernel
theorem dX11_readStatement_80 : decode cX11_readStatement 80 = .ok (.ifCond .ne 8, 3) := by decide +kernel
theorem dX11_readStatement_83 : decode cX11_readStatement 83 = .ok (.aload_n 0, 1) := by decide +kernel
theorem dX11_readStatement_84 : decode cX11_readStatement 84 = .ok (.invokevirtual 107, 3) := by decide +kernel
theorem dX11_readStatement_87 : decode cX11_readStatement 87 = .ok (.ireturn, 1) := by decide +kernel
theorem dX11_readStatement_88 : decode cX11_readStatement 88 = .ok (.aload_n 0, 1) := by decide +kernel
theorem dX11_readStatement_89 : decode cX11_readStatement 89 = .ok (.getfield 65, 3) := by decide +kernel
theorem dX11_readStatement_92 : decode cX11_readStatement 92 = .ok (.ldc2_w 110, 3) := by decide +kernel
theorem dX11_readStatement_95 : decode cX11_readStatement 95 = .ok (.lcmp, 1) := by decide +kernel
theorem dX11_readStatement_96 : decode cX11_readStatement 96 = .ok (.ifCond .ne 7, 3) := by decide +kernel
theorem dX11_readStatement_99 : decode cX11_readStatement 99 = .ok (.iconst 1, 1) := by decide +kernel
theorem dX11_readStatement_100 : decode cX11_readStatement 100 = .ok (.goto 34, 3) := by decide +kernel
theorem dX11_readStatement_103 : decode cX11_readStatement 103 = .ok (.aload_n 0, 1) := by decide +kernel
theorem dX11_readStatement_104 : decode cX11_readStatement 104 = .ok (.getfield 65, 3) := by decide +kernel
theorem dX11_readStatement_107 : decode cX11_readStatement 107 = .ok (.ldc2_w 112, 3) := by decide +kernel
theorem dX11_readStatement_110 : decode cX11_readStatement 110 = .ok (.lcmp, 1) := by decide +kernel
theorem dX11_readStatement_111 : decode cX11_readStatement 111 = .ok (.ifCond .ne 7, 3) := by decide +kernel
theorem dX11_readStatement_114 : decode cX11_readStatement 114 = .ok (.iconst 2, 1) := by decide +kernel
theorem dX11_readStatement_115 : decode cX11_readStatement 115 = .ok (.goto 19, 3) := by decide +kernel
theorem dX11_readStatement_118 : decode cX11_readStatement 118 = .ok (.aload_n 0, 1) := by decide +kernel
theorem dX11_readStatement_119 : decode cX11_readStatement 119 = .ok (.getfield 65, 3) := by decide +kernel
theorem dX11_readStatement_122 : decode cX11_readStatement 122 = .ok (.ldc2_w 114, 3) := by decide +kernel
theorem dX11_readStatement_125 : decode cX11_readStatement 125 = .ok (.lcmp, 1) := by decide +kernel
theorem dX11_readStatement_126 : decode cX11_readStatement 126 = .ok (.ifCond .ne 7, 3) := by decide +kernel
theorem dX11_readStatement_129 : decode cX11_readStatement 129 = .ok (.iconst 3, 1) := by decide +kernel
theorem dX11_readStatement_130 : decode cX11_readStatement 130 = .ok (.goto 4, 3) := by decide +kernel
theorem dX11_readStatement_133 : decode cX11_readStatement 133 = .ok (.iconst 0, 1) := by decide +kernel
theorem dX11_readStatement_134 : decode cX11_readStatement 134 = .ok (.istore_n 2, 1) := by decide +kernel
theorem dX11_readStatement_135 : decode cX11_readStatement 135 = .ok (.iload_n 2, 1) := by decide +kernel
theorem dX11_readStatement_136 : decode cX11_readStatement 136 = .ok (.ifCond .le 15, 3) := by decide +kernel
theorem dX11_readStatement_139 : decode cX11_readStatement 139 = .ok (.aload_n 0, 1) := by decide +kernel
theorem dX11_readStatement_140 : decode cX11_readStatement 140 = .ok (.iload_n 2, 1) := by decide +kernel
theorem dX11_readStatement_141 : decode cX11_readStatement 141 = .ok (.invokevirtual 116, 3) := by decide +kernel
theorem dX11_readStatement_144 : decode cX11_readStatement 144 = .ok (.ifCond .eq 7, 3) := by decide +kernel
theorem dX11_readStatement_147 : decode cX11_readStatement 147 = .ok (.iconst 1, 1) := by decide +kernel
theorem dX11_readStatement_148 : decode cX11_readStatement 148 = .ok (.goto 4, 3) := by decide +kernel
theorem dX11_readStatement_151 : decode cX11_readStatement 151 = .ok (.iconst 0, 1) := by decide +kernel
theorem dX11_readStatement_152 : decode cX11_readStatement 152 = .ok (.ireturn, 1) := by decide +kernel
theorem dX11_parse_0 : decode cX11_parse 0 = .ok (.aload_n 0, 1) := by decide +kernel
theorem dX11_parse_1 : decode cX11_parse 1 = .ok (.getfield 13, 3) := by decide +kernel
theorem dX11_parse_4 : decode cX11_parse 4 = .ok (.invokestatic 40, 3) := by decide +kernel
theorem dX11_parse_7 : decode cX11_parse 7 = .ok (.aload_n 0, 1) := by decide +kernel
theorem dX11_parse_8 : decode cX11_parse 8 = .ok (.iconst 0, 1) := by decide +kernel
theorem dX11_parse_9 : decode cX11_parse 9 = .ok (.putfield 120, 3) := by decide +kernel
theorem dX11_parse_12 : decode cX11_parse 12 = .ok (.aload_n 0, 1) := by decide +kernel
theorem dX11_parse_13 : decode cX11_parse 13 = .ok (.iconst 0, 1) := by decide +kernel
theorem dX11_parse_14 : decode cX11_parse 14 = .ok (.putfield 52, 3) := by decide +kernel
theorem dX11_parse_17 : decode cX11_parse 17 = .ok (.aload_n 0, 1) := by decide +kernel
theorem dX11_parse_18 : decode cX11_parse 18 = .ok (.invokevirtual 80, 3) := by decide +kernel
theorem dX11_parse_21 : decode cX11_parse 21 = .ok (.aload_n 0, 1) := by decide +kernel
theorem dX11_parse_22 : decode cX11_parse 22 = .ok (.getfield 69, 3) := by decide +kernel
theorem dX11_parse_25 : decode cX11_parse 25 = .ok (.sipush 1000, 3) := by decide +kernel
theorem dX11_parse_28 : decode cX11_parse 28 = .ok (.if_icmp .ne 10, 3) := by decide +kernel
theorem dX11_parse_31 : decode cX11_parse 31 = .ok (.aload_n 0, 1) := by decide +kernel
theorem dX11_parse_32 : decode cX11_parse 32 = .ok (.getfield 120, 3) := by decide +kernel
theorem dX11_parse_35 : decode cX11_parse 35 = .ok (.ifCond .ne 62, 3) := by decide +kernel
theorem dX11_parse_38 : decode cX11_parse 38 = .ok (.aload_n 0, 1) := by decide +kernel
theorem dX11_parse_39 : decode cX11_parse 39 = .ok (.aload_n 0, 1) := by decide +kernel
theorem dX11_parse_40 : decode cX11_parse 40 = .ok (.getfield 120, 3) := by decide +kernel
theorem dX11_parse_43 : decode cX11_parse 43 = .ok (.ifCond .ne 7, 3) := by decide +kernel
theorem dX11_parse_46 : decode cX11_parse 46 = .ok (.iconst 1, 1) := by decide +kernel
theorem dX11_parse_47 : decode cX11_parse 47 = .ok (.goto 4, 3) := by decide +kernel
theorem dX11_parse_50 : decode cX11_parse 50 = .ok (.iconst 0, 1) := by decide +kernel
theorem dX11_parse_51 : decode cX11_parse 51 = .ok (.invokevirtual 123, 3) := by decide +kernel
theorem dX11_parse_54 : decode cX11_parse 54 = .ok (.ifCond .ne 8, 3) := by decide +kernel
theorem dX11_parse_57 : decode cX11_parse 57 = .ok (.aload_n 0, 1) := by decide +kernel
theorem dX11_parse_58 : decode cX11_parse 58 = .ok (.getfield 62, 3) := by decide +kernel
theorem dX11_parse_61 : decode cX11_parse 61 = .ok (.ireturn, 1) := by decide +kernel
theorem dX11_parse_62 : decode cX11_parse 62 = .ok (.aload_n 0, 1) := by decide +kernel
theorem dX11_parse_63 : decode cX11_parse 63 = .ok (.invokevirtual 80, 3) := by decide +kernel
theorem dX11_parse_66 : decode cX11_parse 66 = .ok (.aload_n 0, 1) := by decide +kernel
theorem dX11_parse_67 : decode cX11_parse 67 = .ok (.getfield 69, 3) := by decide +kernel
theorem dX11_parse_70 : decode cX11_parse 70 = .ok (.bipush 59, 2) := by decide +kernel
theorem dX11_parse_72 : decode cX11_parse 72 = .ok (.if_icmp .eq 8, 3) := by decide +kernel
theorem dX11_parse_75 : decode cX11_parse 75 = .ok (.aload_n 0, 1) := by decide +kernel
theorem dX11_parse_76 : decode cX11_parse 76 = .ok (.getfield 62, 3) := by decide +kernel
theorem dX11_parse_79 : decode cX11_parse 79 = .ok (.ireturn, 1) := by decide +kernel
theorem dX11_parse_80 : decode cX11_parse 80 = .ok (.aload_n 0, 1) := by decide +kernel
theorem dX11_parse_81 : decode cX11_parse 81 = .ok (.dup, 1) := by decide +kernel
theorem dX11_parse_82 : decode cX11_parse 82 = .ok (.getfield 120, 3) := by decide +kernel
theorem dX11_parse_85 : decode cX11_parse 85 = .ok (.iconst 1, 1) := by decide +kernel
theorem dX11_parse_86 : decode cX11_parse 86 = .ok (.iadd, 1) := by decide +kernel
theorem dX11_parse_87 : decode cX11_parse 87 = .ok (.putfield 120, 3) := by decide +kernel
theorem dX11_parse_90 : decode cX11_parse 90 = .ok (.aload_n 0, 1) := by decide +kernel
theorem dX11_parse_91 : decode cX11_parse 91 = .ok (.invokevirtual 80, 3) := by decide +kernel
theorem dX11_parse_94 : decode cX11_parse 94 = .ok (.goto (-73), 3) := by decide +kernel
theorem dX11_parse_97 : decode cX11_parse 97 = .ok (.bipush (-9), 2) := by decide +kernel
theorem dX11_parse_99 : decode cX11_parse 99 = .ok (.ireturn, 1) := by decide +kernel
theorem dX11_appendCharacter_0 : decode cX11_appendCharacter 0 = .ok (.iload_n 1, 1) := by decide +kernel
theorem dX11_appendCharacter_1 : decode cX11_appendCharacter 1 = .ok (.iconst 0, 1) := by decide +kernel
theorem dX11_appendCharacter_2 : decode cX11_appendCharacter 2 = .ok (.sipush 255, 3) := by decide +kernel
theorem dX11_appendCharacter_5 : decode cX11_appendCharacter 5 = .ok (.invokestatic 58, 3) := by decide +kernel
theorem dX11_appendCharacter_8 : decode cX11_appendCharacter 8 = .ok (.ifCond .ne 5, 3) := by decide +kernel
theorem dX11_appendCharacter_11 : decode cX11_appendCharacter 11 = .ok (.iconst (-1), 1) := by decide +kernel
theorem dX11_appendCharacter_12 : decode cX11_appendCharacter 12 = .ok (.ireturn, 1) := by decide +kernel
theorem dX11_appendCharacter_13 : decode cX11_appendCharacter 13 = .ok (.aload_n 0, 1) := by decide +kernel
theorem dX11_appendCharacter_14 : decode cX11_appendCharacter 14 = .ok (.getfield 55, 3) := by decide +kernel
theorem dX11_appendCharacter_17 : decode cX11_appendCharacter 17 = .ok (.sipush 150, 3) := by decide +kernel
theorem dX11_appendCharacter_20 : decode cX11_appendCharacter 20 = .ok (.if_icmp .ne 6, 3) := by decide +kernel
theorem dX11_appendCharacter_23 : decode cX11_appendCharacter 23 = .ok (.bipush (-3), 2) := by decide +kernel
theorem dX11_appendCharacter_25 : decode cX11_appendCharacter 25 = .ok (.ireturn, 1) := by decide +kernel
theorem dX11_appendCharacter_26 : decode cX11_appendCharacter 26 = .ok (.aload_n 0, 1) := by decide +kernel
theorem dX11_appendCharacter_27 : decode cX11_appendCharacter 27 = .ok (.getfield 19, 3) := by decide +kernel
theorem dX11_appendCharacter_30 : decode cX11_appendCharacter 30 = .ok (.aload_n 0, 1) := by decide +kernel
theorem dX11_appendCharacter_31 : decode cX11_appendCharacter 31 = .ok (.getfield 55, 3) := by decide +kernel
theorem dX11_appendCharacter_34 : decode cX11_appendCharacter 34 = .ok (.iload_n 1, 1) := by decide +kernel
theorem dX11_appendCharacter_35 : decode cX11_appendCharacter 35 = .ok (.iastore, 1) := by decide +kernel
theorem dX11_appendCharacter_36 : decode cX11_appendCharacter 36 = .ok (.aload_n 0, 1) := by decide +kernel
theorem dX11_appendCharacter_37 : decode cX11_appendCharacter 37 = .ok (.dup, 1) := by decide +kernel
theorem dX11_appendCharacter_38 : decode cX11_appendCharacter 38 = .ok (.getfield 55, 3) := by decide +kernel
theorem dX11_appendCharacter_41 : decode cX11_appendCharacter 41 = .ok (.iconst 1, 1) := by decide +kernel
theorem dX11_appendCharacter_42 : decode cX11_appendCharacter 42 = .ok (.iadd, 1) := by decide +kernel
theorem dX11_appendCharacter_43 : decode cX11_appendCharacter 43 = .ok (.putfield 55, 3) := by decide +kernel
theorem dX11_appendCharacter_46 : decode cX11_appendCharacter 46 = .ok (.aload_n 0, 1) := by decide +kernel
theorem dX11_appendCharacter_47 : decode cX11_appendCharacter 47 = .ok (.getfield 55, 3) := by decide +kernel
theorem dX11_appendCharacter_50 : decode cX11_appendCharacter 50 = .ok (.ireturn, 1) := by decide +kernel
theorem dX11_clearText_0 : decode cX11_clearText 0 = .ok (.aload_n 0, 1) := by decide +kernel
theorem dX11_clearText_1 : decode cX11_clearText 1 = .ok (.getfield 55, 3) := by decide +kernel
theorem dX11_clearText_4 : decode cX11_clearText 4 = .ok (.istore_n 1, 1) := by decide +kernel
theorem dX11_clearText_5 : decode cX11_clearText 5 = .ok (.aload_n 0, 1) := by decide +kernel
theorem dX11_clearText_6 : decode cX11_clearText 6 = .ok (.iconst 0, 1) := by decide +kernel
theorem dX11_clearText_7 : decode cX11_clearText 7 = .ok (.putfield 55, 3) := by decide +kernel
theorem dX11_clearText_10 : decode cX11_clearText 10 = .ok (.iload_n 1, 1) := by decide +kernel
theorem dX11_clearText_11 : decode cX11_clearText 11 = .ok (.ireturn, 1) := by decide +kernel
theorem dX11_loadGrammar_0 : decode cX11_loadGrammar 0 = .ok (.aload_n 0, 1) := by decide +kernel
theorem dX11_loadGrammar_1 : decode cX11_loadGrammar 1 = .ok (.invokevirtual 127, 3) := by decide +kernel
theorem dX11_loadGrammar_4 : decode cX11_loadGrammar 4 = .ok (.istore_n 1, 1) := by decide +kernel
theorem dX11_loadGrammar_5 : decode cX11_loadGrammar 5 = .ok (.iload_n 1, 1) := by decide +kernel
theorem dX11_loadGrammar_6 : decode cX11_loadGrammar 6 = .ok (.bipush (-9), 2) := by decide +kernel
theorem dX11_loadGrammar_8 : decode cX11_loadGrammar 8 = .ok (.if_icmp .eq 8, 3) := by decide +kernel
theorem dX11_loadGrammar_11 : decode cX11_loadGrammar 11 = .ok (.bipush (-10), 2) := by decide +kernel
theorem dX11_loadGrammar_13 : decode cX11_loadGrammar 13 = .ok (.iload_n 1, 1) := by decide +kernel
theorem dX11_loadGrammar_14 : decode cX11_loadGrammar 14 = .ok (.isub, 1) := by decide +kernel
theorem dX11_loadGrammar_15 : decode cX11_loadGrammar 15 = .ok (.ireturn, 1) := by decide +kernel
theorem dX11_loadGrammar_16 : decode cX11_loadGrammar 16 = .ok (.aload_n 0, 1) := by decide +kernel
theorem dX11_loadGrammar_17 : decode cX11_loadGrammar 17 = .ok (.invokevirtual 131, 3) := by decide +kernel
theorem dX11_loadGrammar_20 : decode cX11_loadGrammar 20 = .ok (.aload_n 0, 1) := by decide +kernel
theorem dX11_loadGrammar_21 : decode cX11_loadGrammar 21 = .ok (.getfield 13, 3) := by decide +kernel
theorem dX11_loadGrammar_24 : decode cX11_loadGrammar 24 = .ok (.iconst 0, 1) := by decide +kernel
theorem dX11_loadGrammar_25 : decode cX11_loadGrammar 25 = .ok (.aload_n 0, 1) := by decide +kernel
theorem dX11_loadGrammar_26 : decode cX11_loadGrammar 26 = .ok (.getfield 7, 3) := by decide +kernel
theorem dX11_loadGrammar_29 : decode cX11_loadGrammar 29 = .ok (.iconst 0, 1) := by decide +kernel
theorem dX11_loadGrammar_30 : decode cX11_loadGrammar 30 = .ok (.invokestatic 48, 3) := by decide +kernel
theorem dX11_loadGrammar_33 : decode cX11_loadGrammar 33 = .ok (.aload_n 0, 1) := by decide +kernel
theorem dX11_loadGrammar_34 : decode cX11_loadGrammar 34 = .ok (.iconst 0, 1) := by decide +kernel
theorem dX11_loadGrammar_35 : decode cX11_loadGrammar 35 = .ok (.putfield 55, 3) := by decide +kernel
theorem dX11_loadGrammar_38 : decode cX11_loadGrammar 38 = .ok (.aload_n 0, 1) := by decide +kernel
theorem dX11_loadGrammar_39 : decode cX11_loadGrammar 39 = .ok (.getfield 120, 3) := by decide +kernel
theorem dX11_loadGrammar_42 : decode cX11_loadGrammar 42 = .ok (.ireturn, 1) := by decide +kernel
theorem dX11_isKind_0 : decode cX11_isKind 0 = .ok (.iload_n 0, 1) := by decide +kernel
theorem dX11_isKind_1 : decode cX11_isKind 1 = .ok (.iconst 0, 1) := by decide +kernel
theorem dX11_isKind_2 : decode cX11_isKind 2 = .ok (.iconst 5, 1) := by decide +kernel
theorem dX11_isKind_3 : decode cX11_isKind 3 = .ok (.invokestatic 58, 3) := by decide +kernel
theorem dX11_isKind_6 : decode cX11_isKind 6 = .ok (.ireturn, 1) := by decide +kernel
theorem dX11_isToken_0 : decode cX11_isToken 0 = .ok (.iload_n 1, 1) := by decide +kernel
theorem dX11_isToken_1 : decode cX11_isToken 1 = .ok (.iconst 0, 1) := by decide +kernel
theorem dX11_isToken_2 : decode cX11_isToken 2 = .ok (.aload_n 0, 1) := by decide +kernel
theorem dX11_isToken_3 : decode cX11_isToken 3 = .ok (.getfield 7, 3) := by decide +kernel
theorem dX11_isToken_6 : decode cX11_isToken 6 = .ok (.bipush 56, 2) := by decide +kernel
theorem dX11_isToken_8 : decode cX11_isToken 8 = .ok (.iaload, 1) := by decide +kernel
theorem dX11_isToken_9 : decode cX11_isToken 9 = .ok (.iconst 1, 1) := by decide +kernel
theorem dX11_isToken_10 : decode cX11_isToken 10 = .ok (.isub, 1) := by decide +kernel
theorem dX11_isToken_11 : decode cX11_isToken 11 = .ok (.invokestatic 58, 3) := by decide +kernel
theorem dX11_isToken_14 : decode cX11_isToken 14 = .ok (.ireturn, 1) := by decide +kernel
theorem dX11_appendToken_0 : decode cX11_appendToken 0 = .ok (.aload_n 0, 1) := by decide +kernel
theorem dX11_appendToken_1 : decode cX11_appendToken 1 = .ok (.aload_n 0, 1) := by decide +kernel
theorem dX11_appendToken_2 : decode cX11_appendToken 2 = .ok (.getfield 7, 3) := by decide +kernel
theorem dX11_appendToken_5 : decode cX11_appendToken 5 = .ok (.bipush 56, 2) := by decide +kernel
theorem dX11_appendToken_7 : decode cX11_appendToken 7 = .ok (.iaload, 1) := by decide +kernel
theorem dX11_appendToken_8 : decode cX11_appendToken 8 = .ok (.iload_n 1, 1) := by decide +kernel
theorem dX11_appendToken_9 : decode cX11_appendToken 9 = .ok (.invokevirtual 134, 3) := by decide +kernel
theorem dX11_appendToken_12 : decode cX11_appendToken 12 = .ok (.ireturn, 1) := by decide +kernel
theorem dX11_insertToken_0 : decode cX11_insertToken 0 = .ok (.iload_n 1, 1) := by decide +kernel
theorem dX11_insertToken_1 : decode cX11_insertToken 1 = .ok (.iconst 0, 1) := by decide +kernel
theorem dX11_insertToken_2 : decode cX11_insertToken 2 = .ok (.aload_n 0, 1) := by decide +kernel
theorem dX11_insertToken_3 : decode cX11_insertToken 3 = .ok (.getfield 7, 3) := by decide +kernel
theorem dX11_insertToken_6 : decode cX11_insertToken 6 = .ok (.bipush 56, 2) := by decide +kernel
theorem dX11_insertToken_8 : decode cX11_insertToken 8 = .ok (.iaload, 1) := by decide +kernel
theorem dX11_insertToken_9 : decode cX11_insertToken 9 = .ok (.invokestatic 58, 3) := by decide +kernel
theorem dX11_insertToken_12 : decode cX11_insertToken 12 = .ok (.ifCond .eq 10, 3) := by decide +kernel
theorem dX11_insertToken_15 : decode cX11_insertToken 15 = .ok (.iload_n 2, 1) := by decide +kernel
theorem dX11_insertToken_16 : decode cX11_insertToken 16 = .ok (.invokestatic 138, 3) := by decide +kernel
theorem dX11_insertToken_19 : decode cX11_insertToken 19 = .ok (.ifCond .ne 5, 3) := by decide +kernel
theorem dX11_insertToken_22 : decode cX11_insertToken 22 = .ok (.iconst (-1), 1) := by decide +kernel
theorem dX11_insertToken_23 : decode cX11_insertToken 23 = .ok (.ireturn, 1) := by decide +kernel
theorem dX11_insertToken_24 : decode cX11_insertToken 24 = .ok (.aload_n 0, 1) := by decide +kernel
theorem dX11_insertToken_25 : decode cX11_insertToken 25 = .ok (.getfield 7, 3) := by decide +kernel
theorem dX11_insertToken_28 : decode cX11_insertToken 28 = .ok (.bipush 56, 2) := by decide +kernel
theorem dX11_insertToken_30 : decode cX11_insertToken 30 = .ok (.iaload, 1) := by decide +kernel
theorem dX11_insertToken_31 : decode cX11_insertToken 31 = .ok (.bipush 12, 2) := by decide +kernel
theorem dX11_insertToken_33 : decode cX11_insertToken 33 = .ok (.if_icmp .ne 6, 3) := by decide +kernel
theorem dX11_insertToken_36 : decode cX11_insertToken 36 = .ok (.bipush (-3), 2) := by decide +kernel
theorem dX11_insertToken_38 : decode cX11_insertToken 38 = .ok (.ireturn, 1) := by decide +kernel
theorem dX11_insertToken_39 : decode cX11_insertToken 39 = .ok (.aload_n 0, 1) := by decide +kernel
theorem dX11_insertToken_40 : decode cX11_insertToken 40 = .ok (.invokevirtual 131, 3) := by decide +kernel
theorem dX11_insertToken_43 : decode cX11_insertToken 43 = .ok (.aload_n 0, 1) := by decide +kernel
theorem dX11_insertToken_44 : decode cX11_insertToken 44 = .ok (.getfield 7, 3) := by decide +kernel
theorem dX11_insertToken_47 : decode cX11_insertToken 47 = .ok (.bipush 56, 2) := by decide +kernel
theorem dX11_insertToken_49 : decode cX11_insertToken 49 = .ok (.iaload, 1) := by decide +kernel
theorem dX11_insertToken_50 : decode cX11_insertToken 50 = .ok (.istore_n 3, 1) := by decide +kernel
theorem dX11_insertToken_51 : decode cX11_insertToken 51 = .ok (.iload_n 3, 1) := by decide +kernel
theorem dX11_insertToken_52 : decode cX11_insertToken 52 = .ok (.iload_n 1, 1) := by decide +kernel
theorem dX11_insertToken_53 : decode cX11_insertToken 53 = .ok (.if_icmp .le 29, 3) := by decide +kernel
theorem dX11_insertToken_56 : decode cX11_insertToken 56 = .ok (.aload_n 0, 1) := by decide +kernel
theorem dX11_insertToken_57 : decode cX11_insertToken 57 = .ok (.getfield 7, 3) := by decide +kernel
theorem dX11_insertToken_60 : decode cX11_insertToken 60 = .ok (.bipush 57, 2) := by decide +kernel
theorem dX11_insertToken_62 : decode cX11_insertToken 62 = .ok (.iload_n 3, 1) := by decide +kernel
theorem dX11_insertToken_63 : decode cX11_insertToken 63 = .ok (.iadd, 1) := by decide +kernel
theorem dX11_insertToken_64 : decode cX11_insertToken 64 = .ok (.aload_n 0, 1) := by decide +kernel
theorem dX11_insertToken_65 : decode cX11_insertToken 65 = .ok (.getfield 7, 3) := by decide +kernel
theorem dX11_insertToken_68 : decode cX11_insertToken 68 = .ok (.bipush 57, 2) := by decide +kernel
theorem dX11_insertToken_70 : decode cX11_insertToken 70 = .ok (.iload_n 3, 1) := by decide +kernel
theorem dX11_insertToken_71 : decode cX11_insertToken 71 = .ok (.iadd, 1) := by decide +kernel
theorem dX11_insertToken_72 : decode cX11_insertToken 72 = .ok (.iconst 1, 1) := by decide +kernel
theorem dX11_insertToken_73 : decode cX11_insertToken 73 = .ok (.isub, 1) := by decide +kernel
theorem dX11_insertToken_74 : decode cX11_insertToken 74 = .ok (.iaload, 1) := by decide +kernel
theorem dX11_insertToken_75 : decode cX11_insertToken 75 = .ok (.iastore, 1) := by decide +kernel
theorem dX11_insertToken_76 : decode cX11_insertToken 76 = .ok (.iinc 3 (-1), 3) := by decide +kernel
theorem dX11_insertToken_79 : decode cX11_insertToken 79 = .ok (.goto (-28), 3) := by decide +kernel
theorem dX11_insertToken_82 : decode cX11_insertToken 82 = .ok (.aload_n 0, 1) := by decide +kernel
theorem dX11_insertToken_83 : decode cX11_insertToken 83 = .ok (.getfield 7, 3) := by decide +kernel
theorem dX11_insertToken_86 : decode cX11_insertToken 86 = .ok (.bipush 57, 2) := by decide +kernel
theorem dX11_insertToken_88 : decode cX11_insertToken 88 = .ok (.iload_n 1, 1) := by decide +kernel
theorem dX11_insertToken_89 : decode cX11_insertToken 89 = .ok (.iadd, 1) := by decide +kernel
theorem dX11_insertToken_90 : decode cX11_insertToken 90 = .ok (.iload_n 2, 1) := by decide +kernel
theorem dX11_insertToken_91 : decode cX11_insertToken 91 = .ok (.iastore, 1) := by decide +kernel
theorem dX11_insertToken_92 : decode cX11_insertToken 92 = .ok (.aload_n 0, 1) := by decide +kernel
theorem dX11_insertToken_93 : decode cX11_insertToken 93 = .ok (.getfield 7, 3) := by decide +kernel
theorem dX11_insertToken_96 : decode cX11_insertToken 96 = .ok (.bipush 56, 2) := by decide +kernel
theorem dX11_insertToken_98 : decode cX11_insertToken 98 = .ok (.dup2, 1) := by decide +kernel
theorem dX11_insertToken_99 : decode cX11_insertToken 99 = .ok (.iaload, 1) := by decide +kernel
theorem dX11_insertToken_100 : decode cX11_insertToken 100 = .ok (.iconst 1, 1) := by decide +kernel
theorem dX11_insertToken_101 : decode cX11_insertToken 101 = .ok (.iadd, 1) := by decide +kernel
theorem dX11_insertToken_102 : decode cX11_insertToken 102 = .ok (.iastore, 1) := by decide +kernel
theorem dX11_insertToken_103 : decode cX11_insertToken 103 = .ok (.aload_n 0, 1) := by decide +kernel
theorem dX11_insertToken_104 : decode cX11_insertToken 104 = .ok (.getfield 7, 3) := by decide +kernel
theorem dX11_insertToken_107 : decode cX11_insertToken 107 = .ok (.bipush 56, 2) := by decide +kernel
theorem dX11_insertToken_109 : decode cX11_insertToken 109 = .ok (.iaload, 1) := by decide +kernel
theorem dX11_insertToken_110 : decode cX11_insertToken 110 = .ok (.ireturn, 1) := by decide +kernel
theorem dX11_removeToken_0 : decode cX11_removeToken 0 = .ok (.aload_n 0, 1) := by decide +kernel
theorem dX11_removeToken_1 : decode cX11_removeToken 1 = .ok (.iload_n 1, 1) := by decide +kernel
theorem dX11_removeToken_2 : decode cX11_removeToken 2 = .ok (.invokevirtual 141, 3) := by decide +kernel
theorem dX11_removeToken_5 : decode cX11_removeToken 5 = .ok (.ifCond .ne 5, 3) := by decide +kernel
theorem dX11_removeToken_8 : decode cX11_removeToken 8 = .ok (.iconst (-1), 1) := by decide +kernel
theorem dX11_removeToken_9 : decode cX11_removeToken 9 = .ok (.ireturn, 1) := by decide +kernel
theorem dX11_removeToken_10 : decode cX11_removeToken 10 = .ok (.aload_n 0, 1) := by decide +kernel
theorem dX11_removeToken_11 : decode cX11_removeToken 11 = .ok (.invokevirtual 131, 3) := by decide +kernel
theorem dX11_removeToken_14 : decode cX11_removeToken 14 = .ok (.aload_n 0, 1) := by decide +kernel
theorem dX11_removeToken_15 : decode cX11_removeToken 15 = .ok (.getfield 7, 3) := by decide +kernel
theorem dX11_removeToken_18 : decode cX11_removeToken 18 = .ok (.bipush 57, 2) := by decide +kernel
theorem dX11_removeToken_20 : decode cX11_removeToken 20 = .ok (.iload_n 1, 1) := by decide +kernel
theorem dX11_removeToken_21 : decode cX11_removeToken 21 = .ok (.iadd, 1) := by decide +kernel
theorem dX11_removeToken_22 : decode cX11_removeToken 22 = .ok (.iaload, 1) := by decide +kernel
theorem dX11_removeToken_23 : decode cX11_removeToken 23 = .ok (.istore_n 2, 1) := by decide +kernel
theorem dX11_removeToken_24 : decode cX11_removeToken 24 = .ok (.iload_n 1, 1) := by decide +kernel
theorem dX11_removeToken_25 : decode cX11_removeToken 25 = .ok (.istore_n 3, 1) := by decide +kernel
theorem dX11_removeToken_26 : decode cX11_removeToken 26 = .ok (.iload_n 3, 1) := by decide +kernel
theorem dX11_removeToken_27 : decode cX11_removeToken 27 = .ok (.iconst 1, 1) := by decide +kernel
theorem dX11_removeToken_28 : decode cX11_removeToken 28 = .ok (.iadd, 1) := by decide +kernel
theorem dX11_removeToken_29 : decode cX11_removeToken 29 = .ok (.aload_n 0, 1) := by decide +kernel
theorem dX11_removeToken_30 : decode cX11_removeToken 30 = .ok (.getfield 7, 3) := by decide +kernel
theorem dX11_removeToken_33 : decode cX11_removeToken 33 = .ok (.bipush 56, 2) := by decide +kernel
theorem dX11_removeToken_35 : decode cX11_removeToken 35 = .ok (.iaload, 1) := by decide +kernel
theorem dX11_removeToken_36 : decode cX11_removeToken 36 = .ok (.if_icmp .ge 29, 3) := by decide +kernel
theorem dX11_removeToken_39 : decode cX11_removeToken 39 = .ok (.aload_n 0, 1) := by decide +kernel
theorem dX11_removeToken_40 : decode cX11_removeToken 40 = .ok (.getfield 7, 3) := by decide +kernel
theorem dX11_removeToken_43 : decode cX11_removeToken 43 = .ok (.bipush 57, 2) := by decide +kernel
theorem dX11_removeToken_45 : decode cX11_removeToken 45 = .ok (.iload_n 3, 1) := by decide +kernel
theorem dX11_removeToken_46 : decode cX11_removeToken 46 = .ok (.iadd, 1) := by decide +kernel
theorem dX11_removeToken_47 : decode cX11_removeToken 47 = .ok (.aload_n 0, 1) := by decide +kernel
theorem dX11_removeToken_48 : decode cX11_removeToken 48 = .ok (.getfield 7, 3) := by decide +kernel
theorem dX11_removeToken_51 : decode cX11_removeToken 51 = .ok (.bipush 57, 2) := by decide +kernel
theorem dX11_removeToken_53 : decode cX11_removeToken 53 = .ok (.iload_n 3, 1) := by decide +kernel
theorem dX11_removeToken_54 : decode cX11_removeToken 54 = .ok (.iadd, 1) := by decide +kernel
theorem dX11_removeToken_55 : decode cX11_removeToken 55 = .ok (.iconst 1, 1) := by decide +kernel
theorem dX11_removeToken_56 : decode cX11_removeToken 56 = .ok (.iadd, 1) := by decide +kernel
theorem dX11_removeToken_57 : decode cX11_removeToken 57 = .ok (.iaload, 1) := by decide +kernel
theorem dX11_removeToken_58 : decode cX11_removeToken 58 = .ok (.iastore, 1) := by decide +kernel
theorem dX11_removeToken_59 : decode cX11_removeToken 59 = .ok (.iinc 3 1, 3) := by decide +kernel
theorem dX11_removeToken_62 : decode cX11_removeToken 62 = .ok (.goto (-36), 3) := by decide +kernel
theorem dX11_removeToken_65 : decode cX11_removeToken 65 = .ok (.aload_n 0, 1) := by decide +kernel
theorem dX11_removeToken_66 : decode cX11_removeToken 66 = .ok (.getfield 7, 3) := by decide +kernel
theorem dX11_removeToken_69 : decode cX11_removeToken 69 = .ok (.bipush 56, 2) := by decide +kernel
theorem dX11_removeToken_71 : decode cX11_removeToken 71 = .ok (.dup2, 1) := by decide +kernel
theorem dX11_removeToken_72 : decode cX11_removeToken 72 = .ok (.iaload, 1) := by decide +kernel
theorem dX11_removeToken_73 : decode cX11_removeToken 73 = .ok (.iconst 1, 1) := by decide +kernel
theorem dX11_removeToken_74 : decode cX11_removeToken 74 = .ok (.isub, 1) := by decide +kernel
theorem dX11_removeToken_75 : decode cX11_removeToken 75 = .ok (.iastore, 1) := by decide +kernel
theorem dX11_removeToken_76 : decode cX11_removeToken 76 = .ok (.iload_n 2, 1) := by decide +kernel
theorem dX11_removeToken_77 : decode cX11_removeToken 77 = .ok (.ireturn, 1) := by decide +kernel
theorem dX11_clearTokens_0 : decode cX11_clearTokens 0 = .ok (.aload_n 0, 1) := by decide +kernel
theorem dX11_clearTokens_1 : decode cX11_clearTokens 1 = .ok (.getfield 7, 3) := by decide +kernel
theorem dX11_clearTokens_4 : decode cX11_clearTokens 4 = .ok (.bipush 56, 2) := by decide +kernel
theorem dX11_clearTokens_6 : decode cX11_clearTokens 6 = .ok (.iaload, 1) := by decide +kernel
theorem dX11_clearTokens_7 : decode cX11_clearTokens 7 = .ok (.istore_n 1, 1) := by decide +kernel
theorem dX11_clearTokens_8 : decode cX11_clearTokens 8 = .ok (.iload_n 1, 1) := by decide +kernel
theorem dX11_clearTokens_9 : decode cX11_clearTokens 9 = .ok (.ifCond .ne 6, 3) := by decide +kernel
theorem dX11_clearTokens_12 : decode cX11_clearTokens 12 = .ok (.bipush (-2), 2) := by decide +kernel
theorem dX11_clearTokens_14 : decode cX11_clearTokens 14 = .ok (.ireturn, 1) := by decide +kernel
theorem dX11_clearTokens_15 : decode cX11_clearTokens 15 = .ok (.aload_n 0, 1) := by decide +kernel
theorem dX11_clearTokens_16 : decode cX11_clearTokens 16 = .ok (.invokevirtual 131, 3) := by decide +kernel
theorem dX11_clearTokens_19 : decode cX11_clearTokens 19 = .ok (.aload_n 0, 1) := by decide +kernel
theorem dX11_clearTokens_20 : decode cX11_clearTokens 20 = .ok (.getfield 7, 3) := by decide +kernel
theorem dX11_clearTokens_23 : decode cX11_clearTokens 23 = .ok (.bipush 56, 2) := by decide +kernel
theorem dX11_clearTokens_25 : decode cX11_clearTokens 25 = .ok (.iconst 0, 1) := by decide +kernel
theorem dX11_clearTokens_26 : decode cX11_clearTokens 26 = .ok (.iastore, 1) := by decide +kernel
theorem dX11_clearTokens_27 : decode cX11_clearTokens 27 = .ok (.iload_n 1, 1) := by decide +kernel
theorem dX11_clearTokens_28 : decode cX11_clearTokens 28 = .ok (.ireturn, 1) := by decide +kernel
theorem dX11_setCost_0 : decode cX11_setCost 0 = .ok (.iload_n 2, 1) := by decide +kernel
theorem dX11_setCost_1 : decode cX11_setCost 1 = .ok (.invokestatic 138, 3) := by decide +kernel
theorem dX11_setCost_4 : decode cX11_setCost 4 = .ok (.ifCond .eq 13, 3) := by decide +kernel
theorem dX11_setCost_7 : decode cX11_setCost 7 = .ok (.iload_n 3, 1) := by decide +kernel
theorem dX11_setCost_8 : decode cX11_setCost 8 = .ok (.iconst 1, 1) := by decide +kernel
theorem dX11_setCost_9 : decode cX11_setCost 9 = .ok (.bipush 9, 2) := by decide +kernel
theorem dX11_setCost_11 : decode cX11_setCost 11 = .ok (.invokestatic 58, 3) := by decide +kernel
theorem dX11_setCost_14 : decode cX11_setCost 14 = .ok (.ifCond .ne 5, 3) := by decide +kernel
theorem dX11_setCost_17 : decode cX11_setCost 17 = .ok (.iconst (-1), 1) := by decide +kernel
theorem dX11_setCost_18 : decode cX11_setCost 18 = .ok (.ireturn, 1) := by decide +kernel
theorem dX11_setCost_19 : decode cX11_setCost 19 = .ok (.aload_n 0, 1) := by decide +kernel
theorem dX11_setCost_20 : decode cX11_setCost 20 = .ok (.invokevirtual 131, 3) := by decide +kernel
theorem dX11_setCost_23 : decode cX11_setCost 23 = .ok (.aload_n 0, 1) := by decide +kernel
theorem dX11_setCost_24 : decode cX11_setCost 24 = .ok (.getfield 7, 3) := by decide +kernel
theorem dX11_setCost_27 : decode cX11_setCost 27 = .ok (.iload_n 1, 1) := by decide +kernel
theorem dX11_setCost_28 : decode cX11_setCost 28 = .ok (.iload_n 2, 1) := by decide +kernel
theorem dX11_setCost_29 : decode cX11_setCost 29 = .ok (.iadd, 1) := by decide +kernel
theorem dX11_setCost_30 : decode cX11_setCost 30 = .ok (.iaload, 1) := by decide +kernel
theorem dX11_setCost_31 : decode cX11_setCost 31 = .ok (.istore 4, 2) := by decide +kernel
theorem dX11_setCost_33 : decode cX11_setCost 33 = .ok (.aload_n 0, 1) := by decide +kernel
theorem dX11_setCost_34 : decode cX11_setCost 34 = .ok (.getfield 7, 3) := by decide +kernel
theorem dX11_setCost_37 : decode cX11_setCost 37 = .ok (.iload_n 1, 1) := by decide +kernel
theorem dX11_setCost_38 : decode cX11_setCost 38 = .ok (.iload_n 2, 1) := by decide +kernel
theorem dX11_setCost_39 : decode cX11_setCost 39 = .ok (.iadd, 1) := by decide +kernel
theorem dX11_setCost_40 : decode cX11_setCost 40 = .ok (.iload_n 3, 1) := by decide +kernel
theorem dX11_setCost_41 : decode cX11_setCost 41 = .ok (.iastore, 1) := by decide +kernel
theorem dX11_setCost_42 : decode cX11_setCost 42 = .ok (.iload 4, 2) := by decide +kernel
theorem dX11_setCost_44 : decode cX11_setCost 44 = .ok (.ireturn, 1) := by decide +kernel
theorem dX11_setInsertionCost_0 : decode cX11_setInsertionCost 0 = .ok (.aload_n 0, 1) := by decide +kernel
theorem dX11_setInsertionCost_1 : decode cX11_setInsertionCost 1 = .ok (.bipush 38, 2) := by decide +kernel
theorem dX11_setInsertionCost_3 : decode cX11_setInsertionCost 3 = .ok (.iload_n 1, 1) := by decide +kernel
theorem dX11_setInsertionCost_4 : decode cX11_setInsertionCost 4 = .ok (.iload_n 2, 1) := by decide +kernel
theorem dX11_setInsertionCost_5 : decode cX11_setInsertionCost 5 = .ok (.invokevirtual 144, 3) := by decide +kernel
theorem dX11_setInsertionCost_8 : decode cX11_setInsertionCost 8 = .ok (.ireturn, 1) := by decide +kernel
theorem dX11_setDeletionCost_0 : decode cX11_setDeletionCost 0 = .ok (.aload_n 0, 1) := by decide +kernel
theorem dX11_setDeletionCost_1 : decode cX11_setDeletionCost 1 = .ok (.bipush 44, 2) := by decide +kernel
theorem dX11_setDeletionCost_3 : decode cX11_setDeletionCost 3 = .ok (.iload_n 1, 1) := by decide +kernel
theorem dX11_setDeletionCost_4 : decode cX11_setDeletionCost 4 = .ok (.iload_n 2, 1) := by decide +kernel
theorem dX11_setDeletionCost_5 : decode cX11_setDeletionCost 5 = .ok (.invokevirtual 144, 3) := by decide +kernel
theorem dX11_setDeletionCost_8 : decode cX11_setDeletionCost 8 = .ok (.ireturn, 1) := by decide +kernel
theorem dX11_setReplacementCost_0 : decode cX11_setReplacementCost 0 = .ok (.aload_n 0, 1) := by decide +kernel
theorem dX11_setReplacementCost_1 : decode cX11_setReplacementCost 1 = .ok (.bipush 50, 2) := by decide +kernel
theorem dX11_setReplacementCost_3 : decode cX11_setReplacementCost 3 = .ok (.iload_n 1, 1) := by decide +kernel
theorem dX11_setReplacementCost_4 : decode cX11_setReplacementCost 4 = .ok (.iload_n 2, 1) := by decide +kernel
theorem dX11_setReplacementCost_5 : decode cX11_setReplacementCost 5 = .ok (.invokevirtual 144, 3) := by decide +kernel
theorem dX11_setReplacementCost_8 : decode cX11_setReplacementCost 8 = .ok (.ireturn, 1) := by decide +kernel
theorem dX11_undo_0 : decode cX11_undo 0 = .ok (.aload_n 0, 1) := by decide +kernel
theorem dX11_undo_1 : decode cX11_undo 1 = .ok (.getfield 44, 3) := by decide +kernel
theorem dX11_undo_4 : decode cX11_undo 4 = .ok (.ifCond .ne 6, 3) := by decide +kernel
theorem dX11_undo_7 : decode cX11_undo 7 = .ok (.bipush (-2), 2) := by decide +kernel
theorem dX11_undo_9 : decode cX11_undo 9 = .ok (.ireturn, 1) := by decide +kernel
theorem dX11_undo_10 : decode cX11_undo 10 = .ok (.aload_n 0, 1) := by decide +kernel
theorem dX11_undo_11 : decode cX11_undo 11 = .ok (.dup, 1) := by decide +kernel
theorem dX11_undo_12 : decode cX11_undo 12 = .ok (.getfield 44, 3) := by decide +kernel
theorem dX11_undo_15 : decode cX11_undo 15 = .ok (.iconst 1, 1) := by decide +kernel
theorem dX11_undo_16 : decode cX11_undo 16 = .ok (.isub, 1) := by decide +kernel
theorem dX11_undo_17 : decode cX11_undo 17 = .ok (.putfield 44, 3) := by decide +kernel
theorem dX11_undo_20 : decode cX11_undo 20 = .ok (.aload_n 0, 1) := by decide +kernel
theorem dX11_undo_21 : decode cX11_undo 21 = .ok (.getfield 16, 3) := by decide +kernel
theorem dX11_undo_24 : decode cX11_undo 24 = .ok (.bipush 69, 2) := by decide +kernel
theorem dX11_undo_26 : decode cX11_undo 26 = .ok (.aload_n 0, 1) := by decide +kernel
theorem dX11_undo_27 : decode cX11_undo 27 = .ok (.getfield 44, 3) := by decide +kernel
theorem dX11_undo_30 : decode cX11_undo 30 = .ok (.imul, 1) := by decide +kernel
theorem dX11_undo_31 : decode cX11_undo 31 = .ok (.aload_n 0, 1) := by decide +kernel
theorem dX11_undo_32 : decode cX11_undo 32 = .ok (.getfield 7, 3) := by decide +kernel
theorem dX11_undo_35 : decode cX11_undo 35 = .ok (.iconst 0, 1) := by decide +kernel
theorem dX11_undo_36 : decode cX11_undo 36 = .ok (.invokestatic 48, 3) := by decide +kernel
theorem dX11_undo_39 : decode cX11_undo 39 = .ok (.aload_n 0, 1) := by decide +kernel
theorem dX11_undo_40 : decode cX11_undo 40 = .ok (.getfield 44, 3) := by decide +kernel
theorem dX11_undo_43 : decode cX11_undo 43 = .ok (.ireturn, 1) := by decide +kernel
theorem dX11_stateCount_0 : decode cX11_stateCount 0 = .ok (.aload_n 0, 1) := by decide +kernel
theorem dX11_stateCount_1 : decode cX11_stateCount 1 = .ok (.getfield 7, 3) := by decide +kernel
theorem dX11_stateCount_4 : decode cX11_stateCount 4 = .ok (.iconst 0, 1) := by decide +kernel
theorem dX11_stateCount_5 : decode cX11_stateCount 5 = .ok (.iaload, 1) := by decide +kernel
theorem dX11_stateCount_6 : decode cX11_stateCount 6 = .ok (.ireturn, 1) := by decide +kernel
theorem dX11_isAccepting_0 : decode cX11_isAccepting 0 = .ok (.iload_n 1, 1) := by decide +kernel
theorem dX11_isAccepting_1 : decode cX11_isAccepting 1 = .ok (.iconst 0, 1) := by decide +kernel
theorem dX11_isAccepting_2 : decode cX11_isAccepting 2 = .ok (.iconst 5, 1) := by decide +kernel
theorem dX11_isAccepting_3 : decode cX11_isAccepting 3 = .ok (.invokestatic 58, 3) := by decide +kernel
theorem dX11_isAccepting_6 : decode cX11_isAccepting 6 = .ok (.ifCond .eq 16, 3) := by decide +kernel
theorem dX11_isAccepting_9 : decode cX11_isAccepting 9 = .ok (.aload_n 0, 1) := by decide +kernel
theorem dX11_isAccepting_10 : decode cX11_isAccepting 10 = .ok (.getfield 7, 3) := by decide +kernel
theorem dX11_isAccepting_13 : decode cX11_isAccepting 13 = .ok (.iconst 1, 1) := by decide +kernel
theorem dX11_isAccepting_14 : decode cX11_isAccepting 14 = .ok (.iaload, 1) := by decide +kernel
theorem dX11_isAccepting_15 : decode cX11_isAccepting 15 = .ok (.iload_n 1, 1) := by decide +kernel
theorem dX11_isAccepting_16 : decode cX11_isAccepting 16 = .ok (.ishr, 1) := by decide +kernel
theorem dX11_isAccepting_17 : decode cX11_isAccepting 17 = .ok (.iconst 1, 1) := by decide +kernel
theorem dX11_isAccepting_18 : decode cX11_isAccepting 18 = .ok (.iand, 1) := by decide +kernel
theorem dX11_isAccepting_19 : decode cX11_isAccepting 19 = .ok (.goto 4, 3) := by decide +kernel
theorem dX11_isAccepting_22 : decode cX11_isAccepting 22 = .ok (.iconst (-1), 1) := by decide +kernel
theorem dX11_isAccepting_23 : decode cX11_isAccepting 23 = .ok (.ireturn, 1) := by decide +kernel
theorem dX11_ruleCount_0 : decode cX11_ruleCount 0 = .ok (.iconst 0, 1) := by decide +kernel
theorem dX11_ruleCount_1 : decode cX11_ruleCount 1 = .ok (.istore_n 1, 1) := by decide +kernel
theorem dX11_ruleCount_2 : decode cX11_ruleCount 2 = .ok (.iconst 2, 1) := by decide +kernel
theorem dX11_ruleCount_3 : decode cX11_ruleCount 3 = .ok (.istore_n 2, 1) := by decide +kernel
theorem dX11_ruleCount_4 : decode cX11_ruleCount 4 = .ok (.iload_n 2, 1) := by decide +kernel
theorem dX11_ruleCount_5 : decode cX11_ruleCount 5 = .ok (.bipush 38, 2) := by decide +kernel
theorem dX11_ruleCount_7 : decode cX11_ruleCount 7 = .ok (.if_icmp .ge 26, 3) := by decide +kernel
theorem dX11_ruleCount_10 : decode cX11_ruleCount 10 = .ok (.iload_n 1, 1) := by decide +kernel
theorem dX11_ruleCount_11 : decode cX11_ruleCount 11 = .ok (.aload_n 0, 1) := by decide +kernel
theorem dX11_ruleCount_12 : decode cX11_ruleCount 12 = .ok (.getfield 7, 3) := by decide +kernel
theorem dX11_ruleCount_15 : decode cX11_ruleCount 15 = .ok (.iload_n 2, 1) := by decide +kernel
theorem dX11_ruleCount_16 : decode cX11_ruleCount 16 = .ok (.iaload, 1) := by decide +kernel
theorem dX11_ruleCount_17 : decode cX11_ruleCount 17 = .ok (.ifCond .ne 7, 3) := by decide +kernel
theorem dX11_ruleCount_20 : decode cX11_ruleCount 20 = .ok (.iconst 0, 1) := by decide +kernel
theorem dX11_ruleCount_21 : decode cX11_ruleCount 21 = .ok (.goto 4, 3) := by decide +kernel
theorem dX11_ruleCount_24 : decode cX11_ruleCount 24 = .ok (.iconst 1, 1) := by decide +kernel
theorem dX11_ruleCount_25 : decode cX11_ruleCount 25 = .ok (.iadd, 1) := by decide +kernel
theorem dX11_ruleCount_26 : decode cX11_ruleCount 26 = .ok (.istore_n 1, 1) := by decide +kernel
theorem dX11_ruleCount_27 : decode cX11_ruleCount 27 = .ok (.iinc 2 1, 3) := by decide +kernel
theorem dX11_ruleCount_30 : decode cX11_ruleCount 30 = .ok (.goto (-26), 3) := by decide +kernel
theorem dX11_ruleCount_33 : decode cX11_ruleCount 33 = .ok (.iload_n 1, 1) := by decide +kernel
theorem dX11_ruleCount_34 : decode cX11_ruleCount 34 = .ok (.ireturn, 1) := by decide +kernel
theorem dX11_tokenCount_0 : decode cX11_tokenCount 0 = .ok (.aload_n 0, 1) := by decide +kernel
theorem dX11_tokenCount_1 : decode cX11_tokenCount 1 = .ok (.getfield 7, 3) := by decide +kernel
theorem dX11_tokenCount_4 : decode cX11_tokenCount 4 = .ok (.bipush 56, 2) := by decide +kernel
theorem dX11_tokenCount_6 : decode cX11_tokenCount 6 = .ok (.iaload, 1) := by decide +kernel
theorem dX11_tokenCount_7 : decode cX11_tokenCount 7 = .ok (.ireturn, 1) := by decide +kernel
theorem dX11_tokenAt_0 : decode cX11_tokenAt 0 = .ok (.aload_n 0, 1) := by decide +kernel
theorem dX11_tokenAt_1 : decode cX11_tokenAt 1 = .ok (.iload_n 1, 1) := by decide +kernel
theorem dX11_tokenAt_2 : decode cX11_tokenAt 2 = .ok (.invokevirtual 141, 3) := by decide +kernel
theorem dX11_tokenAt_5 : decode cX11_tokenAt 5 = .ok (.ifCond .eq 15, 3) := by decide +kernel
theorem dX11_tokenAt_8 : decode cX11_tokenAt 8 = .ok (.aload_n 0, 1) := by decide +kernel
theorem dX11_tokenAt_9 : decode cX11_tokenAt 9 = .ok (.getfield 7, 3) := by decide +kernel
theorem dX11_tokenAt_12 : decode cX11_tokenAt 12 = .ok (.bipush 57, 2) := by decide +kernel
theorem dX11_tokenAt_14 : decode cX11_tokenAt 14 = .ok (.iload_n 1, 1) := by decide +kernel
theorem dX11_tokenAt_15 : decode cX11_tokenAt 15 = .ok (.iadd, 1) := by decide +kernel
theorem dX11_tokenAt_16 : decode cX11_tokenAt 16 = .ok (.iaload, 1) := by decide +kernel
theorem dX11_tokenAt_17 : decode cX11_tokenAt 17 = .ok (.goto 4, 3) := by decide +kernel
theorem dX11_tokenAt_20 : decode cX11_tokenAt 20 = .ok (.iconst (-1), 1) := by decide +kernel
theorem dX11_tokenAt_21 : decode cX11_tokenAt 21 = .ok (.ireturn, 1) := by decide +kernel
theorem dX11_depth_0 : decode cX11_depth 0 = .ok (.iload_n 0, 1) := by decide +kernel
theorem dX11_depth_1 : decode cX11_depth 1 = .ok (.bipush 16, 2) := by decide +kernel
theorem dX11_depth_3 : decode cX11_depth 3 = .ok (.irem, 1) := by decide +kernel
theorem dX11_depth_4 : decode cX11_depth 4 = .ok (.istore_n 1, 1) := by decide +kernel
theorem dX11_depth_5 : decode cX11_depth 5 = .ok (.iload_n 1, 1) := by decide +kernel
theorem dX11_depth_6 : decode cX11_depth 6 = .ok (.bipush 7, 2) := by decide +kernel
theorem dX11_depth_8 : decode cX11_depth 8 = .ok (.if_icmp .le 7, 3) := by decide +kernel
theorem dX11_depth_11 : decode cX11_depth 11 = .ok (.iconst 3, 1) := by decide +kernel
theorem dX11_depth_12 : decode cX11_depth 12 = .ok (.goto 22, 3) := by decide +kernel
theorem dX11_depth_15 : decode cX11_depth 15 = .ok (.iload_n 1, 1) := by decide +kernel
theorem dX11_depth_16 : decode cX11_depth 16 = .ok (.iconst 3, 1) := by decide +kernel
theorem dX11_depth_17 : decode cX11_depth 17 = .ok (.if_icmp .le 7, 3) := by decide +kernel
theorem dX11_depth_20 : decode cX11_depth 20 = .ok (.iconst 2, 1) := by decide +kernel
theorem dX11_depth_21 : decode cX11_depth 21 = .ok (.goto 13, 3) := by decide +kernel
theorem dX11_depth_24 : decode cX11_depth 24 = .ok (.iload_n 1, 1) := by decide +kernel
theorem dX11_depth_25 : decode cX11_depth 25 = .ok (.iconst 1, 1) := by decide +kernel
theorem dX11_depth_26 : decode cX11_depth 26 = .ok (.if_icmp .le 7, 3) := by decide +kernel
theorem dX11_depth_29 : decode cX11_depth 29 = .ok (.iconst 1, 1) := by decide +kernel
theorem dX11_depth_30 : decode cX11_depth 30 = .ok (.goto 4, 3) := by decide +kernel
theorem dX11_depth_33 : decode cX11_depth 33 = .ok (.iconst 0, 1) := by decide +kernel
theorem dX11_depth_34 : decode cX11_depth 34 = .ok (.ireturn, 1) := by decide +kernel
theorem dX11_consume_0 : decode cX11_consume 0 = .ok (.aload_n 0, 1) := by decide +kernel
theorem dX11_consume_1 : decode cX11_consume 1 = .ok (.getfield 7, 3) := by decide +kernel
theorem dX11_consume_4 : decode cX11_consume 4 = .ok (.iconst 2, 1) := by decide +kernel
theorem dX11_consume_5 : decode cX11_consume 5 = .ok (.bipush 6, 2) := by decide +kernel
theorem dX11_consume_7 : decode cX11_consume 7 = .ok (.iload_n 1, 1) := by decide +kernel
theorem dX11_consume_8 : decode cX11_consume 8 = .ok (.bipush 16, 2) := by decide +kernel
theorem dX11_consume_10 : decode cX11_consume 10 = .ok (.idiv, 1) := by decide +kernel
theorem dX11_consume_11 : decode cX11_consume 11 = .ok (.imul, 1) := by decide +kernel
theorem dX11_consume_12 : decode cX11_consume 12 = .ok (.iadd, 1) := by decide +kernel
theorem dX11_consume_13 : decode cX11_consume 13 = .ok (.iload_n 2, 1) := by decide +kernel
theorem dX11_consume_14 : decode cX11_consume 14 = .ok (.iadd, 1) := by decide +kernel
theorem dX11_consume_15 : decode cX11_consume 15 = .ok (.iaload, 1) := by decide +kernel
theorem dX11_consume_16 : decode cX11_consume 16 = .ok (.istore_n 3, 1) := by decide +kernel
theorem dX11_consume_17 : decode cX11_consume 17 = .ok (.iload_n 1, 1) := by decide +kernel
theorem dX11_consume_18 : decode cX11_consume 18 = .ok (.bipush 16, 2) := by decide +kernel
theorem dX11_consume_20 : decode cX11_consume 20 = .ok (.irem, 1) := by decide +kernel
theorem dX11_consume_21 : decode cX11_consume 21 = .ok (.istore 4, 2) := by decide +kernel
theorem dX11_consume_23 : decode cX11_consume 23 = .ok (.iload_n 3, 1) := by decide +kernel
theorem dX11_consume_24 : decode cX11_consume 24 = .ok (.bipush 10, 2) := by decide +kernel
theorem dX11_consume_26 : decode cX11_consume 26 = .ok (.irem, 1) := by decide +kernel
theorem dX11_consume_27 : decode cX11_consume 27 = .ok (.istore 5, 2) := by decide +kernel
theorem dX11_consume_29 : decode cX11_consume 29 = .ok (.bipush 16, 2) := by decide +kernel
theorem dX11_consume_31 : decode cX11_consume 31 = .ok (.iload_n 3, 1) := by decide +kernel
theorem dX11_consume_32 : decode cX11_consume 32 = .ok (.bipush 10, 2) := by decide +kernel
theorem dX11_consume_34 : decode cX11_consume 34 = .ok (.idiv, 1) := by decide +kernel
theorem dX11_consume_35 : decode cX11_consume 35 = .ok (.bipush 10, 2) := by decide +kernel
theorem dX11_consume_37 : decode cX11_consume 37 = .ok (.irem, 1) := by decide +kernel
theorem dX11_consume_38 : decode cX11_consume 38 = .ok (.imul, 1) := by decide +kernel
theorem dX11_consume_39 : decode cX11_consume 39 = .ok (.istore 6, 2) := by decide +kernel
theorem dX11_consume_41 : decode cX11_consume 41 = .ok (.iload_n 3, 1) := by decide +kernel
theorem dX11_consume_42 : decode cX11_consume 42 = .ok (.bipush 100, 2) := by decide +kernel
theorem dX11_consume_44 : decode cX11_consume 44 = .ok (.idiv, 1) := by decide +kernel
theorem dX11_consume_45 : decode cX11_consume 45 = .ok (.tableswitch 84 1 3 #[27, 33, 56], 27) := by decide +kernel
theorem dX11_consume_72 : decode cX11_consume 72 = .ok (.iload 6, 2) := by decide +kernel
theorem dX11_consume_74 : decode cX11_consume 74 = .ok (.iload 4, 2) := by decide +kernel
theorem dX11_consume_76 : decode cX11_consume 76 = .ok (.iadd, 1) := by decide +kernel
theorem dX11_consume_77 : decode cX11_consume 77 = .ok (.ireturn, 1) := by decide +kernel
theorem dX11_consume_78 : decode cX11_consume 78 = .ok (.iload 4, 2) := by decide +kernel
theorem dX11_consume_80 : decode cX11_consume 80 = .ok (.bipush 7, 2) := by decide +kernel
theorem dX11_consume_82 : decode cX11_consume 82 = .ok (.if_icmp .le 8, 3) := by decide +kernel
theorem dX11_consume_85 : decode cX11_consume 85 = .ok (.bipush (-9), 2) := by decide +kernel
theorem dX11_consume_87 : decode cX11_consume 87 = .ok (.goto 13, 3) := by decide +kernel
theorem dX11_consume_90 : decode cX11_consume 90 = .ok (.iload 6, 2) := by decide +kernel
theorem dX11_consume_92 : decode cX11_consume 92 = .ok (.iconst 2, 1) := by decide +kernel
theorem dX11_consume_93 : decode cX11_consume 93 = .ok (.iload 4, 2) := by decide +kernel
theorem dX11_consume_95 : decode cX11_consume 95 = .ok (.imul, 1) := by decide +kernel
theorem dX11_consume_96 : decode cX11_consume 96 = .ok (.iadd, 1) := by decide +kernel
theorem dX11_consume_97 : decode cX11_consume 97 = .ok (.iload 5, 2) := by decide +kernel
theorem dX11_consume_99 : decode cX11_consume 99 = .ok (.iadd, 1) := by decide +kernel
theorem dX11_consume_100 : decode cX11_consume 100 = .ok (.ireturn, 1) := by decide +kernel
theorem dX11_consume_101 : decode cX11_consume 101 = .ok (.iload 4, 2) := by decide +kernel
theorem dX11_consume_103 : decode cX11_consume 103 = .ok (.iconst 1, 1) := by decide +kernel
theorem dX11_consume_104 : decode cX11_consume 104 = .ok (.if_icmp .le 22, 3) := by decide +kernel
theorem dX11_consume_107 : decode cX11_consume 107 = .ok (.iload 4, 2) := by decide +kernel
theorem dX11_consume_109 : decode cX11_consume 109 = .ok (.iconst 2, 1) := by decide +kernel
theorem dX11_consume_110 : decode cX11_consume 110 = .ok (.irem, 1) := by decide +kernel
theorem dX11_consume_111 : decode cX11_consume 111 = .ok (.iload 5, 2) := by decide +kernel
theorem dX11_consume_113 : decode cX11_consume 113 = .ok (.if_icmp .ne 13, 3) := by decide +kernel
theorem dX11_consume_116 : decode cX11_consume 116 = .ok (.iload 6, 2) := by decide +kernel
theorem dX11_consume_118 : decode cX11_consume 118 = .ok (.iload 4, 2) := by decide +kernel
theorem dX11_consume_120 : decode cX11_consume 120 = .ok (.iconst 2, 1) := by decide +kernel
theorem dX11_consume_121 : decode cX11_consume 121 = .ok (.idiv, 1) := by decide +kernel
theorem dX11_consume_122 : decode cX11_consume 122 = .ok (.iadd, 1) := by decide +kernel
theorem dX11_consume_123 : decode cX11_consume 123 = .ok (.goto 5, 3) := by decide +kernel
theorem dX11_consume_126 : decode cX11_consume 126 = .ok (.bipush (-9), 2) := by decide +kernel
theorem dX11_consume_128 : decode cX11_consume 128 = .ok (.ireturn, 1) := by decide +kernel
theorem dX11_consume_129 : decode cX11_consume 129 = .ok (.bipush (-9), 2) := by decide +kernel
theorem dX11_consume_131 : decode cX11_consume 131 = .ok (.ireturn, 1) := by decide +kernel
theorem dX11_isFinal_0 : decode cX11_isFinal 0 = .ok (.iload_n 1, 1) := by decide +kernel
theorem dX11_isFinal_1 : decode cX11_isFinal 1 = .ok (.bipush 16, 2) := by decide +kernel
theorem dX11_isFinal_3 : decode cX11_isFinal 3 = .ok (.irem, 1) := by decide +kernel
theorem dX11_isFinal_4 : decode cX11_isFinal 4 = .ok (.iconst 1, 1) := by decide +kernel
theorem dX11_isFinal_5 : decode cX11_isFinal 5 = .ok (.if_icmp .ne 24, 3) := by decide +kernel
theorem dX11_isFinal_8 : decode cX11_isFinal 8 = .ok (.aload_n 0, 1) := by decide +kernel
theorem dX11_isFinal_9 : decode cX11_isFinal 9 = .ok (.getfield 7, 3) := by decide +kernel
theorem dX11_isFinal_12 : decode cX11_isFinal 12 = .ok (.iconst 1, 1) := by decide +kernel
theorem dX11_isFinal_13 : decode cX11_isFinal 13 = .ok (.iaload, 1) := by decide +kernel
theorem dX11_isFinal_14 : decode cX11_isFinal 14 = .ok (.iload_n 1, 1) := by decide +kernel
theorem dX11_isFinal_15 : decode cX11_isFinal 15 = .ok (.bipush 16, 2) := by decide +kernel
theorem dX11_isFinal_17 : decode cX11_isFinal 17 = .ok (.idiv, 1) := by decide +kernel
theorem dX11_isFinal_18 : decode cX11_isFinal 18 = .ok (.ishr, 1) := by decide +kernel
theorem dX11_isFinal_19 : decode cX11_isFinal 19 = .ok (.iconst 1, 1) := by decide +kernel
theorem dX11_isFinal_20 : decode cX11_isFinal 20 = .ok (.iand, 1) := by decide +kernel
theorem dX11_isFinal_21 : decode cX11_isFinal 21 = .ok (.iconst 1, 1) := by decide +kernel
theorem dX11_isFinal_22 : decode cX11_isFinal 22 = .ok (.if_icmp .ne 7, 3) := by decide +kernel
theorem dX11_isFinal_25 : decode cX11_isFinal 25 = .ok (.iconst 1, 1) := by decide +kernel
theorem dX11_isFinal_26 : decode cX11_isFinal 26 = .ok (.goto 4, 3) := by decide +kernel
theorem dX11_isFinal_29 : decode cX11_isFinal 29 = .ok (.iconst 0, 1) := by decide +kernel
theorem dX11_isFinal_30 : decode cX11_isFinal 30 = .ok (.ireturn, 1) := by decide +kernel
theorem dX11_run_0 : decode cX11_run 0 = .ok (.iload_n 1, 1) := by decide +kernel
theorem dX11_run_1 : decode cX11_run 1 = .ok (.istore 4, 2) := by decide +kernel
theorem dX11_run_3 : decode cX11_run 3 = .ok (.aload_n 0, 1) := by decide +kernel
theorem dX11_run_4 : decode cX11_run 4 = .ok (.iload_n 2, 1) := by decide +kernel
theorem dX11_run_5 : decode cX11_run 5 = .ok (.putfield 148, 3) := by decide +kernel
theorem dX11_run_8 : decode cX11_run 8 = .ok (.iload 4, 2) := by decide +kernel
theorem dX11_run_10 : decode cX11_run 10 = .ok (.iload_n 3, 1) := by decide +kernel
theorem dX11_run_11 : decode cX11_run 11 = .ok (.if_icmp .ge 54, 3) := by decide +kernel
theorem dX11_run_14 : decode cX11_run 14 = .ok (.aload_n 0, 1) := by decide +kernel
theorem dX11_run_15 : decode cX11_run 15 = .ok (.aload_n 0, 1) := by decide +kernel
theorem dX11_run_16 : decode cX11_run 16 = .ok (.getfield 148, 3) := by decide +kernel
theorem dX11_run_19 : decode cX11_run 19 = .ok (.aload_n 0, 1) := by decide +kernel
theorem dX11_run_20 : decode cX11_run 20 = .ok (.getfield 7, 3) := by decide +kernel
theorem dX11_run_23 : decode cX11_run 23 = .ok (.bipush 57, 2) := by decide +kernel
theorem dX11_run_25 : decode cX11_run 25 = .ok (.iload 4, 2) := by decide +kernel
theorem dX11_run_27 : decode cX11_run 27 = .ok (.iadd, 1) := by decide +kernel
theorem dX11_run_28 : decode cX11_run 28 = .ok (.iaload, 1) := by decide +kernel
theorem dX11_run_29 : decode cX11_run 29 = .ok (.invokevirtual 151, 3) := by decide +kernel
theorem dX11_run_32 : decode cX11_run 32 = .ok (.bipush (-9), 2) := by decide +kernel
theorem dX11_run_34 : decode cX11_run 34 = .ok (.if_icmp .eq 31, 3) := by decide +kernel
theorem dX11_run_37 : decode cX11_run 37 = .ok (.aload_n 0, 1) := by decide +kernel
theorem dX11_run_38 : decode cX11_run 38 = .ok (.aload_n 0, 1) := by decide +kernel
theorem dX11_run_39 : decode cX11_run 39 = .ok (.aload_n 0, 1) := by decide +kernel
theorem dX11_run_40 : decode cX11_run 40 = .ok (.getfield 148, 3) := by decide +kernel
theorem dX11_run_43 : decode cX11_run 43 = .ok (.aload_n 0, 1) := by decide +kernel
theorem dX11_run_44 : decode cX11_run 44 = .ok (.getfield 7, 3) := by decide +kernel
theorem dX11_run_47 : decode cX11_run 47 = .ok (.bipush 57, 2) := by decide +kernel
theorem dX11_run_49 : decode cX11_run 49 = .ok (.iload 4, 2) := by decide +kernel
theorem dX11_run_51 : decode cX11_run 51 = .ok (.iadd, 1) := by decide +kernel
theorem dX11_run_52 : decode cX11_run 52 = .ok (.iaload, 1) := by decide +kernel
theorem dX11_run_53 : decode cX11_run 53 = .ok (.invokevirtual 151, 3) := by decide +kernel
theorem dX11_run_56 : decode cX11_run 56 = .ok (.putfield 148, 3) := by decide +kernel
theorem dX11_run_59 : decode cX11_run 59 = .ok (.iinc 4 1, 3) := by decide +kernel
theorem dX11_run_62 : decode cX11_run 62 = .ok (.goto (-54), 3) := by decide +kernel
theorem dX11_run_65 : decode cX11_run 65 = .ok (.iload 4, 2) := by decide +kernel
theorem dX11_run_67 : decode cX11_run 67 = .ok (.ireturn, 1) := by decide +kernel
theorem dX11_findError_0 : decode cX11_findError 0 = .ok (.aload_n 0, 1) := by decide +kernel
theorem dX11_findError_1 : decode cX11_findError 1 = .ok (.iload_n 1, 1) := by decide +kernel
theorem dX11_findError_2 : decode cX11_findError 2 = .ok (.iload_n 2, 1) := by decide +kernel
theorem dX11_findError_3 : decode cX11_findError 3 = .ok (.aload_n 0, 1) := by decide +kernel
theorem dX11_findError_4 : decode cX11_findError 4 = .ok (.getfield 7, 3) := by decide +kernel
theorem dX11_findError_7 : decode cX11_findError 7 = .ok (.bipush 56, 2) := by decide +kernel
theorem dX11_findError_9 : decode cX11_findError 9 = .ok (.iaload, 1) := by decide +kernel
theorem dX11_findError_10 : decode cX11_findError 10 = .ok (.invokevirtual 154, 3) := by decide +kernel
theorem dX11_findError_13 : decode cX11_findError 13 = .ok (.istore_n 3, 1) := by decide +kernel
theorem dX11_findError_14 : decode cX11_findError 14 = .ok (.iload_n 3, 1) := by decide +kernel
theorem dX11_findError_15 : decode cX11_findError 15 = .ok (.aload_n 0, 1) := by decide +kernel
theorem dX11_findError_16 : decode cX11_findError 16 = .ok (.getfield 7, 3) := by decide +kernel
theorem dX11_findError_19 : decode cX11_findError 19 = .ok (.bipush 56, 2) := by decide +kernel
theorem dX11_findError_21 : decode cX11_findError 21 = .ok (.iaload, 1) := by decide +kernel
theorem dX11_findError_22 : decode cX11_findError 22 = .ok (.if_icmp .ne 19, 3) := by decide +kernel
theorem dX11_findError_25 : decode cX11_findError 25 = .ok (.aload_n 0, 1) := by decide +kernel
theorem dX11_findError_26 : decode cX11_findError 26 = .ok (.aload_n 0, 1) := by decide +kernel
theorem dX11_findError_27 : decode cX11_findError 27 = .ok (.getfield 148, 3) := by decide +kernel
theorem dX11_findError_30 : decode cX11_findError 30 = .ok (.invokevirtual 157, 3) := by decide +kernel
theorem dX11_findError_33 : decode cX11_findError 33 = .ok (.ifCond .eq 8, 3) := by decide +kernel
theorem dX11_findError_36 : decode cX11_findError 36 = .ok (.bipush (-9), 2) := by decide +kernel
theorem dX11_findError_38 : decode cX11_findError 38 = .ok (.goto 4, 3) := by decide +kernel
theorem dX11_findError_41 : decode cX11_findError 41 = .ok (.iload_n 3, 1) := by decide +kernel
theorem dX11_findError_42 : decode cX11_findError 42 = .ok (.ireturn, 1) := by decide +kernel
theorem dX11_errorPosition_0 : decode cX11_errorPosition 0 = .ok (.aload_n 0, 1) := by decide +kernel
theorem dX11_errorPosition_1 : decode cX11_errorPosition 1 = .ok (.iconst 0, 1) := by decide +kernel
theorem dX11_errorPosition_2 : decode cX11_errorPosition 2 = .ok (.iconst 1, 1) := by decide +kernel
theorem dX11_errorPosition_3 : decode cX11_errorPosition 3 = .ok (.invokevirtual 160, 3) := by decide +kernel
theorem dX11_errorPosition_6 : decode cX11_errorPosition 6 = .ok (.ireturn, 1) := by decide +kernel
theorem dX11_runTokens_0 : decode cX11_runTokens 0 = .ok (.iload_n 1, 1) := by decide +kernel
theorem dX11_runTokens_1 : decode cX11_runTokens 1 = .ok (.iconst 0, 1) := by decide +kernel
theorem dX11_runTokens_2 : decode cX11_runTokens 2 = .ok (.aload_n 0, 1) := by decide +kernel
theorem dX11_runTokens_3 : decode cX11_runTokens 3 = .ok (.getfield 7, 3) := by decide +kernel
theorem dX11_runTokens_6 : decode cX11_runTokens 6 = .ok (.bipush 56, 2) := by decide +kernel
theorem dX11_runTokens_8 : decode cX11_runTokens 8 = .ok (.iaload, 1) := by decide +kernel
theorem dX11_runTokens_9 : decode cX11_runTokens 9 = .ok (.invokestatic 58, 3) := by decide +kernel
theorem dX11_runTokens_12 : decode cX11_runTokens 12 = .ok (.ifCond .ne 5, 3) := by decide +kernel
theorem dX11_runTokens_15 : decode cX11_runTokens 15 = .ok (.iconst (-1), 1) := by decide +kernel
theorem dX11_runTokens_16 : decode cX11_runTokens 16 = .ok (.ireturn, 1) := by decide +kernel
theorem dX11_runTokens_17 : decode cX11_runTokens 17 = .ok (.aload_n 0, 1) := by decide +kernel
theorem dX11_runTokens_18 : decode cX11_runTokens 18 = .ok (.iconst 0, 1) := by decide +kernel
theorem dX11_runTokens_19 : decode cX11_runTokens 19 = .ok (.iconst 1, 1) := by decide +kernel
theorem dX11_runTokens_20 : decode cX11_runTokens 20 = .ok (.iload_n 1, 1) := by decide +kernel
theorem dX11_runTokens_21 : decode cX11_runTokens 21 = .ok (.invokevirtual 154, 3) := by decide +kernel
theorem dX11_runTokens_24 : decode cX11_runTokens 24 = .ok (.iload_n 1, 1) := by decide +kernel
theorem dX11_runTokens_25 : decode cX11_runTokens 25 = .ok (.if_icmp .ge 8, 3) := by decide +kernel
theorem dX11_runTokens_28 : decode cX11_runTokens 28 = .ok (.bipush (-2), 2) := by decide +kernel
theorem dX11_runTokens_30 : decode cX11_runTokens 30 = .ok (.goto 4, 3) := by decide +kernel
theorem dX11_runTokens_33 : decode cX11_runTokens 33 = .ok (.iconst 0, 1) := by decide +kernel
theorem dX11_runTokens_34 : decode cX11_runTokens 34 = .ok (.ireturn, 1) := by decide +kernel
theorem dX11_stateAfter_0 : decode cX11_stateAfter 0 = .ok (.aload_n 0, 1) := by decide +kernel
theorem dX11_stateAfter_1 : decode cX11_stateAfter 1 = .ok (.iload_n 1, 1) := by decide +kernel
theorem dX11_stateAfter_2 : decode cX11_stateAfter 2 = .ok (.invokevirtual 163, 3) := by decide +kernel
theorem dX11_stateAfter_5 : decode cX11_stateAfter 5 = .ok (.istore_n 2, 1) := by decide +kernel
theorem dX11_stateAfter_6 : decode cX11_stateAfter 6 = .ok (.iload_n 2, 1) := by decide +kernel
theorem dX11_stateAfter_7 : decode cX11_stateAfter 7 = .ok (.ifCond .ge 7, 3) := by decide +kernel
theorem dX11_stateAfter_10 : decode cX11_stateAfter 10 = .ok (.iload_n 2, 1) := by decide +kernel
theorem dX11_stateAfter_11 : decode cX11_stateAfter 11 = .ok (.goto 10, 3) := by decide +kernel
theorem dX11_stateAfter_14 : decode cX11_stateAfter 14 = .ok (.aload_n 0, 1) := by decide +kernel
theorem dX11_stateAfter_15 : decode cX11_stateAfter 15 = .ok (.getfield 148, 3) := by decide +kernel
theorem dX11_stateAfter_18 : decode cX11_stateAfter 18 = .ok (.bipush 16, 2) := by decide +kernel
theorem dX11_stateAfter_20 : decode cX11_stateAfter 20 = .ok (.idiv, 1) := by decide +kernel
theorem dX11_stateAfter_21 : decode cX11_stateAfter 21 = .ok (.ireturn, 1) := by decide +kernel
theorem dX11_depthAfter_0 : decode cX11_depthAfter 0 = .ok (.aload_n 0, 1) := by decide +kernel
theorem dX11_depthAfter_1 : decode cX11_depthAfter 1 = .ok (.iload_n 1, 1) := by decide +kernel
theorem dX11_depthAfter_2 : decode cX11_depthAfter 2 = .ok (.invokevirtual 163, 3) := by decide +kernel
theorem dX11_depthAfter_5 : decode cX11_depthAfter 5 = .ok (.istore_n 2, 1) := by decide +kernel
theorem dX11_depthAfter_6 : decode cX11_depthAfter 6 = .ok (.iload_n 2, 1) := by decide +kernel
theorem dX11_depthAfter_7 : decode cX11_depthAfter 7 = .ok (.ifCond .ge 7, 3) := by decide +kernel
theorem dX11_depthAfter_10 : decode cX11_depthAfter 10 = .ok (.iload_n 2, 1) := by decide +kernel
theorem dX11_depthAfter_11 : decode cX11_depthAfter 11 = .ok (.goto 10, 3) := by decide +kernel
theorem dX11_depthAfter_14 : decode cX11_depthAfter 14 = .ok (.aload_n 0, 1) := by decide +kernel
theorem dX11_depthAfter_15 : decode cX11_depthAfter 15 = .ok (.getfield 148, 3) := by decide +kernel
theorem dX11_depthAfter_18 : decode cX11_depthAfter 18 = .ok (.invokestatic 167, 3) := by decide +kernel
theorem dX11_depthAfter_21 : decode cX11_depthAfter 21 = .ok (.ireturn, 1) := by decide +kernel
theorem dX11_expectedKinds_0 : decode cX11_expectedKinds 0 = .ok (.aload_n 0, 1) := by decide +kernel
theorem dX11_expectedKinds_1 : decode cX11_expectedKinds 1 = .ok (.iconst 0, 1) := by decide +kernel
theorem dX11_expectedKinds_2 : decode cX11_expectedKinds 2 = .ok (.iconst 1, 1) := by decide +kernel
theorem dX11_expectedKinds_3 : decode cX11_expectedKinds 3 = .ok (.invokevirtual 160, 3) := by decide +kernel
theorem dX11_expectedKinds_6 : decode cX11_expectedKinds 6 = .ok (.bipush (-9), 2) := by decide +kernel
theorem dX11_expectedKinds_8 : decode cX11_expectedKinds 8 = .ok (.if_icmp .ne 6, 3) := by decide +kernel
theorem dX11_expectedKinds_11 : decode cX11_expectedKinds 11 = .ok (.bipush (-2), 2) := by decide +kernel
theorem dX11_expectedKinds_13 : decode cX11_expectedKinds 13 = .ok (.ireturn, 1) := by decide +kernel
theorem dX11_expectedKinds_14 : decode cX11_expectedKinds 14 = .ok (.iconst 0, 1) := by decide +kernel
theorem dX11_expectedKinds_15 : decode cX11_expectedKinds 15 = .ok (.istore_n 1, 1) := by decide +kernel
theorem dX11_expectedKinds_16 : decode cX11_expectedKinds 16 = .ok (.iconst 0, 1) := by decide +kernel
theorem dX11_expectedKinds_17 : decode cX11_expectedKinds 17 = .ok (.istore_n 2, 1) := by decide +kernel
theorem dX11_expectedKinds_18 : decode cX11_expectedKinds 18 = .ok (.iload_n 2, 1) := by decide +kernel
theorem dX11_expectedKinds_19 : decode cX11_expectedKinds 19 = .ok (.bipush 6, 2) := by decide +kernel
theorem dX11_expectedKinds_21 : decode cX11_expectedKinds 21 = .ok (.if_icmp .ge 33, 3) := by decide +kernel
theorem dX11_expectedKinds_24 : decode cX11_expectedKinds 24 = .ok (.iload_n 1, 1) := by decide +kernel
theorem dX11_expectedKinds_25 : decode cX11_expectedKinds 25 = .ok (.aload_n 0, 1) := by decide +kernel
theorem dX11_expectedKinds_26 : decode cX11_expectedKinds 26 = .ok (.aload_n 0, 1) := by decide +kernel
theorem dX11_expectedKinds_27 : decode cX11_expectedKinds 27 = .ok (.getfield 148, 3) := by decide +kernel
theorem dX11_expectedKinds_30 : decode cX11_expectedKinds 30 = .ok (.iload_n 2, 1) := by decide +kernel
theorem dX11_expectedKinds_31 : decode cX11_expectedKinds 31 = .ok (.invokevirtual 151, 3) := by decide +kernel
theorem dX11_expectedKinds_34 : decode cX11_expectedKinds 34 = .ok (.bipush (-9), 2) := by decide +kernel
theorem dX11_expectedKinds_36 : decode cX11_expectedKinds 36 = .ok (.if_icmp .ne 7, 3) := by decide +kernel
theorem dX11_expectedKinds_39 : decode cX11_expectedKinds 39 = .ok (.iconst 0, 1) := by decide +kernel
theorem dX11_expectedKinds_40 : decode cX11_expectedKinds 40 = .ok (.goto 6, 3) := by decide +kernel
theorem dX11_expectedKinds_43 : decode cX11_expectedKinds 43 = .ok (.iconst 1, 1) := by decide +kernel
theorem dX11_expectedKinds_44 : decode cX11_expectedKinds 44 = .ok (.iload_n 2, 1) := by decide +kernel
theorem dX11_expectedKinds_45 : decode cX11_expectedKinds 45 = .ok (.ishl, 1) := by decide +kernel
theorem dX11_expectedKinds_46 : decode cX11_expectedKinds 46 = .ok (.ior, 1) := by decide +kernel
theorem dX11_expectedKinds_47 : decode cX11_expectedKinds 47 = .ok (.istore_n 1, 1) := by decide +kernel
theorem dX11_expectedKinds_48 : decode cX11_expectedKinds 48 = .ok (.iinc 2 1, 3) := by decide +kernel
theorem dX11_expectedKinds_51 : decode cX11_expectedKinds 51 = .ok (.goto (-33), 3) := by decide +kernel
theorem dX11_expectedKinds_54 : decode cX11_expectedKinds 54 = .ok (.iload_n 1, 1) := by decide +kernel
theorem dX11_expectedKinds_55 : decode cX11_expectedKinds 55 = .ok (.ireturn, 1) := by decide +kernel
theorem dX11_offer_0 : decode cX11_offer 0 = .ok (.iload_n 1, 1) := by decide +kernel
theorem dX11_offer_1 : decode cX11_offer 1 = .ok (.aload_n 0, 1) := by decide +kernel
theorem dX11_offer_2 : decode cX11_offer 2 = .ok (.getfield 170, 3) := by decide +kernel
theorem dX11_offer_5 : decode cX11_offer 5 = .ok (.if_icmp .ge 19, 3) := by decide +kernel
theorem dX11_offer_8 : decode cX11_offer 8 = .ok (.aload_n 0, 1) := by decide +kernel
theorem dX11_offer_9 : decode cX11_offer 9 = .ok (.aload_n 0, 1) := by decide +kernel
theorem dX11_offer_10 : decode cX11_offer 10 = .ok (.getfield 170, 3) := by decide +kernel
theorem dX11_offer_13 : decode cX11_offer 13 = .ok (.putfield 173, 3) := by decide +kernel
theorem dX11_offer_16 : decode cX11_offer 16 = .ok (.aload_n 0, 1) := by decide +kernel
theorem dX11_offer_17 : decode cX11_offer 17 = .ok (.iload_n 1, 1) := by decide +kernel
theorem dX11_offer_18 : decode cX11_offer 18 = .ok (.putfield 170, 3) := by decide +kernel
theorem dX11_offer_21 : decode cX11_offer 21 = .ok (.goto 24, 3) := by decide +kernel
theorem dX11_offer_24 : decode cX11_offer 24 = .ok (.iload_n 1, 1) := by decide +kernel
theorem dX11_offer_25 : decode cX11_offer 25 = .ok (.aload_n 0, 1) := by decide +kernel
theorem dX11_offer_26 : decode cX11_offer 26 = .ok (.getfield 170, 3) := by decide +kernel
theorem dX11_offer_29 : decode cX11_offer 29 = .ok (.if_icmp .le 16, 3) := by decide +kernel
theorem dX11_offer_32 : decode cX11_offer 32 = .ok (.iload_n 1, 1) := by decide +kernel
theorem dX11_offer_33 : decode cX11_offer 33 = .ok (.aload_n 0, 1) := by decide +kernel
theorem dX11_offer_34 : decode cX11_offer 34 = .ok (.getfield 173, 3) := by decide +kernel
theorem dX11_offer_37 : decode cX11_offer 37 = .ok (.if_icmp .ge 8, 3) := by decide +kernel
theorem dX11_offer_40 : decode cX11_offer 40 = .ok (.aload_n 0, 1) := by decide +kernel
theorem dX11_offer_41 : decode cX11_offer 41 = .ok (.iload_n 1, 1) := by decide +kernel
theorem dX11_offer_42 : decode cX11_offer 42 = .ok (.putfield 173, 3) := by decide +kernel
theorem dX11_offer_45 : decode cX11_offer 45 = .ok (.return_, 1) := by decide +kernel
theorem dX11_offerNode_0 : decode cX11_offerNode 0 = .ok (.aload_n 0, 1) := by decide +kernel
theorem dX11_offerNode_1 : decode cX11_offerNode 1 = .ok (.aload_n 0, 1) := by decide +kernel
theorem dX11_offerNode_2 : decode cX11_offerNode 2 = .ok (.getfield 22, 3) := by decide +kernel
theorem dX11_offerNode_5 : decode cX11_offerNode 5 = .ok (.iload_n 1, 1) := by decide +kernel
theorem dX11_offerNode_6 : decode cX11_offerNode 6 = .ok (.iaload, 1) := by decide +kernel
theorem dX11_offerNode_7 : decode cX11_offerNode 7 = .ok (.iload_n 2, 1) := by decide +kernel
theorem dX11_offerNode_8 : decode cX11_offerNode 8 = .ok (.iadd, 1) := by decide +kernel
theorem dX11_offerNode_9 : decode cX11_offerNode 9 = .ok (.invokevirtual 176, 3) := by decide +kernel
theorem dX11_offerNode_12 : decode cX11_offerNode 12 = .ok (.aload_n 0, 1) := by decide +kernel
theorem dX11_offerNode_13 : decode cX11_offerNode 13 = .ok (.aload_n 0, 1) := by decide +kernel
theorem dX11_offerNode_14 : decode cX11_offerNode 14 = .ok (.getfield 25, 3) := by decide +kernel
theorem dX11_offerNode_17 : decode cX11_offerNode 17 = .ok (.iload_n 1, 1) := by decide +kernel
theorem dX11_offerNode_18 : decode cX11_offerNode 18 = .ok (.iaload, 1) := by decide +kernel
theorem dX11_offerNode_19 : decode cX11_offerNode 19 = .ok (.iload_n 2, 1) := by decide +kernel
theorem dX11_offerNode_20 : decode cX11_offerNode 20 = .ok (.iadd, 1) := by decide +kernel
theorem dX11_offerNode_21 : decode cX11_offerNode 21 = .ok (.invokevirtual 176, 3) := by decide +kernel
theorem dX11_offerNode_24 : decode cX11_offerNode 24 = .ok (.return_, 1) := by decide +kernel
theorem dX11_edge_0 : decode cX11_edge 0 = .ok (.iload_n 1, 1) := by decide +kernel
theorem dX11_edge_1 : decode cX11_edge 1 = .ok (.bipush 96, 2) := by decide +kernel
theorem dX11_edge_3 : decode cX11_edge 3 = .ok (.idiv, 1) := by decide +kernel
theorem dX11_edge_4 : decode cX11_edge 4 = .ok (.istore 4, 2) := by decide +kernel
theorem dX11_edge_6 : decode cX11_edge 6 = .ok (.iload_n 1, 1) := by decide +kernel
theorem dX11_edge_7 : decode cX11_edge 7 = .ok (.bipush 96, 2) := by decide +kernel
theorem dX11_edge_9 : decode cX11_edge 9 = .ok (.irem, 1) := by decide +kernel
theorem dX11_edge_10 : decode cX11_edge 10 = .ok (.istore 5, 2) := by decide +kernel
theorem dX11_edge_12 : decode cX11_edge 12 = .ok (.iload_n 2, 1) := by decide +kernel
theorem dX11_edge_13 : decode cX11_edge 13 = .ok (.iconst 3, 1) := by decide +kernel
theorem dX11_edge_14 : decode cX11_edge 14 = .ok (.if_icmp .eq 7, 3) := by decide +kernel
theorem dX11_edge_17 : decode cX11_edge 17 = .ok (.iconst 1, 1) := by decide +kernel
theorem dX11_edge_18 : decode cX11_edge 18 = .ok (.goto 4, 3) := by decide +kernel
theorem dX11_edge_21 : decode cX11_edge 21 = .ok (.iconst 0, 1) := by decide +kernel
theorem dX11_edge_22 : decode cX11_edge 22 = .ok (.istore 6, 2) := by decide +kernel
theorem dX11_edge_24 : decode cX11_edge 24 = .ok (.iload 6, 2) := by decide +kernel
theorem dX11_edge_26 : decode cX11_edge 26 = .ok (.ifCond .eq 18, 3) := by decide +kernel
theorem dX11_edge_29 : decode cX11_edge 29 = .ok (.iload 4, 2) := by decide +kernel
theorem dX11_edge_31 : decode cX11_edge 31 = .ok (.aload_n 0, 1) := by decide +kernel
theorem dX11_edge_32 : decode cX11_edge 32 = .ok (.getfield 7, 3) := by decide +kernel
theorem dX11_edge_35 : decode cX11_edge 35 = .ok (.bipush 56, 2) := by decide +kernel
theorem dX11_edge_37 : decode cX11_edge 37 = .ok (.iaload, 1) := by decide +kernel
theorem dX11_edge_38 : decode cX11_edge 38 = .ok (.if_icmp .ne 6, 3) := by decide +kernel
theorem dX11_edge_41 : decode cX11_edge 41 = .ok (.bipush (-9), 2) := by decide +kernel
theorem dX11_edge_43 : decode cX11_edge 43 = .ok (.ireturn, 1) := by decide +kernel
theorem dX11_edge_44 : decode cX11_edge 44 = .ok (.iload 6, 2) := by decide +kernel
theorem dX11_edge_46 : decode cX11_edge 46 = .ok (.ifCond .eq 16, 3) := by decide +kernel
theorem dX11_edge_49 : decode cX11_edge 49 = .ok (.aload_n 0, 1) := by decide +kernel
theorem dX11_edge_50 : decode cX11_edge 50 = .ok (.getfield 7, 3) := by decide +kernel
theorem dX11_edge_53 : decode cX11_edge 53 = .ok (.bipush 57, 2) := by decide +kernel
theorem dX11_edge_55 : decode cX11_edge 55 = .ok (.iload 4, 2) := by decide +kernel
theorem dX11_edge_57 : decode cX11_edge 57 = .ok (.iadd, 1) := by decide +kernel
theorem dX11_edge_58 : decode cX11_edge 58 = .ok (.iaload, 1) := by decide +kernel
theorem dX11_edge_59 : decode cX11_edge 59 = .ok (.goto 5, 3) := by decide +kernel
theorem dX11_edge_62 : decode cX11_edge 62 = .ok (.bipush (-9), 2) := by decide +kernel
theorem dX11_edge_64 : decode cX11_edge 64 = .ok (.istore 7, 2) := by decide +kernel
theorem dX11_edge_66 : decode cX11_edge 66 = .ok (.iload_n 2, 1) := by decide +kernel
theorem dX11_edge_67 : decode cX11_edge 67 = .ok (.iconst 2, 1) := by decide +kernel
theorem dX11_edge_68 : decode cX11_edge 68 = .ok (.if_icmp .ne 33, 3) := by decide +kernel
theorem dX11_edge_71 : decode cX11_edge 71 = .ok (.aload_n 0, 1) := by decide +kernel
theorem dX11_edge_72 : decode cX11_edge 72 = .ok (.aload_n 0, 1) := by decide +kernel
theorem dX11_edge_73 : decode cX11_edge 73 = .ok (.getfield 7, 3) := by decide +kernel
theorem dX11_edge_76 : decode cX11_edge 76 = .ok (.bipush 44, 2) := by decide +kernel
theorem dX11_edge_78 : decode cX11_edge 78 = .ok (.iload 7, 2) := by decide +kernel
theorem dX11_edge_80 : decode cX11_edge 80 = .ok (.iadd, 1) := by decide +kernel
theorem dX11_edge_81 : decode cX11_edge 81 = .ok (.iaload, 1) := by decide +kernel
theorem dX11_edge_82 : decode cX11_edge 82 = .ok (.putfield 180, 3) := by decide +kernel
theorem dX11_edge_85 : decode cX11_edge 85 = .ok (.iload_n 3, 1) := by decide +kernel
theorem dX11_edge_86 : decode cX11_edge 86 = .ok (.iload 7, 2) := by decide +kernel
theorem dX11_edge_88 : decode cX11_edge 88 = .ok (.if_icmp .ne 10, 3) := by decide +kernel
theorem dX11_edge_91 : decode cX11_edge 91 = .ok (.iload_n 1, 1) := by decide +kernel
theorem dX11_edge_92 : decode cX11_edge 92 = .ok (.bipush 96, 2) := by decide +kernel
theorem dX11_edge_94 : decode cX11_edge 94 = .ok (.iadd, 1) := by decide +kernel
theorem dX11_edge_95 : decode cX11_edge 95 = .ok (.goto 5, 3) := by decide +kernel
theorem dX11_edge_98 : decode cX11_edge 98 = .ok (.bipush (-9), 2) := by decide +kernel
theorem dX11_edge_100 : decode cX11_edge 100 = .ok (.ireturn, 1) := by decide +kernel
theorem dX11_edge_101 : decode cX11_edge 101 = .ok (.iload_n 2, 1) := by decide +kernel
theorem dX11_edge_102 : decode cX11_edge 102 = .ok (.iconst 3, 1) := by decide +kernel
theorem dX11_edge_103 : decode cX11_edge 103 = .ok (.if_icmp .eq 26, 3) := by decide +kernel
theorem dX11_edge_106 : decode cX11_edge 106 = .ok (.iload_n 2, 1) := by decide +kernel
theorem dX11_edge_107 : decode cX11_edge 107 = .ok (.ifCond .ne 7, 3) := by decide +kernel
theorem dX11_edge_110 : decode cX11_edge 110 = .ok (.iconst 1, 1) := by decide +kernel
theorem dX11_edge_111 : decode cX11_edge 111 = .ok (.goto 4, 3) := by decide +kernel
theorem dX11_edge_114 : decode cX11_edge 114 = .ok (.iconst 0, 1) := by decide +kernel
theorem dX11_edge_115 : decode cX11_edge 115 = .ok (.iload_n 3, 1) := by decide +kernel
theorem dX11_edge_116 : decode cX11_edge 116 = .ok (.iload 7, 2) := by decide +kernel
theorem dX11_edge_118 : decode cX11_edge 118 = .ok (.if_icmp .ne 7, 3) := by decide +kernel
theorem dX11_edge_121 : decode cX11_edge 121 = .ok (.iconst 1, 1) := by decide +kernel
theorem dX11_edge_122 : decode cX11_edge 122 = .ok (.goto 4, 3) := by decide +kernel
theorem dX11_edge_125 : decode cX11_edge 125 = .ok (.iconst 0, 1) := by decide +kernel
theorem dX11_edge_126 : decode cX11_edge 126 = .ok (.if_icmp .ne 7, 3) := by decide +kernel
theorem dX11_edge_129 : decode cX11_edge 129 = .ok (.iconst 1, 1) := by decide +kernel
theorem dX11_edge_130 : decode cX11_edge 130 = .ok (.goto 4, 3) := by decide +kernel
theorem dX11_edge_133 : decode cX11_edge 133 = .ok (.iconst 0, 1) := by decide +kernel
theorem dX11_edge_134 : decode cX11_edge 134 = .ok (.istore 8, 2) := by decide +kernel
theorem dX11_edge_136 : decode cX11_edge 136 = .ok (.iload 8, 2) := by decide +kernel
theorem dX11_edge_138 : decode cX11_edge 138 = .ok (.ifCond .eq 13, 3) := by decide +kernel
theorem dX11_edge_141 : decode cX11_edge 141 = .ok (.aload_n 0, 1) := by decide +kernel
theorem dX11_edge_142 : decode cX11_edge 142 = .ok (.iload 5, 2) := by decide +kernel
theorem dX11_edge_144 : decode cX11_edge 144 = .ok (.iload_n 3, 1) := by decide +kernel
theorem dX11_edge_145 : decode cX11_edge 145 = .ok (.invokevirtual 151, 3) := by decide +kernel
theorem dX11_edge_148 : decode cX11_edge 148 = .ok (.goto 5, 3) := by decide +kernel
theorem dX11_edge_151 : decode cX11_edge 151 = .ok (.bipush (-9), 2) := by decide +kernel
theorem dX11_edge_153 : decode cX11_edge 153 = .ok (.istore 9, 2) := by decide +kernel
theorem dX11_edge_155 : decode cX11_edge 155 = .ok (.iload 9, 2) := by decide +kernel
theorem dX11_edge_157 : decode cX11_edge 157 = .ok (.bipush (-9), 2) := by decide +kernel
theorem dX11_edge_159 : decode cX11_edge 159 = .ok (.if_icmp .ne 6, 3) := by decide +kernel
theorem dX11_edge_162 : decode cX11_edge 162 = .ok (.bipush (-9), 2) := by decide +kernel
theorem dX11_edge_164 : decode cX11_edge 164 = .ok (.ireturn, 1) := by decide +kernel
theorem dX11_edge_165 : decode cX11_edge 165 = .ok (.aload_n 0, 1) := by decide +kernel
theorem dX11_edge_166 : decode cX11_edge 166 = .ok (.iload_n 2, 1) := by decide +kernel
theorem dX11_edge_167 : decode cX11_edge 167 = .ok (.iconst 3, 1) := by decide +kernel
theorem dX11_edge_168 : decode cX11_edge 168 = .ok (.if_icmp .ne 15, 3) := by decide +kernel
theorem dX11_edge_171 : decode cX11_edge 171 = .ok (.aload_n 0, 1) := by decide +kernel
theorem dX11_edge_172 : decode cX11_edge 172 = .ok (.getfield 7, 3) := by decide +kernel
theorem dX11_edge_175 : decode cX11_edge 175 = .ok (.bipush 38, 2) := by decide +kernel
theorem dX11_edge_177 : decode cX11_edge 177 = .ok (.iload_n 3, 1) := by decide +kernel
theorem dX11_edge_178 : decode cX11_edge 178 = .ok (.iadd, 1) := by decide +kernel
theorem dX11_edge_179 : decode cX11_edge 179 = .ok (.iaload, 1) := by decide +kernel
theorem dX11_edge_180 : decode cX11_edge 180 = .ok (.goto 20, 3) := by decide +kernel
theorem dX11_edge_183 : decode cX11_edge 183 = .ok (.iload_n 2, 1) := by decide +kernel
theorem dX11_edge_184 : decode cX11_edge 184 = .ok (.ifCond .ne 7, 3) := by decide +kernel
theorem dX11_edge_187 : decode cX11_edge 187 = .ok (.iconst 0, 1) := by decide +kernel
theorem dX11_edge_188 : decode cX11_edge 188 = .ok (.goto 12, 3) := by decide +kernel
theorem dX11_edge_191 : decode cX11_edge 191 = .ok (.aload_n 0, 1) := by decide +kernel
theorem dX11_edge_192 : decode cX11_edge 192 = .ok (.getfield 7, 3) := by decide +kernel
theorem dX11_edge_195 : decode cX11_edge 195 = .ok (.bipush 50, 2) := by decide +kernel
theorem dX11_edge_197 : decode cX11_edge 197 = .ok (.iload_n 3, 1) := by decide +kernel
theorem dX11_edge_198 : decode cX11_edge 198 = .ok (.iadd, 1) := by decide +kernel
theorem dX11_edge_199 : decode cX11_edge 199 = .ok (.iaload, 1) := by decide +kernel
theorem dX11_edge_200 : decode cX11_edge 200 = .ok (.putfield 180, 3) := by decide +kernel
theorem dX11_edge_203 : decode cX11_edge 203 = .ok (.bipush 96, 2) := by decide +kernel
theorem dX11_edge_205 : decode cX11_edge 205 = .ok (.iload 6, 2) := by decide +kernel
theorem dX11_edge_207 : decode cX11_edge 207 = .ok (.ifCond .eq 10, 3) := by decide +kernel
theorem dX11_edge_210 : decode cX11_edge 210 = .ok (.iload 4, 2) := by decide +kernel
theorem dX11_edge_212 : decode cX11_edge 212 = .ok (.iconst 1, 1) := by decide +kernel
theorem dX11_edge_213 : decode cX11_edge 213 = .ok (.iadd, 1) := by decide +kernel
theorem dX11_edge_214 : decode cX11_edge 214 = .ok (.goto 5, 3) := by decide +kernel
theorem dX11_edge_217 : decode cX11_edge 217 = .ok (.iload 4, 2) := by decide +kernel
theorem dX11_edge_219 : decode cX11_edge 219 = .ok (.imul, 1) := by decide +kernel
theorem dX11_edge_220 : decode cX11_edge 220 = .ok (.iload 9, 2) := by decide +kernel
theorem dX11_edge_222 : decode cX11_edge 222 = .ok (.iadd, 1) := by decide +kernel
theorem dX11_edge_223 : decode cX11_edge 223 = .ok (.ireturn, 1) := by decide +kernel
theorem dX11_improve_0 : decode cX11_improve 0 = .ok (.aload_n 0, 1) := by decide +kernel
theorem dX11_improve_1 : decode cX11_improve 1 = .ok (.ldc 183, 2) := by decide +kernel
theorem dX11_improve_3 : decode cX11_improve 3 = .ok (.putfield 170, 3) := by decide +kernel
theorem dX11_improve_6 : decode cX11_improve 6 = .ok (.aload_n 0, 1) := by decide +kernel
theorem dX11_improve_7 : decode cX11_improve 7 = .ok (.ldc 183, 2) := by decide +kernel
theorem dX11_improve_9 : decode cX11_improve 9 = .ok (.putfield 173, 3) := by decide +kernel
theorem dX11_improve_12 : decode cX11_improve 12 = .ok (.iload_n 1, 1) := by decide +kernel
theorem dX11_improve_13 : decode cX11_improve 13 = .ok (.bipush 96, 2) := by decide +kernel
theorem dX11_improve_15 : decode cX11_improve 15 = .ok (.idiv, 1) := by decide +kernel
theorem dX11_improve_16 : decode cX11_improve 16 = .ok (.aload_n 0, 1) := by decide +kernel
theorem dX11_improve_17 : decode cX11_improve 17 = .ok (.getfield 7, 3) := by decide +kernel
theorem dX11_improve_20 : decode cX11_improve 20 = .ok (.bipush 56, 2) := by decide +kernel
theorem dX11_improve_22 : decode cX11_improve 22 = .ok (.iaload, 1) := by decide +kernel
theorem dX11_improve_23 : decode cX11_improve 23 = .ok (.if_icmp .ne 19, 3) := by decide +kernel
theorem dX11_improve_26 : decode cX11_improve 26 = .ok (.aload_n 0, 1) := by decide +kernel
theorem dX11_improve_27 : decode cX11_improve 27 = .ok (.iload_n 1, 1) := by decide +kernel
theorem dX11_improve_28 : decode cX11_improve 28 = .ok (.bipush 96, 2) := by decide +kernel
theorem dX11_improve_30 : decode cX11_improve 30 = .ok (.irem, 1) := by decide +kernel
theorem dX11_improve_31 : decode cX11_improve 31 = .ok (.invokevirtual 157, 3) := by decide +kernel
theorem dX11_improve_34 : decode cX11_improve 34 = .ok (.ifCond .eq 8, 3) := by decide +kernel
theorem dX11_improve_37 : decode cX11_improve 37 = .ok (.aload_n 0, 1) := by decide +kernel
theorem dX11_improve_38 : decode cX11_improve 38 = .ok (.iconst 0, 1) := by decide +kernel
theorem dX11_improve_39 : decode cX11_improve 39 = .ok (.invokevirtual 176, 3) := by decide +kernel
theorem dX11_improve_42 : decode cX11_improve 42 = .ok (.iconst 0, 1) := by decide +kernel
theorem dX11_improve_43 : decode cX11_improve 43 = .ok (.istore_n 2, 1) := by decide +kernel
theorem dX11_improve_44 : decode cX11_improve 44 = .ok (.iload_n 2, 1) := by decide +kernel
theorem dX11_improve_45 : decode cX11_improve 45 = .ok (.iconst 3, 1) := by decide +kernel
theorem dX11_improve_46 : decode cX11_improve 46 = .ok (.if_icmp .gt 49, 3) := by decide +kernel
theorem dX11_improve_49 : decode cX11_improve 49 = .ok (.iconst 0, 1) := by decide +kernel
theorem dX11_improve_50 : decode cX11_improve 50 = .ok (.istore_n 3, 1) := by decide +kernel
theorem dX11_improve_51 : decode cX11_improve 51 = .ok (.iload_n 3, 1) := by decide +kernel
theorem dX11_improve_52 : decode cX11_improve 52 = .ok (.bipush 6, 2) := by decide +kernel
theorem dX11_improve_54 : decode cX11_improve 54 = .ok (.if_icmp .ge 35, 3) := by decide +kernel
theorem dX11_improve_57 : decode cX11_improve 57 = .ok (.aload_n 0, 1) := by decide +kernel
theorem dX11_improve_58 : decode cX11_improve 58 = .ok (.iload_n 1, 1) := by decide +kernel
theorem dX11_improve_59 : decode cX11_improve 59 = .ok (.iload_n 2, 1) := by decide +kernel
theorem dX11_improve_60 : decode cX11_improve 60 = .ok (.iload_n 3, 1) := by decide +kernel
theorem dX11_improve_61 : decode cX11_improve 61 = .ok (.invokevirtual 184, 3) := by decide +kernel
theorem dX11_improve_64 : decode cX11_improve 64 = .ok (.istore 4, 2) := by decide +kernel
theorem dX11_improve_66 : decode cX11_improve 66 = .ok (.iload 4, 2) := by decide +kernel
theorem dX11_improve_68 : decode cX11_improve 68 = .ok (.bipush (-9), 2) := by decide +kernel
theorem dX11_improve_70 : decode cX11_improve 70 = .ok (.if_icmp .eq 13, 3) := by decide +kernel
theorem dX11_improve_73 : decode cX11_improve 73 = .ok (.aload_n 0, 1) := by decide +kernel
theorem dX11_improve_74 : decode cX11_improve 74 = .ok (.iload 4, 2) := by decide +kernel
theorem dX11_improve_76 : decode cX11_improve 76 = .ok (.aload_n 0, 1) := by decide +kernel
theorem dX11_improve_77 : decode cX11_improve 77 = .ok (.getfield 180, 3) := by decide +kernel
theorem dX11_improve_80 : decode cX11_improve 80 = .ok (.invokevirtual 187, 3) := by decide +kernel
theorem dX11_improve_83 : decode cX11_improve 83 = .ok (.iinc 3 1, 3) := by decide +kernel
theorem dX11_improve_86 : decode cX11_improve 86 = .ok (.goto (-35), 3) := by decide +kernel
theorem dX11_improve_89 : decode cX11_improve 89 = .ok (.iinc 2 1, 3) := by decide +kernel
theorem dX11_improve_92 : decode cX11_improve 92 = .ok (.goto (-48), 3) := by decide +kernel
theorem dX11_improve_95 : decode cX11_improve 95 = .ok (.aload_n 0, 1) := by decide +kernel
theorem dX11_improve_96 : decode cX11_improve 96 = .ok (.getfield 170, 3) := by decide +kernel
theorem dX11_improve_99 : decode cX11_improve 99 = .ok (.aload_n 0, 1) := by decide +kernel
theorem dX11_improve_100 : decode cX11_improve 100 = .ok (.getfield 22, 3) := by decide +kernel
theorem dX11_improve_103 : decode cX11_improve 103 = .ok (.iload_n 1, 1) := by decide +kernel
theorem dX11_improve_104 : decode cX11_improve 104 = .ok (.iaload, 1) := by decide +kernel
theorem dX11_improve_105 : decode cX11_improve 105 = .ok (.if_icmp .ne 16, 3) := by decide +kernel
theorem dX11_improve_108 : decode cX11_improve 108 = .ok (.aload_n 0, 1) := by decide +kernel
theorem dX11_improve_109 : decode cX11_improve 109 = .ok (.getfield 173, 3) := by decide +kernel
theorem dX11_improve_112 : decode cX11_improve 112 = .ok (.aload_n 0, 1) := by decide +kernel
theorem dX11_improve_113 : decode cX11_improve 113 = .ok (.getfield 25, 3) := by decide +kernel
theorem dX11_improve_116 : decode cX11_improve 116 = .ok (.iload_n 1, 1) := by decide +kernel
theorem dX11_improve_117 : decode cX11_improve 117 = .ok (.iaload, 1) := by decide +kernel
theorem dX11_improve_118 : decode cX11_improve 118 = .ok (.if_icmp .eq 7, 3) := by decide +kernel
theorem dX11_improve_121 : decode cX11_improve 121 = .ok (.iconst 1, 1) := by decide +kernel
theorem dX11_improve_122 : decode cX11_improve 122 = .ok (.goto 4, 3) := by decide +kernel
theorem dX11_improve_125 : decode cX11_improve 125 = .ok (.iconst 0, 1) := by decide +kernel
theorem dX11_improve_126 : decode cX11_improve 126 = .ok (.istore_n 2, 1) := by decide +kernel
theorem dX11_improve_127 : decode cX11_improve 127 = .ok (.aload_n 0, 1) := by decide +kernel
theorem dX11_improve_128 : decode cX11_improve 128 = .ok (.getfield 22, 3) := by decide +kernel
theorem dX11_improve_131 : decode cX11_improve 131 = .ok (.iload_n 1, 1) := by decide +kernel
theorem dX11_improve_132 : decode cX11_improve 132 = .ok (.aload_n 0, 1) := by decide +kernel
theorem dX11_improve_133 : decode cX11_improve 133 = .ok (.getfield 170, 3) := by decide +kernel
theorem dX11_improve_136 : decode cX11_improve 136 = .ok (.iastore, 1) := by decide +kernel
theorem dX11_improve_137 : decode cX11_improve 137 = .ok (.aload_n 0, 1) := by decide +kernel
theorem dX11_improve_138 : decode cX11_improve 138 = .ok (.getfield 25, 3) := by decide +kernel
theorem dX11_improve_141 : decode cX11_improve 141 = .ok (.iload_n 1, 1) := by decide +kernel
theorem dX11_improve_142 : decode cX11_improve 142 = .ok (.aload_n 0, 1) := by decide +kernel
theorem dX11_improve_143 : decode cX11_improve 143 = .ok (.getfield 173, 3) := by decide +kernel
theorem dX11_improve_146 : decode cX11_improve 146 = .ok (.iastore, 1) := by decide +kernel
theorem dX11_improve_147 : decode cX11_improve 147 = .ok (.iload_n 2, 1) := by decide +kernel
theorem dX11_improve_148 : decode cX11_improve 148 = .ok (.ireturn, 1) := by decide +kernel
theorem dX11_isConfig_0 : decode cX11_isConfig 0 = .ok (.iload_n 0, 1) := by decide +kernel
theorem dX11_isConfig_1 : decode cX11_isConfig 1 = .ok (.bipush 16, 2) := by decide +kernel
theorem dX11_isConfig_3 : decode cX11_isConfig 3 = .ok (.irem, 1) := by decide +kernel
theorem dX11_isConfig_4 : decode cX11_isConfig 4 = .ok (.ifCond .le 7, 3) := by decide +kernel
theorem dX11_isConfig_7 : decode cX11_isConfig 7 = .ok (.iconst 1, 1) := by decide +kernel
theorem dX11_isConfig_8 : decode cX11_isConfig 8 = .ok (.goto 4, 3) := by decide +kernel
theorem dX11_isConfig_11 : decode cX11_isConfig 11 = .ok (.iconst 0, 1) := by decide +kernel
theorem dX11_isConfig_12 : decode cX11_isConfig 12 = .ok (.ireturn, 1) := by decide +kernel
theorem dX11_findCosts_0 : decode cX11_findCosts 0 = .ok (.iconst 0, 1) := by decide +kernel
theorem dX11_findCosts_1 : decode cX11_findCosts 1 = .ok (.istore_n 1, 1) := by decide +kernel
theorem dX11_findCosts_2 : decode cX11_findCosts 2 = .ok (.iload_n 1, 1) := by decide +kernel
theorem dX11_findCosts_3 : decode cX11_findCosts 3 = .ok (.bipush 96, 2) := by decide +kernel
theorem dX11_findCosts_5 : decode cX11_findCosts 5 = .ok (.aload_n 0, 1) := by decide +kernel
theorem dX11_findCosts_6 : decode cX11_findCosts 6 = .ok (.getfield 7, 3) := by decide +kernel
theorem dX11_findCosts_9 : decode cX11_findCosts 9 = .ok (.bipush 56, 2) := by decide +kernel
theorem dX11_findCosts_11 : decode cX11_findCosts 11 = .ok (.iaload, 1) := by decide +kernel
theorem dX11_findCosts_12 : decode cX11_findCosts 12 = .ok (.iconst 1, 1) := by decide +kernel
theorem dX11_findCosts_13 : decode cX11_findCosts 13 = .ok (.iadd, 1) := by decide +kernel
theorem dX11_findCosts_14 : decode cX11_findCosts 14 = .ok (.imul, 1) := by decide +kernel
theorem dX11_findCosts_15 : decode cX11_findCosts 15 = .ok (.if_icmp .ge 25, 3) := by decide +kernel
theorem dX11_findCosts_18 : decode cX11_findCosts 18 = .ok (.aload_n 0, 1) := by decide +kernel
theorem dX11_findCosts_19 : decode cX11_findCosts 19 = .ok (.getfield 22, 3) := by decide +kernel
theorem dX11_findCosts_22 : decode cX11_findCosts 22 = .ok (.iload_n 1, 1) := by decide +kernel
theorem dX11_findCosts_23 : decode cX11_findCosts 23 = .ok (.ldc 183, 2) := by decide +kernel
theorem dX11_findCosts_25 : decode cX11_findCosts 25 = .ok (.iastore, 1) := by decide +kernel
theorem dX11_findCosts_26 : decode cX11_findCosts 26 = .ok (.aload_n 0, 1) := by decide +kernel
theorem dX11_findCosts_27 : decode cX11_findCosts 27 = .ok (.getfield 25, 3) := by decide +kernel
theorem dX11_findCosts_30 : decode cX11_findCosts 30 = .ok (.iload_n 1, 1) := by decide +kernel
theorem dX11_findCosts_31 : decode cX11_findCosts 31 = .ok (.ldc 183, 2) := by decide +kernel
theorem dX11_findCosts_33 : decode cX11_findCosts 33 = .ok (.iastore, 1) := by decide +kernel
theorem dX11_findCosts_34 : decode cX11_findCosts 34 = .ok (.iinc 1 1, 3) := by decide +kernel
theorem dX11_findCosts_37 : decode cX11_findCosts 37 = .ok (.goto (-35), 3) := by decide +kernel
theorem dX11_findCosts_40 : decode cX11_findCosts 40 = .ok (.aload_n 0, 1) := by decide +kernel
theorem dX11_findCosts_41 : decode cX11_findCosts 41 = .ok (.getfield 7, 3) := by decide +kernel
theorem dX11_findCosts_44 : decode cX11_findCosts 44 = .ok (.bipush 56, 2) := by decide +kernel
theorem dX11_findCosts_46 : decode cX11_findCosts 46 = .ok (.iaload, 1) := by decide +kernel
theorem dX11_findCosts_47 : decode cX11_findCosts 47 = .ok (.istore_n 1, 1) := by decide +kernel
theorem dX11_findCosts_48 : decode cX11_findCosts 48 = .ok (.iload_n 1, 1) := by decide +kernel
theorem dX11_findCosts_49 : decode cX11_findCosts 49 = .ok (.ifCond .lt 71, 3) := by decide +kernel
theorem dX11_findCosts_52 : decode cX11_findCosts 52 = .ok (.iconst 1, 1) := by decide +kernel
theorem dX11_findCosts_53 : decode cX11_findCosts 53 = .ok (.istore_n 2, 1) := by decide +kernel
theorem dX11_findCosts_54 : decode cX11_findCosts 54 = .ok (.iload_n 2, 1) := by decide +kernel
theorem dX11_findCosts_55 : decode cX11_findCosts 55 = .ok (.ifCond .eq 59, 3) := by decide +kernel
theorem dX11_findCosts_58 : decode cX11_findCosts 58 = .ok (.iconst 0, 1) := by decide +kernel
theorem dX11_findCosts_59 : decode cX11_findCosts 59 = .ok (.istore_n 2, 1) := by decide +kernel
theorem dX11_findCosts_60 : decode cX11_findCosts 60 = .ok (.iconst 0, 1) := by decide +kernel
theorem dX11_findCosts_61 : decode cX11_findCosts 61 = .ok (.istore_n 3, 1) := by decide +kernel
theorem dX11_findCosts_62 : decode cX11_findCosts 62 = .ok (.iload_n 3, 1) := by decide +kernel
theorem dX11_findCosts_63 : decode cX11_findCosts 63 = .ok (.bipush 16, 2) := by decide +kernel
theorem dX11_findCosts_65 : decode cX11_findCosts 65 = .ok (.aload_n 0, 1) := by decide +kernel
theorem dX11_findCosts_66 : decode cX11_findCosts 66 = .ok (.getfield 7, 3) := by decide +kernel
theorem dX11_findCosts_69 : decode cX11_findCosts 69 = .ok (.iconst 0, 1) := by decide +kernel
theorem dX11_findCosts_70 : decode cX11_findCosts 70 = .ok (.iaload, 1) := by decide +kernel
theorem dX11_findCosts_71 : decode cX11_findCosts 71 = .ok (.imul, 1) := by decide +kernel
theorem dX11_findCosts_72 : decode cX11_findCosts 72 = .ok (.if_icmp .ge 39, 3) := by decide +kernel
theorem dX11_findCosts_75 : decode cX11_findCosts 75 = .ok (.iload_n 3, 1) := by decide +kernel
theorem dX11_findCosts_76 : decode cX11_findCosts 76 = .ok (.invokestatic 191, 3) := by decide +kernel
theorem dX11_findCosts_79 : decode cX11_findCosts 79 = .ok (.ifCond .eq 16, 3) := by decide +kernel
theorem dX11_findCosts_82 : decode cX11_findCosts 82 = .ok (.aload_n 0, 1) := by decide +kernel
theorem dX11_findCosts_83 : decode cX11_findCosts 83 = .ok (.bipush 96, 2) := by decide +kernel
theorem dX11_findCosts_85 : decode cX11_findCosts 85 = .ok (.iload_n 1, 1) := by decide +kernel
theorem dX11_findCosts_86 : decode cX11_findCosts 86 = .ok (.imul, 1) := by decide +kernel
theorem dX11_findCosts_87 : decode cX11_findCosts 87 = .ok (.iload_n 3, 1) := by decide +kernel
theorem dX11_findCosts_88 : decode cX11_findCosts 88 = .ok (.iadd, 1) := by decide +kernel
theorem dX11_findCosts_89 : decode cX11_findCosts 89 = .ok (.invokevirtual 194, 3) := by decide +kernel
theorem dX11_findCosts_92 : decode cX11_findCosts 92 = .ok (.ifCond .ne 7, 3) := by decide +kernel
theorem dX11_findCosts_95 : decode cX11_findCosts 95 = .ok (.iload_n 2, 1) := by decide +kernel
theorem dX11_findCosts_96 : decode cX11_findCosts 96 = .ok (.ifCond .eq 7, 3) := by decide +kernel
theorem dX11_findCosts_99 : decode cX11_findCosts 99 = .ok (.iconst 1, 1) := by decide +kernel
theorem dX11_findCosts_100 : decode cX11_findCosts 100 = .ok (.goto 4, 3) := by decide +kernel
theorem dX11_findCosts_103 : decode cX11_findCosts 103 = .ok (.iconst 0, 1) := by decide +kernel
theorem dX11_findCosts_104 : decode cX11_findCosts 104 = .ok (.istore_n 2, 1) := by decide +kernel
theorem dX11_findCosts_105 : decode cX11_findCosts 105 = .ok (.iinc 3 1, 3) := by decide +kernel
theorem dX11_findCosts_108 : decode cX11_findCosts 108 = .ok (.goto (-46), 3) := by decide +kernel
theorem dX11_findCosts_111 : decode cX11_findCosts 111 = .ok (.goto (-57), 3) := by decide +kernel
theorem dX11_findCosts_114 : decode cX11_findCosts 114 = .ok (.iinc 1 (-1), 3) := by decide +kernel
theorem dX11_findCosts_117 : decode cX11_findCosts 117 = .ok (.goto (-69), 3) := by decide +kernel
theorem dX11_findCosts_120 : decode cX11_findCosts 120 = .ok (.return_, 1) := by decide +kernel
theorem dX11_pathsBy_0 : decode cX11_pathsBy 0 = .ok (.aload_n 0, 1) := by decide +kernel
theorem dX11_pathsBy_1 : decode cX11_pathsBy 1 = .ok (.iload_n 1, 1) := by decide +kernel
theorem dX11_pathsBy_2 : decode cX11_pathsBy 2 = .ok (.iload_n 2, 1) := by decide +kernel
theorem dX11_pathsBy_3 : decode cX11_pathsBy 3 = .ok (.iload_n 3, 1) := by decide +kernel
theorem dX11_pathsBy_4 : decode cX11_pathsBy 4 = .ok (.invokevirtual 184, 3) := by decide +kernel
theorem dX11_pathsBy_7 : decode cX11_pathsBy 7 = .ok (.istore 4, 2) := by decide +kernel
theorem dX11_pathsBy_9 : decode cX11_pathsBy 9 = .ok (.iload 4, 2) := by decide +kernel
theorem dX11_pathsBy_11 : decode cX11_pathsBy 11 = .ok (.bipush (-9), 2) := by decide +kernel
theorem dX11_pathsBy_13 : decode cX11_pathsBy 13 = .ok (.if_icmp .eq 45, 3) := by decide +kernel
theorem dX11_pathsBy_16 : decode cX11_pathsBy 16 = .ok (.aload_n 0, 1) := by decide +kernel
theorem dX11_pathsBy_17 : decode cX11_pathsBy 17 = .ok (.getfield 22, 3) := by decide +kernel
theorem dX11_pathsBy_20 : decode cX11_pathsBy 20 = .ok (.iload_n 1, 1) := by decide +kernel
theorem dX11_pathsBy_21 : decode cX11_pathsBy 21 = .ok (.iaload, 1) := by decide +kernel
theorem dX11_pathsBy_22 : decode cX11_pathsBy 22 = .ok (.ldc 183, 2) := by decide +kernel
theorem dX11_pathsBy_24 : decode cX11_pathsBy 24 = .ok (.if_icmp .ge 34, 3) := by decide +kernel
theorem dX11_pathsBy_27 : decode cX11_pathsBy 27 = .ok (.aload_n 0, 1) := by decide +kernel
theorem dX11_pathsBy_28 : decode cX11_pathsBy 28 = .ok (.getfield 22, 3) := by decide +kernel
theorem dX11_pathsBy_31 : decode cX11_pathsBy 31 = .ok (.iload 4, 2) := by decide +kernel
theorem dX11_pathsBy_33 : decode cX11_pathsBy 33 = .ok (.iaload, 1) := by decide +kernel
theorem dX11_pathsBy_34 : decode cX11_pathsBy 34 = .ok (.aload_n 0, 1) := by decide +kernel
theorem dX11_pathsBy_35 : decode cX11_pathsBy 35 = .ok (.getfield 180, 3) := by decide +kernel
theorem dX11_pathsBy_38 : decode cX11_pathsBy 38 = .ok (.iadd, 1) := by decide +kernel
theorem dX11_pathsBy_39 : decode cX11_pathsBy 39 = .ok (.aload_n 0, 1) := by decide +kernel
theorem dX11_pathsBy_40 : decode cX11_pathsBy 40 = .ok (.getfield 22, 3) := by decide +kernel
theorem dX11_pathsBy_43 : decode cX11_pathsBy 43 = .ok (.iload_n 1, 1) := by decide +kernel
theorem dX11_pathsBy_44 : decode cX11_pathsBy 44 = .ok (.iaload, 1) := by decide +kernel
theorem dX11_pathsBy_45 : decode cX11_pathsBy 45 = .ok (.if_icmp .ne 13, 3) := by decide +kernel
theorem dX11_pathsBy_48 : decode cX11_pathsBy 48 = .ok (.aload_n 0, 1) := by decide +kernel
theorem dX11_pathsBy_49 : decode cX11_pathsBy 49 = .ok (.getfield 28, 3) := by decide +kernel
theorem dX11_pathsBy_52 : decode cX11_pathsBy 52 = .ok (.iload 4, 2) := by decide +kernel
theorem dX11_pathsBy_54 : decode cX11_pathsBy 54 = .ok (.iaload, 1) := by decide +kernel
theorem dX11_pathsBy_55 : decode cX11_pathsBy 55 = .ok (.goto 4, 3) := by decide +kernel
theorem dX11_pathsBy_58 : decode cX11_pathsBy 58 = .ok (.iconst 0, 1) := by decide +kernel
theorem dX11_pathsBy_59 : decode cX11_pathsBy 59 = .ok (.ireturn, 1) := by decide +kernel
theorem dX11_countPaths_0 : decode cX11_countPaths 0 = .ok (.iload_n 1, 1) := by decide +kernel
theorem dX11_countPaths_1 : decode cX11_countPaths 1 = .ok (.bipush 96, 2) := by decide +kernel
theorem dX11_countPaths_3 : decode cX11_countPaths 3 = .ok (.idiv, 1) := by decide +kernel
theorem dX11_countPaths_4 : decode cX11_countPaths 4 = .ok (.aload_n 0, 1) := by decide +kernel
theorem dX11_countPaths_5 : decode cX11_countPaths 5 = .ok (.getfield 7, 3) := by decide +kernel
theorem dX11_countPaths_8 : decode cX11_countPaths 8 = .ok (.bipush 56, 2) := by decide +kernel
theorem dX11_countPaths_10 : decode cX11_countPaths 10 = .ok (.iaload, 1) := by decide +kernel
theorem dX11_countPaths_11 : decode cX11_countPaths 11 = .ok (.if_icmp .ne 16, 3) := by decide +kernel
theorem dX11_countPaths_14 : decode cX11_countPaths 14 = .ok (.aload_n 0, 1) := by decide +kernel
theorem dX11_countPaths_15 : decode cX11_countPaths 15 = .ok (.getfield 22, 3) := by decide +kernel
theorem dX11_countPaths_18 : decode cX11_countPaths 18 = .ok (.iload_n 1, 1) := by decide +kernel
theorem dX11_countPaths_19 : decode cX11_countPaths 19 = .ok (.iaload, 1) := by decide +kernel
theorem dX11_countPaths_20 : decode cX11_countPaths 20 = .ok (.ifCond .ne 7, 3) := by decide +kernel
theorem dX11_countPaths_23 : decode cX11_countPaths 23 = .ok (.iconst 1, 1) := by decide +kernel
theorem dX11_countPaths_24 : decode cX11_countPaths 24 = .ok (.goto 4, 3) := by decide +kernel
theorem dX11_countPaths_27 : decode cX11_countPaths 27 = .ok (.iconst 0, 1) := by decide +kernel
theorem dX11_countPaths_28 : decode cX11_countPaths 28 = .ok (.istore_n 2, 1) := by decide +kernel
theorem dX11_countPaths_29 : decode cX11_countPaths 29 = .ok (.iconst 0, 1) := by decide +kernel
theorem dX11_countPaths_30 : decode cX11_countPaths 30 = .ok (.istore_n 3, 1) := by decide +kernel
theorem dX11_countPaths_31 : decode cX11_countPaths 31 = .ok (.iload_n 3, 1) := by decide +kernel
theorem dX11_countPaths_32 : decode cX11_countPaths 32 = .ok (.iconst 3, 1) := by decide +kernel
theorem dX11_countPaths_33 : decode cX11_countPaths 33 = .ok (.if_icmp .gt 36, 3) := by decide +kernel
theorem dX11_countPaths_36 : decode cX11_countPaths 36 = .ok (.iconst 0, 1) := by decide +kernel
theorem dX11_countPaths_37 : decode cX11_countPaths 37 = .ok (.istore 4, 2) := by decide +kernel
theorem dX11_countPaths_39 : decode cX11_countPaths 39 = .ok (.iload 4, 2) := by decide +kernel
theorem dX11_countPaths_41 : decode cX11_countPaths 41 = .ok (.bipush 6, 2) := by decide +kernel
theorem dX11_countPaths_43 : decode cX11_countPaths 43 = .ok (.if_icmp .ge 20, 3) := by decide +kernel
theorem dX11_countPaths_46 : decode cX11_countPaths 46 = .ok (.iload_n 2, 1) := by decide +kernel
theorem dX11_countPaths_47 : decode cX11_countPaths 47 = .ok (.aload_n 0, 1) := by decide +kernel
theorem dX11_countPaths_48 : decode cX11_countPaths 48 = .ok (.iload_n 1, 1) := by decide +kernel
theorem dX11_countPaths_49 : decode cX11_countPaths 49 = .ok (.iload_n 3, 1) := by decide +kernel
theorem dX11_countPaths_50 : decode cX11_countPaths 50 = .ok (.iload 4, 2) := by decide +kernel
theorem dX11_countPaths_52 : decode cX11_countPaths 52 = .ok (.invokevirtual 197, 3) := by decide +kernel
theorem dX11_countPaths_55 : decode cX11_countPaths 55 = .ok (.iadd, 1) := by decide +kernel
theorem dX11_countPaths_56 : decode cX11_countPaths 56 = .ok (.istore_n 2, 1) := by decide +kernel
theorem dX11_countPaths_57 : decode cX11_countPaths 57 = .ok (.iinc 4 1, 3) := by decide +kernel
theorem dX11_countPaths_60 : decode cX11_countPaths 60 = .ok (.goto (-21), 3) := by decide +kernel
theorem dX11_countPaths_63 : decode cX11_countPaths 63 = .ok (.iinc 3 1, 3) := by decide +kernel
theorem dX11_countPaths_66 : decode cX11_countPaths 66 = .ok (.goto (-35), 3) := by decide +kernel
theorem dX11_countPaths_69 : decode cX11_countPaths 69 = .ok (.iload_n 2, 1) := by decide +kernel
theorem dX11_countPaths_70 : decode cX11_countPaths 70 = .ok (.sipush 1001, 3) := by decide +kernel
theorem dX11_countPaths_73 : decode cX11_countPaths 73 = .ok (.if_icmp .ge 7, 3) := by decide +kernel
theorem dX11_countPaths_76 : decode cX11_countPaths 76 = .ok (.iload_n 2, 1) := by decide +kernel
theorem dX11_countPaths_77 : decode cX11_countPaths 77 = .ok (.goto 6, 3) := by decide +kernel
theorem dX11_countPaths_80 : decode cX11_countPaths 80 = .ok (.sipush 1001, 3) := by decide +kernel
theorem dX11_countPaths_83 : decode cX11_countPaths 83 = .ok (.istore_n 2, 1) := by decide +kernel
theorem dX11_countPaths_84 : decode cX11_countPaths 84 = .ok (.iload_n 2, 1) := by decide +kernel
theorem dX11_countPaths_85 : decode cX11_countPaths 85 = .ok (.aload_n 0, 1) := by decide +kernel
theorem dX11_countPaths_86 : decode cX11_countPaths 86 = .ok (.getfield 28, 3) := by decide +kernel
theorem dX11_countPaths_89 : decode cX11_countPaths 89 = .ok (.iload_n 1, 1) := by decide +kernel
theorem dX11_countPaths_90 : decode cX11_countPaths 90 = .ok (.iaload, 1) := by decide +kernel
theorem dX11_countPaths_91 : decode cX11_countPaths 91 = .ok (.if_icmp .eq 7, 3) := by decide +kernel
theorem dX11_countPaths_94 : decode cX11_countPaths 94 = .ok (.iconst 1, 1) := by decide +kernel
theorem dX11_countPaths_95 : decode cX11_countPaths 95 = .ok (.goto 4, 3) := by decide +kernel
theorem dX11_countPaths_98 : decode cX11_countPaths 98 = .ok (.iconst 0, 1) := by decide +kernel
theorem dX11_countPaths_99 : decode cX11_countPaths 99 = .ok (.istore_n 3, 1) := by decide +kernel
theorem dX11_countPaths_100 : decode cX11_countPaths 100 = .ok (.aload_n 0, 1) := by decide +kernel
theorem dX11_countPaths_101 : decode cX11_countPaths 101 = .ok (.getfield 28, 3) := by decide +kernel
theorem dX11_countPaths_104 : decode cX11_countPaths 104 = .ok (.iload_n 1, 1) := by decide +kernel
theorem dX11_countPaths_105 : decode cX11_countPaths 105 = .ok (.iload_n 2, 1) := by decide +kernel
theorem dX11_countPaths_106 : decode cX11_countPaths 106 = .ok (.iastore, 1) := by decide +kernel
theorem dX11_countPaths_107 : decode cX11_countPaths 107 = .ok (.iload_n 3, 1) := by decide +kernel
theorem dX11_countPaths_108 : decode cX11_countPaths 108 = .ok (.ireturn, 1) := by decide +kernel
theorem dX11_findPaths_0 : decode cX11_findPaths 0 = .ok (.aload_n 0, 1) := by decide +kernel
theorem dX11_findPaths_1 : decode cX11_findPaths 1 = .ok (.invokevirtual 200, 3) := by decide +kernel
theorem dX11_findPaths_4 : decode cX11_findPaths 4 = .ok (.iconst 0, 1) := by decide +kernel
theorem dX11_findPaths_5 : decode cX11_findPaths 5 = .ok (.istore_n 1, 1) := by decide +kernel
theorem dX11_findPaths_6 : decode cX11_findPaths 6 = .ok (.iload_n 1, 1) := by decide +kernel
theorem dX11_findPaths_7 : decode cX11_findPaths 7 = .ok (.bipush 96, 2) := by decide +kernel
theorem dX11_findPaths_9 : decode cX11_findPaths 9 = .ok (.aload_n 0, 1) := by decide +kernel
theorem dX11_findPaths_10 : decode cX11_findPaths 10 = .ok (.getfield 7, 3) := by decide +kernel
theorem dX11_findPaths_13 : decode cX11_findPaths 13 = .ok (.bipush 56, 2) := by decide +kernel
theorem dX11_findPaths_15 : decode cX11_findPaths 15 = .ok (.iaload, 1) := by decide +kernel
theorem dX11_findPaths_16 : decode cX11_findPaths 16 = .ok (.iconst 1, 1) := by decide +kernel
theorem dX11_findPaths_17 : decode cX11_findPaths 17 = .ok (.iadd, 1) := by decide +kernel
theorem dX11_findPaths_18 : decode cX11_findPaths 18 = .ok (.imul, 1) := by decide +kernel
theorem dX11_findPaths_19 : decode cX11_findPaths 19 = .ok (.if_icmp .ge 16, 3) := by decide +kernel
theorem dX11_findPaths_22 : decode cX11_findPaths 22 = .ok (.aload_n 0, 1) := by decide +kernel
theorem dX11_findPaths_23 : decode cX11_findPaths 23 = .ok (.getfield 28, 3) := by decide +kernel
theorem dX11_findPaths_26 : decode cX11_findPaths 26 = .ok (.iload_n 1, 1) := by decide +kernel
theorem dX11_findPaths_27 : decode cX11_findPaths 27 = .ok (.iconst 0, 1) := by decide +kernel
theorem dX11_findPaths_28 : decode cX11_findPaths 28 = .ok (.iastore, 1) := by decide +kernel
theorem dX11_findPaths_29 : decode cX11_findPaths 29 = .ok (.iinc 1 1, 3) := by decide +kernel
theorem dX11_findPaths_32 : decode cX11_findPaths 32 = .ok (.goto (-26), 3) := by decide +kernel
theorem dX11_findPaths_35 : decode cX11_findPaths 35 = .ok (.aload_n 0, 1) := by decide +kernel
theorem dX11_findPaths_36 : decode cX11_findPaths 36 = .ok (.getfield 7, 3) := by decide +kernel
theorem dX11_findPaths_39 : decode cX11_findPaths 39 = .ok (.bipush 56, 2) := by decide +kernel
theorem dX11_findPaths_41 : decode cX11_findPaths 41 = .ok (.iaload, 1) := by decide +kernel
theorem dX11_findPaths_42 : decode cX11_findPaths 42 = .ok (.istore_n 1, 1) := by decide +kernel
theorem dX11_findPaths_43 : decode cX11_findPaths 43 = .ok (.iload_n 1, 1) := by decide +kernel
theorem dX11_findPaths_44 : decode cX11_findPaths 44 = .ok (.ifCond .lt 71, 3) := by decide +kernel
theorem dX11_findPaths_47 : decode cX11_findPaths 47 = .ok (.iconst 1, 1) := by decide +kernel
theorem dX11_findPaths_48 : decode cX11_findPaths 48 = .ok (.istore_n 2, 1) := by decide +kernel
theorem dX11_findPaths_49 : decode cX11_findPaths 49 = .ok (.iload_n 2, 1) := by decide +kernel
theorem dX11_findPaths_50 : decode cX11_findPaths 50 = .ok (.ifCond .eq 59, 3) := by decide +kernel
theorem dX11_findPaths_53 : decode cX11_findPaths 53 = .ok (.iconst 0, 1) := by decide +kernel
theorem dX11_findPaths_54 : decode cX11_findPaths 54 = .ok (.istore_n 2, 1) := by decide +kernel
theorem dX11_findPaths_55 : decode cX11_findPaths 55 = .ok (.iconst 0, 1) := by decide +kernel
theorem dX11_findPaths_56 : decode cX11_findPaths 56 = .ok (.istore_n 3, 1) := by decide +kernel
theorem dX11_findPaths_57 : decode cX11_findPaths 57 = .ok (.iload_n 3, 1) := by decide +kernel
theorem dX11_findPaths_58 : decode cX11_findPaths 58 = .ok (.bipush 16, 2) := by decide +kernel
theorem dX11_findPaths_60 : decode cX11_findPaths 60 = .ok (.aload_n 0, 1) := by decide +kernel
theorem dX11_findPaths_61 : decode cX11_findPaths 61 = .ok (.getfield 7, 3) := by decide +kernel
theorem dX11_findPaths_64 : decode cX11_findPaths 64 = .ok (.iconst 0, 1) := by decide +kernel
theorem dX11_findPaths_65 : decode cX11_findPaths 65 = .ok (.iaload, 1) := by decide +kernel
theorem dX11_findPaths_66 : decode cX11_findPaths 66 = .ok (.imul, 1) := by decide +kernel
theorem dX11_findPaths_67 : decode cX11_findPaths 67 = .ok (.if_icmp .ge 39, 3) := by decide +kernel
theorem dX11_findPaths_70 : decode cX11_findPaths 70 = .ok (.iload_n 3, 1) := by decide +kernel
theorem dX11_findPaths_71 : decode cX11_findPaths 71 = .ok (.invokestatic 191, 3) := by decide +kernel
theorem dX11_findPaths_74 : decode cX11_findPaths 74 = .ok (.ifCond .eq 16, 3) := by decide +kernel
theorem dX11_findPaths_77 : decode cX11_findPaths 77 = .ok (.aload_n 0, 1) := by decide +kernel
theorem dX11_findPaths_78 : decode cX11_findPaths 78 = .ok (.bipush 96, 2) := by decide +kernel
theorem dX11_findPaths_80 : decode cX11_findPaths 80 = .ok (.iload_n 1, 1) := by decide +kernel
theorem dX11_findPaths_81 : decode cX11_findPaths 81 = .ok (.imul, 1) := by decide +kernel
theorem dX11_findPaths_82 : decode cX11_findPaths 82 = .ok (.iload_n 3, 1) := by decide +kernel
theorem dX11_findPaths_83 : decode cX11_findPaths 83 = .ok (.iadd, 1) := by decide +kernel
theorem dX11_findPaths_84 : decode cX11_findPaths 84 = .ok (.invokevirtual 203, 3) := by decide +kernel
theorem dX11_findPaths_87 : decode cX11_findPaths 87 = .ok (.ifCond .ne 7, 3) := by decide +kernel
theorem dX11_findPaths_90 : decode cX11_findPaths 90 = .ok (.iload_n 2, 1) := by decide +kernel
theorem dX11_findPaths_91 : decode cX11_findPaths 91 = .ok (.ifCond .eq 7, 3) := by decide +kernel
theorem dX11_findPaths_94 : decode cX11_findPaths 94 = .ok (.iconst 1, 1) := by decide +kernel
theorem dX11_findPaths_95 : decode cX11_findPaths 95 = .ok (.goto 4, 3) := by decide +kernel
theorem dX11_findPaths_98 : decode cX11_findPaths 98 = .ok (.iconst 0, 1) := by decide +kernel
theorem dX11_findPaths_99 : decode cX11_findPaths 99 = .ok (.istore_n 2, 1) := by decide +kernel
theorem dX11_findPaths_100 : decode cX11_findPaths 100 = .ok (.iinc 3 1, 3) := by decide +kernel
theorem dX11_findPaths_103 : decode cX11_findPaths 103 = .ok (.goto (-46), 3) := by decide +kernel
theorem dX11_findPaths_106 : decode cX11_findPaths 106 = .ok (.goto (-57), 3) := by decide +kernel
theorem dX11_findPaths_109 : decode cX11_findPaths 109 = .ok (.iinc 1 (-1), 3) := by decide +kernel
theorem dX11_findPaths_112 : decode cX11_findPaths 112 = .ok (.goto (-69), 3) := by decide +kernel
theorem dX11_findPaths_115 : decode cX11_findPaths 115 = .ok (.return_, 1) := by decide +kernel
theorem dX11_repairCost_0 : decode cX11_repairCost 0 = .ok (.aload_n 0, 1) := by decide +kernel
theorem dX11_repairCost_1 : decode cX11_repairCost 1 = .ok (.invokevirtual 200, 3) := by decide +kernel
theorem dX11_repairCost_4 : decode cX11_repairCost 4 = .ok (.aload_n 0, 1) := by decide +kernel
theorem dX11_repairCost_5 : decode cX11_repairCost 5 = .ok (.getfield 22, 3) := by decide +kernel
theorem dX11_repairCost_8 : decode cX11_repairCost 8 = .ok (.iconst 1, 1) := by decide +kernel
theorem dX11_repairCost_9 : decode cX11_repairCost 9 = .ok (.iaload, 1) := by decide +kernel
theorem dX11_repairCost_10 : decode cX11_repairCost 10 = .ok (.ldc 183, 2) := by decide +kernel
theorem dX11_repairCost_12 : decode cX11_repairCost 12 = .ok (.if_icmp .ge 12, 3) := by decide +kernel
theorem dX11_repairCost_15 : decode cX11_repairCost 15 = .ok (.aload_n 0, 1) := by decide +kernel
theorem dX11_repairCost_16 : decode cX11_repairCost 16 = .ok (.getfield 22, 3) := by decide +kernel
theorem dX11_repairCost_19 : decode cX11_repairCost 19 = .ok (.iconst 1, 1) := by decide +kernel
theorem dX11_repairCost_20 : decode cX11_repairCost 20 = .ok (.iaload, 1) := by decide +kernel
theorem dX11_repairCost_21 : decode cX11_repairCost 21 = .ok (.goto 5, 3) := by decide +kernel
theorem dX11_repairCost_24 : decode cX11_repairCost 24 = .ok (.bipush (-9), 2) := by decide +kernel
theorem dX11_repairCost_26 : decode cX11_repairCost 26 = .ok (.ireturn, 1) := by decide +kernel
theorem dX11_repairCount_0 : decode cX11_repairCount 0 = .ok (.aload_n 0, 1) := by decide +kernel
theorem dX11_repairCount_1 : decode cX11_repairCount 1 = .ok (.invokevirtual 206, 3) := by decide +kernel
theorem dX11_repairCount_4 : decode cX11_repairCount 4 = .ok (.aload_n 0, 1) := by decide +kernel
theorem dX11_repairCount_5 : decode cX11_repairCount 5 = .ok (.getfield 28, 3) := by decide +kernel
theorem dX11_repairCount_8 : decode cX11_repairCount 8 = .ok (.iconst 1, 1) := by decide +kernel
theorem dX11_repairCount_9 : decode cX11_repairCount 9 = .ok (.iaload, 1) := by decide +kernel
theorem dX11_repairCount_10 : decode cX11_repairCount 10 = .ok (.sipush 1001, 3) := by decide +kernel
theorem dX11_repairCount_13 : decode cX11_repairCount 13 = .ok (.if_icmp .ge 12, 3) := by decide +kernel
theorem dX11_repairCount_16 : decode cX11_repairCount 16 = .ok (.aload_n 0, 1) := by decide +kernel
theorem dX11_repairCount_17 : decode cX11_repairCount 17 = .ok (.getfield 28, 3) := by decide +kernel
theorem dX11_repairCount_20 : decode cX11_repairCount 20 = .ok (.iconst 1, 1) := by decide +kernel
theorem dX11_repairCount_21 : decode cX11_repairCount 21 = .ok (.iaload, 1) := by decide +kernel
theorem dX11_repairCount_22 : decode cX11_repairCount 22 = .ok (.goto 6, 3) := by decide +kernel
theorem dX11_repairCount_25 : decode cX11_repairCount 25 = .ok (.sipush 1000, 3) := by decide +kernel
theorem dX11_repairCount_28 : decode cX11_repairCount 28 = .ok (.ireturn, 1) := by decide +kernel
theorem dX11_secondCost_0 : decode cX11_secondCost 0 = .ok (.aload_n 0, 1) := by decide +kernel
theorem dX11_secondCost_1 : decode cX11_secondCost 1 = .ok (.invokevirtual 200, 3) := by decide +kernel
theorem dX11_secondCost_4 : decode cX11_secondCost 4 = .ok (.aload_n 0, 1) := by decide +kernel
theorem dX11_secondCost_5 : decode cX11_secondCost 5 = .ok (.getfield 25, 3) := by decide +kernel
theorem dX11_secondCost_8 : decode cX11_secondCost 8 = .ok (.iconst 1, 1) := by decide +kernel
theorem dX11_secondCost_9 : decode cX11_secondCost 9 = .ok (.iaload, 1) := by decide +kernel
theorem dX11_secondCost_10 : decode cX11_secondCost 10 = .ok (.ldc 183, 2) := by decide +kernel
theorem dX11_secondCost_12 : decode cX11_secondCost 12 = .ok (.if_icmp .ge 12, 3) := by decide +kernel
theorem dX11_secondCost_15 : decode cX11_secondCost 15 = .ok (.aload_n 0, 1) := by decide +kernel
theorem dX11_secondCost_16 : decode cX11_secondCost 16 = .ok (.getfield 25, 3) := by decide +kernel
theorem dX11_secondCost_19 : decode cX11_secondCost 19 = .ok (.iconst 1, 1) := by decide +kernel
theorem dX11_secondCost_20 : decode cX11_secondCost 20 = .ok (.iaload, 1) := by decide +kernel
theorem dX11_secondCost_21 : decode cX11_secondCost 21 = .ok (.goto 5, 3) := by decide +kernel
theorem dX11_secondCost_24 : decode cX11_secondCost 24 = .ok (.bipush (-9), 2) := by decide +kernel
theorem dX11_secondCost_26 : decode cX11_secondCost 26 = .ok (.ireturn, 1) := by decide +kernel
theorem dX11_append_0 : decode cX11_append 0 = .ok (.aload_n 0, 1) := by decide +kernel
theorem dX11_append_1 : decode cX11_append 1 = .ok (.getfield 31, 3) := by decide +kernel
theorem dX11_append_4 : decode cX11_append 4 = .ok (.aload_n 0, 1) := by decide +kernel
theorem dX11_append_5 : decode cX11_append 5 = .ok (.getfield 209, 3) := by decide +kernel
theorem dX11_append_8 : decode cX11_append 8 = .ok (.iload_n 1, 1) := by decide +kernel
theorem dX11_append_9 : decode cX11_append 9 = .ok (.iastore, 1) := by decide +kernel
theorem dX11_append_10 : decode cX11_append 10 = .ok (.aload_n 0, 1) := by decide +kernel
theorem dX11_append_11 : decode cX11_append 11 = .ok (.getfield 34, 3) := by decide +kernel
theorem dX11_append_14 : decode cX11_append 14 = .ok (.aload_n 0, 1) := by decide +kernel
theorem dX11_append_15 : decode cX11_append 15 = .ok (.getfield 209, 3) := by decide +kernel
theorem dX11_append_18 : decode cX11_append 18 = .ok (.iload_n 2, 1) := by decide +kernel
theorem dX11_append_19 : decode cX11_append 19 = .ok (.iastore, 1) := by decide +kernel
theorem dX11_append_20 : decode cX11_append 20 = .ok (.aload_n 0, 1) := by decide +kernel
theorem dX11_append_21 : decode cX11_append 21 = .ok (.dup, 1) := by decide +kernel
theorem dX11_append_22 : decode cX11_append 22 = .ok (.getfield 209, 3) := by decide +kernel
theorem dX11_append_25 : decode cX11_append 25 = .ok (.iconst 1, 1) := by decide +kernel
theorem dX11_append_26 : decode cX11_append 26 = .ok (.iadd, 1) := by decide +kernel
theorem dX11_append_27 : decode cX11_append 27 = .ok (.putfield 209, 3) := by decide +kernel
theorem dX11_append_30 : decode cX11_append 30 = .ok (.return_, 1) := by decide +kernel
theorem dX11_follow_0 : decode cX11_follow 0 = .ok (.iconst 0, 1) := by decide +kernel
theorem dX11_follow_1 : decode cX11_follow 1 = .ok (.istore_n 2, 1) := by decide +kernel
theorem dX11_follow_2 : decode cX11_follow 2 = .ok (.iload_n 2, 1) := by decide +kernel
theorem dX11_follow_3 : decode cX11_follow 3 = .ok (.iconst 3, 1) := by decide +kernel
theorem dX11_follow_4 : decode cX11_follow 4 = .ok (.if_icmp .gt 66, 3) := by decide +kernel
theorem dX11_follow_7 : decode cX11_follow 7 = .ok (.iconst 0, 1) := by decide +kernel
theorem dX11_follow_8 : decode cX11_follow 8 = .ok (.istore_n 3, 1) := by decide +kernel
theorem dX11_follow_9 : decode cX11_follow 9 = .ok (.iload_n 3, 1) := by decide +kernel
theorem dX11_follow_10 : decode cX11_follow 10 = .ok (.bipush 6, 2) := by decide +kernel
theorem dX11_follow_12 : decode cX11_follow 12 = .ok (.if_icmp .ge 52, 3) := by decide +kernel
theorem dX11_follow_15 : decode cX11_follow 15 = .ok (.aload_n 0, 1) := by decide +kernel
theorem dX11_follow_16 : decode cX11_follow 16 = .ok (.iload_n 1, 1) := by decide +kernel
theorem dX11_follow_17 : decode cX11_follow 17 = .ok (.iload_n 2, 1) := by decide +kernel
theorem dX11_follow_18 : decode cX11_follow 18 = .ok (.iload_n 3, 1) := by decide +kernel
theorem dX11_follow_19 : decode cX11_follow 19 = .ok (.invokevirtual 197, 3) := by decide +kernel
theorem dX11_follow_22 : decode cX11_follow 22 = .ok (.istore 4, 2) := by decide +kernel
theorem dX11_follow_24 : decode cX11_follow 24 = .ok (.aload_n 0, 1) := by decide +kernel
theorem dX11_follow_25 : decode cX11_follow 25 = .ok (.getfield 212, 3) := by decide +kernel
theorem dX11_follow_28 : decode cX11_follow 28 = .ok (.iload 4, 2) := by decide +kernel
theorem dX11_follow_30 : decode cX11_follow 30 = .ok (.if_icmp .ge 17, 3) := by decide +kernel
theorem dX11_follow_33 : decode cX11_follow 33 = .ok (.aload_n 0, 1) := by decide +kernel
theorem dX11_follow_34 : decode cX11_follow 34 = .ok (.iload_n 2, 1) := by decide +kernel
theorem dX11_follow_35 : decode cX11_follow 35 = .ok (.iload_n 3, 1) := by decide +kernel
theorem dX11_follow_36 : decode cX11_follow 36 = .ok (.invokevirtual 215, 3) := by decide +kernel
theorem dX11_follow_39 : decode cX11_follow 39 = .ok (.aload_n 0, 1) := by decide +kernel
theorem dX11_follow_40 : decode cX11_follow 40 = .ok (.iload_n 1, 1) := by decide +kernel
theorem dX11_follow_41 : decode cX11_follow 41 = .ok (.iload_n 2, 1) := by decide +kernel
theorem dX11_follow_42 : decode cX11_follow 42 = .ok (.iload_n 3, 1) := by decide +kernel
theorem dX11_follow_43 : decode cX11_follow 43 = .ok (.invokevirtual 184, 3) := by decide +kernel
theorem dX11_follow_46 : decode cX11_follow 46 = .ok (.ireturn, 1) := by decide +kernel
theorem dX11_follow_47 : decode cX11_follow 47 = .ok (.aload_n 0, 1) := by decide +kernel
theorem dX11_follow_48 : decode cX11_follow 48 = .ok (.dup, 1) := by decide +kernel
theorem dX11_follow_49 : decode cX11_follow 49 = .ok (.getfield 212, 3) := by decide +kernel
theorem dX11_follow_52 : decode cX11_follow 52 = .ok (.iload 4, 2) := by decide +kernel
theorem dX11_follow_54 : decode cX11_follow 54 = .ok (.isub, 1) := by decide +kernel
theorem dX11_follow_55 : decode cX11_follow 55 = .ok (.putfield 212, 3) := by decide +kernel
theorem dX11_follow_58 : decode cX11_follow 58 = .ok (.iinc 3 1, 3) := by decide +kernel
theorem dX11_follow_61 : decode cX11_follow 61 = .ok (.goto (-52), 3) := by decide +kernel
theorem dX11_follow_64 : decode cX11_follow 64 = .ok (.iinc 2 1, 3) := by decide +kernel
theorem dX11_follow_67 : decode cX11_follow 67 = .ok (.goto (-65), 3) := by decide +kernel
theorem dX11_follow_70 : decode cX11_follow 70 = .ok (.bipush (-9), 2) := by decide +kernel
theorem dX11_follow_72 : decode cX11_follow 72 = .ok (.ireturn, 1) := by decide +kernel
theorem dX11_findScript_0 : decode cX11_findScript 0 = .ok (.iload_n 1, 1) := by decide +kernel
theorem dX11_findScript_1 : decode cX11_findScript 1 = .ok (.iconst 0, 1) := by decide +kernel
theorem dX11_findScript_2 : decode cX11_findScript 2 = .ok (.bipush 7, 2) := by decide +kernel
theorem dX11_findScript_4 : decode cX11_findScript 4 = .ok (.invokestatic 58, 3) := by decide +kernel
theorem dX11_findScript_7 : decode cX11_findScript 7 = .ok (.ifCond .ne 5, 3) := by decide +kernel
theorem dX11_findScript_10 : decode cX11_findScript 10 = .ok (.iconst (-1), 1) := by decide +kernel
theorem dX11_findScript_11 : decode cX11_findScript 11 = .ok (.ireturn, 1) := by decide +kernel
theorem dX11_findScript_12 : decode cX11_findScript 12 = .ok (.aload_n 0, 1) := by decide +kernel
theorem dX11_findScript_13 : decode cX11_findScript 13 = .ok (.invokevirtual 206, 3) := by decide +kernel
theorem dX11_findScript_16 : decode cX11_findScript 16 = .ok (.iload_n 1, 1) := by decide +kernel
theorem dX11_findScript_17 : decode cX11_findScript 17 = .ok (.aload_n 0, 1) := by decide +kernel
theorem dX11_findScript_18 : decode cX11_findScript 18 = .ok (.getfield 28, 3) := by decide +kernel
theorem dX11_findScript_21 : decode cX11_findScript 21 = .ok (.iconst 1, 1) := by decide +kernel
theorem dX11_findScript_22 : decode cX11_findScript 22 = .ok (.iaload, 1) := by decide +kernel
theorem dX11_findScript_23 : decode cX11_findScript 23 = .ok (.if_icmp .lt 6, 3) := by decide +kernel
theorem dX11_findScript_26 : decode cX11_findScript 26 = .ok (.bipush (-2), 2) := by decide +kernel
theorem dX11_findScript_28 : decode cX11_findScript 28 = .ok (.ireturn, 1) := by decide +kernel
theorem dX11_findScript_29 : decode cX11_findScript 29 = .ok (.aload_n 0, 1) := by decide +kernel
theorem dX11_findScript_30 : decode cX11_findScript 30 = .ok (.iconst 0, 1) := by decide +kernel
theorem dX11_findScript_31 : decode cX11_findScript 31 = .ok (.putfield 209, 3) := by decide +kernel
theorem dX11_findScript_34 : decode cX11_findScript 34 = .ok (.aload_n 0, 1) := by decide +kernel
theorem dX11_findScript_35 : decode cX11_findScript 35 = .ok (.iload_n 1, 1) := by decide +kernel
theorem dX11_findScript_36 : decode cX11_findScript 36 = .ok (.putfield 212, 3) := by decide +kernel
theorem dX11_findScript_39 : decode cX11_findScript 39 = .ok (.iconst 1, 1) := by decide +kernel
theorem dX11_findScript_40 : decode cX11_findScript 40 = .ok (.istore_n 2, 1) := by decide +kernel
theorem dX11_findScript_41 : decode cX11_findScript 41 = .ok (.iload_n 2, 1) := by decide +kernel
theorem dX11_findScript_42 : decode cX11_findScript 42 = .ok (.bipush 96, 2) := by decide +kernel
theorem dX11_findScript_44 : decode cX11_findScript 44 = .ok (.idiv, 1) := by decide +kernel
theorem dX11_findScript_45 : decode cX11_findScript 45 = .ok (.aload_n 0, 1) := by decide +kernel
theorem dX11_findScript_46 : decode cX11_findScript 46 = .ok (.getfield 7, 3) := by decide +kernel
theorem dX11_findScript_49 : decode cX11_findScript 49 = .ok (.bipush 56, 2) := by decide +kernel
theorem dX11_findScript_51 : decode cX11_findScript 51 = .ok (.iaload, 1) := by decide +kernel
theorem dX11_findScript_52 : decode cX11_findScript 52 = .ok (.if_icmp .lt 12, 3) := by decide +kernel
theorem dX11_findScript_55 : decode cX11_findScript 55 = .ok (.aload_n 0, 1) := by decide +kernel
theorem dX11_findScript_56 : decode cX11_findScript 56 = .ok (.getfield 22, 3) := by decide +kernel
theorem dX11_findScript_59 : decode cX11_findScript 59 = .ok (.iload_n 2, 1) := by decide +kernel
theorem dX11_findScript_60 : decode cX11_findScript 60 = .ok (.iaload, 1) := by decide +kernel
theorem dX11_findScript_61 : decode cX11_findScript 61 = .ok (.ifCond .le 12, 3) := by decide +kernel
theorem dX11_findScript_64 : decode cX11_findScript 64 = .ok (.aload_n 0, 1) := by decide +kernel
theorem dX11_findScript_65 : decode cX11_findScript 65 = .ok (.iload_n 2, 1) := by decide +kernel
theorem dX11_findScript_66 : decode cX11_findScript 66 = .ok (.invokevirtual 218, 3) := by decide +kernel
theorem dX11_findScript_69 : decode cX11_findScript 69 = .ok (.istore_n 2, 1) := by decide +kernel
theorem dX11_findScript_70 : decode cX11_findScript 70 = .ok (.goto (-29), 3) := by decide +kernel
theorem dX11_findScript_73 : decode cX11_findScript 73 = .ok (.iconst 0, 1) := by decide +kernel
theorem dX11_findScript_74 : decode cX11_findScript 74 = .ok (.ireturn, 1) := by decide +kernel
theorem dX11_repairLength_0 : decode cX11_repairLength 0 = .ok (.aload_n 0, 1) := by decide +kernel
theorem dX11_repairLength_1 : decode cX11_repairLength 1 = .ok (.iload_n 1, 1) := by decide +kernel
theorem dX11_repairLength_2 : decode cX11_repairLength 2 = .ok (.invokevirtual 221, 3) := by decide +kernel
theorem dX11_repairLength_5 : decode cX11_repairLength 5 = .ok (.istore_n 2, 1) := by decide +kernel
theorem dX11_repairLength_6 : decode cX11_repairLength 6 = .ok (.iload_n 2, 1) := by decide +kernel
theorem dX11_repairLength_7 : decode cX11_repairLength 7 = .ok (.ifCond .ge 7, 3) := by decide +kernel
theorem dX11_repairLength_10 : decode cX11_repairLength 10 = .ok (.iload_n 2, 1) := by decide +kernel
theorem dX11_repairLength_11 : decode cX11_repairLength 11 = .ok (.goto 7, 3) := by decide +kernel
theorem dX11_repairLength_14 : decode cX11_repairLength 14 = .ok (.aload_n 0, 1) := by decide +kernel
theorem dX11_repairLength_15 : decode cX11_repairLength 15 = .ok (.getfield 209, 3) := by decide +kernel
theorem dX11_repairLength_18 : decode cX11_repairLength 18 = .ok (.ireturn, 1) := by decide +kernel
theorem dX11_scriptEntry_0 : decode cX11_scriptEntry 0 = .ok (.iload_n 1, 1) := by decide +kernel
theorem dX11_scriptEntry_1 : decode cX11_scriptEntry 1 = .ok (.aload_n 0, 1) := by decide +kernel
theorem dX11_scriptEntry_2 : decode cX11_scriptEntry 2 = .ok (.getfield 209, 3) := by decide +kernel
theorem dX11_scriptEntry_5 : decode cX11_scriptEntry 5 = .ok (.if_icmp .lt 8, 3) := by decide +kernel
theorem dX11_scriptEntry_8 : decode cX11_scriptEntry 8 = .ok (.bipush (-9), 2) := by decide +kernel
theorem dX11_scriptEntry_10 : decode cX11_scriptEntry 10 = .ok (.goto 22, 3) := by decide +kernel
theorem dX11_scriptEntry_13 : decode cX11_scriptEntry 13 = .ok (.iload_n 2, 1) := by decide +kernel
theorem dX11_scriptEntry_14 : decode cX11_scriptEntry 14 = .ok (.ifCond .eq 12, 3) := by decide +kernel
theorem dX11_scriptEntry_17 : decode cX11_scriptEntry 17 = .ok (.aload_n 0, 1) := by decide +kernel
theorem dX11_scriptEntry_18 : decode cX11_scriptEntry 18 = .ok (.getfield 34, 3) := by decide +kernel
theorem dX11_scriptEntry_21 : decode cX11_scriptEntry 21 = .ok (.iload_n 1, 1) := by decide +kernel
theorem dX11_scriptEntry_22 : decode cX11_scriptEntry 22 = .ok (.iaload, 1) := by decide +kernel
theorem dX11_scriptEntry_23 : decode cX11_scriptEntry 23 = .ok (.goto 9, 3) := by decide +kernel
theorem dX11_scriptEntry_26 : decode cX11_scriptEntry 26 = .ok (.aload_n 0, 1) := by decide +kernel
theorem dX11_scriptEntry_27 : decode cX11_scriptEntry 27 = .ok (.getfield 31, 3) := by decide +kernel
theorem dX11_scriptEntry_30 : decode cX11_scriptEntry 30 = .ok (.iload_n 1, 1) := by decide +kernel
theorem dX11_scriptEntry_31 : decode cX11_scriptEntry 31 = .ok (.iaload, 1) := by decide +kernel
theorem dX11_scriptEntry_32 : decode cX11_scriptEntry 32 = .ok (.ireturn, 1) := by decide +kernel
theorem dX11_repairEntry_0 : decode cX11_repairEntry 0 = .ok (.iload_n 1, 1) := by decide +kernel
theorem dX11_repairEntry_1 : decode cX11_repairEntry 1 = .ok (.iconst 0, 1) := by decide +kernel
theorem dX11_repairEntry_2 : decode cX11_repairEntry 2 = .ok (.bipush 7, 2) := by decide +kernel
theorem dX11_repairEntry_4 : decode cX11_repairEntry 4 = .ok (.invokestatic 58, 3) := by decide +kernel
theorem dX11_repairEntry_7 : decode cX11_repairEntry 7 = .ok (.ifCond .eq 7, 3) := by decide +kernel
theorem dX11_repairEntry_10 : decode cX11_repairEntry 10 = .ok (.iload_n 2, 1) := by decide +kernel
theorem dX11_repairEntry_11 : decode cX11_repairEntry 11 = .ok (.ifCond .ge 5, 3) := by decide +kernel
theorem dX11_repairEntry_14 : decode cX11_repairEntry 14 = .ok (.iconst (-1), 1) := by decide +kernel
theorem dX11_repairEntry_15 : decode cX11_repairEntry 15 = .ok (.ireturn, 1) := by decide +kernel
theorem dX11_repairEntry_16 : decode cX11_repairEntry 16 = .ok (.aload_n 0, 1) := by decide +kernel
theorem dX11_repairEntry_17 : decode cX11_repairEntry 17 = .ok (.iload_n 1, 1) := by decide +kernel
theorem dX11_repairEntry_18 : decode cX11_repairEntry 18 = .ok (.invokevirtual 221, 3) := by decide +kernel
theorem dX11_repairEntry_21 : decode cX11_repairEntry 21 = .ok (.istore 4, 2) := by decide +kernel
theorem dX11_repairEntry_23 : decode cX11_repairEntry 23 = .ok (.iload 4, 2) := by decide +kernel
theorem dX11_repairEntry_25 : decode cX11_repairEntry 25 = .ok (.ifCond .ge 8, 3) := by decide +kernel
theorem dX11_repairEntry_28 : decode cX11_repairEntry 28 = .ok (.iload 4, 2) := by decide +kernel
theorem dX11_repairEntry_30 : decode cX11_repairEntry 30 = .ok (.goto 9, 3) := by decide +kernel
theorem dX11_repairEntry_33 : decode cX11_repairEntry 33 = .ok (.aload_n 0, 1) := by decide +kernel
theorem dX11_repairEntry_34 : decode cX11_repairEntry 34 = .ok (.iload_n 2, 1) := by decide +kernel
theorem dX11_repairEntry_35 : decode cX11_repairEntry 35 = .ok (.iload_n 3, 1) := by decide +kernel
theorem dX11_repairEntry_36 : decode cX11_repairEntry 36 = .ok (.invokevirtual 224, 3) := by decide +kernel
theorem dX11_repairEntry_39 : decode cX11_repairEntry 39 = .ok (.ireturn, 1) := by decide +kernel
theorem dX11_repairOperation_0 : decode cX11_repairOperation 0 = .ok (.aload_n 0, 1) := by decide +kernel
theorem dX11_repairOperation_1 : decode cX11_repairOperation 1 = .ok (.iload_n 1, 1) := by decide +kernel
theorem dX11_repairOperation_2 : decode cX11_repairOperation 2 = .ok (.iload_n 2, 1) := by decide +kernel
theorem dX11_repairOperation_3 : decode cX11_repairOperation 3 = .ok (.iconst 0, 1) := by decide +kernel
theorem dX11_repairOperation_4 : decode cX11_repairOperation 4 = .ok (.invokevirtual 228, 3) := by decide +kernel
theorem dX11_repairOperation_7 : decode cX11_repairOperation 7 = .ok (.ireturn, 1) := by decide +kernel
theorem dX11_repairKind_0 : decode cX11_repairKind 0 = .ok (.aload_n 0, 1) := by decide +kernel
theorem dX11_repairKind_1 : decode cX11_repairKind 1 = .ok (.iload_n 1, 1) := by decide +kernel
theorem dX11_repairKind_2 : decode cX11_repairKind 2 = .ok (.iload_n 2, 1) := by decide +kernel
theorem dX11_repairKind_3 : decode cX11_repairKind 3 = .ok (.iconst 1, 1) := by decide +kernel
theorem dX11_repairKind_4 : decode cX11_repairKind 4 = .ok (.invokevirtual 228, 3) := by decide +kernel
theorem dX11_repairKind_7 : decode cX11_repairKind 7 = .ok (.ireturn, 1) := by decide +kernel
theorem dX11_applyRepair_0 : decode cX11_applyRepair 0 = .ok (.aload_n 0, 1) := by decide +kernel
theorem dX11_applyRepair_1 : decode cX11_applyRepair 1 = .ok (.iload_n 1, 1) := by decide +kernel
theorem dX11_applyRepair_2 : decode cX11_applyRepair 2 = .ok (.invokevirtual 221, 3) := by decide +kernel
theorem dX11_applyRepair_5 : decode cX11_applyRepair 5 = .ok (.istore_n 2, 1) := by decide +kernel
theorem dX11_applyRepair_6 : decode cX11_applyRepair 6 = .ok (.iload_n 2, 1) := by decide +kernel
theorem dX11_applyRepair_7 : decode cX11_applyRepair 7 = .ok (.ifCond .ge 5, 3) := by decide +kernel
theorem dX11_applyRepair_10 : decode cX11_applyRepair 10 = .ok (.iload_n 2, 1) := by decide +kernel
theorem dX11_applyRepair_11 : decode cX11_applyRepair 11 = .ok (.ireturn, 1) := by decide +kernel
theorem dX11_applyRepair_12 : decode cX11_applyRepair 12 = .ok (.iconst 0, 1) := by decide +kernel
theorem dX11_applyRepair_13 : decode cX11_applyRepair 13 = .ok (.istore_n 3, 1) := by decide +kernel
theorem dX11_applyRepair_14 : decode cX11_applyRepair 14 = .ok (.iconst 0, 1) := by decide +kernel
theorem dX11_applyRepair_15 : decode cX11_applyRepair 15 = .ok (.istore 4, 2) := by decide +kernel
theorem dX11_applyRepair_17 : decode cX11_applyRepair 17 = .ok (.iload 4, 2) := by decide +kernel
theorem dX11_applyRepair_19 : decode cX11_applyRepair 19 = .ok (.aload_n 0, 1) := by decide +kernel
theorem dX11_applyRepair_20 : decode cX11_applyRepair 20 = .ok (.getfield 209, 3) := by decide +kernel
theorem dX11_applyRepair_23 : decode cX11_applyRepair 23 = .ok (.if_icmp .ge 28, 3) := by decide +kernel
theorem dX11_applyRepair_26 : decode cX11_applyRepair 26 = .ok (.iload_n 3, 1) := by decide +kernel
theorem dX11_applyRepair_27 : decode cX11_applyRepair 27 = .ok (.aload_n 0, 1) := by decide +kernel
theorem dX11_applyRepair_28 : decode cX11_applyRepair 28 = .ok (.getfield 31, 3) := by decide +kernel
theorem dX11_applyRepair_31 : decode cX11_applyRepair 31 = .ok (.iload 4, 2) := by decide +kernel
theorem dX11_applyRepair_33 : decode cX11_applyRepair 33 = .ok (.iaload, 1) := by decide +kernel
theorem dX11_applyRepair_34 : decode cX11_applyRepair 34 = .ok (.iconst 2, 1) := by decide +kernel
theorem dX11_applyRepair_35 : decode cX11_applyRepair 35 = .ok (.if_icmp .ne 7, 3) := by decide +kernel
theorem dX11_applyRepair_38 : decode cX11_applyRepair 38 = .ok (.iconst 0, 1) := by decide +kernel
theorem dX11_applyRepair_39 : decode cX11_applyRepair 39 = .ok (.goto 4, 3) := by decide +kernel
theorem dX11_applyRepair_42 : decode cX11_applyRepair 42 = .ok (.iconst 1, 1) := by decide +kernel
theorem dX11_applyRepair_43 : decode cX11_applyRepair 43 = .ok (.iadd, 1) := by decide +kernel
theorem dX11_applyRepair_44 : decode cX11_applyRepair 44 = .ok (.istore_n 3, 1) := by decide +kernel
theorem dX11_applyRepair_45 : decode cX11_applyRepair 45 = .ok (.iinc 4 1, 3) := by decide +kernel
theorem dX11_applyRepair_48 : decode cX11_applyRepair 48 = .ok (.goto (-31), 3) := by decide +kernel
theorem dX11_applyRepair_51 : decode cX11_applyRepair 51 = .ok (.iload_n 3, 1) := by decide +kernel
theorem dX11_applyRepair_52 : decode cX11_applyRepair 52 = .ok (.bipush 12, 2) := by decide +kernel
theorem dX11_applyRepair_54 : decode cX11_applyRepair 54 = .ok (.if_icmp .le 6, 3) := by decide +kernel
theorem dX11_applyRepair_57 : decode cX11_applyRepair 57 = .ok (.bipush (-3), 2) := by decide +kernel
theorem dX11_applyRepair_59 : decode cX11_applyRepair 59 = .ok (.ireturn, 1) := by decide +kernel
theorem dX11_applyRepair_60 : decode cX11_applyRepair 60 = .ok (.aload_n 0, 1) := by decide +kernel
theorem dX11_applyRepair_61 : decode cX11_applyRepair 61 = .ok (.invokevirtual 131, 3) := by decide +kernel
theorem dX11_applyRepair_64 : decode cX11_applyRepair 64 = .ok (.aload_n 0, 1) := by decide +kernel
theorem dX11_applyRepair_65 : decode cX11_applyRepair 65 = .ok (.getfield 7, 3) := by decide +kernel
theorem dX11_applyRepair_68 : decode cX11_applyRepair 68 = .ok (.bipush 56, 2) := by decide +kernel
theorem dX11_applyRepair_70 : decode cX11_applyRepair 70 = .ok (.iconst 0, 1) := by decide +kernel
theorem dX11_applyRepair_71 : decode cX11_applyRepair 71 = .ok (.iastore, 1) := by decide +kernel
theorem dX11_applyRepair_72 : decode cX11_applyRepair 72 = .ok (.iconst 0, 1) := by decide +kernel
theorem dX11_applyRepair_73 : decode cX11_applyRepair 73 = .ok (.istore 4, 2) := by decide +kernel
theorem dX11_applyRepair_75 : decode cX11_applyRepair 75 = .ok (.iload 4, 2) := by decide +kernel
theorem dX11_applyRepair_77 : decode cX11_applyRepair 77 = .ok (.aload_n 0, 1) := by decide +kernel
theorem dX11_applyRepair_78 : decode cX11_applyRepair 78 = .ok (.getfield 209, 3) := by decide +kernel
theorem dX11_applyRepair_81 : decode cX11_applyRepair 81 = .ok (.if_icmp .ge 53, 3) := by decide +kernel
theorem dX11_applyRepair_84 : decode cX11_applyRepair 84 = .ok (.aload_n 0, 1) := by decide +kernel
theorem dX11_applyRepair_85 : decode cX11_applyRepair 85 = .ok (.getfield 31, 3) := by decide +kernel
theorem dX11_applyRepair_88 : decode cX11_applyRepair 88 = .ok (.iload 4, 2) := by decide +kernel
theorem dX11_applyRepair_90 : decode cX11_applyRepair 90 = .ok (.iaload, 1) := by decide +kernel
theorem dX11_applyRepair_91 : decode cX11_applyRepair 91 = .ok (.iconst 2, 1) := by decide +kernel
theorem dX11_applyRepair_92 : decode cX11_applyRepair 92 = .ok (.if_icmp .eq 36, 3) := by decide +kernel
theorem dX11_applyRepair_95 : decode cX11_applyRepair 95 = .ok (.aload_n 0, 1) := by decide +kernel
theorem dX11_applyRepair_96 : decode cX11_applyRepair 96 = .ok (.getfield 7, 3) := by decide +kernel
theorem dX11_applyRepair_99 : decode cX11_applyRepair 99 = .ok (.bipush 57, 2) := by decide +kernel
theorem dX11_applyRepair_101 : decode cX11_applyRepair 101 = .ok (.aload_n 0, 1) := by decide +kernel
theorem dX11_applyRepair_102 : decode cX11_applyRepair 102 = .ok (.getfield 7, 3) := by decide +kernel
theorem dX11_applyRepair_105 : decode cX11_applyRepair 105 = .ok (.bipush 56, 2) := by decide +kernel
theorem dX11_applyRepair_107 : decode cX11_applyRepair 107 = .ok (.iaload, 1) := by decide +kernel
theorem dX11_applyRepair_108 : decode cX11_applyRepair 108 = .ok (.iadd, 1) := by decide +kernel
theorem dX11_applyRepair_109 : decode cX11_applyRepair 109 = .ok (.aload_n 0, 1) := by decide +kernel
theorem dX11_applyRepair_110 : decode cX11_applyRepair 110 = .ok (.getfield 34, 3) := by decide +kernel
theorem dX11_applyRepair_113 : decode cX11_applyRepair 113 = .ok (.iload 4, 2) := by decide +kernel
theorem dX11_applyRepair_115 : decode cX11_applyRepair 115 = .ok (.iaload, 1) := by decide +kernel
theorem dX11_applyRepair_116 : decode cX11_applyRepair 116 = .ok (.iastore, 1) := by decide +kernel
theorem dX11_applyRepair_117 : decode cX11_applyRepair 117 = .ok (.aload_n 0, 1) := by decide +kernel
theorem dX11_applyRepair_118 : decode cX11_applyRepair 118 = .ok (.getfield 7, 3) := by decide +kernel
theorem dX11_applyRepair_121 : decode cX11_applyRepair 121 = .ok (.bipush 56, 2) := by decide +kernel
theorem dX11_applyRepair_123 : decode cX11_applyRepair 123 = .ok (.dup2, 1) := by decide +kernel
theorem dX11_applyRepair_124 : decode cX11_applyRepair 124 = .ok (.iaload, 1) := by decide +kernel
theorem dX11_applyRepair_125 : decode cX11_applyRepair 125 = .ok (.iconst 1, 1) := by decide +kernel
theorem dX11_applyRepair_126 : decode cX11_applyRepair 126 = .ok (.iadd, 1) := by decide +kernel
theorem dX11_applyRepair_127 : decode cX11_applyRepair 127 = .ok (.iastore, 1) := by decide +kernel
theorem dX11_applyRepair_128 : decode cX11_applyRepair 128 = .ok (.iinc 4 1, 3) := by decide +kernel
theorem dX11_applyRepair_131 : decode cX11_applyRepair 131 = .ok (.goto (-56), 3) := by decide +kernel
theorem dX11_applyRepair_134 : decode cX11_applyRepair 134 = .ok (.iload_n 3, 1) := by decide +kernel
theorem dX11_applyRepair_135 : decode cX11_applyRepair 135 = .ok (.ireturn, 1) := by decide +kernel
theorem dX11_passes_0 : decode cX11_passes 0 = .ok (.iload_n 1, 1) := by decide +kernel
theorem dX11_passes_1 : decode cX11_passes 1 = .ok (.bipush 96, 2) := by decide +kernel
theorem dX11_passes_3 : decode cX11_passes 3 = .ok (.idiv, 1) := by decide +kernel
theorem dX11_passes_4 : decode cX11_passes 4 = .ok (.istore_n 3, 1) := by decide +kernel
theorem dX11_passes_5 : decode cX11_passes 5 = .ok (.iload_n 3, 1) := by decide +kernel
theorem dX11_passes_6 : decode cX11_passes 6 = .ok (.iload_n 2, 1) := by decide +kernel
theorem dX11_passes_7 : decode cX11_passes 7 = .ok (.iadd, 1) := by decide +kernel
theorem dX11_passes_8 : decode cX11_passes 8 = .ok (.istore 4, 2) := by decide +kernel
theorem dX11_passes_10 : decode cX11_passes 10 = .ok (.iload 4, 2) := by decide +kernel
theorem dX11_passes_12 : decode cX11_passes 12 = .ok (.aload_n 0, 1) := by decide +kernel
theorem dX11_passes_13 : decode cX11_passes 13 = .ok (.getfield 7, 3) := by decide +kernel
theorem dX11_passes_16 : decode cX11_passes 16 = .ok (.bipush 56, 2) := by decide +kernel
theorem dX11_passes_18 : decode cX11_passes 18 = .ok (.iaload, 1) := by decide +kernel
theorem dX11_passes_19 : decode cX11_passes 19 = .ok (.if_icmp .gt 25, 3) := by decide +kernel
theorem dX11_passes_22 : decode cX11_passes 22 = .ok (.aload_n 0, 1) := by decide +kernel
theorem dX11_passes_23 : decode cX11_passes 23 = .ok (.iload_n 3, 1) := by decide +kernel
theorem dX11_passes_24 : decode cX11_passes 24 = .ok (.iload_n 1, 1) := by decide +kernel
theorem dX11_passes_25 : decode cX11_passes 25 = .ok (.bipush 96, 2) := by decide +kernel
theorem dX11_passes_27 : decode cX11_passes 27 = .ok (.irem, 1) := by decide +kernel
theorem dX11_passes_28 : decode cX11_passes 28 = .ok (.iload 4, 2) := by decide +kernel
theorem dX11_passes_30 : decode cX11_passes 30 = .ok (.invokevirtual 154, 3) := by decide +kernel
theorem dX11_passes_33 : decode cX11_passes 33 = .ok (.iload 4, 2) := by decide +kernel
theorem dX11_passes_35 : decode cX11_passes 35 = .ok (.if_icmp .ne 7, 3) := by decide +kernel
theorem dX11_passes_38 : decode cX11_passes 38 = .ok (.iconst 1, 1) := by decide +kernel
theorem dX11_passes_39 : decode cX11_passes 39 = .ok (.goto 4, 3) := by decide +kernel
theorem dX11_passes_42 : decode cX11_passes 42 = .ok (.iconst 0, 1) := by decide +kernel
theorem dX11_passes_43 : decode cX11_passes 43 = .ok (.ireturn, 1) := by decide +kernel
theorem dX11_passes_44 : decode cX11_passes 44 = .ok (.aload_n 0, 1) := by decide +kernel
theorem dX11_passes_45 : decode cX11_passes 45 = .ok (.iload_n 3, 1) := by decide +kernel
theorem dX11_passes_46 : decode cX11_passes 46 = .ok (.iload_n 1, 1) := by decide +kernel
theorem dX11_passes_47 : decode cX11_passes 47 = .ok (.bipush 96, 2) := by decide +kernel
theorem dX11_passes_49 : decode cX11_passes 49 = .ok (.irem, 1) := by decide +kernel
theorem dX11_passes_50 : decode cX11_passes 50 = .ok (.invokevirtual 160, 3) := by decide +kernel
theorem dX11_passes_53 : decode cX11_passes 53 = .ok (.bipush (-9), 2) := by decide +kernel
theorem dX11_passes_55 : decode cX11_passes 55 = .ok (.if_icmp .ne 7, 3) := by decide +kernel
theorem dX11_passes_58 : decode cX11_passes 58 = .ok (.iconst 1, 1) := by decide +kernel
theorem dX11_passes_59 : decode cX11_passes 59 = .ok (.goto 4, 3) := by decide +kernel
theorem dX11_passes_62 : decode cX11_passes 62 = .ok (.iconst 0, 1) := by decide +kernel
theorem dX11_passes_63 : decode cX11_passes 63 = .ok (.ireturn, 1) := by decide +kernel
theorem dX11_localBy_0 : decode cX11_localBy 0 = .ok (.aload_n 0, 1) := by decide +kernel
theorem dX11_localBy_1 : decode cX11_localBy 1 = .ok (.iload_n 1, 1) := by decide +kernel
theorem dX11_localBy_2 : decode cX11_localBy 2 = .ok (.iload_n 2, 1) := by decide +kernel
theorem dX11_localBy_3 : decode cX11_localBy 3 = .ok (.iload_n 3, 1) := by decide +kernel
theorem dX11_localBy_4 : decode cX11_localBy 4 = .ok (.invokevirtual 184, 3) := by decide +kernel
theorem dX11_localBy_7 : decode cX11_localBy 7 = .ok (.istore 4, 2) := by decide +kernel
theorem dX11_localBy_9 : decode cX11_localBy 9 = .ok (.iload 4, 2) := by decide +kernel
theorem dX11_localBy_11 : decode cX11_localBy 11 = .ok (.bipush (-9), 2) := by decide +kernel
theorem dX11_localBy_13 : decode cX11_localBy 13 = .ok (.if_icmp .ne 8, 3) := by decide +kernel
theorem dX11_localBy_16 : decode cX11_localBy 16 = .ok (.ldc 183, 2) := by decide +kernel
theorem dX11_localBy_18 : decode cX11_localBy 18 = .ok (.goto 15, 3) := by decide +kernel
theorem dX11_localBy_21 : decode cX11_localBy 21 = .ok (.aload_n 0, 1) := by decide +kernel
theorem dX11_localBy_22 : decode cX11_localBy 22 = .ok (.getfield 37, 3) := by decide +kernel
theorem dX11_localBy_25 : decode cX11_localBy 25 = .ok (.iload 4, 2) := by decide +kernel
theorem dX11_localBy_27 : decode cX11_localBy 27 = .ok (.iaload, 1) := by decide +kernel
theorem dX11_localBy_28 : decode cX11_localBy 28 = .ok (.aload_n 0, 1) := by decide +kernel
theorem dX11_localBy_29 : decode cX11_localBy 29 = .ok (.getfield 180, 3) := by decide +kernel
theorem dX11_localBy_32 : decode cX11_localBy 32 = .ok (.iadd, 1) := by decide +kernel
theorem dX11_localBy_33 : decode cX11_localBy 33 = .ok (.ireturn, 1) := by decide +kernel
theorem dX11_improveLocal_0 : decode cX11_improveLocal 0 = .ok (.aload_n 0, 1) := by decide +kernel
theorem dX11_improveLocal_1 : decode cX11_improveLocal 1 = .ok (.getfield 37, 3) := by decide +kernel
theorem dX11_improveLocal_4 : decode cX11_improveLocal 4 = .ok (.iload_n 1, 1) := by decide +kernel
theorem dX11_improveLocal_5 : decode cX11_improveLocal 5 = .ok (.iaload, 1) := by decide +kernel
theorem dX11_improveLocal_6 : decode cX11_improveLocal 6 = .ok (.istore_n 2, 1) := by decide +kernel
theorem dX11_improveLocal_7 : decode cX11_improveLocal 7 = .ok (.iconst 1, 1) := by decide +kernel
theorem dX11_improveLocal_8 : decode cX11_improveLocal 8 = .ok (.istore_n 3, 1) := by decide +kernel
theorem dX11_improveLocal_9 : decode cX11_improveLocal 9 = .ok (.iload_n 3, 1) := by decide +kernel
theorem dX11_improveLocal_10 : decode cX11_improveLocal 10 = .ok (.iconst 3, 1) := by decide +kernel
theorem dX11_improveLocal_11 : decode cX11_improveLocal 11 = .ok (.if_icmp .gt 48, 3) := by decide +kernel
theorem dX11_improveLocal_14 : decode cX11_improveLocal 14 = .ok (.iconst 0, 1) := by decide +kernel
theorem dX11_improveLocal_15 : decode cX11_improveLocal 15 = .ok (.istore 4, 2) := by decide +kernel
theorem dX11_improveLocal_17 : decode cX11_improveLocal 17 = .ok (.iload 4, 2) := by decide +kernel
theorem dX11_improveLocal_19 : decode cX11_improveLocal 19 = .ok (.bipush 6, 2) := by decide +kernel
theorem dX11_improveLocal_21 : decode cX11_improveLocal 21 = .ok (.if_icmp .ge 32, 3) := by decide +kernel
theorem dX11_improveLocal_24 : decode cX11_improveLocal 24 = .ok (.aload_n 0, 1) := by decide +kernel
theorem dX11_improveLocal_25 : decode cX11_improveLocal 25 = .ok (.iload_n 1, 1) := by decide +kernel
theorem dX11_improveLocal_26 : decode cX11_improveLocal 26 = .ok (.iload_n 3, 1) := by decide +kernel
theorem dX11_improveLocal_27 : decode cX11_improveLocal 27 = .ok (.iload 4, 2) := by decide +kernel
theorem dX11_improveLocal_29 : decode cX11_improveLocal 29 = .ok (.invokevirtual 232, 3) := by decide +kernel
theorem dX11_improveLocal_32 : decode cX11_improveLocal 32 = .ok (.istore 5, 2) := by decide +kernel
theorem dX11_improveLocal_34 : decode cX11_improveLocal 34 = .ok (.iload 5, 2) := by decide +kernel
theorem dX11_improveLocal_36 : decode cX11_improveLocal 36 = .ok (.iload_n 2, 1) := by decide +kernel
theorem dX11_improveLocal_37 : decode cX11_improveLocal 37 = .ok (.if_icmp .ge 8, 3) := by decide +kernel
theorem dX11_improveLocal_40 : decode cX11_improveLocal 40 = .ok (.iload 5, 2) := by decide +kernel
theorem dX11_improveLocal_42 : decode cX11_improveLocal 42 = .ok (.goto 4, 3) := by decide +kernel
theorem dX11_improveLocal_45 : decode cX11_improveLocal 45 = .ok (.iload_n 2, 1) := by decide +kernel
theorem dX11_improveLocal_46 : decode cX11_improveLocal 46 = .ok (.istore_n 2, 1) := by decide +kernel
theorem dX11_improveLocal_47 : decode cX11_improveLocal 47 = .ok (.iinc 4 1, 3) := by decide +kernel
theorem dX11_improveLocal_50 : decode cX11_improveLocal 50 = .ok (.goto (-33), 3) := by decide +kernel
theorem dX11_improveLocal_53 : decode cX11_improveLocal 53 = .ok (.iinc 3 1, 3) := by decide +kernel
theorem dX11_improveLocal_56 : decode cX11_improveLocal 56 = .ok (.goto (-47), 3) := by decide +kernel
theorem dX11_improveLocal_59 : decode cX11_improveLocal 59 = .ok (.iload_n 2, 1) := by decide +kernel
theorem dX11_improveLocal_60 : decode cX11_improveLocal 60 = .ok (.aload_n 0, 1) := by decide +kernel
theorem dX11_improveLocal_61 : decode cX11_improveLocal 61 = .ok (.getfield 37, 3) := by decide +kernel
theorem dX11_improveLocal_64 : decode cX11_improveLocal 64 = .ok (.iload_n 1, 1) := by decide +kernel
theorem dX11_improveLocal_65 : decode cX11_improveLocal 65 = .ok (.iaload, 1) := by decide +kernel
theorem dX11_improveLocal_66 : decode cX11_improveLocal 66 = .ok (.if_icmp .ge 7, 3) := by decide +kernel
theorem dX11_improveLocal_69 : decode cX11_improveLocal 69 = .ok (.iconst 1, 1) := by decide +kernel
theorem dX11_improveLocal_70 : decode cX11_improveLocal 70 = .ok (.goto 4, 3) := by decide +kernel
theorem dX11_improveLocal_73 : decode cX11_improveLocal 73 = .ok (.iconst 0, 1) := by decide +kernel
theorem dX11_improveLocal_74 : decode cX11_improveLocal 74 = .ok (.istore_n 3, 1) := by decide +kernel
theorem dX11_improveLocal_75 : decode cX11_improveLocal 75 = .ok (.aload_n 0, 1) := by decide +kernel
theorem dX11_improveLocal_76 : decode cX11_improveLocal 76 = .ok (.getfield 37, 3) := by decide +kernel
theorem dX11_improveLocal_79 : decode cX11_improveLocal 79 = .ok (.iload_n 1, 1) := by decide +kernel
theorem dX11_improveLocal_80 : decode cX11_improveLocal 80 = .ok (.iload_n 2, 1) := by decide +kernel
theorem dX11_improveLocal_81 : decode cX11_improveLocal 81 = .ok (.iastore, 1) := by decide +kernel
theorem dX11_improveLocal_82 : decode cX11_improveLocal 82 = .ok (.iload_n 3, 1) := by decide +kernel
theorem dX11_improveLocal_83 : decode cX11_improveLocal 83 = .ok (.ireturn, 1) := by decide +kernel
theorem dX11_findLocalCosts_0 : decode cX11_findLocalCosts 0 = .ok (.iconst 0, 1) := by decide +kernel
theorem dX11_findLocalCosts_1 : decode cX11_findLocalCosts 1 = .ok (.istore_n 2, 1) := by decide +kernel
theorem dX11_findLocalCosts_2 : decode cX11_findLocalCosts 2 = .ok (.iload_n 2, 1) := by decide +kernel
theorem dX11_findLocalCosts_3 : decode cX11_findLocalCosts 3 = .ok (.bipush 96, 2) := by decide +kernel
theorem dX11_findLocalCosts_5 : decode cX11_findLocalCosts 5 = .ok (.aload_n 0, 1) := by decide +kernel
theorem dX11_findLocalCosts_6 : decode cX11_findLocalCosts 6 = .ok (.getfield 7, 3) := by decide +kernel
theorem dX11_findLocalCosts_9 : decode cX11_findLocalCosts 9 = .ok (.bipush 56, 2) := by decide +kernel
theorem dX11_findLocalCosts_11 : decode cX11_findLocalCosts 11 = .ok (.iaload, 1) := by decide +kernel
theorem dX11_findLocalCosts_12 : decode cX11_findLocalCosts 12 = .ok (.iconst 1, 1) := by decide +kernel
theorem dX11_findLocalCosts_13 : decode cX11_findLocalCosts 13 = .ok (.iadd, 1) := by decide +kernel
theorem dX11_findLocalCosts_14 : decode cX11_findLocalCosts 14 = .ok (.imul, 1) := by decide +kernel
theorem dX11_findLocalCosts_15 : decode cX11_findLocalCosts 15 = .ok (.if_icmp .ge 40, 3) := by decide +kernel
theorem dX11_findLocalCosts_18 : decode cX11_findLocalCosts 18 = .ok (.aload_n 0, 1) := by decide +kernel
theorem dX11_findLocalCosts_19 : decode cX11_findLocalCosts 19 = .ok (.getfield 37, 3) := by decide +kernel
theorem dX11_findLocalCosts_22 : decode cX11_findLocalCosts 22 = .ok (.iload_n 2, 1) := by decide +kernel
theorem dX11_findLocalCosts_23 : decode cX11_findLocalCosts 23 = .ok (.iload_n 2, 1) := by decide +kernel
theorem dX11_findLocalCosts_24 : decode cX11_findLocalCosts 24 = .ok (.bipush 96, 2) := by decide +kernel
theorem dX11_findLocalCosts_26 : decode cX11_findLocalCosts 26 = .ok (.irem, 1) := by decide +kernel
theorem dX11_findLocalCosts_27 : decode cX11_findLocalCosts 27 = .ok (.invokestatic 191, 3) := by decide +kernel
theorem dX11_findLocalCosts_30 : decode cX11_findLocalCosts 30 = .ok (.ifCond .eq 16, 3) := by decide +kernel
theorem dX11_findLocalCosts_33 : decode cX11_findLocalCosts 33 = .ok (.aload_n 0, 1) := by decide +kernel
theorem dX11_findLocalCosts_34 : decode cX11_findLocalCosts 34 = .ok (.iload_n 2, 1) := by decide +kernel
theorem dX11_findLocalCosts_35 : decode cX11_findLocalCosts 35 = .ok (.iload_n 1, 1) := by decide +kernel
theorem dX11_findLocalCosts_36 : decode cX11_findLocalCosts 36 = .ok (.invokevirtual 235, 3) := by decide +kernel
theorem dX11_findLocalCosts_39 : decode cX11_findLocalCosts 39 = .ok (.ifCond .eq 7, 3) := by decide +kernel
theorem dX11_findLocalCosts_42 : decode cX11_findLocalCosts 42 = .ok (.iconst 0, 1) := by decide +kernel
theorem dX11_findLocalCosts_43 : decode cX11_findLocalCosts 43 = .ok (.goto 5, 3) := by decide +kernel
theorem dX11_findLocalCosts_46 : decode cX11_findLocalCosts 46 = .ok (.ldc 183, 2) := by decide +kernel
theorem dX11_findLocalCosts_48 : decode cX11_findLocalCosts 48 = .ok (.iastore, 1) := by decide +kernel
theorem dX11_findLocalCosts_49 : decode cX11_findLocalCosts 49 = .ok (.iinc 2 1, 3) := by decide +kernel
theorem dX11_findLocalCosts_52 : decode cX11_findLocalCosts 52 = .ok (.goto (-50), 3) := by decide +kernel
theorem dX11_findLocalCosts_55 : decode cX11_findLocalCosts 55 = .ok (.aload_n 0, 1) := by decide +kernel
theorem dX11_findLocalCosts_56 : decode cX11_findLocalCosts 56 = .ok (.getfield 7, 3) := by decide +kernel
theorem dX11_findLocalCosts_59 : decode cX11_findLocalCosts 59 = .ok (.bipush 56, 2) := by decide +kernel
theorem dX11_findLocalCosts_61 : decode cX11_findLocalCosts 61 = .ok (.iaload, 1) := by decide +kernel
theorem dX11_findLocalCosts_62 : decode cX11_findLocalCosts 62 = .ok (.istore_n 2, 1) := by decide +kernel
theorem dX11_findLocalCosts_63 : decode cX11_findLocalCosts 63 = .ok (.iload_n 2, 1) := by decide +kernel
theorem dX11_findLocalCosts_64 : decode cX11_findLocalCosts 64 = .ok (.ifCond .lt 75, 3) := by decide +kernel
theorem dX11_findLocalCosts_67 : decode cX11_findLocalCosts 67 = .ok (.iconst 1, 1) := by decide +kernel
theorem dX11_findLocalCosts_68 : decode cX11_findLocalCosts 68 = .ok (.istore_n 3, 1) := by decide +kernel
theorem dX11_findLocalCosts_69 : decode cX11_findLocalCosts 69 = .ok (.iload_n 3, 1) := by decide +kernel
theorem dX11_findLocalCosts_70 : decode cX11_findLocalCosts 70 = .ok (.ifCond .eq 63, 3) := by decide +kernel
theorem dX11_findLocalCosts_73 : decode cX11_findLocalCosts 73 = .ok (.iconst 0, 1) := by decide +kernel
theorem dX11_findLocalCosts_74 : decode cX11_findLocalCosts 74 = .ok (.istore_n 3, 1) := by decide +kernel
theorem dX11_findLocalCosts_75 : decode cX11_findLocalCosts 75 = .ok (.iconst 0, 1) := by decide +kernel
theorem dX11_findLocalCosts_76 : decode cX11_findLocalCosts 76 = .ok (.istore 4, 2) := by decide +kernel
theorem dX11_findLocalCosts_78 : decode cX11_findLocalCosts 78 = .ok (.iload 4, 2) := by decide +kernel
theorem dX11_findLocalCosts_80 : decode cX11_findLocalCosts 80 = .ok (.bipush 16, 2) := by decide +kernel
theorem dX11_findLocalCosts_82 : decode cX11_findLocalCosts 82 = .ok (.aload_n 0, 1) := by decide +kernel
theorem dX11_findLocalCosts_83 : decode cX11_findLocalCosts 83 = .ok (.getfield 7, 3) := by decide +kernel
theorem dX11_findLocalCosts_86 : decode cX11_findLocalCosts 86 = .ok (.iconst 0, 1) := by decide +kernel
theorem dX11_findLocalCosts_87 : decode cX11_findLocalCosts 87 = .ok (.iaload, 1) := by decide +kernel
theorem dX11_findLocalCosts_88 : decode cX11_findLocalCosts 88 = .ok (.imul, 1) := by decide +kernel
theorem dX11_findLocalCosts_89 : decode cX11_findLocalCosts 89 = .ok (.if_icmp .ge 41, 3) := by decide +kernel
theorem dX11_findLocalCosts_92 : decode cX11_findLocalCosts 92 = .ok (.iload 4, 2) := by decide +kernel
theorem dX11_findLocalCosts_94 : decode cX11_findLocalCosts 94 = .ok (.invokestatic 191, 3) := by decide +kernel
theorem dX11_findLocalCosts_97 : decode cX11_findLocalCosts 97 = .ok (.ifCond .eq 17, 3) := by decide +kernel
theorem dX11_findLocalCosts_100 : decode cX11_findLocalCosts 100 = .ok (.aload_n 0, 1) := by decide +kernel
theorem dX11_findLocalCosts_101 : decode cX11_findLocalCosts 101 = .ok (.bipush 96, 2) := by decide +kernel
theorem dX11_findLocalCosts_103 : decode cX11_findLocalCosts 103 = .ok (.iload_n 2, 1) := by decide +kernel
theorem dX11_findLocalCosts_104 : decode cX11_findLocalCosts 104 = .ok (.imul, 1) := by decide +kernel
theorem dX11_findLocalCosts_105 : decode cX11_findLocalCosts 105 = .ok (.iload 4, 2) := by decide +kernel
theorem dX11_findLocalCosts_107 : decode cX11_findLocalCosts 107 = .ok (.iadd, 1) := by decide +kernel
theorem dX11_findLocalCosts_108 : decode cX11_findLocalCosts 108 = .ok (.invokevirtual 238, 3) := by decide +kernel
theorem dX11_findLocalCosts_111 : decode cX11_findLocalCosts 111 = .ok (.ifCond .ne 7, 3) := by decide +kernel
theorem dX11_findLocalCosts_114 : decode cX11_findLocalCosts 114 = .ok (.iload_n 3, 1) := by decide +kernel
theorem dX11_findLocalCosts_115 : decode cX11_findLocalCosts 115 = .ok (.ifCond .eq 7, 3) := by decide +kernel
theorem dX11_findLocalCosts_118 : decode cX11_findLocalCosts 118 = .ok (.iconst 1, 1) := by decide +kernel
theorem dX11_findLocalCosts_119 : decode cX11_findLocalCosts 119 = .ok (.goto 4, 3) := by decide +kernel
theorem dX11_findLocalCosts_122 : decode cX11_findLocalCosts 122 = .ok (.iconst 0, 1) := by decide +kernel
theorem dX11_findLocalCosts_123 : decode cX11_findLocalCosts 123 = .ok (.istore_n 3, 1) := by decide +kernel
theorem dX11_findLocalCosts_124 : decode cX11_findLocalCosts 124 = .ok (.iinc 4 1, 3) := by decide +kernel
theorem dX11_findLocalCosts_127 : decode cX11_findLocalCosts 127 = .ok (.goto (-49), 3) := by decide +kernel
theorem dX11_findLocalCosts_130 : decode cX11_findLocalCosts 130 = .ok (.goto (-61), 3) := by decide +kernel
theorem dX11_findLocalCosts_133 : decode cX11_findLocalCosts 133 = .ok (.iinc 2 (-1), 3) := by decide +kernel
theorem dX11_findLocalCosts_136 : decode cX11_findLocalCosts 136 = .ok (.goto (-73), 3) := by decide +kernel
theorem dX11_findLocalCosts_139 : decode cX11_findLocalCosts 139 = .ok (.return_, 1) := by decide +kernel
theorem dX11_followLocal_0 : decode cX11_followLocal 0 = .ok (.iconst 1, 1) := by decide +kernel
theorem dX11_followLocal_1 : decode cX11_followLocal 1 = .ok (.istore_n 2, 1) := by decide +kernel
theorem dX11_followLocal_2 : decode cX11_followLocal 2 = .ok (.iload_n 2, 1) := by decide +kernel
theorem dX11_followLocal_3 : decode cX11_followLocal 3 = .ok (.iconst 3, 1) := by decide +kernel
theorem dX11_followLocal_4 : decode cX11_followLocal 4 = .ok (.if_icmp .gt 53, 3) := by decide +kernel
theorem dX11_followLocal_7 : decode cX11_followLocal 7 = .ok (.iconst 0, 1) := by decide +kernel
theorem dX11_followLocal_8 : decode cX11_followLocal 8 = .ok (.istore_n 3, 1) := by decide +kernel
theorem dX11_followLocal_9 : decode cX11_followLocal 9 = .ok (.iload_n 3, 1) := by decide +kernel
theorem dX11_followLocal_10 : decode cX11_followLocal 10 = .ok (.bipush 6, 2) := by decide +kernel
theorem dX11_followLocal_12 : decode cX11_followLocal 12 = .ok (.if_icmp .ge 39, 3) := by decide +kernel
theorem dX11_followLocal_15 : decode cX11_followLocal 15 = .ok (.aload_n 0, 1) := by decide +kernel
theorem dX11_followLocal_16 : decode cX11_followLocal 16 = .ok (.iload_n 1, 1) := by decide +kernel
theorem dX11_followLocal_17 : decode cX11_followLocal 17 = .ok (.iload_n 2, 1) := by decide +kernel
theorem dX11_followLocal_18 : decode cX11_followLocal 18 = .ok (.iload_n 3, 1) := by decide +kernel
theorem dX11_followLocal_19 : decode cX11_followLocal 19 = .ok (.invokevirtual 232, 3) := by decide +kernel
theorem dX11_followLocal_22 : decode cX11_followLocal 22 = .ok (.aload_n 0, 1) := by decide +kernel
theorem dX11_followLocal_23 : decode cX11_followLocal 23 = .ok (.getfield 37, 3) := by decide +kernel
theorem dX11_followLocal_26 : decode cX11_followLocal 26 = .ok (.iload_n 1, 1) := by decide +kernel
theorem dX11_followLocal_27 : decode cX11_followLocal 27 = .ok (.iaload, 1) := by decide +kernel
theorem dX11_followLocal_28 : decode cX11_followLocal 28 = .ok (.if_icmp .ne 17, 3) := by decide +kernel
theorem dX11_followLocal_31 : decode cX11_followLocal 31 = .ok (.aload_n 0, 1) := by decide +kernel
theorem dX11_followLocal_32 : decode cX11_followLocal 32 = .ok (.iload_n 2, 1) := by decide +kernel
theorem dX11_followLocal_33 : decode cX11_followLocal 33 = .ok (.iload_n 3, 1) := by decide +kernel
theorem dX11_followLocal_34 : decode cX11_followLocal 34 = .ok (.invokevirtual 215, 3) := by decide +kernel
theorem dX11_followLocal_37 : decode cX11_followLocal 37 = .ok (.aload_n 0, 1) := by decide +kernel
theorem dX11_followLocal_38 : decode cX11_followLocal 38 = .ok (.iload_n 1, 1) := by decide +kernel
theorem dX11_followLocal_39 : decode cX11_followLocal 39 = .ok (.iload_n 2, 1) := by decide +kernel
theorem dX11_followLocal_40 : decode cX11_followLocal 40 = .ok (.iload_n 3, 1) := by decide +kernel
theorem dX11_followLocal_41 : decode cX11_followLocal 41 = .ok (.invokevirtual 184, 3) := by decide +kernel
theorem dX11_followLocal_44 : decode cX11_followLocal 44 = .ok (.ireturn, 1) := by decide +kernel
theorem dX11_followLocal_45 : decode cX11_followLocal 45 = .ok (.iinc 3 1, 3) := by decide +kernel
theorem dX11_followLocal_48 : decode cX11_followLocal 48 = .ok (.goto (-39), 3) := by decide +kernel
theorem dX11_followLocal_51 : decode cX11_followLocal 51 = .ok (.iinc 2 1, 3) := by decide +kernel
theorem dX11_followLocal_54 : decode cX11_followLocal 54 = .ok (.goto (-52), 3) := by decide +kernel
theorem dX11_followLocal_57 : decode cX11_followLocal 57 = .ok (.bipush (-9), 2) := by decide +kernel
theorem dX11_followLocal_59 : decode cX11_followLocal 59 = .ok (.ireturn, 1) := by decide +kernel
theorem dX11_repairLocally_0 : decode cX11_repairLocally 0 = .ok (.iload_n 1, 1) := by decide +kernel
theorem dX11_repairLocally_1 : decode cX11_repairLocally 1 = .ok (.istore_n 2, 1) := by decide +kernel
theorem dX11_repairLocally_2 : decode cX11_repairLocally 2 = .ok (.aload_n 0, 1) := by decide +kernel
theorem dX11_repairLocally_3 : decode cX11_repairLocally 3 = .ok (.iconst 0, 1) := by decide +kernel
theorem dX11_repairLocally_4 : decode cX11_repairLocally 4 = .ok (.putfield 209, 3) := by decide +kernel
theorem dX11_repairLocally_7 : decode cX11_repairLocally 7 = .ok (.aload_n 0, 1) := by decide +kernel
theorem dX11_repairLocally_8 : decode cX11_repairLocally 8 = .ok (.getfield 37, 3) := by decide +kernel
theorem dX11_repairLocally_11 : decode cX11_repairLocally 11 = .ok (.iload_n 2, 1) := by decide +kernel
theorem dX11_repairLocally_12 : decode cX11_repairLocally 12 = .ok (.iaload, 1) := by decide +kernel
theorem dX11_repairLocally_13 : decode cX11_repairLocally 13 = .ok (.ifCond .le 12, 3) := by decide +kernel
theorem dX11_repairLocally_16 : decode cX11_repairLocally 16 = .ok (.aload_n 0, 1) := by decide +kernel
theorem dX11_repairLocally_17 : decode cX11_repairLocally 17 = .ok (.iload_n 2, 1) := by decide +kernel
theorem dX11_repairLocally_18 : decode cX11_repairLocally 18 = .ok (.invokevirtual 241, 3) := by decide +kernel
theorem dX11_repairLocally_21 : decode cX11_repairLocally 21 = .ok (.istore_n 2, 1) := by decide +kernel
theorem dX11_repairLocally_22 : decode cX11_repairLocally 22 = .ok (.goto (-15), 3) := by decide +kernel
theorem dX11_repairLocally_25 : decode cX11_repairLocally 25 = .ok (.iload_n 2, 1) := by decide +kernel
theorem dX11_repairLocally_26 : decode cX11_repairLocally 26 = .ok (.ireturn, 1) := by decide +kernel
theorem dX11_findLocal_0 : decode cX11_findLocal 0 = .ok (.iload_n 1, 1) := by decide +kernel
theorem dX11_findLocal_1 : decode cX11_findLocal 1 = .ok (.iconst 1, 1) := by decide +kernel
theorem dX11_findLocal_2 : decode cX11_findLocal 2 = .ok (.iconst 5, 1) := by decide +kernel
theorem dX11_findLocal_3 : decode cX11_findLocal 3 = .ok (.invokestatic 58, 3) := by decide +kernel
theorem dX11_findLocal_6 : decode cX11_findLocal 6 = .ok (.ifCond .ne 5, 3) := by decide +kernel
theorem dX11_findLocal_9 : decode cX11_findLocal 9 = .ok (.iconst (-1), 1) := by decide +kernel
theorem dX11_findLocal_10 : decode cX11_findLocal 10 = .ok (.ireturn, 1) := by decide +kernel
theorem dX11_findLocal_11 : decode cX11_findLocal 11 = .ok (.aload_n 0, 1) := by decide +kernel
theorem dX11_findLocal_12 : decode cX11_findLocal 12 = .ok (.iconst 0, 1) := by decide +kernel
theorem dX11_findLocal_13 : decode cX11_findLocal 13 = .ok (.iconst 1, 1) := by decide +kernel
theorem dX11_findLocal_14 : decode cX11_findLocal 14 = .ok (.invokevirtual 160, 3) := by decide +kernel
theorem dX11_findLocal_17 : decode cX11_findLocal 17 = .ok (.istore_n 2, 1) := by decide +kernel
theorem dX11_findLocal_18 : decode cX11_findLocal 18 = .ok (.iload_n 2, 1) := by decide +kernel
theorem dX11_findLocal_19 : decode cX11_findLocal 19 = .ok (.bipush (-9), 2) := by decide +kernel
theorem dX11_findLocal_21 : decode cX11_findLocal 21 = .ok (.if_icmp .ne 6, 3) := by decide +kernel
theorem dX11_findLocal_24 : decode cX11_findLocal 24 = .ok (.bipush (-2), 2) := by decide +kernel
theorem dX11_findLocal_26 : decode cX11_findLocal 26 = .ok (.ireturn, 1) := by decide +kernel
theorem dX11_findLocal_27 : decode cX11_findLocal 27 = .ok (.bipush 96, 2) := by decide +kernel
theorem dX11_findLocal_29 : decode cX11_findLocal 29 = .ok (.iload_n 2, 1) := by decide +kernel
theorem dX11_findLocal_30 : decode cX11_findLocal 30 = .ok (.imul, 1) := by decide +kernel
theorem dX11_findLocal_31 : decode cX11_findLocal 31 = .ok (.aload_n 0, 1) := by decide +kernel
theorem dX11_findLocal_32 : decode cX11_findLocal 32 = .ok (.getfield 148, 3) := by decide +kernel
theorem dX11_findLocal_35 : decode cX11_findLocal 35 = .ok (.iadd, 1) := by decide +kernel
theorem dX11_findLocal_36 : decode cX11_findLocal 36 = .ok (.istore_n 3, 1) := by decide +kernel
theorem dX11_findLocal_37 : decode cX11_findLocal 37 = .ok (.aload_n 0, 1) := by decide +kernel
theorem dX11_findLocal_38 : decode cX11_findLocal 38 = .ok (.iload_n 1, 1) := by decide +kernel
theorem dX11_findLocal_39 : decode cX11_findLocal 39 = .ok (.invokevirtual 244, 3) := by decide +kernel
theorem dX11_findLocal_42 : decode cX11_findLocal 42 = .ok (.aload_n 0, 1) := by decide +kernel
theorem dX11_findLocal_43 : decode cX11_findLocal 43 = .ok (.getfield 37, 3) := by decide +kernel
theorem dX11_findLocal_46 : decode cX11_findLocal 46 = .ok (.iload_n 3, 1) := by decide +kernel
theorem dX11_findLocal_47 : decode cX11_findLocal 47 = .ok (.iaload, 1) := by decide +kernel
theorem dX11_findLocal_48 : decode cX11_findLocal 48 = .ok (.ldc 183, 2) := by decide +kernel
theorem dX11_findLocal_50 : decode cX11_findLocal 50 = .ok (.if_icmp .lt 6, 3) := by decide +kernel
theorem dX11_findLocal_53 : decode cX11_findLocal 53 = .ok (.bipush (-9), 2) := by decide +kernel
theorem dX11_findLocal_55 : decode cX11_findLocal 55 = .ok (.ireturn, 1) := by decide +kernel
theorem dX11_findLocal_56 : decode cX11_findLocal 56 = .ok (.aload_n 0, 1) := by decide +kernel
theorem dX11_findLocal_57 : decode cX11_findLocal 57 = .ok (.iload_n 3, 1) := by decide +kernel
theorem dX11_findLocal_58 : decode cX11_findLocal 58 = .ok (.invokevirtual 247, 3) := by decide +kernel
theorem dX11_findLocal_61 : decode cX11_findLocal 61 = .ok (.istore 4, 2) := by decide +kernel
theorem dX11_findLocal_63 : decode cX11_findLocal 63 = .ok (.aload_n 0, 1) := by decide +kernel
theorem dX11_findLocal_64 : decode cX11_findLocal 64 = .ok (.getfield 37, 3) := by decide +kernel
theorem dX11_findLocal_67 : decode cX11_findLocal 67 = .ok (.iload_n 3, 1) := by decide +kernel
theorem dX11_findLocal_68 : decode cX11_findLocal 68 = .ok (.iaload, 1) := by decide +kernel
theorem dX11_findLocal_69 : decode cX11_findLocal 69 = .ok (.ireturn, 1) := by decide +kernel
theorem dX11_localCost_0 : decode cX11_localCost 0 = .ok (.aload_n 0, 1) := by decide +kernel
theorem dX11_localCost_1 : decode cX11_localCost 1 = .ok (.iload_n 1, 1) := by decide +kernel
theorem dX11_localCost_2 : decode cX11_localCost 2 = .ok (.invokevirtual 250, 3) := by decide +kernel
theorem dX11_localCost_5 : decode cX11_localCost 5 = .ok (.ireturn, 1) := by decide +kernel
theorem dX11_localEntry_0 : decode cX11_localEntry 0 = .ok (.iload_n 2, 1) := by decide +kernel
theorem dX11_localEntry_1 : decode cX11_localEntry 1 = .ok (.ifCond .ge 5, 3) := by decide +kernel
theorem dX11_localEntry_4 : decode cX11_localEntry 4 = .ok (.iconst (-1), 1) := by decide +kernel
theorem dX11_localEntry_5 : decode cX11_localEntry 5 = .ok (.ireturn, 1) := by decide +kernel
theorem dX11_localEntry_6 : decode cX11_localEntry 6 = .ok (.aload_n 0, 1) := by decide +kernel
theorem dX11_localEntry_7 : decode cX11_localEntry 7 = .ok (.iload_n 1, 1) := by decide +kernel
theorem dX11_localEntry_8 : decode cX11_localEntry 8 = .ok (.invokevirtual 250, 3) := by decide +kernel
theorem dX11_localEntry_11 : decode cX11_localEntry 11 = .ok (.istore 4, 2) := by decide +kernel
theorem dX11_localEntry_13 : decode cX11_localEntry 13 = .ok (.iload 4, 2) := by decide +kernel
theorem dX11_localEntry_15 : decode cX11_localEntry 15 = .ok (.ifCond .ge 8, 3) := by decide +kernel
theorem dX11_localEntry_18 : decode cX11_localEntry 18 = .ok (.iload 4, 2) := by decide +kernel
theorem dX11_localEntry_20 : decode cX11_localEntry 20 = .ok (.goto 9, 3) := by decide +kernel
theorem dX11_localEntry_23 : decode cX11_localEntry 23 = .ok (.aload_n 0, 1) := by decide +kernel
theorem dX11_localEntry_24 : decode cX11_localEntry 24 = .ok (.iload_n 2, 1) := by decide +kernel
theorem dX11_localEntry_25 : decode cX11_localEntry 25 = .ok (.iload_n 3, 1) := by decide +kernel
theorem dX11_localEntry_26 : decode cX11_localEntry 26 = .ok (.invokevirtual 224, 3) := by decide +kernel
theorem dX11_localEntry_29 : decode cX11_localEntry 29 = .ok (.ireturn, 1) := by decide +kernel
theorem dX11_localOperation_0 : decode cX11_localOperation 0 = .ok (.aload_n 0, 1) := by decide +kernel
theorem dX11_localOperation_1 : decode cX11_localOperation 1 = .ok (.iload_n 1, 1) := by decide +kernel
theorem dX11_localOperation_2 : decode cX11_localOperation 2 = .ok (.iload_n 2, 1) := by decide +kernel
theorem dX11_localOperation_3 : decode cX11_localOperation 3 = .ok (.iconst 0, 1) := by decide +kernel
theorem dX11_localOperation_4 : decode cX11_localOperation 4 = .ok (.invokevirtual 253, 3) := by decide +kernel
theorem dX11_localOperation_7 : decode cX11_localOperation 7 = .ok (.ireturn, 1) := by decide +kernel
theorem dX11_localKind_0 : decode cX11_localKind 0 = .ok (.aload_n 0, 1) := by decide +kernel
theorem dX11_localKind_1 : decode cX11_localKind 1 = .ok (.iload_n 1, 1) := by decide +kernel
theorem dX11_localKind_2 : decode cX11_localKind 2 = .ok (.iload_n 2, 1) := by decide +kernel
theorem dX11_localKind_3 : decode cX11_localKind 3 = .ok (.iconst 1, 1) := by decide +kernel
theorem dX11_localKind_4 : decode cX11_localKind 4 = .ok (.invokevirtual 253, 3) := by decide +kernel
theorem dX11_localKind_7 : decode cX11_localKind 7 = .ok (.ireturn, 1) := by decide +kernel
theorem dX11_sweepCost_0 : decode cX11_sweepCost 0 = .ok (.iload_n 1, 1) := by decide +kernel
theorem dX11_sweepCost_1 : decode cX11_sweepCost 1 = .ok (.iconst 1, 1) := by decide +kernel
theorem dX11_sweepCost_2 : decode cX11_sweepCost 2 = .ok (.iconst 5, 1) := by decide +kernel
theorem dX11_sweepCost_3 : decode cX11_sweepCost 3 = .ok (.invokestatic 58, 3) := by decide +kernel
theorem dX11_sweepCost_6 : decode cX11_sweepCost 6 = .ok (.ifCond .ne 5, 3) := by decide +kernel
theorem dX11_sweepCost_9 : decode cX11_sweepCost 9 = .ok (.iconst (-1), 1) := by decide +kernel
theorem dX11_sweepCost_10 : decode cX11_sweepCost 10 = .ok (.ireturn, 1) := by decide +kernel
theorem dX11_sweepCost_11 : decode cX11_sweepCost 11 = .ok (.aload_n 0, 1) := by decide +kernel
theorem dX11_sweepCost_12 : decode cX11_sweepCost 12 = .ok (.iload_n 1, 1) := by decide +kernel
theorem dX11_sweepCost_13 : decode cX11_sweepCost 13 = .ok (.invokevirtual 244, 3) := by decide +kernel
theorem dX11_sweepCost_16 : decode cX11_sweepCost 16 = .ok (.iconst 0, 1) := by decide +kernel
theorem dX11_sweepCost_17 : decode cX11_sweepCost 17 = .ok (.istore_n 2, 1) := by decide +kernel
theorem dX11_sweepCost_18 : decode cX11_sweepCost 18 = .ok (.aload_n 0, 1) := by decide +kernel
theorem dX11_sweepCost_19 : decode cX11_sweepCost 19 = .ok (.iconst 0, 1) := by decide +kernel
theorem dX11_sweepCost_20 : decode cX11_sweepCost 20 = .ok (.iconst 1, 1) := by decide +kernel
theorem dX11_sweepCost_21 : decode cX11_sweepCost 21 = .ok (.invokevirtual 160, 3) := by decide +kernel
theorem dX11_sweepCost_24 : decode cX11_sweepCost 24 = .ok (.istore_n 3, 1) := by decide +kernel
theorem dX11_sweepCost_25 : decode cX11_sweepCost 25 = .ok (.iload_n 3, 1) := by decide +kernel
theorem dX11_sweepCost_26 : decode cX11_sweepCost 26 = .ok (.bipush (-9), 2) := by decide +kernel
theorem dX11_sweepCost_28 : decode cX11_sweepCost 28 = .ok (.if_icmp .eq 65, 3) := by decide +kernel
theorem dX11_sweepCost_31 : decode cX11_sweepCost 31 = .ok (.bipush 96, 2) := by decide +kernel
theorem dX11_sweepCost_33 : decode cX11_sweepCost 33 = .ok (.iload_n 3, 1) := by decide +kernel
theorem dX11_sweepCost_34 : decode cX11_sweepCost 34 = .ok (.imul, 1) := by decide +kernel
theorem dX11_sweepCost_35 : decode cX11_sweepCost 35 = .ok (.aload_n 0, 1) := by decide +kernel
theorem dX11_sweepCost_36 : decode cX11_sweepCost 36 = .ok (.getfield 148, 3) := by decide +kernel
theorem dX11_sweepCost_39 : decode cX11_sweepCost 39 = .ok (.iadd, 1) := by decide +kernel
theorem dX11_sweepCost_40 : decode cX11_sweepCost 40 = .ok (.istore 4, 2) := by decide +kernel
theorem dX11_sweepCost_42 : decode cX11_sweepCost 42 = .ok (.aload_n 0, 1) := by decide +kernel
theorem dX11_sweepCost_43 : decode cX11_sweepCost 43 = .ok (.getfield 37, 3) := by decide +kernel
theorem dX11_sweepCost_46 : decode cX11_sweepCost 46 = .ok (.iload 4, 2) := by decide +kernel
theorem dX11_sweepCost_48 : decode cX11_sweepCost 48 = .ok (.iaload, 1) := by decide +kernel
theorem dX11_sweepCost_49 : decode cX11_sweepCost 49 = .ok (.ldc 183, 2) := by decide +kernel
theorem dX11_sweepCost_51 : decode cX11_sweepCost 51 = .ok (.if_icmp .lt 6, 3) := by decide +kernel
theorem dX11_sweepCost_54 : decode cX11_sweepCost 54 = .ok (.bipush (-9), 2) := by decide +kernel
theorem dX11_sweepCost_56 : decode cX11_sweepCost 56 = .ok (.ireturn, 1) := by decide +kernel
theorem dX11_sweepCost_57 : decode cX11_sweepCost 57 = .ok (.iload_n 2, 1) := by decide +kernel
theorem dX11_sweepCost_58 : decode cX11_sweepCost 58 = .ok (.aload_n 0, 1) := by decide +kernel
theorem dX11_sweepCost_59 : decode cX11_sweepCost 59 = .ok (.getfield 37, 3) := by decide +kernel
theorem dX11_sweepCost_62 : decode cX11_sweepCost 62 = .ok (.iload 4, 2) := by decide +kernel
theorem dX11_sweepCost_64 : decode cX11_sweepCost 64 = .ok (.iaload, 1) := by decide +kernel
theorem dX11_sweepCost_65 : decode cX11_sweepCost 65 = .ok (.iadd, 1) := by decide +kernel
theorem dX11_sweepCost_66 : decode cX11_sweepCost 66 = .ok (.istore_n 2, 1) := by decide +kernel
theorem dX11_sweepCost_67 : decode cX11_sweepCost 67 = .ok (.aload_n 0, 1) := by decide +kernel
theorem dX11_sweepCost_68 : decode cX11_sweepCost 68 = .ok (.iload 4, 2) := by decide +kernel
theorem dX11_sweepCost_70 : decode cX11_sweepCost 70 = .ok (.invokevirtual 247, 3) := by decide +kernel
theorem dX11_sweepCost_73 : decode cX11_sweepCost 73 = .ok (.istore 5, 2) := by decide +kernel
theorem dX11_sweepCost_75 : decode cX11_sweepCost 75 = .ok (.aload_n 0, 1) := by decide +kernel
theorem dX11_sweepCost_76 : decode cX11_sweepCost 76 = .ok (.iload 5, 2) := by decide +kernel
theorem dX11_sweepCost_78 : decode cX11_sweepCost 78 = .ok (.bipush 96, 2) := by decide +kernel
theorem dX11_sweepCost_80 : decode cX11_sweepCost 80 = .ok (.idiv, 1) := by decide +kernel
theorem dX11_sweepCost_81 : decode cX11_sweepCost 81 = .ok (.iload 5, 2) := by decide +kernel
theorem dX11_sweepCost_83 : decode cX11_sweepCost 83 = .ok (.bipush 96, 2) := by decide +kernel
theorem dX11_sweepCost_85 : decode cX11_sweepCost 85 = .ok (.irem, 1) := by decide +kernel
theorem dX11_sweepCost_86 : decode cX11_sweepCost 86 = .ok (.invokevirtual 160, 3) := by decide +kernel
theorem dX11_sweepCost_89 : decode cX11_sweepCost 89 = .ok (.istore_n 3, 1) := by decide +kernel
theorem dX11_sweepCost_90 : decode cX11_sweepCost 90 = .ok (.goto (-65), 3) := by decide +kernel
theorem dX11_sweepCost_93 : decode cX11_sweepCost 93 = .ok (.iload_n 2, 1) := by decide +kernel
theorem dX11_sweepCost_94 : decode cX11_sweepCost 94 = .ok (.ireturn, 1) := by decide +kernel
theorem dX11_undoCount_0 : decode cX11_undoCount 0 = .ok (.aload_n 0, 1) := by decide +kernel
theorem dX11_undoCount_1 : decode cX11_undoCount 1 = .ok (.getfield 44, 3) := by decide +kernel
theorem dX11_undoCount_4 : decode cX11_undoCount 4 = .ok (.ireturn, 1) := by decide +kernel
theorem dJ0_length_8abf5_0 : decode cJ0_length_8abf5 0 = .ok (.aload_n 0, 1) := by decide +kernel
theorem dJ0_length_8abf5_1 : decode cJ0_length_8abf5 1 = .ok (.getfield 9, 3) := by decide +kernel
theorem dJ0_length_8abf5_4 : decode cJ0_length_8abf5 4 = .ok (.arraylength, 1) := by decide +kernel
theorem dJ0_length_8abf5_5 : decode cJ0_length_8abf5 5 = .ok (.aload_n 0, 1) := by decide +kernel
theorem dJ0_length_8abf5_6 : decode cJ0_length_8abf5 6 = .ok (.invokevirtual 335, 3) := by decide +kernel
theorem dJ0_length_8abf5_9 : decode cJ0_length_8abf5 9 = .ok (.ishr, 1) := by decide +kernel
theorem dJ0_length_8abf5_10 : decode cJ0_length_8abf5 10 = .ok (.ireturn, 1) := by decide +kernel
theorem dJ0_charAt_5068e_0 : decode cJ0_charAt_5068e 0 = .ok (.aload_n 0, 1) := by decide +kernel
theorem dJ0_charAt_5068e_1 : decode cJ0_charAt_5068e 1 = .ok (.invokevirtual 492, 3) := by decide +kernel
theorem dJ0_charAt_5068e_4 : decode cJ0_charAt_5068e 4 = .ok (.ifCond .eq 12, 3) := by decide +kernel
theorem dJ0_charAt_5068e_7 : decode cJ0_charAt_5068e 7 = .ok (.aload_n 0, 1) := by decide +kernel
theorem dJ0_charAt_5068e_8 : decode cJ0_charAt_5068e 8 = .ok (.getfield 9, 3) := by decide +kernel
theorem dJ0_charAt_5068e_11 : decode cJ0_charAt_5068e 11 = .ok (.iload_n 1, 1) := by decide +kernel
theorem dJ0_charAt_5068e_12 : decode cJ0_charAt_5068e 12 = .ok (.invokestatic 495, 3) := by decide +kernel
theorem dJ0_charAt_5068e_15 : decode cJ0_charAt_5068e 15 = .ok (.ireturn, 1) := by decide +kernel
theorem dJ0_charAt_5068e_16 : decode cJ0_charAt_5068e 16 = .ok (.aload_n 0, 1) := by decide +kernel
theorem dJ0_charAt_5068e_17 : decode cJ0_charAt_5068e 17 = .ok (.getfield 9, 3) := by decide +kernel
theorem dJ0_charAt_5068e_20 : decode cJ0_charAt_5068e 20 = .ok (.iload_n 1, 1) := by decide +kernel
theorem dJ0_charAt_5068e_21 : decode cJ0_charAt_5068e 21 = .ok (.invokestatic 498, 3) := by decide +kernel
theorem dJ0_charAt_5068e_24 : decode cJ0_charAt_5068e 24 = .ok (.ireturn, 1) := by decide +kernel
theorem dJ0_coder_7d493_0 : decode cJ0_coder_7d493 0 = .ok (.getstatic 38, 3) := by decide +kernel
theorem dJ0_coder_7d493_3 : decode cJ0_coder_7d493 3 = .ok (.ifCond .eq 10, 3) := by decide +kernel
theorem dJ0_coder_7d493_6 : decode cJ0_coder_7d493 6 = .ok (.aload_n 0, 1) := by decide +kernel
theorem dJ0_coder_7d493_7 : decode cJ0_coder_7d493 7 = .ok (.getfield 15, 3) := by decide +kernel
theorem dJ0_coder_7d493_10 : decode cJ0_coder_7d493 10 = .ok (.goto 4, 3) := by decide +kernel
theorem dJ0_coder_7d493_13 : decode cJ0_coder_7d493 13 = .ok (.iconst 1, 1) := by decide +kernel
theorem dJ0_coder_7d493_14 : decode cJ0_coder_7d493 14 = .ok (.ireturn, 1) := by decide +kernel
theorem dJ0_isLatin1_aae02_0 : decode cJ0_isLatin1_aae02 0 = .ok (.getstatic 38, 3) := by decide +kernel
theorem dJ0_isLatin1_aae02_3 : decode cJ0_isLatin1_aae02 3 = .ok (.ifCond .eq 14, 3) := by decide +kernel
theorem dJ0_isLatin1_aae02_6 : decode cJ0_isLatin1_aae02 6 = .ok (.aload_n 0, 1) := by decide +kernel
theorem dJ0_isLatin1_aae02_7 : decode cJ0_isLatin1_aae02 7 = .ok (.getfield 15, 3) := by decide +kernel
theorem dJ0_isLatin1_aae02_10 : decode cJ0_isLatin1_aae02 10 = .ok (.ifCond .ne 7, 3) := by decide +kernel
theorem dJ0_isLatin1_aae02_13 : decode cJ0_isLatin1_aae02 13 = .ok (.iconst 1, 1) := by decide +kernel
theorem dJ0_isLatin1_aae02_14 : decode cJ0_isLatin1_aae02 14 = .ok (.goto 4, 3) := by decide +kernel
theorem dJ0_isLatin1_aae02_17 : decode cJ0_isLatin1_aae02 17 = .ok (.iconst 0, 1) := by decide +kernel
theorem dJ0_isLatin1_aae02_18 : decode cJ0_isLatin1_aae02 18 = .ok (.ireturn, 1) := by decide +kernel
theorem dJ0_checkIndex_df160_0 : decode cJ0_checkIndex_df160 0 = .ok (.iload_n 0, 1) := by decide +kernel
theorem dJ0_checkIndex_df160_1 : decode cJ0_checkIndex_df160 1 = .ok (.iload_n 1, 1) := by decide +kernel
theorem dJ0_checkIndex_df160_2 : decode cJ0_checkIndex_df160 2 = .ok (.getstatic 1053, 3) := by decide +kernel
theorem dJ0_checkIndex_df160_5 : decode cJ0_checkIndex_df160 5 = .ok (.invokestatic 1059, 3) := by decide +kernel
theorem dJ0_checkIndex_df160_8 : decode cJ0_checkIndex_df160 8 = .ok (.pop, 1) := by decide +kernel
theorem dJ0_checkIndex_df160_9 : decode cJ0_checkIndex_df160 9 = .ok (.return_, 1) := by decide +kernel
theorem dJ1_charAt_3b067_0 : decode cJ1_charAt_3b067 0 = .ok (.iload_n 1, 1) := by decide +kernel
theorem dJ1_charAt_3b067_1 : decode cJ1_charAt_3b067 1 = .ok (.aload_n 0, 1) := by decide +kernel
theorem dJ1_charAt_3b067_2 : decode cJ1_charAt_3b067 2 = .ok (.arraylength, 1) := by decide +kernel
theorem dJ1_charAt_3b067_3 : decode cJ1_charAt_3b067 3 = .ok (.invokestatic 9, 3) := by decide +kernel
theorem dJ1_charAt_3b067_6 : decode cJ1_charAt_3b067 6 = .ok (.aload_n 0, 1) := by decide +kernel
theorem dJ1_charAt_3b067_7 : decode cJ1_charAt_3b067 7 = .ok (.iload_n 1, 1) := by decide +kernel
theorem dJ1_charAt_3b067_8 : decode cJ1_charAt_3b067 8 = .ok (.baload, 1) := by decide +kernel
theorem dJ1_charAt_3b067_9 : decode cJ1_charAt_3b067 9 = .ok (.sipush 255, 3) := by decide +kernel
theorem dJ1_charAt_3b067_12 : decode cJ1_charAt_3b067 12 = .ok (.iand, 1) := by decide +kernel
theorem dJ1_charAt_3b067_13 : decode cJ1_charAt_3b067 13 = .ok (.i2c, 1) := by decide +kernel
theorem dJ1_charAt_3b067_14 : decode cJ1_charAt_3b067 14 = .ok (.ireturn, 1) := by decide +kernel
theorem dJ3_checkIndex_8e157_0 : decode cJ3_checkIndex_8e157 0 = .ok (.iload_n 0, 1) := by decide +kernel
theorem dJ3_checkIndex_8e157_1 : decode cJ3_checkIndex_8e157 1 = .ok (.ifCond .lt 8, 3) := by decide +kernel
theorem dJ3_checkIndex_8e157_4 : decode cJ3_checkIndex_8e157 4 = .ok (.iload_n 0, 1) := by decide +kernel
theorem dJ3_checkIndex_8e157_5 : decode cJ3_checkIndex_8e157 5 = .ok (.iload_n 1, 1) := by decide +kernel
theorem dJ3_checkIndex_8e157_6 : decode cJ3_checkIndex_8e157 6 = .ok (.if_icmp .lt 10, 3) := by decide +kernel
theorem dJ3_checkIndex_8e157_9 : decode cJ3_checkIndex_8e157 9 = .ok (.aload_n 2, 1) := by decide +kernel
theorem dJ3_checkIndex_8e157_10 : decode cJ3_checkIndex_8e157 10 = .ok (.iload_n 0, 1) := by decide +kernel
theorem dJ3_checkIndex_8e157_11 : decode cJ3_checkIndex_8e157 11 = .ok (.iload_n 1, 1) := by decide +kernel
theorem dJ3_checkIndex_8e157_12 : decode cJ3_checkIndex_8e157 12 = .ok (.invokestatic 95, 3) := by decide +kernel
theorem dJ3_checkIndex_8e157_15 : decode cJ3_checkIndex_8e157 15 = .ok (.athrow, 1) := by decide +kernel
theorem dJ3_checkIndex_8e157_16 : decode cJ3_checkIndex_8e157 16 = .ok (.iload_n 0, 1) := by decide +kernel
theorem dJ3_checkIndex_8e157_17 : decode cJ3_checkIndex_8e157 17 = .ok (.ireturn, 1) := by decide +kernel
theorem dL_law_0 : decode cL_law 0 = .ok (.new 7, 3) := by decide +kernel
theorem dL_law_3 : decode cL_law 3 = .ok (.dup, 1) := by decide +kernel
theorem dL_law_4 : decode cL_law 4 = .ok (.invokespecial 9, 3) := by decide +kernel
theorem dL_law_7 : decode cL_law 7 = .ok (.astore_n 1, 1) := by decide +kernel
theorem dL_law_8 : decode cL_law 8 = .ok (.new 10, 3) := by decide +kernel
theorem dL_law_11 : decode cL_law 11 = .ok (.dup, 1) := by decide +kernel
theorem dL_law_12 : decode cL_law 12 = .ok (.invokespecial 12, 3) := by decide +kernel
theorem dL_law_15 : decode cL_law 15 = .ok (.astore_n 2, 1) := by decide +kernel
theorem dL_law_16 : decode cL_law 16 = .ok (.iconst 0, 1) := by decide +kernel
theorem dL_law_17 : decode cL_law 17 = .ok (.istore_n 3, 1) := by decide +kernel
theorem dL_law_18 : decode cL_law 18 = .ok (.iload_n 3, 1) := by decide +kernel
theorem dL_law_19 : decode cL_law 19 = .ok (.aload_n 0, 1) := by decide +kernel
theorem dL_law_20 : decode cL_law 20 = .ok (.arraylength, 1) := by decide +kernel
theorem dL_law_21 : decode cL_law 21 = .ok (.iconst 3, 1) := by decide +kernel
theorem dL_law_22 : decode cL_law 22 = .ok (.isub, 1) := by decide +kernel
theorem dL_law_23 : decode cL_law 23 = .ok (.if_icmp .gt 845, 3) := by decide +kernel
theorem dL_law_26 : decode cL_law 26 = .ok (.aload_n 0, 1) := by decide +kernel
theorem dL_law_27 : decode cL_law 27 = .ok (.iload_n 3, 1) := by decide +kernel
theorem dL_law_28 : decode cL_law 28 = .ok (.iaload, 1) := by decide +kernel
theorem dL_law_29 : decode cL_law 29 = .ok (.bipush 31, 2) := by decide +kernel
theorem dL_law_31 : decode cL_law 31 = .ok (.iand, 1) := by decide +kernel
theorem dL_law_32 : decode cL_law 32 = .ok (.tableswitch 830 0 31 #[144, 167, 180, 193, 216, 249, 272, 285, 318, 351, 384, 397, 410, 433, 446, 459, 482, 495, 518, 541, 554, 567, 580, 593, 616, 649, 682, 705, 728, 761, 794, 817], 144) := by decide +kernel
theorem dL_law_176 : decode cL_law 176 = .ok (.aload_n 1, 1) := by decide +kernel
theorem dL_law_177 : decode cL_law 177 = .ok (.aload_n 0, 1) := by decide +kernel
theorem dL_law_178 : decode cL_law 178 = .ok (.iload_n 3, 1) := by decide +kernel
theorem dL_law_179 : decode cL_law 179 = .ok (.iconst 1, 1) := by decide +kernel
theorem dL_law_180 : decode cL_law 180 = .ok (.iadd, 1) := by decide +kernel
theorem dL_law_181 : decode cL_law 181 = .ok (.iaload, 1) := by decide +kernel
theorem dL_law_182 : decode cL_law 182 = .ok (.invokevirtual 13, 3) := by decide +kernel
theorem dL_law_185 : decode cL_law 185 = .ok (.aload_n 2, 1) := by decide +kernel
theorem dL_law_186 : decode cL_law 186 = .ok (.aload_n 0, 1) := by decide +kernel
theorem dL_law_187 : decode cL_law 187 = .ok (.iload_n 3, 1) := by decide +kernel
theorem dL_law_188 : decode cL_law 188 = .ok (.iconst 1, 1) := by decide +kernel
theorem dL_law_189 : decode cL_law 189 = .ok (.iadd, 1) := by decide +kernel
theorem dL_law_190 : decode cL_law 190 = .ok (.iaload, 1) := by decide +kernel
theorem dL_law_191 : decode cL_law 191 = .ok (.invokevirtual 17, 3) := by decide +kernel
theorem dL_law_194 : decode cL_law 194 = .ok (.if_icmp .eq 668, 3) := by decide +kernel
theorem dL_law_197 : decode cL_law 197 = .ok (.iconst 0, 1) := by decide +kernel
theorem dL_law_198 : decode cL_law 198 = .ok (.ireturn, 1) := by decide +kernel
theorem dL_law_199 : decode cL_law 199 = .ok (.aload_n 1, 1) := by decide +kernel
theorem dL_law_200 : decode cL_law 200 = .ok (.invokevirtual 18, 3) := by decide +kernel
theorem dL_law_203 : decode cL_law 203 = .ok (.aload_n 2, 1) := by decide +kernel
theorem dL_law_204 : decode cL_law 204 = .ok (.invokevirtual 22, 3) := by decide +kernel
theorem dL_law_207 : decode cL_law 207 = .ok (.if_icmp .eq 655, 3) := by decide +kernel
theorem dL_law_210 : decode cL_law 210 = .ok (.iconst 0, 1) := by decide +kernel
theorem dL_law_211 : decode cL_law 211 = .ok (.ireturn, 1) := by decide +kernel
theorem dL_law_212 : decode cL_law 212 = .ok (.aload_n 1, 1) := by decide +kernel
theorem dL_law_213 : decode cL_law 213 = .ok (.invokevirtual 23, 3) := by decide +kernel
theorem dL_law_216 : decode cL_law 216 = .ok (.aload_n 2, 1) := by decide +kernel
theorem dL_law_217 : decode cL_law 217 = .ok (.invokevirtual 26, 3) := by decide +kernel
theorem dL_law_220 : decode cL_law 220 = .ok (.if_icmp .eq 642, 3) := by decide +kernel
theorem dL_law_223 : decode cL_law 223 = .ok (.iconst 0, 1) := by decide +kernel
theorem dL_law_224 : decode cL_law 224 = .ok (.ireturn, 1) := by decide +kernel
theorem dL_law_225 : decode cL_law 225 = .ok (.aload_n 1, 1) := by decide +kernel
theorem dL_law_226 : decode cL_law 226 = .ok (.aload_n 0, 1) := by decide +kernel
theorem dL_law_227 : decode cL_law 227 = .ok (.iload_n 3, 1) := by decide +kernel
theorem dL_law_228 : decode cL_law 228 = .ok (.iconst 1, 1) := by decide +kernel
theorem dL_law_229 : decode cL_law 229 = .ok (.iadd, 1) := by decide +kernel
theorem dL_law_230 : decode cL_law 230 = .ok (.iaload, 1) := by decide +kernel
theorem dL_law_231 : decode cL_law 231 = .ok (.invokevirtual 27, 3) := by decide +kernel
theorem dL_law_234 : decode cL_law 234 = .ok (.aload_n 2, 1) := by decide +kernel
theorem dL_law_235 : decode cL_law 235 = .ok (.aload_n 0, 1) := by decide +kernel
theorem dL_law_236 : decode cL_law 236 = .ok (.iload_n 3, 1) := by decide +kernel
theorem dL_law_237 : decode cL_law 237 = .ok (.iconst 1, 1) := by decide +kernel
theorem dL_law_238 : decode cL_law 238 = .ok (.iadd, 1) := by decide +kernel
theorem dL_law_239 : decode cL_law 239 = .ok (.iaload, 1) := by decide +kernel
theorem dL_law_240 : decode cL_law 240 = .ok (.invokevirtual 30, 3) := by decide +kernel
theorem dL_law_243 : decode cL_law 243 = .ok (.if_icmp .eq 619, 3) := by decide +kernel
theorem dL_law_246 : decode cL_law 246 = .ok (.iconst 0, 1) := by decide +kernel
theorem dL_law_247 : decode cL_law 247 = .ok (.ireturn, 1) := by decide +kernel
theorem dL_law_248 : decode cL_law 248 = .ok (.aload_n 1, 1) := by decide +kernel
theorem dL_law_249 : decode cL_law 249 = .ok (.aload_n 0, 1) := by decide +kernel
theorem dL_law_250 : decode cL_law 250 = .ok (.iload_n 3, 1) := by decide +kernel
theorem dL_law_251 : decode cL_law 251 = .ok (.iconst 1, 1) := by decide +kernel
theorem dL_law_252 : decode cL_law 252 = .ok (.iadd, 1) := by decide +kernel
theorem dL_law_253 : decode cL_law 253 = .ok (.iaload, 1) := by decide +kernel
theorem dL_law_254 : decode cL_law 254 = .ok (.aload_n 0, 1) := by decide +kernel
theorem dL_law_255 : decode cL_law 255 = .ok (.iload_n 3, 1) := by decide +kernel
theorem dL_law_256 : decode cL_law 256 = .ok (.iconst 2, 1) := by decide +kernel
theorem dL_law_257 : decode cL_law 257 = .ok (.iadd, 1) := by decide +kernel
theorem dL_law_258 : decode cL_law 258 = .ok (.iaload, 1) := by decide +kernel
theorem dL_law_259 : decode cL_law 259 = .ok (.invokevirtual 31, 3) := by decide +kernel
theorem dL_law_262 : decode cL_law 262 = .ok (.aload_n 2, 1) := by decide +kernel
theorem dL_law_263 : decode cL_law 263 = .ok (.aload_n 0, 1) := by decide +kernel
theorem dL_law_264 : decode cL_law 264 = .ok (.iload_n 3, 1) := by decide +kernel
theorem dL_law_265 : decode cL_law 265 = .ok (.iconst 1, 1) := by decide +kernel
theorem dL_law_266 : decode cL_law 266 = .ok (.iadd, 1) := by decide +kernel
theorem dL_law_267 : decode cL_law 267 = .ok (.iaload, 1) := by decide +kernel
theorem dL_law_268 : decode cL_law 268 = .ok (.aload_n 0, 1) := by decide +kernel
theorem dL_law_269 : decode cL_law 269 = .ok (.iload_n 3, 1) := by decide +kernel
theorem dL_law_270 : decode cL_law 270 = .ok (.iconst 2, 1) := by decide +kernel
theorem dL_law_271 : decode cL_law 271 = .ok (.iadd, 1) := by decide +kernel
theorem dL_law_272 : decode cL_law 272 = .ok (.iaload, 1) := by decide +kernel
theorem dL_law_273 : decode cL_law 273 = .ok (.invokevirtual 35, 3) := by decide +kernel
theorem dL_law_276 : decode cL_law 276 = .ok (.if_icmp .eq 586, 3) := by decide +kernel
theorem dL_law_279 : decode cL_law 279 = .ok (.iconst 0, 1) := by decide +kernel
theorem dL_law_280 : decode cL_law 280 = .ok (.ireturn, 1) := by decide +kernel
theorem dL_law_281 : decode cL_law 281 = .ok (.aload_n 1, 1) := by decide +kernel
theorem dL_law_282 : decode cL_law 282 = .ok (.aload_n 0, 1) := by decide +kernel
theorem dL_law_283 : decode cL_law 283 = .ok (.iload_n 3, 1) := by decide +kernel
theorem dL_law_284 : decode cL_law 284 = .ok (.iconst 1, 1) := by decide +kernel
theorem dL_law_285 : decode cL_law 285 = .ok (.iadd, 1) := by decide +kernel
theorem dL_law_286 : decode cL_law 286 = .ok (.iaload, 1) := by decide +kernel
theorem dL_law_287 : decode cL_law 287 = .ok (.invokevirtual 36, 3) := by decide +kernel
theorem dL_law_290 : decode cL_law 290 = .ok (.aload_n 2, 1) := by decide +kernel
theorem dL_law_291 : decode cL_law 291 = .ok (.aload_n 0, 1) := by decide +kernel
theorem dL_law_292 : decode cL_law 292 = .ok (.iload_n 3, 1) := by decide +kernel
theorem dL_law_293 : decode cL_law 293 = .ok (.iconst 1, 1) := by decide +kernel
theorem dL_law_294 : decode cL_law 294 = .ok (.iadd, 1) := by decide +kernel
theorem dL_law_295 : decode cL_law 295 = .ok (.iaload, 1) := by decide +kernel
theorem dL_law_296 : decode cL_law 296 = .ok (.invokevirtual 39, 3) := by decide +kernel
theorem dL_law_299 : decode cL_law 299 = .ok (.if_icmp .eq 563, 3) := by decide +kernel
theorem dL_law_302 : decode cL_law 302 = .ok (.iconst 0, 1) := by decide +kernel
theorem dL_law_303 : decode cL_law 303 = .ok (.ireturn, 1) := by decide +kernel
theorem dL_law_304 : decode cL_law 304 = .ok (.aload_n 1, 1) := by decide +kernel
theorem dL_law_305 : decode cL_law 305 = .ok (.invokevirtual 40, 3) := by decide +kernel
theorem dL_law_308 : decode cL_law 308 = .ok (.aload_n 2, 1) := by decide +kernel
theorem dL_law_309 : decode cL_law 309 = .ok (.invokevirtual 43, 3) := by decide +kernel
theorem dL_law_312 : decode cL_law 312 = .ok (.if_icmp .eq 550, 3) := by decide +kernel
theorem dL_law_315 : decode cL_law 315 = .ok (.iconst 0, 1) := by decide +kernel
theorem dL_law_316 : decode cL_law 316 = .ok (.ireturn, 1) := by decide +kernel
theorem dL_law_317 : decode cL_law 317 = .ok (.aload_n 1, 1) := by decide +kernel
theorem dL_law_318 : decode cL_law 318 = .ok (.aload_n 0, 1) := by decide +kernel
theorem dL_law_319 : decode cL_law 319 = .ok (.iload_n 3, 1) := by decide +kernel
theorem dL_law_320 : decode cL_law 320 = .ok (.iconst 1, 1) := by decide +kernel
theorem dL_law_321 : decode cL_law 321 = .ok (.iadd, 1) := by decide +kernel
theorem dL_law_322 : decode cL_law 322 = .ok (.iaload, 1) := by decide +kernel
theorem dL_law_323 : decode cL_law 323 = .ok (.aload_n 0, 1) := by decide +kernel
theorem dL_law_324 : decode cL_law 324 = .ok (.iload_n 3, 1) := by decide +kernel
theorem dL_law_325 : decode cL_law 325 = .ok (.iconst 2, 1) := by decide +kernel
theorem dL_law_326 : decode cL_law 326 = .ok (.iadd, 1) := by decide +kernel
theorem dL_law_327 : decode cL_law 327 = .ok (.iaload, 1) := by decide +kernel
theorem dL_law_328 : decode cL_law 328 = .ok (.invokevirtual 44, 3) := by decide +kernel
theorem dL_law_331 : decode cL_law 331 = .ok (.aload_n 2, 1) := by decide +kernel
theorem dL_law_332 : decode cL_law 332 = .ok (.aload_n 0, 1) := by decide +kernel
theorem dL_law_333 : decode cL_law 333 = .ok (.iload_n 3, 1) := by decide +kernel
theorem dL_law_334 : decode cL_law 334 = .ok (.iconst 1, 1) := by decide +kernel
theorem dL_law_335 : decode cL_law 335 = .ok (.iadd, 1) := by decide +kernel
theorem dL_law_336 : decode cL_law 336 = .ok (.iaload, 1) := by decide +kernel
theorem dL_law_337 : decode cL_law 337 = .ok (.aload_n 0, 1) := by decide +kernel
theorem dL_law_338 : decode cL_law 338 = .ok (.iload_n 3, 1) := by decide +kernel
theorem dL_law_339 : decode cL_law 339 = .ok (.iconst 2, 1) := by decide +kernel
theorem dL_law_340 : decode cL_law 340 = .ok (.iadd, 1) := by decide +kernel
theorem dL_law_341 : decode cL_law 341 = .ok (.iaload, 1) := by decide +kernel
theorem dL_law_342 : decode cL_law 342 = .ok (.invokevirtual 47, 3) := by decide +kernel
theorem dL_law_345 : decode cL_law 345 = .ok (.if_icmp .eq 517, 3) := by decide +kernel
theorem dL_law_348 : decode cL_law 348 = .ok (.iconst 0, 1) := by decide +kernel
theorem dL_law_349 : decode cL_law 349 = .ok (.ireturn, 1) := by decide +kernel
theorem dL_law_350 : decode cL_law 350 = .ok (.aload_n 1, 1) := by decide +kernel
theorem dL_law_351 : decode cL_law 351 = .ok (.aload_n 0, 1) := by decide +kernel
theorem dL_law_352 : decode cL_law 352 = .ok (.iload_n 3, 1) := by decide +kernel
theorem dL_law_353 : decode cL_law 353 = .ok (.iconst 1, 1) := by decide +kernel
theorem dL_law_354 : decode cL_law 354 = .ok (.iadd, 1) := by decide +kernel
theorem dL_law_355 : decode cL_law 355 = .ok (.iaload, 1) := by decide +kernel
theorem dL_law_356 : decode cL_law 356 = .ok (.aload_n 0, 1) := by decide +kernel
theorem dL_law_357 : decode cL_law 357 = .ok (.iload_n 3, 1) := by decide +kernel
theorem dL_law_358 : decode cL_law 358 = .ok (.iconst 2, 1) := by decide +kernel
theorem dL_law_359 : decode cL_law 359 = .ok (.iadd, 1) := by decide +kernel
theorem dL_law_360 : decode cL_law 360 = .ok (.iaload, 1) := by decide +kernel
theorem dL_law_361 : decode cL_law 361 = .ok (.invokevirtual 48, 3) := by decide +kernel
theorem dL_law_364 : decode cL_law 364 = .ok (.aload_n 2, 1) := by decide +kernel
theorem dL_law_365 : decode cL_law 365 = .ok (.aload_n 0, 1) := by decide +kernel
theorem dL_law_366 : decode cL_law 366 = .ok (.iload_n 3, 1) := by decide +kernel
theorem dL_law_367 : decode cL_law 367 = .ok (.iconst 1, 1) := by decide +kernel
theorem dL_law_368 : decode cL_law 368 = .ok (.iadd, 1) := by decide +kernel
theorem dL_law_369 : decode cL_law 369 = .ok (.iaload, 1) := by decide +kernel
theorem dL_law_370 : decode cL_law 370 = .ok (.aload_n 0, 1) := by decide +kernel
theorem dL_law_371 : decode cL_law 371 = .ok (.iload_n 3, 1) := by decide +kernel
theorem dL_law_372 : decode cL_law 372 = .ok (.iconst 2, 1) := by decide +kernel
theorem dL_law_373 : decode cL_law 373 = .ok (.iadd, 1) := by decide +kernel
theorem dL_law_374 : decode cL_law 374 = .ok (.iaload, 1) := by decide +kernel
theorem dL_law_375 : decode cL_law 375 = .ok (.invokevirtual 51, 3) := by decide +kernel
theorem dL_law_378 : decode cL_law 378 = .ok (.if_icmp .eq 484, 3) := by decide +kernel
theorem dL_law_381 : decode cL_law 381 = .ok (.iconst 0, 1) := by decide +kernel
theorem dL_law_382 : decode cL_law 382 = .ok (.ireturn, 1) := by decide +kernel
theorem dL_law_383 : decode cL_law 383 = .ok (.aload_n 1, 1) := by decide +kernel
theorem dL_law_384 : decode cL_law 384 = .ok (.aload_n 0, 1) := by decide +kernel
theorem dL_law_385 : decode cL_law 385 = .ok (.iload_n 3, 1) := by decide +kernel
theorem dL_law_386 : decode cL_law 386 = .ok (.iconst 1, 1) := by decide +kernel
theorem dL_law_387 : decode cL_law 387 = .ok (.iadd, 1) := by decide +kernel
theorem dL_law_388 : decode cL_law 388 = .ok (.iaload, 1) := by decide +kernel
theorem dL_law_389 : decode cL_law 389 = .ok (.aload_n 0, 1) := by decide +kernel
theorem dL_law_390 : decode cL_law 390 = .ok (.iload_n 3, 1) := by decide +kernel
theorem dL_law_391 : decode cL_law 391 = .ok (.iconst 2, 1) := by decide +kernel
theorem dL_law_392 : decode cL_law 392 = .ok (.iadd, 1) := by decide +kernel
theorem dL_law_393 : decode cL_law 393 = .ok (.iaload, 1) := by decide +kernel
theorem dL_law_394 : decode cL_law 394 = .ok (.invokevirtual 52, 3) := by decide +kernel
theorem dL_law_397 : decode cL_law 397 = .ok (.aload_n 2, 1) := by decide +kernel
theorem dL_law_398 : decode cL_law 398 = .ok (.aload_n 0, 1) := by decide +kernel
theorem dL_law_399 : decode cL_law 399 = .ok (.iload_n 3, 1) := by decide +kernel
theorem dL_law_400 : decode cL_law 400 = .ok (.iconst 1, 1) := by decide +kernel
theorem dL_law_401 : decode cL_law 401 = .ok (.iadd, 1) := by decide +kernel
theorem dL_law_402 : decode cL_law 402 = .ok (.iaload, 1) := by decide +kernel
theorem dL_law_403 : decode cL_law 403 = .ok (.aload_n 0, 1) := by decide +kernel
theorem dL_law_404 : decode cL_law 404 = .ok (.iload_n 3, 1) := by decide +kernel
theorem dL_law_405 : decode cL_law 405 = .ok (.iconst 2, 1) := by decide +kernel
theorem dL_law_406 : decode cL_law 406 = .ok (.iadd, 1) := by decide +kernel
theorem dL_law_407 : decode cL_law 407 = .ok (.iaload, 1) := by decide +kernel
theorem dL_law_408 : decode cL_law 408 = .ok (.invokevirtual 55, 3) := by decide +kernel
theorem dL_law_411 : decode cL_law 411 = .ok (.if_icmp .eq 451, 3) := by decide +kernel
theorem dL_law_414 : decode cL_law 414 = .ok (.iconst 0, 1) := by decide +kernel
theorem dL_law_415 : decode cL_law 415 = .ok (.ireturn, 1) := by decide +kernel
theorem dL_law_416 : decode cL_law 416 = .ok (.aload_n 1, 1) := by decide +kernel
theorem dL_law_417 : decode cL_law 417 = .ok (.invokevirtual 56, 3) := by decide +kernel
theorem dL_law_420 : decode cL_law 420 = .ok (.aload_n 2, 1) := by decide +kernel
theorem dL_law_421 : decode cL_law 421 = .ok (.invokevirtual 59, 3) := by decide +kernel
theorem dL_law_424 : decode cL_law 424 = .ok (.if_icmp .eq 438, 3) := by decide +kernel
theorem dL_law_427 : decode cL_law 427 = .ok (.iconst 0, 1) := by decide +kernel
theorem dL_law_428 : decode cL_law 428 = .ok (.ireturn, 1) := by decide +kernel
theorem dL_law_429 : decode cL_law 429 = .ok (.aload_n 1, 1) := by decide +kernel
theorem dL_law_430 : decode cL_law 430 = .ok (.invokevirtual 60, 3) := by decide +kernel
theorem dL_law_433 : decode cL_law 433 = .ok (.aload_n 2, 1) := by decide +kernel
theorem dL_law_434 : decode cL_law 434 = .ok (.invokevirtual 63, 3) := by decide +kernel
theorem dL_law_437 : decode cL_law 437 = .ok (.if_icmp .eq 425, 3) := by decide +kernel
theorem dL_law_440 : decode cL_law 440 = .ok (.iconst 0, 1) := by decide +kernel
theorem dL_law_441 : decode cL_law 441 = .ok (.ireturn, 1) := by decide +kernel
theorem dL_law_442 : decode cL_law 442 = .ok (.aload_n 1, 1) := by decide +kernel
theorem dL_law_443 : decode cL_law 443 = .ok (.aload_n 0, 1) := by decide +kernel
theorem dL_law_444 : decode cL_law 444 = .ok (.iload_n 3, 1) := by decide +kernel
theorem dL_law_445 : decode cL_law 445 = .ok (.iconst 1, 1) := by decide +kernel
theorem dL_law_446 : decode cL_law 446 = .ok (.iadd, 1) := by decide +kernel
theorem dL_law_447 : decode cL_law 447 = .ok (.iaload, 1) := by decide +kernel
theorem dL_law_448 : decode cL_law 448 = .ok (.invokevirtual 64, 3) := by decide +kernel
theorem dL_law_451 : decode cL_law 451 = .ok (.aload_n 2, 1) := by decide +kernel
theorem dL_law_452 : decode cL_law 452 = .ok (.aload_n 0, 1) := by decide +kernel
theorem dL_law_453 : decode cL_law 453 = .ok (.iload_n 3, 1) := by decide +kernel
theorem dL_law_454 : decode cL_law 454 = .ok (.iconst 1, 1) := by decide +kernel
theorem dL_law_455 : decode cL_law 455 = .ok (.iadd, 1) := by decide +kernel
theorem dL_law_456 : decode cL_law 456 = .ok (.iaload, 1) := by decide +kernel
theorem dL_law_457 : decode cL_law 457 = .ok (.invokevirtual 67, 3) := by decide +kernel
theorem dL_law_460 : decode cL_law 460 = .ok (.if_icmp .eq 402, 3) := by decide +kernel
theorem dL_law_463 : decode cL_law 463 = .ok (.iconst 0, 1) := by decide +kernel
theorem dL_law_464 : decode cL_law 464 = .ok (.ireturn, 1) := by decide +kernel
theorem dL_law_465 : decode cL_law 465 = .ok (.aload_n 1, 1) := by decide +kernel
theorem dL_law_466 : decode cL_law 466 = .ok (.invokevirtual 68, 3) := by decide +kernel
theorem dL_law_469 : decode cL_law 469 = .ok (.aload_n 2, 1) := by decide +kernel
theorem dL_law_470 : decode cL_law 470 = .ok (.invokevirtual 71, 3) := by decide +kernel
theorem dL_law_473 : decode cL_law 473 = .ok (.if_icmp .eq 389, 3) := by decide +kernel
theorem dL_law_476 : decode cL_law 476 = .ok (.iconst 0, 1) := by decide +kernel
theorem dL_law_477 : decode cL_law 477 = .ok (.ireturn, 1) := by decide +kernel
theorem dL_law_478 : decode cL_law 478 = .ok (.aload_n 1, 1) := by decide +kernel
theorem dL_law_479 : decode cL_law 479 = .ok (.invokevirtual 72, 3) := by decide +kernel
theorem dL_law_482 : decode cL_law 482 = .ok (.aload_n 2, 1) := by decide +kernel
theorem dL_law_483 : decode cL_law 483 = .ok (.invokevirtual 75, 3) := by decide +kernel
theorem dL_law_486 : decode cL_law 486 = .ok (.if_icmp .eq 376, 3) := by decide +kernel
theorem dL_law_489 : decode cL_law 489 = .ok (.iconst 0, 1) := by decide +kernel
theorem dL_law_490 : decode cL_law 490 = .ok (.ireturn, 1) := by decide +kernel
theorem dL_law_491 : decode cL_law 491 = .ok (.aload_n 1, 1) := by decide +kernel
theorem dL_law_492 : decode cL_law 492 = .ok (.aload_n 0, 1) := by decide +kernel
theorem dL_law_493 : decode cL_law 493 = .ok (.iload_n 3, 1) := by decide +kernel
theorem dL_law_494 : decode cL_law 494 = .ok (.iconst 1, 1) := by decide +kernel
theorem dL_law_495 : decode cL_law 495 = .ok (.iadd, 1) := by decide +kernel
theorem dL_law_496 : decode cL_law 496 = .ok (.iaload, 1) := by decide +kernel
theorem dL_law_497 : decode cL_law 497 = .ok (.invokevirtual 76, 3) := by decide +kernel
theorem dL_law_500 : decode cL_law 500 = .ok (.aload_n 2, 1) := by decide +kernel
theorem dL_law_501 : decode cL_law 501 = .ok (.aload_n 0, 1) := by decide +kernel
theorem dL_law_502 : decode cL_law 502 = .ok (.iload_n 3, 1) := by decide +kernel
theorem dL_law_503 : decode cL_law 503 = .ok (.iconst 1, 1) := by decide +kernel
theorem dL_law_504 : decode cL_law 504 = .ok (.iadd, 1) := by decide +kernel
theorem dL_law_505 : decode cL_law 505 = .ok (.iaload, 1) := by decide +kernel
theorem dL_law_506 : decode cL_law 506 = .ok (.invokevirtual 79, 3) := by decide +kernel
theorem dL_law_509 : decode cL_law 509 = .ok (.if_icmp .eq 353, 3) := by decide +kernel
theorem dL_law_512 : decode cL_law 512 = .ok (.iconst 0, 1) := by decide +kernel
theorem dL_law_513 : decode cL_law 513 = .ok (.ireturn, 1) := by decide +kernel
theorem dL_law_514 : decode cL_law 514 = .ok (.aload_n 1, 1) := by decide +kernel
theorem dL_law_515 : decode cL_law 515 = .ok (.invokevirtual 80, 3) := by decide +kernel
theorem dL_law_518 : decode cL_law 518 = .ok (.aload_n 2, 1) := by decide +kernel
theorem dL_law_519 : decode cL_law 519 = .ok (.invokevirtual 83, 3) := by decide +kernel
theorem dL_law_522 : decode cL_law 522 = .ok (.if_icmp .eq 340, 3) := by decide +kernel
theorem dL_law_525 : decode cL_law 525 = .ok (.iconst 0, 1) := by decide +kernel
theorem dL_law_526 : decode cL_law 526 = .ok (.ireturn, 1) := by decide +kernel
theorem dL_law_527 : decode cL_law 527 = .ok (.aload_n 1, 1) := by decide +kernel
theorem dL_law_528 : decode cL_law 528 = .ok (.aload_n 0, 1) := by decide +kernel
theorem dL_law_529 : decode cL_law 529 = .ok (.iload_n 3, 1) := by decide +kernel
theorem dL_law_530 : decode cL_law 530 = .ok (.iconst 1, 1) := by decide +kernel
theorem dL_law_531 : decode cL_law 531 = .ok (.iadd, 1) := by decide +kernel
theorem dL_law_532 : decode cL_law 532 = .ok (.iaload, 1) := by decide +kernel
theorem dL_law_533 : decode cL_law 533 = .ok (.invokevirtual 84, 3) := by decide +kernel
theorem dL_law_536 : decode cL_law 536 = .ok (.aload_n 2, 1) := by decide +kernel
theorem dL_law_537 : decode cL_law 537 = .ok (.aload_n 0, 1) := by decide +kernel
theorem dL_law_538 : decode cL_law 538 = .ok (.iload_n 3, 1) := by decide +kernel
theorem dL_law_539 : decode cL_law 539 = .ok (.iconst 1, 1) := by decide +kernel
theorem dL_law_540 : decode cL_law 540 = .ok (.iadd, 1) := by decide +kernel
theorem dL_law_541 : decode cL_law 541 = .ok (.iaload, 1) := by decide +kernel
theorem dL_law_542 : decode cL_law 542 = .ok (.invokevirtual 87, 3) := by decide +kernel
theorem dL_law_545 : decode cL_law 545 = .ok (.if_icmp .eq 317, 3) := by decide +kernel
theorem dL_law_548 : decode cL_law 548 = .ok (.iconst 0, 1) := by decide +kernel
theorem dL_law_549 : decode cL_law 549 = .ok (.ireturn, 1) := by decide +kernel
theorem dL_law_550 : decode cL_law 550 = .ok (.aload_n 1, 1) := by decide +kernel
theorem dL_law_551 : decode cL_law 551 = .ok (.aload_n 0, 1) := by decide +kernel
theorem dL_law_552 : decode cL_law 552 = .ok (.iload_n 3, 1) := by decide +kernel
theorem dL_law_553 : decode cL_law 553 = .ok (.iconst 1, 1) := by decide +kernel
theorem dL_law_554 : decode cL_law 554 = .ok (.iadd, 1) := by decide +kernel
theorem dL_law_555 : decode cL_law 555 = .ok (.iaload, 1) := by decide +kernel
theorem dL_law_556 : decode cL_law 556 = .ok (.invokevirtual 88, 3) := by decide +kernel
theorem dL_law_559 : decode cL_law 559 = .ok (.aload_n 2, 1) := by decide +kernel
theorem dL_law_560 : decode cL_law 560 = .ok (.aload_n 0, 1) := by decide +kernel
theorem dL_law_561 : decode cL_law 561 = .ok (.iload_n 3, 1) := by decide +kernel
theorem dL_law_562 : decode cL_law 562 = .ok (.iconst 1, 1) := by decide +kernel
theorem dL_law_563 : decode cL_law 563 = .ok (.iadd, 1) := by decide +kernel
theorem dL_law_564 : decode cL_law 564 = .ok (.iaload, 1) := by decide +kernel
theorem dL_law_565 : decode cL_law 565 = .ok (.invokevirtual 91, 3) := by decide +kernel
theorem dL_law_568 : decode cL_law 568 = .ok (.if_icmp .eq 294, 3) := by decide +kernel
theorem dL_law_571 : decode cL_law 571 = .ok (.iconst 0, 1) := by decide +kernel
theorem dL_law_572 : decode cL_law 572 = .ok (.ireturn, 1) := by decide +kernel
theorem dL_law_573 : decode cL_law 573 = .ok (.aload_n 1, 1) := by decide +kernel
theorem dL_law_574 : decode cL_law 574 = .ok (.invokevirtual 92, 3) := by decide +kernel
theorem dL_law_577 : decode cL_law 577 = .ok (.aload_n 2, 1) := by decide +kernel
theorem dL_law_578 : decode cL_law 578 = .ok (.invokevirtual 95, 3) := by decide +kernel
theorem dL_law_581 : decode cL_law 581 = .ok (.if_icmp .eq 281, 3) := by decide +kernel
theorem dL_law_584 : decode cL_law 584 = .ok (.iconst 0, 1) := by decide +kernel
theorem dL_law_585 : decode cL_law 585 = .ok (.ireturn, 1) := by decide +kernel
theorem dL_law_586 : decode cL_law 586 = .ok (.aload_n 1, 1) := by decide +kernel
theorem dL_law_587 : decode cL_law 587 = .ok (.invokevirtual 96, 3) := by decide +kernel
theorem dL_law_590 : decode cL_law 590 = .ok (.aload_n 2, 1) := by decide +kernel
theorem dL_law_591 : decode cL_law 591 = .ok (.invokevirtual 99, 3) := by decide +kernel
theorem dL_law_594 : decode cL_law 594 = .ok (.if_icmp .eq 268, 3) := by decide +kernel
theorem dL_law_597 : decode cL_law 597 = .ok (.iconst 0, 1) := by decide +kernel
theorem dL_law_598 : decode cL_law 598 = .ok (.ireturn, 1) := by decide +kernel
theorem dL_law_599 : decode cL_law 599 = .ok (.aload_n 1, 1) := by decide +kernel
theorem dL_law_600 : decode cL_law 600 = .ok (.invokevirtual 100, 3) := by decide +kernel
theorem dL_law_603 : decode cL_law 603 = .ok (.aload_n 2, 1) := by decide +kernel
theorem dL_law_604 : decode cL_law 604 = .ok (.invokevirtual 103, 3) := by decide +kernel
theorem dL_law_607 : decode cL_law 607 = .ok (.if_icmp .eq 255, 3) := by decide +kernel
theorem dL_law_610 : decode cL_law 610 = .ok (.iconst 0, 1) := by decide +kernel
theorem dL_law_611 : decode cL_law 611 = .ok (.ireturn, 1) := by decide +kernel
theorem dL_law_612 : decode cL_law 612 = .ok (.aload_n 1, 1) := by decide +kernel
theorem dL_law_613 : decode cL_law 613 = .ok (.invokevirtual 104, 3) := by decide +kernel
theorem dL_law_616 : decode cL_law 616 = .ok (.aload_n 2, 1) := by decide +kernel
theorem dL_law_617 : decode cL_law 617 = .ok (.invokevirtual 107, 3) := by decide +kernel
theorem dL_law_620 : decode cL_law 620 = .ok (.if_icmp .eq 242, 3) := by decide +kernel
theorem dL_law_623 : decode cL_law 623 = .ok (.iconst 0, 1) := by decide +kernel
theorem dL_law_624 : decode cL_law 624 = .ok (.ireturn, 1) := by decide +kernel
theorem dL_law_625 : decode cL_law 625 = .ok (.aload_n 1, 1) := by decide +kernel
theorem dL_law_626 : decode cL_law 626 = .ok (.aload_n 0, 1) := by decide +kernel
theorem dL_law_627 : decode cL_law 627 = .ok (.iload_n 3, 1) := by decide +kernel
theorem dL_law_628 : decode cL_law 628 = .ok (.iconst 1, 1) := by decide +kernel
theorem dL_law_629 : decode cL_law 629 = .ok (.iadd, 1) := by decide +kernel
theorem dL_law_630 : decode cL_law 630 = .ok (.iaload, 1) := by decide +kernel
theorem dL_law_631 : decode cL_law 631 = .ok (.invokevirtual 108, 3) := by decide +kernel
theorem dL_law_634 : decode cL_law 634 = .ok (.aload_n 2, 1) := by decide +kernel
theorem dL_law_635 : decode cL_law 635 = .ok (.aload_n 0, 1) := by decide +kernel
theorem dL_law_636 : decode cL_law 636 = .ok (.iload_n 3, 1) := by decide +kernel
theorem dL_law_637 : decode cL_law 637 = .ok (.iconst 1, 1) := by decide +kernel
theorem dL_law_638 : decode cL_law 638 = .ok (.iadd, 1) := by decide +kernel
theorem dL_law_639 : decode cL_law 639 = .ok (.iaload, 1) := by decide +kernel
theorem dL_law_640 : decode cL_law 640 = .ok (.invokevirtual 111, 3) := by decide +kernel
theorem dL_law_643 : decode cL_law 643 = .ok (.if_icmp .eq 219, 3) := by decide +kernel
theorem dL_law_646 : decode cL_law 646 = .ok (.iconst 0, 1) := by decide +kernel
theorem dL_law_647 : decode cL_law 647 = .ok (.ireturn, 1) := by decide +kernel
theorem dL_law_648 : decode cL_law 648 = .ok (.aload_n 1, 1) := by decide +kernel
theorem dL_law_649 : decode cL_law 649 = .ok (.aload_n 0, 1) := by decide +kernel
theorem dL_law_650 : decode cL_law 650 = .ok (.iload_n 3, 1) := by decide +kernel
theorem dL_law_651 : decode cL_law 651 = .ok (.iconst 1, 1) := by decide +kernel
theorem dL_law_652 : decode cL_law 652 = .ok (.iadd, 1) := by decide +kernel
theorem dL_law_653 : decode cL_law 653 = .ok (.iaload, 1) := by decide +kernel
theorem dL_law_654 : decode cL_law 654 = .ok (.aload_n 0, 1) := by decide +kernel
theorem dL_law_655 : decode cL_law 655 = .ok (.iload_n 3, 1) := by decide +kernel
theorem dL_law_656 : decode cL_law 656 = .ok (.iconst 2, 1) := by decide +kernel
theorem dL_law_657 : decode cL_law 657 = .ok (.iadd, 1) := by decide +kernel
theorem dL_law_658 : decode cL_law 658 = .ok (.iaload, 1) := by decide +kernel
theorem dL_law_659 : decode cL_law 659 = .ok (.invokevirtual 112, 3) := by decide +kernel
theorem dL_law_662 : decode cL_law 662 = .ok (.aload_n 2, 1) := by decide +kernel
theorem dL_law_663 : decode cL_law 663 = .ok (.aload_n 0, 1) := by decide +kernel
theorem dL_law_664 : decode cL_law 664 = .ok (.iload_n 3, 1) := by decide +kernel
theorem dL_law_665 : decode cL_law 665 = .ok (.iconst 1, 1) := by decide +kernel
theorem dL_law_666 : decode cL_law 666 = .ok (.iadd, 1) := by decide +kernel
theorem dL_law_667 : decode cL_law 667 = .ok (.iaload, 1) := by decide +kernel
theorem dL_law_668 : decode cL_law 668 = .ok (.aload_n 0, 1) := by decide +kernel
theorem dL_law_669 : decode cL_law 669 = .ok (.iload_n 3, 1) := by decide +kernel
theorem dL_law_670 : decode cL_law 670 = .ok (.iconst 2, 1) := by decide +kernel
theorem dL_law_671 : decode cL_law 671 = .ok (.iadd, 1) := by decide +kernel
theorem dL_law_672 : decode cL_law 672 = .ok (.iaload, 1) := by decide +kernel
theorem dL_law_673 : decode cL_law 673 = .ok (.invokevirtual 115, 3) := by decide +kernel
theorem dL_law_676 : decode cL_law 676 = .ok (.if_icmp .eq 186, 3) := by decide +kernel
theorem dL_law_679 : decode cL_law 679 = .ok (.iconst 0, 1) := by decide +kernel
theorem dL_law_680 : decode cL_law 680 = .ok (.ireturn, 1) := by decide +kernel
theorem dL_law_681 : decode cL_law 681 = .ok (.aload_n 1, 1) := by decide +kernel
theorem dL_law_682 : decode cL_law 682 = .ok (.aload_n 0, 1) := by decide +kernel
theorem dL_law_683 : decode cL_law 683 = .ok (.iload_n 3, 1) := by decide +kernel
theorem dL_law_684 : decode cL_law 684 = .ok (.iconst 1, 1) := by decide +kernel
theorem dL_law_685 : decode cL_law 685 = .ok (.iadd, 1) := by decide +kernel
theorem dL_law_686 : decode cL_law 686 = .ok (.iaload, 1) := by decide +kernel
theorem dL_law_687 : decode cL_law 687 = .ok (.aload_n 0, 1) := by decide +kernel
theorem dL_law_688 : decode cL_law 688 = .ok (.iload_n 3, 1) := by decide +kernel
theorem dL_law_689 : decode cL_law 689 = .ok (.iconst 2, 1) := by decide +kernel
theorem dL_law_690 : decode cL_law 690 = .ok (.iadd, 1) := by decide +kernel
theorem dL_law_691 : decode cL_law 691 = .ok (.iaload, 1) := by decide +kernel
theorem dL_law_692 : decode cL_law 692 = .ok (.invokevirtual 116, 3) := by decide +kernel
theorem dL_law_695 : decode cL_law 695 = .ok (.aload_n 2, 1) := by decide +kernel
theorem dL_law_696 : decode cL_law 696 = .ok (.aload_n 0, 1) := by decide +kernel
theorem dL_law_697 : decode cL_law 697 = .ok (.iload_n 3, 1) := by decide +kernel
theorem dL_law_698 : decode cL_law 698 = .ok (.iconst 1, 1) := by decide +kernel
theorem dL_law_699 : decode cL_law 699 = .ok (.iadd, 1) := by decide +kernel
theorem dL_law_700 : decode cL_law 700 = .ok (.iaload, 1) := by decide +kernel
theorem dL_law_701 : decode cL_law 701 = .ok (.aload_n 0, 1) := by decide +kernel
theorem dL_law_702 : decode cL_law 702 = .ok (.iload_n 3, 1) := by decide +kernel
theorem dL_law_703 : decode cL_law 703 = .ok (.iconst 2, 1) := by decide +kernel
theorem dL_law_704 : decode cL_law 704 = .ok (.iadd, 1) := by decide +kernel
theorem dL_law_705 : decode cL_law 705 = .ok (.iaload, 1) := by decide +kernel
theorem dL_law_706 : decode cL_law 706 = .ok (.invokevirtual 119, 3) := by decide +kernel
theorem dL_law_709 : decode cL_law 709 = .ok (.if_icmp .eq 153, 3) := by decide +kernel
theorem dL_law_712 : decode cL_law 712 = .ok (.iconst 0, 1) := by decide +kernel
theorem dL_law_713 : decode cL_law 713 = .ok (.ireturn, 1) := by decide +kernel
theorem dL_law_714 : decode cL_law 714 = .ok (.aload_n 1, 1) := by decide +kernel
theorem dL_law_715 : decode cL_law 715 = .ok (.aload_n 0, 1) := by decide +kernel
theorem dL_law_716 : decode cL_law 716 = .ok (.iload_n 3, 1) := by decide +kernel
theorem dL_law_717 : decode cL_law 717 = .ok (.iconst 1, 1) := by decide +kernel
theorem dL_law_718 : decode cL_law 718 = .ok (.iadd, 1) := by decide +kernel
theorem dL_law_719 : decode cL_law 719 = .ok (.iaload, 1) := by decide +kernel
theorem dL_law_720 : decode cL_law 720 = .ok (.invokevirtual 120, 3) := by decide +kernel
theorem dL_law_723 : decode cL_law 723 = .ok (.aload_n 2, 1) := by decide +kernel
theorem dL_law_724 : decode cL_law 724 = .ok (.aload_n 0, 1) := by decide +kernel
theorem dL_law_725 : decode cL_law 725 = .ok (.iload_n 3, 1) := by decide +kernel
theorem dL_law_726 : decode cL_law 726 = .ok (.iconst 1, 1) := by decide +kernel
theorem dL_law_727 : decode cL_law 727 = .ok (.iadd, 1) := by decide +kernel
theorem dL_law_728 : decode cL_law 728 = .ok (.iaload, 1) := by decide +kernel
theorem dL_law_729 : decode cL_law 729 = .ok (.invokevirtual 123, 3) := by decide +kernel
theorem dL_law_732 : decode cL_law 732 = .ok (.if_icmp .eq 130, 3) := by decide +kernel
theorem dL_law_735 : decode cL_law 735 = .ok (.iconst 0, 1) := by decide +kernel
theorem dL_law_736 : decode cL_law 736 = .ok (.ireturn, 1) := by decide +kernel
theorem dL_law_737 : decode cL_law 737 = .ok (.aload_n 1, 1) := by decide +kernel
theorem dL_law_738 : decode cL_law 738 = .ok (.aload_n 0, 1) := by decide +kernel
theorem dL_law_739 : decode cL_law 739 = .ok (.iload_n 3, 1) := by decide +kernel
theorem dL_law_740 : decode cL_law 740 = .ok (.iconst 1, 1) := by decide +kernel
theorem dL_law_741 : decode cL_law 741 = .ok (.iadd, 1) := by decide +kernel
theorem dL_law_742 : decode cL_law 742 = .ok (.iaload, 1) := by decide +kernel
theorem dL_law_743 : decode cL_law 743 = .ok (.invokevirtual 124, 3) := by decide +kernel
theorem dL_law_746 : decode cL_law 746 = .ok (.aload_n 2, 1) := by decide +kernel
theorem dL_law_747 : decode cL_law 747 = .ok (.aload_n 0, 1) := by decide +kernel
theorem dL_law_748 : decode cL_law 748 = .ok (.iload_n 3, 1) := by decide +kernel
theorem dL_law_749 : decode cL_law 749 = .ok (.iconst 1, 1) := by decide +kernel
theorem dL_law_750 : decode cL_law 750 = .ok (.iadd, 1) := by decide +kernel
theorem dL_law_751 : decode cL_law 751 = .ok (.iaload, 1) := by decide +kernel
theorem dL_law_752 : decode cL_law 752 = .ok (.invokevirtual 127, 3) := by decide +kernel
theorem dL_law_755 : decode cL_law 755 = .ok (.if_icmp .eq 107, 3) := by decide +kernel
theorem dL_law_758 : decode cL_law 758 = .ok (.iconst 0, 1) := by decide +kernel
theorem dL_law_759 : decode cL_law 759 = .ok (.ireturn, 1) := by decide +kernel
theorem dL_law_760 : decode cL_law 760 = .ok (.aload_n 1, 1) := by decide +kernel
theorem dL_law_761 : decode cL_law 761 = .ok (.aload_n 0, 1) := by decide +kernel
theorem dL_law_762 : decode cL_law 762 = .ok (.iload_n 3, 1) := by decide +kernel
theorem dL_law_763 : decode cL_law 763 = .ok (.iconst 1, 1) := by decide +kernel
theorem dL_law_764 : decode cL_law 764 = .ok (.iadd, 1) := by decide +kernel
theorem dL_law_765 : decode cL_law 765 = .ok (.iaload, 1) := by decide +kernel
theorem dL_law_766 : decode cL_law 766 = .ok (.aload_n 0, 1) := by decide +kernel
theorem dL_law_767 : decode cL_law 767 = .ok (.iload_n 3, 1) := by decide +kernel
theorem dL_law_768 : decode cL_law 768 = .ok (.iconst 2, 1) := by decide +kernel
theorem dL_law_769 : decode cL_law 769 = .ok (.iadd, 1) := by decide +kernel
theorem dL_law_770 : decode cL_law 770 = .ok (.iaload, 1) := by decide +kernel
theorem dL_law_771 : decode cL_law 771 = .ok (.invokevirtual 128, 3) := by decide +kernel
theorem dL_law_774 : decode cL_law 774 = .ok (.aload_n 2, 1) := by decide +kernel
theorem dL_law_775 : decode cL_law 775 = .ok (.aload_n 0, 1) := by decide +kernel
theorem dL_law_776 : decode cL_law 776 = .ok (.iload_n 3, 1) := by decide +kernel
theorem dL_law_777 : decode cL_law 777 = .ok (.iconst 1, 1) := by decide +kernel
theorem dL_law_778 : decode cL_law 778 = .ok (.iadd, 1) := by decide +kernel
theorem dL_law_779 : decode cL_law 779 = .ok (.iaload, 1) := by decide +kernel
theorem dL_law_780 : decode cL_law 780 = .ok (.aload_n 0, 1) := by decide +kernel
theorem dL_law_781 : decode cL_law 781 = .ok (.iload_n 3, 1) := by decide +kernel
theorem dL_law_782 : decode cL_law 782 = .ok (.iconst 2, 1) := by decide +kernel
theorem dL_law_783 : decode cL_law 783 = .ok (.iadd, 1) := by decide +kernel
theorem dL_law_784 : decode cL_law 784 = .ok (.iaload, 1) := by decide +kernel
theorem dL_law_785 : decode cL_law 785 = .ok (.invokevirtual 131, 3) := by decide +kernel
theorem dL_law_788 : decode cL_law 788 = .ok (.if_icmp .eq 74, 3) := by decide +kernel
theorem dL_law_791 : decode cL_law 791 = .ok (.iconst 0, 1) := by decide +kernel
theorem dL_law_792 : decode cL_law 792 = .ok (.ireturn, 1) := by decide +kernel
theorem dL_law_793 : decode cL_law 793 = .ok (.aload_n 1, 1) := by decide +kernel
theorem dL_law_794 : decode cL_law 794 = .ok (.aload_n 0, 1) := by decide +kernel
theorem dL_law_795 : decode cL_law 795 = .ok (.iload_n 3, 1) := by decide +kernel
theorem dL_law_796 : decode cL_law 796 = .ok (.iconst 1, 1) := by decide +kernel
theorem dL_law_797 : decode cL_law 797 = .ok (.iadd, 1) := by decide +kernel
theorem dL_law_798 : decode cL_law 798 = .ok (.iaload, 1) := by decide +kernel
theorem dL_law_799 : decode cL_law 799 = .ok (.aload_n 0, 1) := by decide +kernel
theorem dL_law_800 : decode cL_law 800 = .ok (.iload_n 3, 1) := by decide +kernel
theorem dL_law_801 : decode cL_law 801 = .ok (.iconst 2, 1) := by decide +kernel
theorem dL_law_802 : decode cL_law 802 = .ok (.iadd, 1) := by decide +kernel
theorem dL_law_803 : decode cL_law 803 = .ok (.iaload, 1) := by decide +kernel
theorem dL_law_804 : decode cL_law 804 = .ok (.invokevirtual 132, 3) := by decide +kernel
theorem dL_law_807 : decode cL_law 807 = .ok (.aload_n 2, 1) := by decide +kernel
theorem dL_law_808 : decode cL_law 808 = .ok (.aload_n 0, 1) := by decide +kernel
theorem dL_law_809 : decode cL_law 809 = .ok (.iload_n 3, 1) := by decide +kernel
theorem dL_law_810 : decode cL_law 810 = .ok (.iconst 1, 1) := by decide +kernel
theorem dL_law_811 : decode cL_law 811 = .ok (.iadd, 1) := by decide +kernel
theorem dL_law_812 : decode cL_law 812 = .ok (.iaload, 1) := by decide +kernel
theorem dL_law_813 : decode cL_law 813 = .ok (.aload_n 0, 1) := by decide +kernel
theorem dL_law_814 : decode cL_law 814 = .ok (.iload_n 3, 1) := by decide +kernel
theorem dL_law_815 : decode cL_law 815 = .ok (.iconst 2, 1) := by decide +kernel
theorem dL_law_816 : decode cL_law 816 = .ok (.iadd, 1) := by decide +kernel
theorem dL_law_817 : decode cL_law 817 = .ok (.iaload, 1) := by decide +kernel
theorem dL_law_818 : decode cL_law 818 = .ok (.invokevirtual 135, 3) := by decide +kernel
theorem dL_law_821 : decode cL_law 821 = .ok (.if_icmp .eq 41, 3) := by decide +kernel
theorem dL_law_824 : decode cL_law 824 = .ok (.iconst 0, 1) := by decide +kernel
theorem dL_law_825 : decode cL_law 825 = .ok (.ireturn, 1) := by decide +kernel
theorem dL_law_826 : decode cL_law 826 = .ok (.aload_n 1, 1) := by decide +kernel
theorem dL_law_827 : decode cL_law 827 = .ok (.aload_n 0, 1) := by decide +kernel
theorem dL_law_828 : decode cL_law 828 = .ok (.iload_n 3, 1) := by decide +kernel
theorem dL_law_829 : decode cL_law 829 = .ok (.iconst 1, 1) := by decide +kernel
theorem dL_law_830 : decode cL_law 830 = .ok (.iadd, 1) := by decide +kernel
theorem dL_law_831 : decode cL_law 831 = .ok (.iaload, 1) := by decide +kernel
theorem dL_law_832 : decode cL_law 832 = .ok (.invokevirtual 136, 3) := by decide +kernel
theorem dL_law_835 : decode cL_law 835 = .ok (.aload_n 2, 1) := by decide +kernel
theorem dL_law_836 : decode cL_law 836 = .ok (.aload_n 0, 1) := by decide +kernel
theorem dL_law_837 : decode cL_law 837 = .ok (.iload_n 3, 1) := by decide +kernel
theorem dL_law_838 : decode cL_law 838 = .ok (.iconst 1, 1) := by decide +kernel
theorem dL_law_839 : decode cL_law 839 = .ok (.iadd, 1) := by decide +kernel
theorem dL_law_840 : decode cL_law 840 = .ok (.iaload, 1) := by decide +kernel
theorem dL_law_841 : decode cL_law 841 = .ok (.invokevirtual 139, 3) := by decide +kernel
theorem dL_law_844 : decode cL_law 844 = .ok (.if_icmp .eq 18, 3) := by decide +kernel
theorem dL_law_847 : decode cL_law 847 = .ok (.iconst 0, 1) := by decide +kernel
theorem dL_law_848 : decode cL_law 848 = .ok (.ireturn, 1) := by decide +kernel
theorem dL_law_849 : decode cL_law 849 = .ok (.aload_n 1, 1) := by decide +kernel
theorem dL_law_850 : decode cL_law 850 = .ok (.invokevirtual 140, 3) := by decide +kernel
theorem dL_law_853 : decode cL_law 853 = .ok (.aload_n 2, 1) := by decide +kernel
theorem dL_law_854 : decode cL_law 854 = .ok (.invokevirtual 143, 3) := by decide +kernel
theorem dL_law_857 : decode cL_law 857 = .ok (.if_icmp .eq 5, 3) := by decide +kernel
theorem dL_law_860 : decode cL_law 860 = .ok (.iconst 0, 1) := by decide +kernel
theorem dL_law_861 : decode cL_law 861 = .ok (.ireturn, 1) := by decide +kernel
theorem dL_law_862 : decode cL_law 862 = .ok (.iinc 3 3, 3) := by decide +kernel
theorem dL_law_865 : decode cL_law 865 = .ok (.goto (-847), 3) := by decide +kernel
theorem dL_law_868 : decode cL_law 868 = .ok (.iconst 1, 1) := by decide +kernel
theorem dL_law_869 : decode cL_law 869 = .ok (.ireturn, 1) := by decide +kernel
abbrev vwCl : List vw_C := [(RX0, TX0, 5), (RX1, TX1, 1), (RX2, TX2, 2), (RX3, TX3, 5), (RX4, TX4, 3), (RX5, TX5, 4), (RX6, TX6, 3), (RX7, TX7, 11), (RX8, TX8, 3), (RX9, TX9, 2), (RX10, TX10, 7), (RX11, TX11, 24)]
end
section
/-! THE UNIFORM WORLD: all cells of the run, by their numbers in the order of making, at base + number; memory is a function of cell and slot -/
abbrev Mm : Type := Nat → Nat → Int32
def up (M : Mm) (c k : Nat) (v : Int32) : Mm := fun c' k' => if c' = c ∧ k' = k then v else M c' k'
theorem up_s {M : Mm} {c k : Nat} {v : Int32} : up M c k v c k = v := if_pos ⟨rfl, rfl⟩
theorem up_c {M : Mm} {c k : Nat} {v : Int32} {c' : Nat} (h : c' ≠ c) : up M c k v c' = M c' := funext fun _ => if_neg fun q => h q.1
theorem up_k {M : Mm} {c k : Nat} {v : Int32} {k' : Nat} (h : k' ≠ k) : up M c k v c k' = M c k' := if_neg fun q => h q.2
theorem up_e {M : Mm} {c k : Nat} {v : Int32} : up M c k v c = upd (M c) k v := funext fun j => by
  by_cases h : j = k
  · subst h; rw [up_s]; exact (pk_us).symm
  · rw [up_k h]; exact (pk_un h).symm
def loW (x : Int64) : Int32 := Int32.ofBitVec (x.toBitVec.extractLsb' 0 32)
def hiW (x : Int64) : Int32 := Int32.ofBitVec (x.toBitVec.extractLsb' 32 32)
def mkL (h l : Int32) : Int64 := Int64.ofBitVec (h.toBitVec ++ l.toBitVec)
theorem mkL_hl (x : Int64) : mkL (hiW x) (loW x) = x := by
  apply Int64.toBitVec_inj.mp
  show (x.toBitVec.extractLsb' 32 32 ++ x.toBitVec.extractLsb' 0 32 : BitVec 64) = x.toBitVec
  apply BitVec.eq_of_getLsbD_eq
  intro i hi
  rw [BitVec.getLsbD_append]
  by_cases h : i < 32
  · simp [h]
  · have e : 32 + (i - 32) = i := by omega
    have e2 : i - 32 < 32 := by omega
    simp [h, e, e2]
abbrev GX : Type := Nat × va_G × ClassId × ClassId × (Nat → Nat) × (Nat → Nat) × (Nat → Nat)
abbrev WX : Type := Nat × (Nat → Option va_E)
def sitL : List Nat := [8, 0, 20, 20, 20, 20, 1, 20, 9, 20]
def tabL : List Nat := [7] ++ sitL ++ [5, 20, 20, 20, 20, 20, 20]
def kdL : List Nat := [10] ++ sitL ++ [4, 21] ++ sitL ++ sitL ++ sitL ++ sitL ++ sitL ++ sitL ++ sitL ++ sitL ++ [3, 20] ++ sitL ++ tabL ++ tabL ++ [6, 20, 20, 2] ++ [11, 20, 20, 20, 20, 20, 20, 20, 20, 20, 20]
def kd (c : Nat) : Nat := kdL.getD c 99
def sitN : List Nat := [0, 0, 6, 36, 36, 36, 0, 24, 0, 12]
def tabN : List Nat := [0] ++ sitN ++ [0, 576, 96, 96, 1248, 1248, 1248]
def lnL : List Nat := [0] ++ sitN ++ [0, 8] ++ sitN ++ sitN ++ sitN ++ sitN ++ sitN ++ sitN ++ sitN ++ sitN ++ [0, 150] ++ sitN ++ tabN ++ tabN ++ [0, 1248, 1248, 0] ++ [0, 69, 69, 552, 150, 1248, 1248, 1248, 1248, 1248, 1248]
def ln (c : Nat) : Nat := lnL.getD c 0
def szL : List Nat := [5, 2, 1, 12, 82, 4, 3, 18, 10, 2, 145, 11, 0, 0, 0, 0, 0, 0, 0, 0, 1, 1]
def sz (K : Nat) : Nat := szL.getD K 0
/-- the reference to a cell -/
def ob (g : GX) (c : Nat) : Value := .ref (g.1 + c)
/-- what a cell is, by its kind and its slots' numbers -/
def ent (g : GX) (f : Nat → Int32) (c : Nat) : va_E := match kd c with
  | 0 => .inr (0, [ob g (c + 1), ob g (c + 2), ob g (c + 3), ob g (c + 4), .int (f 4)])
  | 1 => .inr (1, [ob g (c + 1)])
  | 2 => .inr (2, [.int (f 0), .int (f 1)])
  | 3 => .inr (3, [ob g (c + 1), ob g (c + 2), .int (f 2), .int (f 3), .int (f 4)])
  | 4 => .inr (4, [ob g (c + 1), .int (f 1), .int (f 2)])
  | 5 => .inr (5, [ob g (c + 1), ob g (c + 2), ob g (c + 3), .int (f 3)])
  | 6 => .inr (6, [ob g (c + 1), ob g (c + 2), .int (f 2)])
  | 7 => .inr (7, [ob g (c + 1), ob g (c + 11), ob g (c + 15), ob g (c + 16), ob g (c + 17), .int (f 5), .int (f 6), .int (f 7), .int (f 8), .int (f 9), .int (f 10)])
  | 8 => .inr (8, [ob g (c + 1), ob g (c + 6), ob g (c + 8)])
  | 9 => .inr (9, [ob g (c + 1), .int (f 1)])
  | 10 => .inr (10, [ob g (c + 1), ob g (c + 11), ob g (c + 93), ob g (c + 105), ob g (c + 123), ob g (c + 141), ob g (c + 144)])
  | 11 => .inr (11, [ob g (c + 1), ob g (c + 2), ob g (c + 3), .int (f 3), ob g (c + 4), .int (f 5), .int (f 6), .int (f 7), .int (f 8), .long (mkL (f 24) (f 9)), .int (f 10), .int (f 11), .int (f 12), ob g (c + 5), ob g (c + 6), ob g (c + 7), .int (f 16), .int (f 17), .int (f 18), ob g (c + 8), ob g (c + 9), .int (f 21), .int (f 22), ob g (c + 10)])
  | 20 => .inl (g.2.2.1, ln c, .inl f)
  | _ => .inl (g.2.2.2.1, ln c, .inr (.inr (.inr (.inr (fun k => some (g.1 + (c + 1 + 10 * k)))))))
def en (g : GX) (w : WX) (M : Mm) (c : Nat) : va_E := (w.2 c).getD (ent g (M c) c)
def wl (g : GX) (w : WX) (M : Mm) : va_W := (List.range w.1).map fun c => (g.1 + c, en g w M c)
def Af (g : GX) : Nat → Prop := fun q => g.1 ≤ q
def ok (w : WX) (t K : Nat) : Prop := kd t = K ∧ ∀ j, j < sz K → t + j < w.1 ∧ w.2 (t + j) = none
theorem wl_at {g : GX} {w : WX} {M : Mm} {c : Nat} (h : c < w.1) : (wl g w M)[c]? = some (g.1 + c, en g w M c) := by
  simp [wl, h]
theorem wl_len {g : GX} {w : WX} {M : Mm} : (wl g w M).length = w.1 := by simp [wl]
theorem wl_inv {g : GX} {w : WX} {M : Mm} {c : Nat} {q : Nat × va_E} (h : (wl g w M)[c]? = some q) : c < w.1 ∧ q = (g.1 + c, en g w M c) := by
  have hl : c < w.1 := by
    have := (List.getElem?_eq_some_iff.mp h).1
    rwa [wl_len] at this
  rw [wl_at hl] at h
  exact ⟨hl, (Option.some.inj h).symm⟩
theorem wl_D {g : GX} {w : WX} {M : Mm} : va_D (Af g) (wl g w M) := by
  refine ⟨fun i j p q hi hj hpq => ?_, fun k q hk => ?_⟩
  · obtain ⟨-, rfl⟩ := wl_inv hi
    obtain ⟨-, rfl⟩ := wl_inv hj
    have : g.1 + i = g.1 + j := hpq
    omega
  · obtain ⟨-, rfl⟩ := wl_inv hk
    exact Nat.le_add_right _ _
theorem wl_set {g : GX} {w : WX} {M M' : Mm} {c : Nat} {e : va_E} (h : c < w.1) (he : en g w M' c = e) (ho : ∀ c', c' ≠ c → M' c' = M c') : (wl g w M).set c (g.1 + c, e) = wl g w M' := by
  apply List.ext_getElem?
  intro i
  by_cases hi : i = c
  · subst hi
    rw [List.getElem?_set_self (by rw [wl_len]; exact h), wl_at h, he]
  · rw [List.getElem?_set_ne (fun q => hi q.symm)]
    by_cases hl : i < w.1
    · rw [wl_at hl, wl_at hl]
      simp only [en, ho i hi]
    · rw [List.getElem?_eq_none (by rw [wl_len]; omega), List.getElem?_eq_none (by rw [wl_len]; omega)]
theorem en_ok {g : GX} {w : WX} {M : Mm} {t K : Nat} (h : ok w t K) (hz : 0 < sz K) : t < w.1 ∧ en g w M t = ent g (M t) t ∧ kd t = K := by
  have h1 := h.2 0 hz
  rw [Nat.add_zero] at h1
  exact ⟨h1.1, by simp [en, h1.2], h.1⟩
/-! the tables' words that stay -/
def okw (c : Cond) : Bool := match c with
  | .fieldLinkNest .. => true
  | .methodLinkNest .. => true
  | c => goodWord c
def TB (U : State) : Prop := (∀ c ∈ lw_tbl, okw c = true → c.before #[] U = true) ∧ va_AO "SyntaxRepair$Situation" U
theorem okw_cases {c : Cond} (h : okw c = true) : goodWord c = true ∨ (∃ a i b n d h, c = .fieldLinkNest a i b n d h) ∨ ∃ a i x h, c = .methodLinkNest a i x h := by
  cases c <;> first | exact Or.inl h | exact Or.inr (Or.inl ⟨_, _, _, _, _, _, rfl⟩) | exact Or.inr (Or.inr ⟨_, _, _, _, rfl⟩)
theorem TB.warm {s U : State} (hW : s.WarmedH U.vm) (h : TB s) : TB U := by
  refine ⟨?_, va_AO.moved hW.alike h.2⟩
  intro c hc ho
  have h1 := h.1 c hc ho
  rcases okw_cases ho with q | ⟨a, i, b, n, d, h, rfl⟩ | ⟨a, i, x, h, rfl⟩
  · exact word_at hW (good_of_word q) h1
  · exact va_Nw.warmF hW h1
  · exact va_Nw.warmM hW h1
theorem TB.use {s : State} (h : TB s) {c : Cond} {A : Array Value} (hc : c ∈ lw_tbl) (ho : okw c = true) : c.before A s = true := by
  have h1 := h.1 c hc ho
  rcases okw_cases ho with q | ⟨a, i, b, n, d, h, rfl⟩ | ⟨a, i, x, h, rfl⟩
  · exact word_at (State.WarmedH.refl s) (good_of_word q) h1
  · exact va_Nw.use rfl h1
  · exact va_Nw.use rfl h1
theorem TB.of {s : State} {A : Array Value} (h : ∀ c ∈ lw_tbl, c.before A s = true) : TB s := by
  refine ⟨?_, va_AO.of (h (Cond.arrayOver (.object "SyntaxRepair$Situation")) (List.mem_append_right _ (List.mem_of_getElem? (i := 125) (by decide +kernel))))⟩
  intro c hc ho
  have h1 := h c hc
  rcases okw_cases ho with q | ⟨a, i, b, n, d, h, rfl⟩ | ⟨a, i, x, h, rfl⟩
  · exact word_at (State.WarmedH.refl s) (good_of_word q) h1
  · exact va_Nw.of rfl h1
  · exact va_Nw.of rfl h1
def Tk : List Cond := lw_tbl.filter okw
theorem TB.hts {s : State} {A : Array Value} (h : TB s) : ∀ c ∈ Tk, c.before A s = true := fun c hc => h.use (List.mem_filter.mp hc).1 (List.mem_filter.mp hc).2
theorem tk_of {c : Cond} (h : c ∈ lw_tbl) (ho : okw c = true) : c ∈ Tk := List.mem_filter.mpr ⟨h, ho⟩
theorem tk_at {c : Cond} (i : Nat) (h : tables_1[i]? = some c) (ho : okw c = true) : c ∈ Tk := tk_of (List.mem_append_right _ (List.mem_of_getElem? h)) ho
theorem tk_sel {c : Cond} (i : Nat) (h : (k2_sels lw_privs)[i]? = some c) (ho : okw c = true) : c ∈ Tk := tk_of (List.mem_append_left _ (List.mem_of_getElem? h)) ho
/-! what nobody writes: the String constants, the two static rows, two of the JDK's statics -/
def txS : Nat → String := fun i => match i with
  | 0 => "states" | 1 => ";" | 2 => "accept" | 3 => "shift" | 4 => "push" | 5 => "pop" | _ => "cost"
def ixS : Nat → Nat := fun i => match i with
  | 0 => 46 | 1 => 60 | 2 => 62 | 3 => 67 | 4 => 73 | 5 => 75 | _ => 77
def bytS : List (List Int32) := [[115, 116, 97, 116, 101, 115], [59], [97, 99, 99, 101, 112, 116], [115, 104, 105, 102, 116], [112, 117, 115, 104], [112, 111, 112], [99, 111, 115, 116]]
def lenS : List Nat := [6, 1, 6, 5, 4, 3, 4]
def mvL : List (List Int32) := [[0, 1, 1, 1, 1, 1, 1, 2, 3, 3, 3, 3, 3, 3], [-1, 0, 1, 2, 3, 4, 5, -1, 0, 1, 2, 3, 4, 5]]
def mv (i j : Nat) : Int32 := (mvL.getD i []).getD j 0
def nmS (i : Nat) : String := match i with
  | 0 => "MOVE_OPERATIONS"
  | _ => "MOVE_KINDS"
def RO (g : GX) (U : State) (H : Heap) : Prop := vk_S 7 lenS bytS g.2.2.2.2.1 g.2.2.2.2.2.1 (Af g) U H ∧ (∀ i, i < 7 → vk_R "SyntaxRepair$GrammarText" (ixS i) (txS i) (g.2.2.2.2.1 i) U) ∧
  (∀ i, i < 2 → va_Z "SyntaxRepair" (nmS i) "[I" (.ref (g.2.2.2.2.2.2 i)) (Af g) U H ∧ va_T .int (g.2.2.2.2.2.2 i) 14 (fun j => .int (mv i j)) (Af g) U H) ∧
  va_Z "java/lang/String" "COMPACT_STRINGS" "Z" (.int 1) (Af g) U H ∧ va_Zq "jdk/internal/util/Preconditions" "SIOOBE_FORMATTER" "Ljava/util/function/BiFunction;" (Af g) U H
theorem RO.kept {g : GX} {U : State} {H H1 : Heap} (h : RO g U H) (hq : ∀ a : Nat, a < H.size → ¬ Af g a → H1[a]? = H[a]?) : RO g U H1 :=
  ⟨h.1.kept hq, h.2.1, fun i hi => ⟨(h.2.2.1 i hi).1.kept hq, (h.2.2.1 i hi).2.kept hq⟩, h.2.2.2.1.kept hq, h.2.2.2.2.kept hq⟩
theorem RO.warm {g : GX} {s U : State} {H : Heap} (hW : s.WarmedH U.vm) (h : RO g s H) : RO g U H :=
  ⟨h.1.moved hW.alike, fun i hi => (h.2.1 i hi).warm hW, fun i hi => ⟨(h.2.2.1 i hi).1.moved hW.alike, (h.2.2.1 i hi).2.moved hW.alike⟩, h.2.2.2.1.moved hW.alike, h.2.2.2.2.moved hW.alike⟩
/-! the world of a method, and the judgement V -/
def tyW (g : GX) : List (ClassId × FieldType) := [(g.2.2.1, .int), (g.2.2.2.1, .object "SyntaxRepair$Situation")]
def Wb (g : GX) (w : WX) (M : Mm) (U : State) : Prop := TB U ∧ va_K g.2.1 vwCl (tyW g) U ∧ RO g U U.heap ∧ U.heap.size = g.1 + w.1 ∧ va_P g.2.1 vwCl (wl g w M) U.heap
abbrev CX : Type := Program × Launch × Env × Room × State × MethodId × Array Value × List Frame × Method × Code
def lvl (vs : List (Option Value)) : List (Nat × Value) := (List.range vs.length).filterMap fun i => (vs.getD i none).map fun v => (i, v)
theorem lvl_mem {vs : List (Option Value)} {i : Nat} {v : Value} : (i, v) ∈ lvl vs ↔ vs[i]? = some (some v) := by
  simp only [lvl, List.mem_filterMap, List.mem_range, Option.map_eq_some_iff, Prod.mk.injEq]
  constructor
  · rintro ⟨j, hj, w, hw, rfl, rfl⟩
    rw [List.getD_eq_getElem?_getD] at hw
    rw [List.getElem?_eq_getElem hj] at hw ⊢
    exact congrArg some hw
  · intro h
    have hl := (List.getElem?_eq_some_iff.mp h).1
    exact ⟨i, hl, v, by rw [List.getD_eq_getElem?_getD, h]; rfl, rfl, rfl⟩
def Lc (ls : Array Slot) (nL : Nat) (vs : List (Option Value)) : Prop := (∀ v, some v ∈ vs → v.category = 1) ∧ lv_has ls nL (lvl vs)
theorem Lc.at {ls : Array Slot} {nL : Nat} {vs : List (Option Value)} (h : Lc ls nL vs) {i : Nat} {v : Value} (hv : vs[i]? = some (some v)) : ls[i]? = some (.val v) := h.2.2.2 (i, v) (lvl_mem.mpr hv)
theorem Lc.size {ls : Array Slot} {nL : Nat} {vs : List (Option Value)} (h : Lc ls nL vs) : ls.size = nL := h.2.1
theorem Lc.put {ls ls' : Array Slot} {nL : Nat} {vs : List (Option Value)} (h : Lc ls nL vs) {i : Nat} {v : Value} (hv : v.category = 1) (h' : lv_has ls' nL ((i, v) :: (lvl vs).filter (fun q => !(q.1 == i) && !(q.1 + 1 == i && q.2.category == 2)))) : Lc ls' nL (vs.set i (some v)) := by
  refine ⟨fun u hu => ?_, h'.1, h'.2.1, fun q hq => h'.2.2 q ?_⟩
  · rcases List.mem_or_eq_of_mem_set hu with hu | hu
    · exact h.1 u hu
    · cases hu; exact hv
  · obtain ⟨j, u⟩ := q
    have hq := lvl_mem.mp hq
    by_cases hj : i = j
    · subst hj
      have hl : i < vs.length := by
        have := (List.getElem?_eq_some_iff.mp hq).1
        simpa using this
      rw [List.getElem?_set_self hl] at hq
      cases hq
      exact List.mem_cons_self
    · rw [List.getElem?_set_ne hj] at hq
      refine List.mem_cons_of_mem _ (List.mem_filter.mpr ⟨lvl_mem.mpr hq, ?_⟩)
      have hu : u.category = 1 := h.1 u (List.mem_of_getElem? hq)
      simp [hu]
      exact fun q => hj q.symm
def lsub : List (Option Value) → List (Option Value) → Prop
  | [], _ => True
  | none :: t, [] => lsub t []
  | none :: t, _ :: t' => lsub t t'
  | some _ :: _, [] => False
  | some v :: t, w :: t' => w = some v ∧ lsub t t'
theorem lsub_at : ∀ {a b : List (Option Value)}, lsub a b → ∀ {i : Nat} {v : Value}, a[i]? = some (some v) → b[i]? = some (some v)
  | [], _, _, i, v, hv => by simp at hv
  | none :: t, [], h, i, v, hv => by
    cases i with
    | zero => simp at hv
    | succ i => simpa using lsub_at (a := t) (b := []) h (i := i) (by simpa using hv)
  | none :: t, _ :: t', h, i, v, hv => by
    cases i with
    | zero => simp at hv
    | succ i => simpa using lsub_at (a := t) (b := t') h (i := i) (by simpa using hv)
  | some _ :: _, [], h, _, _, _ => absurd h id
  | some u :: t, w :: t', h, i, v, hv => by
    cases i with
    | zero =>
      have h1 : u = v := by simpa using hv
      subst h1
      simp [h.1]
    | succ i => simpa using lsub_at (a := t) (b := t') h.2 (i := i) (by simpa using hv)
theorem Lc.sub {ls : Array Slot} {nL : Nat} {a b : List (Option Value)} (h : Lc ls nL b) (hs : lsub a b) : Lc ls nL a := by
  refine ⟨fun v hv => ?_, h.2.1, h.2.2.1, fun q hq => ?_⟩
  · obtain ⟨i, hi⟩ := List.getElem?_of_mem hv
    exact h.1 v (List.mem_of_getElem? (lsub_at hs hi))
  · obtain ⟨i, v⟩ := q
    exact h.2.2.2 (i, v) (lvl_mem.mpr (lsub_at hs (lvl_mem.mp hq)))
/-- the machine, on the way to Q, at pc, with locals vs, stack st, memory M -/
def V (X : CX) (g : GX) (w : WX) (nL k ns : Nat) (Q : State → Prop) (pc : Nat) (vs : List (Option Value)) (st : List Value) (M : Mm) : Prop :=
  ∀ (H : Heap) (locs : List Loc) (ls : Array Slot), Lc ls nL vs → H.size = g.1 + w.1 → va_P g.2.1 vwCl (wl g w M) H → va_S (Af g) X.2.2.2.2.1.heap H locs →
    W X.1 X.2.1 X.2.2.1 X.2.2.2.1 X.2.2.2.2.1 X.2.2.2.2.2.1 X.2.2.2.2.2.2.1 X.2.2.2.2.2.2.2.1 X.2.2.2.2.2.2.2.2.1 X.2.2.2.2.2.2.2.2.2 H locs k ns Q (F0 X.2.2.2.2.2.1 pc ls st)
/-- what a method's walk has at hand -/
def Cx (X : CX) (g : GX) (cc : ByteArray) (nL : Nat) (own : String) (ret : Option FieldType) (d : Nat) : Prop :=
  X.1.tables.exec = Jvm.exec ∧ X.2.2.2.2.2.2.2.2.2.code = cc ∧ X.2.2.2.2.1.vm.findClass own = some X.2.2.2.2.2.1.cls ∧ X.2.2.2.2.2.2.2.2.1.sig.returnType = ret ∧ X.2.2.2.2.2.2.2.2.2.maxLocals = nL ∧ X.2.2.2.2.2.2.2.2.1.locks = false ∧
  TB X.2.2.2.2.1 ∧ va_K g.2.1 vwCl (tyW g) X.2.2.2.2.1 ∧ RO g X.2.2.2.2.1 X.2.2.2.2.1.heap ∧ (d ≤ X.2.2.2.1.frames ∧ 36 * d ≤ X.2.2.2.1.locals) ∧ g.1 ≤ X.2.2.2.2.1.heap.size
def rmD (d : Nat) : Room := { frames := d, cells := 0, slots := 0, locals := 36 * d }
def zb (r : Int32) : Prop := r = 0 ∨ r = 1
def QI (X : CX) (g : GX) (w : WX) (post : Int32 → Mm → Prop) (k ns : Nat) : State → Prop := MQ X.2.2.2.2.2.2.2.1 (va_Qi post (Wb g w) (Af g)) X.2.2.2.2.2.2.1 X.2.2.2.2.1 k ns (Af g)
def QV (X : CX) (g : GX) (w : WX) (post : Mm → Prop) (k ns : Nat) : State → Prop := MQ X.2.2.2.2.2.2.2.1 (va_Qv post (Wb g w) (Af g)) X.2.2.2.2.2.2.1 X.2.2.2.2.1 k ns (Af g)
def QO (X : CX) (g : GX) (w : WX) (post : Option Nat → Mm → Prop) (k ns : Nat) : State → Prop := MQ X.2.2.2.2.2.2.2.1 (va_Qq (fun r M => ∃ q : Option Nat, r = q.map (fun c => g.1 + c) ∧ post q M) (Wb g w) (Af g)) X.2.2.2.2.2.2.1 X.2.2.2.2.1 k ns (Af g)
theorem wb_of {X : CX} {g : GX} {w : WX} {M : Mm} {H : Heap} {locs : List Loc} {cc : ByteArray} {nL d : Nat} {own : String} {ret : Option FieldType} (hC : Cx X g cc nL own ret d) (hz : H.size = g.1 + w.1) (hP : va_P g.2.1 vwCl (wl g w M) H) (hS : va_S (Af g) X.2.2.2.2.1.heap H locs) {t : State} (ht : t.heap = H) (hW : X.2.2.2.2.1.WarmedH t.vm) : Wb g w M t := by
  obtain ⟨hx, hb, ho, hr, hm, hl, hT, hK, hR, -⟩ := hC
  refine ⟨hT.warm hW, va_K.moved hW.alike hK, ?_, by rw [ht]; exact hz, by rw [ht]; exact hP⟩
  rw [ht]
  exact (hR.kept (fun a h1 h2 => hS.2.1 a h1 h2)).warm hW
theorem wb_blind {g : GX} {w : WX} {M : Mm} {av : List Value} : FrameBlind (va_Pc av (Wb g w M)) := by
  intro a U gf mk h
  obtain ⟨h1, h2, h3, h4, h5, h6⟩ := h
  have hW : U.WarmedH (U.calling gf mk a).vm := State.WarmedH.refl U
  exact ⟨h1, h2.warm hW, va_K.moved hW.alike h3, h4.warm hW, h5, h6⟩
def evs (av : List Value) (nL : Nat) : List (Option Value) := av.map some ++ List.replicate (nL - av.length) none
theorem lv_args_mem : ∀ (av : List Value) (i0 : Nat), (∀ v ∈ av, v.category = 1) → ∀ {j : Nat} {v : Value}, av[j]? = some v → (i0 + j, v) ∈ lv_args i0 av
  | [], _, _, j, v, h => by simp at h
  | u :: t, i0, hc, j, v, h => by
    have h1 : ¬ u.category = 2 := by rw [hc u List.mem_cons_self]; decide
    rw [lv_args, if_neg h1]
    cases j with
    | zero =>
      have : u = v := by simpa using h
      subst this
      exact List.mem_cons_self
    | succ j =>
      have := lv_args_mem t (i0 + 1) (fun w hw => hc w (List.mem_cons_of_mem _ hw)) (j := j) (v := v) (by simpa using h)
      rw [show i0 + (j + 1) = i0 + 1 + j by omega]
      exact List.mem_cons_of_mem _ this
theorem Lc.entry {av : List Value} {nL : Nat} (hc : ∀ v ∈ av, v.category = 1) (hn : (lg_sl av).length ≤ nL) : Lc ((lg_sl av ++ List.replicate (nL - (lg_sl av).length) Slot.unset).toArray) nL (evs av nL) := by
  refine ⟨fun v hv => ?_, ?_⟩
  · rcases List.mem_append.mp hv with h | h
    · obtain ⟨u, hu, e⟩ := List.mem_map.mp h
      cases e
      exact hc _ hu
    · exact absurd (List.eq_of_mem_replicate h) (by simp)
  · have h0 := lv_entry av hn
    refine ⟨h0.1, h0.2.1, fun q hq => h0.2.2 q ?_⟩
    obtain ⟨i, v⟩ := q
    have h1 := lvl_mem.mp hq
    have h2 : av[i]? = some v := by
      rw [evs] at h1
      by_cases hi : i < (av.map some).length
      · rw [List.getElem?_append_left hi, List.getElem?_map] at h1
        cases ha : av[i]? with
        | none => rw [ha] at h1; simp at h1
        | some u => rw [ha] at h1; simpa using h1
      · rw [List.getElem?_append_right (by omega)] at h1
        have := List.mem_of_getElem? h1
        exact absurd (List.eq_of_mem_replicate this) (by simp)
    have h3 := lv_args_mem av 0 hc h2
    rwa [Nat.zero_add] at h3
end
section
section RULES
variable {X : CX} {g : GX} {w : WX} {cc : ByteArray} {nL k ns d : Nat} {own : String} {ret : Option FieldType} {Q : State → Prop} {pc : Nat} {vs : List (Option Value)} {st : List Value} {M : Mm}
theorem V_iload_n (hC : Cx X g cc nL own ret d) {j : Fin 4} {x : Int32} (hl : vs[(j : Nat)]? = some (some (.int x))) (hd : decode cc pc = .ok (.iload_n j, 1)) (kk : V X g w nL k ns Q (pc + 1) vs (.int x :: st) M) : V X g w nL k ns Q pc vs st M :=
  fun H locs ls hL hz hP hS => lv_iload_n hC.1 hC.2.1 hd rfl (hL.at hl) (kk H locs ls hL hz hP hS)
theorem V_iload (hC : Cx X g cc nL own ret d) {j : Nat} {x : Int32} (hl : vs[j]? = some (some (.int x))) (hd : decode cc pc = .ok (.iload j, 2)) (kk : V X g w nL k ns Q (pc + 2) vs (.int x :: st) M) : V X g w nL k ns Q pc vs st M :=
  fun H locs ls hL hz hP hS => lv_iload hC.1 hC.2.1 hd (hL.at hl) (kk H locs ls hL hz hP hS)
theorem V_aload_n (hC : Cx X g cc nL own ret d) {j : Fin 4} {x : Nat} (hl : vs[(j : Nat)]? = some (some (.ref x))) (hd : decode cc pc = .ok (.aload_n j, 1)) (kk : V X g w nL k ns Q (pc + 1) vs (.ref x :: st) M) : V X g w nL k ns Q pc vs st M :=
  fun H locs ls hL hz hP hS => lv_aload_n hC.1 hC.2.1 hd rfl (hL.at hl) (kk H locs ls hL hz hP hS)
theorem V_aload (hC : Cx X g cc nL own ret d) {j : Nat} {x : Nat} (hl : vs[j]? = some (some (.ref x))) (hd : decode cc pc = .ok (.aload j, 2)) (kk : V X g w nL k ns Q (pc + 2) vs (.ref x :: st) M) : V X g w nL k ns Q pc vs st M :=
  fun H locs ls hL hz hP hS => lv_aload hC.1 hC.2.1 hd (hL.at hl) (kk H locs ls hL hz hP hS)
theorem V_istore_n (hC : Cx X g cc nL own ret d) {j : Fin 4} {x : Int32} (hn : (j : Nat) < nL) (hd : decode cc pc = .ok (.istore_n j, 1)) (kk : V X g w nL k ns Q (pc + 1) (vs.set (j : Nat) (some (.int x))) st M) : V X g w nL k ns Q pc vs ((.int x) :: st) M :=
  fun H locs ls hL hz hP hS => lv_istore_n hC.1 hC.2.1 hd rfl hL.2 hn rfl (fun ls' h' => kk H locs ls' (hL.put rfl h') hz hP hS)
theorem V_istore (hC : Cx X g cc nL own ret d) {j : Nat} {x : Int32} (hn : j < nL) (hd : decode cc pc = .ok (.istore j, 2)) (kk : V X g w nL k ns Q (pc + 2) (vs.set j (some (.int x))) st M) : V X g w nL k ns Q pc vs ((.int x) :: st) M :=
  fun H locs ls hL hz hP hS => lv_istore hC.1 hC.2.1 hd hL.2 hn rfl (fun ls' h' => kk H locs ls' (hL.put rfl h') hz hP hS)
theorem V_astore_n (hC : Cx X g cc nL own ret d) {j : Fin 4} {x : Nat} (hn : (j : Nat) < nL) (hd : decode cc pc = .ok (.astore_n j, 1)) (kk : V X g w nL k ns Q (pc + 1) (vs.set (j : Nat) (some (.ref x))) st M) : V X g w nL k ns Q pc vs ((.ref x) :: st) M :=
  fun H locs ls hL hz hP hS => lv_astore_n hC.1 hC.2.1 hd rfl hL.2 hn rfl (fun ls' h' => kk H locs ls' (hL.put rfl h') hz hP hS)
theorem V_astore (hC : Cx X g cc nL own ret d) {j : Nat} {x : Nat} (hn : j < nL) (hd : decode cc pc = .ok (.astore j, 2)) (kk : V X g w nL k ns Q (pc + 2) (vs.set j (some (.ref x))) st M) : V X g w nL k ns Q pc vs ((.ref x) :: st) M :=
  fun H locs ls hL hz hP hS => lv_astore hC.1 hC.2.1 hd hL.2 hn rfl (fun ls' h' => kk H locs ls' (hL.put rfl h') hz hP hS)
theorem V_iinc (hC : Cx X g cc nL own ret d) {j : Nat} {z : Int} {x v : Int32} (hl : vs[j]? = some (some (.int x))) (hv : x + Int32.ofInt z = v) (hn : j < nL) (hd : decode cc pc = .ok (.iinc j z, 3)) (kk : V X g w nL k ns Q (pc + 3) (vs.set j (some (.int v))) st M) : V X g w nL k ns Q pc vs st M :=
  fun H locs ls hL hz hP hS => by
    obtain ⟨i, hi⟩ := List.getElem?_of_mem (lvl_mem.mpr hl)
    exact lv_iinc hC.1 hC.2.1 hd hL.2 (k := i) hi hv hn rfl (fun ls' h' => kk H locs ls' (hL.put rfl h') hz hP hS)
theorem V_iconst (hC : Cx X g cc nL own ret d) {z : Int} {v : Int32} (hv : Int32.ofInt z = v) (hd : decode cc pc = .ok (.iconst z, 1)) (kk : V X g w nL k ns Q (pc + 1) vs (.int v :: st) M) : V X g w nL k ns Q pc vs st M :=
  fun H locs ls hL hz hP hS => lv_iconst hC.1 hC.2.1 hd hv (kk H locs ls hL hz hP hS)
theorem V_bipush (hC : Cx X g cc nL own ret d) {z : Int} {v : Int32} (hv : (Int8.ofInt z).toInt32 = v) (hd : decode cc pc = .ok (.bipush z, 2)) (kk : V X g w nL k ns Q (pc + 2) vs (.int v :: st) M) : V X g w nL k ns Q pc vs st M :=
  fun H locs ls hL hz hP hS => lv_bipush hC.1 hC.2.1 hd hv (kk H locs ls hL hz hP hS)
theorem V_sipush (hC : Cx X g cc nL own ret d) {z : Int} {v : Int32} (hv : (Int16.ofInt z).toInt32 = v) (hd : decode cc pc = .ok (.sipush z, 3)) (kk : V X g w nL k ns Q (pc + 3) vs (.int v :: st) M) : V X g w nL k ns Q pc vs st M :=
  fun H locs ls hL hz hP hS => lv_sipush hC.1 hC.2.1 hd hv (kk H locs ls hL hz hP hS)
theorem V_lconst (hC : Cx X g cc nL own ret d) {z : Fin 2} {v : Int64} (hv : Int64.ofNat (z : Nat) = v) (hd : decode cc pc = .ok (.lconst z, 1)) (kk : V X g w nL k ns Q (pc + 1) vs (.long v :: st) M) : V X g w nL k ns Q pc vs st M :=
  fun H locs ls hL hz hP hS => lv_lconst hC.1 hC.2.1 hd hv (kk H locs ls hL hz hP hS)
theorem V_ldc (hC : Cx X g cc nL own ret d) {index : Nat} {v : Int32} (hw : Cond.constant own index v ∈ Tk) (hd : decode cc pc = .ok (.ldc index, 2)) (kk : V X g w nL k ns Q (pc + 2) vs (.int v :: st) M) : V X g w nL k ns Q pc vs st M :=
  fun H locs ls hL hz hP hS => lv_ldc hC.1 hC.2.1 hC.2.2.1 (hC.2.2.2.2.2.2.1.hts _ hw) hd (kk H locs ls hL hz hP hS)
theorem V_ldc2 (hC : Cx X g cc nL own ret d) {index : Nat} {v : Int64} (hw : Cond.constantLong own index v ∈ Tk) (hd : decode cc pc = .ok (.ldc2_w index, 3)) (kk : V X g w nL k ns Q (pc + 3) vs (.long v :: st) M) : V X g w nL k ns Q pc vs st M :=
  fun H locs ls hL hz hP hS => lv_ldc2 hC.1 hC.2.1 hC.2.2.1 (hC.2.2.2.2.2.2.1.hts _ hw) hd (kk H locs ls hL hz hP hS)
theorem V_iadd (hC : Cx X g cc nL own ret d) {x y : Int32} (hd : decode cc pc = .ok (.iadd, 1)) (kk : V X g w nL k ns Q (pc + 1) vs (.int (x + y) :: st) M) : V X g w nL k ns Q pc vs (.int y :: .int x :: st) M :=
  fun H locs ls hL hz hP hS => lv_iadd hC.1 hC.2.1 hd (kk H locs ls hL hz hP hS)
theorem V_isub (hC : Cx X g cc nL own ret d) {x y : Int32} (hd : decode cc pc = .ok (.isub, 1)) (kk : V X g w nL k ns Q (pc + 1) vs (.int (x - y) :: st) M) : V X g w nL k ns Q pc vs (.int y :: .int x :: st) M :=
  fun H locs ls hL hz hP hS => lv_isub hC.1 hC.2.1 hd (kk H locs ls hL hz hP hS)
theorem V_imul (hC : Cx X g cc nL own ret d) {x y : Int32} (hd : decode cc pc = .ok (.imul, 1)) (kk : V X g w nL k ns Q (pc + 1) vs (.int (x * y) :: st) M) : V X g w nL k ns Q pc vs (.int y :: .int x :: st) M :=
  fun H locs ls hL hz hP hS => lv_imul hC.1 hC.2.1 hd (kk H locs ls hL hz hP hS)
theorem V_iand (hC : Cx X g cc nL own ret d) {x y : Int32} (hd : decode cc pc = .ok (.iand, 1)) (kk : V X g w nL k ns Q (pc + 1) vs (.int (x &&& y) :: st) M) : V X g w nL k ns Q pc vs (.int y :: .int x :: st) M :=
  fun H locs ls hL hz hP hS => lv_iand hC.1 hC.2.1 hd (kk H locs ls hL hz hP hS)
theorem V_ior (hC : Cx X g cc nL own ret d) {x y : Int32} (hd : decode cc pc = .ok (.ior, 1)) (kk : V X g w nL k ns Q (pc + 1) vs (.int (x ||| y) :: st) M) : V X g w nL k ns Q pc vs (.int y :: .int x :: st) M :=
  fun H locs ls hL hz hP hS => lv_ior hC.1 hC.2.1 hd (kk H locs ls hL hz hP hS)
theorem V_idiv (hC : Cx X g cc nL own ret d) {x y : Int32} (hne : ¬ y = 0) (hd : decode cc pc = .ok (.idiv, 1)) (kk : V X g w nL k ns Q (pc + 1) vs (.int (x / y) :: st) M) : V X g w nL k ns Q pc vs (.int y :: .int x :: st) M :=
  fun H locs ls hL hz hP hS => lv_idiv hC.1 hC.2.1 hd hne (kk H locs ls hL hz hP hS)
theorem V_irem (hC : Cx X g cc nL own ret d) {x y : Int32} (hne : ¬ y = 0) (hd : decode cc pc = .ok (.irem, 1)) (kk : V X g w nL k ns Q (pc + 1) vs (.int (x - x / y * y) :: st) M) : V X g w nL k ns Q pc vs (.int y :: .int x :: st) M :=
  fun H locs ls hL hz hP hS => lv_irem hC.1 hC.2.1 hd hne (kk H locs ls hL hz hP hS)
theorem V_ishl (hC : Cx X g cc nL own ret d) {x y : Int32} (hd : decode cc pc = .ok (.ishl, 1)) (kk : V X g w nL k ns Q (pc + 1) vs (.int (x <<< (y &&& 31)) :: st) M) : V X g w nL k ns Q pc vs (.int y :: .int x :: st) M :=
  fun H locs ls hL hz hP hS => lv_ishl hC.1 hC.2.1 hd (kk H locs ls hL hz hP hS)
theorem V_ishr (hC : Cx X g cc nL own ret d) {x y : Int32} (hd : decode cc pc = .ok (.ishr, 1)) (kk : V X g w nL k ns Q (pc + 1) vs (.int (x >>> (y &&& 31)) :: st) M) : V X g w nL k ns Q pc vs (.int y :: .int x :: st) M :=
  fun H locs ls hL hz hP hS => lv_ishr hC.1 hC.2.1 hd (kk H locs ls hL hz hP hS)
theorem V_ladd (hC : Cx X g cc nL own ret d) {x y : Int64} (hd : decode cc pc = .ok (.ladd, 1)) (kk : V X g w nL k ns Q (pc + 1) vs (.long (x + y) :: st) M) : V X g w nL k ns Q pc vs (.long y :: .long x :: st) M :=
  fun H locs ls hL hz hP hS => lv_ladd hC.1 hC.2.1 hd (kk H locs ls hL hz hP hS)
theorem V_lsub (hC : Cx X g cc nL own ret d) {x y : Int64} (hd : decode cc pc = .ok (.lsub, 1)) (kk : V X g w nL k ns Q (pc + 1) vs (.long (x - y) :: st) M) : V X g w nL k ns Q pc vs (.long y :: .long x :: st) M :=
  fun H locs ls hL hz hP hS => lv_lsub hC.1 hC.2.1 hd (kk H locs ls hL hz hP hS)
theorem V_lmul (hC : Cx X g cc nL own ret d) {x y : Int64} (hd : decode cc pc = .ok (.lmul, 1)) (kk : V X g w nL k ns Q (pc + 1) vs (.long (x * y) :: st) M) : V X g w nL k ns Q pc vs (.long y :: .long x :: st) M :=
  fun H locs ls hL hz hP hS => lv_lmul hC.1 hC.2.1 hd (kk H locs ls hL hz hP hS)
theorem V_lcmp (hC : Cx X g cc nL own ret d) {x y : Int64} (hd : decode cc pc = .ok (.lcmp, 1)) (kk : V X g w nL k ns Q (pc + 1) vs (.int (lg_cmp x y) :: st) M) : V X g w nL k ns Q pc vs (.long y :: .long x :: st) M :=
  fun H locs ls hL hz hP hS => W.lcmp hC.1 hC.2.1 hd (kk H locs ls hL hz hP hS)
theorem V_i2l (hC : Cx X g cc nL own ret d) {x : Int32} (hd : decode cc pc = .ok (.i2l, 1)) (kk : V X g w nL k ns Q (pc + 1) vs (.long x.toInt64 :: st) M) : V X g w nL k ns Q pc vs (.int x :: st) M :=
  fun H locs ls hL hz hP hS => lv_i2l hC.1 hC.2.1 hd rfl (kk H locs ls hL hz hP hS)
theorem V_l2i (hC : Cx X g cc nL own ret d) {x : Int64} (hd : decode cc pc = .ok (.l2i, 1)) (kk : V X g w nL k ns Q (pc + 1) vs (.int x.toInt32 :: st) M) : V X g w nL k ns Q pc vs (.long x :: st) M :=
  fun H locs ls hL hz hP hS => lv_l2i hC.1 hC.2.1 hd rfl (kk H locs ls hL hz hP hS)
theorem V_dup (hC : Cx X g cc nL own ret d) {v : Value} (hv : v.category = 1) (hd : decode cc pc = .ok (.dup, 1)) (kk : V X g w nL k ns Q (pc + 1) vs (v :: v :: st) M) : V X g w nL k ns Q pc vs (v :: st) M :=
  fun H locs ls hL hz hP hS => lv_dup hC.1 hC.2.1 hd hv (kk H locs ls hL hz hP hS)
theorem V_dup2 (hC : Cx X g cc nL own ret d) {u v : Value} (hu : u.category = 1) (hv : v.category = 1) (hd : decode cc pc = .ok (.dup2, 1)) (kk : V X g w nL k ns Q (pc + 1) vs (u :: v :: u :: v :: st) M) : V X g w nL k ns Q pc vs (u :: v :: st) M :=
  fun H locs ls hL hz hP hS => lv_dup2_11 hC.1 hC.2.1 hd hu hv (kk H locs ls hL hz hP hS)
theorem V_goto (hC : Cx X g cc nL own ret d) {off : Int} {tgt : Nat} (ht : (pc : Int) + off = (tgt : Int)) (hd : decode cc pc = .ok (.goto off, 3)) (kk : V X g w nL k ns Q tgt vs st M) : V X g w nL k ns Q pc vs st M :=
  fun H locs ls hL hz hP hS => lv_goto hC.1 hC.2.1 hd ht (kk H locs ls hL hz hP hS)
theorem V_null (hC : Cx X g cc nL own ret d)  (hd : decode cc pc = .ok (.aconst_null, 1)) (kk : V X g w nL k ns Q (pc + 1) vs (.null :: st) M) : V X g w nL k ns Q pc vs st M :=
  fun H locs ls hL hz hP hS => lv_null hC.1 hC.2.1 hd (kk H locs ls hL hz hP hS)
theorem V_icmp_eq (hC : Cx X g cc nL own ret d) {x y : Int32} {off : Int} {tgt : Nat} (hd : decode cc pc = .ok (.if_icmp .eq off, 3)) (ht : (pc : Int) + off = (tgt : Int)) (kt : (x = y) → V X g w nL k ns Q tgt vs st M) (kf : ¬ (x = y) → V X g w nL k ns Q (pc + 3) vs st M) : V X g w nL k ns Q pc vs (.int y :: .int x :: st) M :=
  fun H locs ls hL hz hP hS => lv_icmp_eq hC.1 hC.2.1 hd ht (fun q => kt q H locs ls hL hz hP hS) (fun q => kf q H locs ls hL hz hP hS)
theorem V_icmp_ne (hC : Cx X g cc nL own ret d) {x y : Int32} {off : Int} {tgt : Nat} (hd : decode cc pc = .ok (.if_icmp .ne off, 3)) (ht : (pc : Int) + off = (tgt : Int)) (kt : (¬ x = y) → V X g w nL k ns Q tgt vs st M) (kf : (x = y) → V X g w nL k ns Q (pc + 3) vs st M) : V X g w nL k ns Q pc vs (.int y :: .int x :: st) M :=
  fun H locs ls hL hz hP hS => lv_icmp_ne hC.1 hC.2.1 hd ht (fun q => kt q H locs ls hL hz hP hS) (fun q => kf q H locs ls hL hz hP hS)
theorem V_icmp_lt (hC : Cx X g cc nL own ret d) {x y : Int32} {off : Int} {tgt : Nat} (hd : decode cc pc = .ok (.if_icmp .lt off, 3)) (ht : (pc : Int) + off = (tgt : Int)) (kt : (x < y) → V X g w nL k ns Q tgt vs st M) (kf : ¬ (x < y) → V X g w nL k ns Q (pc + 3) vs st M) : V X g w nL k ns Q pc vs (.int y :: .int x :: st) M :=
  fun H locs ls hL hz hP hS => lv_icmp_lt hC.1 hC.2.1 hd ht (fun q => kt q H locs ls hL hz hP hS) (fun q => kf q H locs ls hL hz hP hS)
theorem V_icmp_ge (hC : Cx X g cc nL own ret d) {x y : Int32} {off : Int} {tgt : Nat} (hd : decode cc pc = .ok (.if_icmp .ge off, 3)) (ht : (pc : Int) + off = (tgt : Int)) (kt : (y ≤ x) → V X g w nL k ns Q tgt vs st M) (kf : ¬ (y ≤ x) → V X g w nL k ns Q (pc + 3) vs st M) : V X g w nL k ns Q pc vs (.int y :: .int x :: st) M :=
  fun H locs ls hL hz hP hS => lv_icmp_ge hC.1 hC.2.1 hd ht (fun q => kt q H locs ls hL hz hP hS) (fun q => kf q H locs ls hL hz hP hS)
theorem V_icmp_gt (hC : Cx X g cc nL own ret d) {x y : Int32} {off : Int} {tgt : Nat} (hd : decode cc pc = .ok (.if_icmp .gt off, 3)) (ht : (pc : Int) + off = (tgt : Int)) (kt : (y < x) → V X g w nL k ns Q tgt vs st M) (kf : ¬ (y < x) → V X g w nL k ns Q (pc + 3) vs st M) : V X g w nL k ns Q pc vs (.int y :: .int x :: st) M :=
  fun H locs ls hL hz hP hS => lv_icmp_gt hC.1 hC.2.1 hd ht (fun q => kt q H locs ls hL hz hP hS) (fun q => kf q H locs ls hL hz hP hS)
theorem V_icmp_le (hC : Cx X g cc nL own ret d) {x y : Int32} {off : Int} {tgt : Nat} (hd : decode cc pc = .ok (.if_icmp .le off, 3)) (ht : (pc : Int) + off = (tgt : Int)) (kt : (x ≤ y) → V X g w nL k ns Q tgt vs st M) (kf : ¬ (x ≤ y) → V X g w nL k ns Q (pc + 3) vs st M) : V X g w nL k ns Q pc vs (.int y :: .int x :: st) M :=
  fun H locs ls hL hz hP hS => lv_icmp_le hC.1 hC.2.1 hd ht (fun q => kt q H locs ls hL hz hP hS) (fun q => kf q H locs ls hL hz hP hS)
theorem V_if_eq (hC : Cx X g cc nL own ret d) {x : Int32} {off : Int} {tgt : Nat} (hd : decode cc pc = .ok (.ifCond .eq off, 3)) (ht : (pc : Int) + off = (tgt : Int)) (kt : (x = 0) → V X g w nL k ns Q tgt vs st M) (kf : ¬ (x = 0) → V X g w nL k ns Q (pc + 3) vs st M) : V X g w nL k ns Q pc vs (.int x :: st) M :=
  fun H locs ls hL hz hP hS => lv_if_eq hC.1 hC.2.1 hd ht (fun q => kt q H locs ls hL hz hP hS) (fun q => kf q H locs ls hL hz hP hS)
theorem V_if_ne (hC : Cx X g cc nL own ret d) {x : Int32} {off : Int} {tgt : Nat} (hd : decode cc pc = .ok (.ifCond .ne off, 3)) (ht : (pc : Int) + off = (tgt : Int)) (kt : (¬ x = 0) → V X g w nL k ns Q tgt vs st M) (kf : (x = 0) → V X g w nL k ns Q (pc + 3) vs st M) : V X g w nL k ns Q pc vs (.int x :: st) M :=
  fun H locs ls hL hz hP hS => lv_if_ne hC.1 hC.2.1 hd ht (fun q => kt q H locs ls hL hz hP hS) (fun q => kf q H locs ls hL hz hP hS)
theorem V_if_lt (hC : Cx X g cc nL own ret d) {x : Int32} {off : Int} {tgt : Nat} (hd : decode cc pc = .ok (.ifCond .lt off, 3)) (ht : (pc : Int) + off = (tgt : Int)) (kt : (x < 0) → V X g w nL k ns Q tgt vs st M) (kf : ¬ (x < 0) → V X g w nL k ns Q (pc + 3) vs st M) : V X g w nL k ns Q pc vs (.int x :: st) M :=
  fun H locs ls hL hz hP hS => lv_if_lt hC.1 hC.2.1 hd ht (fun q => kt q H locs ls hL hz hP hS) (fun q => kf q H locs ls hL hz hP hS)
theorem V_if_ge (hC : Cx X g cc nL own ret d) {x : Int32} {off : Int} {tgt : Nat} (hd : decode cc pc = .ok (.ifCond .ge off, 3)) (ht : (pc : Int) + off = (tgt : Int)) (kt : (0 ≤ x) → V X g w nL k ns Q tgt vs st M) (kf : ¬ (0 ≤ x) → V X g w nL k ns Q (pc + 3) vs st M) : V X g w nL k ns Q pc vs (.int x :: st) M :=
  fun H locs ls hL hz hP hS => lv_if_ge hC.1 hC.2.1 hd ht (fun q => kt q H locs ls hL hz hP hS) (fun q => kf q H locs ls hL hz hP hS)
theorem V_if_gt (hC : Cx X g cc nL own ret d) {x : Int32} {off : Int} {tgt : Nat} (hd : decode cc pc = .ok (.ifCond .gt off, 3)) (ht : (pc : Int) + off = (tgt : Int)) (kt : (0 < x) → V X g w nL k ns Q tgt vs st M) (kf : ¬ (0 < x) → V X g w nL k ns Q (pc + 3) vs st M) : V X g w nL k ns Q pc vs (.int x :: st) M :=
  fun H locs ls hL hz hP hS => lv_if_gt hC.1 hC.2.1 hd ht (fun q => kt q H locs ls hL hz hP hS) (fun q => kf q H locs ls hL hz hP hS)
theorem V_if_le (hC : Cx X g cc nL own ret d) {x : Int32} {off : Int} {tgt : Nat} (hd : decode cc pc = .ok (.ifCond .le off, 3)) (ht : (pc : Int) + off = (tgt : Int)) (kt : (x ≤ 0) → V X g w nL k ns Q tgt vs st M) (kf : ¬ (x ≤ 0) → V X g w nL k ns Q (pc + 3) vs st M) : V X g w nL k ns Q pc vs (.int x :: st) M :=
  fun H locs ls hL hz hP hS => lv_if_le hC.1 hC.2.1 hd ht (fun q => kt q H locs ls hL hz hP hS) (fun q => kf q H locs ls hL hz hP hS)
theorem V_ifnull_s (hC : Cx X g cc nL own ret d) {x : Nat} {off : Int} (hd : decode cc pc = .ok (.ifnull off, 3)) (kk : V X g w nL k ns Q (pc + 3) vs st M) : V X g w nL k ns Q pc vs (.ref x :: st) M :=
  fun H locs ls hL hz hP hS => lv_ifnull hC.1 hC.2.1 hd (kk H locs ls hL hz hP hS)
theorem V_ifnull_n (hC : Cx X g cc nL own ret d) {off : Int} {tgt : Nat} (ht : (pc : Int) + off = (tgt : Int)) (hd : decode cc pc = .ok (.ifnull off, 3)) (kk : V X g w nL k ns Q tgt vs st M) : V X g w nL k ns Q pc vs (.null :: st) M :=
  fun H locs ls hL hz hP hS => lv_ifnullN hC.1 hC.2.1 hd ht (kk H locs ls hL hz hP hS)
theorem V_sub {us : List (Option Value)} (h : lsub us vs) (kk : V X g w nL k ns Q pc us st M) : V X g w nL k ns Q pc vs st M := fun H locs ls hL hz hP hS => kk H locs ls (hL.sub h) hz hP hS
theorem V_tin (hC : Cx X g cc nL own ret d) {dflt lo hi : Int} {offs : Array Int} {len : Nat} {x : Int32} {off : Int} {tgt : Nat} (hd : decode cc pc = .ok (.tableswitch dflt lo hi offs, len)) (h1 : ¬ x.toInt < lo) (h2 : ¬ hi < x.toInt) (ho : offs[(x.toInt - lo).toNat]? = some off) (ht : (pc : Int) + off = (tgt : Int)) (kk : V X g w nL k ns Q tgt vs st M) : V X g w nL k ns Q pc vs (.int x :: st) M :=
  fun H locs ls hL hz hP hS => lv_tableIn hC.1 hC.2.1 hd h1 h2 ho ht (kk H locs ls hL hz hP hS)
theorem V_tout (hC : Cx X g cc nL own ret d) {dflt lo hi : Int} {offs : Array Int} {len : Nat} {x : Int32} {tgt : Nat} (hd : decode cc pc = .ok (.tableswitch dflt lo hi offs, len)) (h : x.toInt < lo ∨ hi < x.toInt) (ht : (pc : Int) + dflt = (tgt : Int)) (kk : V X g w nL k ns Q tgt vs st M) : V X g w nL k ns Q pc vs (.int x :: st) M :=
  fun H locs ls hL hz hP hS => lv_tableOut hC.1 hC.2.1 hd h ht (kk H locs ls hL hz hP hS)
theorem ent_20 {f : Nat → Int32} {c : Nat} (h : kd c = 20) : ent g f c = .inl (g.2.2.1, ln c, .inl f) := by unfold ent; rw [h]; rfl
theorem ent_21 {f : Nat → Int32} {c : Nat} (h : kd c = 21) : ent g f c = .inl (g.2.2.2.1, ln c, .inr (.inr (.inr (.inr (fun k => some (g.1 + (c + 1 + 10 * k))))))) := by unfold ent; rw [h]; rfl
theorem V_iald (hC : Cx X g cc nL own ret d) {r : Nat} {i : Int32} (hk : ok w r 20) (hin : vp_in i (ln r)) (hd : decode cc pc = .ok (.iaload, 1)) (kk : V X g w nL k ns Q (pc + 1) vs (.int (M r i.toNatClampNeg) :: st) M) : V X g w nL k ns Q pc vs (.int i :: ob g r :: st) M :=
  fun H locs ls hL hz hP hS => by
    obtain ⟨h1, h2, h3⟩ := en_ok (g := g) (M := M) hk (by decide)
    exact va_iald hC.1 hC.2.1 hC.2.2.2.2.2.2.2.1 hP r 0 ((wl_at h1).trans (by rw [h2, ent_20 h3])) rfl hin hd (kk H locs ls hL hz hP hS)
theorem V_alen (hC : Cx X g cc nL own ret d) {r : Nat} (hk : ok w r 20) {v : Int32} (hv : Int32.ofNat (ln r) = v) (hd : decode cc pc = .ok (.arraylength, 1)) (kk : V X g w nL k ns Q (pc + 1) vs (.int v :: st) M) : V X g w nL k ns Q pc vs (ob g r :: st) M :=
  fun H locs ls hL hz hP hS => by
    obtain ⟨h1, h2, h3⟩ := en_ok (g := g) (M := M) hk (by decide)
    exact va_alen hC.1 hC.2.1 hC.2.2.2.2.2.2.2.1 hP r 0 ((wl_at h1).trans (by rw [h2, ent_20 h3])) rfl (v := v) hv hd (kk H locs ls hL hz hP hS)
theorem V_qlen (hC : Cx X g cc nL own ret d) {r : Nat} (hk : ok w r 21) {v : Int32} (hv : Int32.ofNat (ln r) = v) (hd : decode cc pc = .ok (.arraylength, 1)) (kk : V X g w nL k ns Q (pc + 1) vs (.int v :: st) M) : V X g w nL k ns Q pc vs (ob g r :: st) M :=
  fun H locs ls hL hz hP hS => by
    obtain ⟨h1, h2, h3⟩ := en_ok (g := g) (M := M) hk (by decide)
    exact va_alen hC.1 hC.2.1 hC.2.2.2.2.2.2.2.1 hP r 1 ((wl_at h1).trans (by rw [h2, ent_21 h3])) rfl (v := v) hv hd (kk H locs ls hL hz hP hS)
theorem V_aald (hC : Cx X g cc nL own ret d) {r : Nat} {i : Int32} (hk : ok w r 21) (hin : vp_in i (ln r)) (hd : decode cc pc = .ok (.aaload, 1)) (kk : V X g w nL k ns Q (pc + 1) vs (ob g (r + 1 + 10 * i.toNatClampNeg) :: st) M) : V X g w nL k ns Q pc vs (.int i :: ob g r :: st) M :=
  fun H locs ls hL hz hP hS => by
    obtain ⟨h1, h2, h3⟩ := en_ok (g := g) (M := M) hk (by decide)
    exact va_aldq (f := fun k => some (g.1 + (r + 1 + 10 * k))) hC.1 hC.2.1 hC.2.2.2.2.2.2.2.1 hP r 1 ((wl_at h1).trans (by rw [h2, ent_21 h3])) rfl hin hd (kk H locs ls hL hz hP hS)
theorem V_iast (hC : Cx X g cc nL own ret d) {r : Nat} {i x : Int32} (hk : ok w r 20) (hin : vp_in i (ln r)) (hd : decode cc pc = .ok (.iastore, 1)) (kk : V X g w nL k ns Q (pc + 1) vs st (up M r i.toNatClampNeg x)) : V X g w nL k ns Q pc vs (.int x :: .int i :: ob g r :: st) M :=
  fun H locs ls hL hz hP hS => by
    obtain ⟨h1, h2, h3⟩ := en_ok (g := g) (M := M) hk (by decide)
    obtain ⟨-, h5, -⟩ := en_ok (g := g) (M := up M r i.toNatClampNeg x) hk (by decide)
    have ha : (wl g w M)[r]? = some (g.1 + r, .inl (g.2.2.1, ln r, .inl (M r))) := (wl_at h1).trans (by rw [h2, ent_20 h3])
    have hset : (wl g w M).set r (g.1 + r, .inl (g.2.2.1, ln r, .inl (upd (M r) i.toNatClampNeg x))) = wl g w (up M r i.toNatClampNeg x) := wl_set h1 (by rw [h5, ent_20 h3, up_e]) (fun c' h => up_c h)
    refine W.iast hC.1 hC.2.1 (hP r _ ha) ((hC.2.2.2.2.2.2.2.1.2 0 _ rfl).1 (ln r) (fun j => .int (M r j))) (fun q => by cases q) (by show ¬ (i < 0 ∨ (arrV _ _ _).slots.size ≤ _); rw [arrV_size]; exact hin) rfl rfl hd fun H1 e z oq => ?_
    refine kk H1 _ ls hL (z.trans hz) ?_ (hS.put z oq (Nat.le_add_right _ _))
    rw [← hset]
    refine hP.set wl_D ha ?_ oq
    show H1[g.1 + r]? = some (vp_cell _ _)
    rw [e, vp_cell_i, vp_cell_i, arrV_store]
    congr 2
    funext q
    by_cases hq : q = i.toNatClampNeg
    · subst hq
      simp [updV, upd]
    · simp [updV, upd, hq]
theorem V_get (hC : Cx X g cc nL own ret d) {t ci N : Nat} {C : String} {T : u_T} (hk : ok w t ci) (h0 : 0 < sz ci) (hc : vwCl[ci]? = some (C, T, N)) (hin : ∀ x ∈ u_ws C T N, x ∈ Tk) {fs : List Value} {v : Value} (he : ent g (M t) t = .inr (ci, fs)) (j : Nat) (hj : j < N) (hv : fs[j]? = some v) {index : Nat} (hw : Cond.fieldLink own index (T j).1 (T j).2.1 (T j).2.2.1 ∈ Tk) (hd : decode cc pc = .ok (.getfield index, 3)) (kk : V X g w nL k ns Q (pc + 3) vs (v :: st) M) : V X g w nL k ns Q pc vs (ob g t :: st) M :=
  fun H locs ls hL hz hP hS => by
    obtain ⟨h1, h2, h3⟩ := en_ok (g := g) (M := M) hk h0
    exact va_get hC.1 hC.2.1 hC.2.2.2.2.2.2.1.hts hin hC.2.2.1 hC.2.2.2.2.2.2.2.1 hP t ((wl_at h1).trans (by rw [h2, he])) hc j hj (hC.2.2.2.2.2.2.1.hts _ hw) (fun _ h => h) hv hd (kk H locs ls hL hz hP hS)
theorem V_getN (hC : Cx X g cc nL own ret d) {t ci N : Nat} {C : String} {T : u_T} (hk : ok w t ci) (h0 : 0 < sz ci) (hc : vwCl[ci]? = some (C, T, N)) (hin : ∀ x ∈ u_ws C T N, x ∈ Tk) {fs : List Value} {v : Value} (he : ent g (M t) t = .inr (ci, fs)) (j : Nat) (hj : j < N) (hv : fs[j]? = some v) {index : Nat} {host : String} (hw : Cond.fieldLinkNest own index (T j).1 (T j).2.1 (T j).2.2.1 host ∈ Tk) (hd : decode cc pc = .ok (.getfield index, 3)) (kk : V X g w nL k ns Q (pc + 3) vs (v :: st) M) : V X g w nL k ns Q pc vs (ob g t :: st) M :=
  fun H locs ls hL hz hP hS => by
    obtain ⟨h1, h2, h3⟩ := en_ok (g := g) (M := M) hk h0
    exact va_getN hC.1 hC.2.1 hC.2.2.2.2.2.2.1.hts hin hC.2.2.1 hC.2.2.2.2.2.2.2.1 hP t ((wl_at h1).trans (by rw [h2, he])) hc j hj (hC.2.2.2.2.2.2.1.hts _ hw) (fun _ h => h) hv hd (kk H locs ls hL hz hP hS)
theorem V_put (hC : Cx X g cc nL own ret d) {t ci N : Nat} {C : String} {T : u_T} (hk : ok w t ci) (h0 : 0 < sz ci) (hc : vwCl[ci]? = some (C, T, N)) (hin : ∀ x ∈ u_ws C T N, x ∈ Tk) (ty0 : Nat → FieldType) (hty : ∀ k, k < N → parseFieldDescriptor (T k).2.2.1 = some (ty0 k)) (hnm : ∀ a, a < N → ∀ b, b < N → a ≠ b → (T a).2.1 ≠ (T b).2.1) {fs : List Value} {v : Value} (he : ent g (M t) t = .inr (ci, fs)) (j : Nat) (hj : j < N) (hfin : (T j).2.2.2 = false) {ty : FieldType} (hpd : parseFieldDescriptor (T j).2.2.1 = some ty) (hn : narrow ty v = v) (hfit : fits ty v = true) (hl : j < fs.length) {M' : Mm} (he' : ent g (M' t) t = .inr (ci, fs.set j v)) (ho : ∀ c', c' ≠ t → M' c' = M c') {index : Nat} (hw : Cond.fieldLink own index (T j).1 (T j).2.1 (T j).2.2.1 ∈ Tk) (hd : decode cc pc = .ok (.putfield index, 3)) (kk : V X g w nL k ns Q (pc + 3) vs st M') : V X g w nL k ns Q pc vs (v :: ob g t :: st) M :=
  fun H locs ls hL hz hP hS => by
    obtain ⟨h1, h2, h3⟩ := en_ok (g := g) (M := M) hk h0
    obtain ⟨-, h5, -⟩ := en_ok (g := g) (M := M') hk h0
    have hts : ∀ c ∈ Tk, c.before X.2.2.2.2.2.2.1 X.2.2.2.2.1 = true := hC.2.2.2.2.2.2.1.hts
    have hK := hC.2.2.2.2.2.2.2.1
    have hlink := hts _ hw
    have hee : (wl g w M)[t]? = some (g.1 + t, .inr (ci, fs)) := (wl_at h1).trans (by rw [h2, he])
    have hset : (wl g w M).set t (g.1 + t, .inr (ci, fs.set j v)) = wl g w M' := wl_set h1 (by rw [h5, he']) ho
    have hap := va_apart (own := own) hts hin ty0 hty hnm hK hc
    obtain ⟨r, h7, cell, q1, q2, q3, q4⟩ := hP t _ hee
    have hr : r = (C, T, N) := Option.some.inj (h7.symm.trans hc)
    subst hr
    obtain ⟨hSl, hfc, kC, hkC, hkind⟩ := hK.1 ci _ hc
    obtain ⟨cf, kf, fi, f, hi, hsl⟩ := hSl j hj
    have hlay := hts _ (hin _ (u_in_lay hj))
    unfold u_lay at hlay
    rw [if_neg (by rw [hfin]; decide)] at hlay
    have hst := (u_facts hfc hkC (u_lays hts hin hj) hi).1
    have h6 := u_store hfc hkC hkind hlay hi hpd hn hfit
    refine W.putK hC.1 hC.2.1 (f := f) ⟨hC.2.2.1, hlink, ⟨_, _, _, hi⟩, hst⟩ (by rw [q2]; exact h6) q1 q3 (by rw [hsl]; exact k2_hasslot (q4 j hj)) rfl rfl hd fun H' e1 e2 e3 => ?_
    rw [hsl] at e1 ⊢
    refine kk H' _ ls hL (e2.trans hz) ?_ (hS.put e2 e3 (Nat.le_add_right _ _))
    rw [← hset]
    exact hP.set wl_D hee ⟨_, hc, t_OB.to (V := updV (vp_V fs) j v) ⟨_, e1, q2, q3, t_set q4 hap hj v⟩ (fun j' _ => vp_updV_set hl v j')⟩ e3
theorem V_putN (hC : Cx X g cc nL own ret d) {t ci N : Nat} {C : String} {T : u_T} (hk : ok w t ci) (h0 : 0 < sz ci) (hc : vwCl[ci]? = some (C, T, N)) (hin : ∀ x ∈ u_ws C T N, x ∈ Tk) (ty0 : Nat → FieldType) (hty : ∀ k, k < N → parseFieldDescriptor (T k).2.2.1 = some (ty0 k)) (hnm : ∀ a, a < N → ∀ b, b < N → a ≠ b → (T a).2.1 ≠ (T b).2.1) {fs : List Value} {v : Value} (he : ent g (M t) t = .inr (ci, fs)) (j : Nat) (hj : j < N) (hfin : (T j).2.2.2 = false) {ty : FieldType} (hpd : parseFieldDescriptor (T j).2.2.1 = some ty) (hn : narrow ty v = v) (hfit : fits ty v = true) (hl : j < fs.length) {M' : Mm} (he' : ent g (M' t) t = .inr (ci, fs.set j v)) (ho : ∀ c', c' ≠ t → M' c' = M c') {index : Nat} {host : String} (hw : Cond.fieldLinkNest own index (T j).1 (T j).2.1 (T j).2.2.1 host ∈ Tk) (hd : decode cc pc = .ok (.putfield index, 3)) (kk : V X g w nL k ns Q (pc + 3) vs st M') : V X g w nL k ns Q pc vs (v :: ob g t :: st) M :=
  fun H locs ls hL hz hP hS => by
    obtain ⟨h1, h2, h3⟩ := en_ok (g := g) (M := M) hk h0
    obtain ⟨-, h5, -⟩ := en_ok (g := g) (M := M') hk h0
    have hts : ∀ c ∈ Tk, c.before X.2.2.2.2.2.2.1 X.2.2.2.2.1 = true := hC.2.2.2.2.2.2.1.hts
    have hK := hC.2.2.2.2.2.2.2.1
    have hlink := hts _ hw
    have hee : (wl g w M)[t]? = some (g.1 + t, .inr (ci, fs)) := (wl_at h1).trans (by rw [h2, he])
    have hset : (wl g w M).set t (g.1 + t, .inr (ci, fs.set j v)) = wl g w M' := wl_set h1 (by rw [h5, he']) ho
    have hap := va_apart (own := own) hts hin ty0 hty hnm hK hc
    obtain ⟨r, h7, cell, q1, q2, q3, q4⟩ := hP t _ hee
    have hr : r = (C, T, N) := Option.some.inj (h7.symm.trans hc)
    subst hr
    obtain ⟨hSl, hfc, kC, hkC, hkind⟩ := hK.1 ci _ hc
    obtain ⟨cf, kf, fi, f, hi, hsl⟩ := hSl j hj
    have hlay := hts _ (hin _ (u_in_lay hj))
    unfold u_lay at hlay
    rw [if_neg (by rw [hfin]; decide)] at hlay
    have hst := (u_facts hfc hkC (u_lays hts hin hj) hi).1
    have h6 := u_store hfc hkC hkind hlay hi hpd hn hfit
    refine va_WputK hC.1 hC.2.1 (f := f) hC.2.2.1 hlink hi hst (by rw [q2]; exact h6) q1 q3 (by rw [hsl]; exact k2_hasslot (q4 j hj)) rfl rfl hd fun H' e1 e2 e3 => ?_
    rw [hsl] at e1 ⊢
    refine kk H' _ ls hL (e2.trans hz) ?_ (hS.put e2 e3 (Nat.le_add_right _ _))
    rw [← hset]
    exact hP.set wl_D hee ⟨_, hc, t_OB.to (V := updV (vp_V fs) j v) ⟨_, e1, q2, q3, t_set q4 hap hj v⟩ (fun j' _ => vp_updV_set hl v j')⟩ e3
theorem V_gstN (hC : Cx X g cc nL own ret d) {i : Nat} (hi : i < 2) {index : Nat} {host : String} (hw : Cond.fieldLinkNest own index "SyntaxRepair" (nmS i) "[I" host ∈ Tk) (hd : decode cc pc = .ok (.getstatic index, 3)) (kk : V X g w nL k ns Q (pc + 3) vs (.ref (g.2.2.2.2.2.2 i) :: st) M) : V X g w nL k ns Q pc vs st M :=
  fun H locs ls hL hz hP hS => va_getsN hC.1 hC.2.1 (hC.2.2.2.2.2.2.2.2.1.2.2.1 i hi).1 hS hC.2.2.1 (hC.2.2.2.2.2.2.1.hts _ hw) (fun _ h => h) hd (kk H locs ls hL hz hP hS)
theorem V_sald (hC : Cx X g cc nL own ret d) {r : Nat} (hr : r < 2) {i : Int32} (hin : vp_in i 14) (hd : decode cc pc = .ok (.iaload, 1)) (kk : V X g w nL k ns Q (pc + 1) vs (.int (mv r i.toNatClampNeg) :: st) M) : V X g w nL k ns Q pc vs (.int i :: .ref (g.2.2.2.2.2.2 r) :: st) M :=
  fun H locs ls hL hz hP hS => va_ti hC.1 hC.2.1 (hC.2.2.2.2.2.2.2.2.1.2.2.1 r hr).2 hS hin rfl hd (kk H locs ls hL hz hP hS)
theorem V_salen (hC : Cx X g cc nL own ret d) {r : Nat} (hr : r < 2) (hd : decode cc pc = .ok (.arraylength, 1)) (kk : V X g w nL k ns Q (pc + 1) vs (.int 14 :: st) M) : V X g w nL k ns Q pc vs (.ref (g.2.2.2.2.2.2 r) :: st) M :=
  fun H locs ls hL hz hP hS => va_tlen hC.1 hC.2.1 (hC.2.2.2.2.2.2.2.2.1.2.2.1 r hr).2 hS rfl hd (kk H locs ls hL hz hP hS)
theorem V_ldcS (hC : Cx X g cc nL "SyntaxRepair$GrammarText" ret d) {i : Nat} (hi : i < 7) {index : Nat} (hx : ixS i = index) (hd : decode cc pc = .ok (.ldc index, 2)) (kk : V X g w nL k ns Q (pc + 2) vs (.ref (g.2.2.2.2.1 i) :: st) M) : V X g w nL k ns Q pc vs st M :=
  fun H locs ls hL hz hP hS => va_ldcS hC.1 hC.2.1 hC.2.2.1 (hx ▸ hC.2.2.2.2.2.2.2.2.1.2.1 i hi) hd (kk H locs ls hL hz hP hS)
theorem V_min (hC : Cx X g cc nL own ret d) {x y : Int32} {index : Nat} (h1 : Cond.methodLink own index Lib.Math.min.name ∈ Tk) (h2 : Cond.static Lib.Math.min.name ∈ Tk) (h3 : Cond.initialized "java/lang/Math" ∈ Tk) (h4 : Cond.code Lib.Math.min.name Lib.Math.min.code 2 (some .int) ∈ Tk) (hd1 : 1 ≤ d) (hst : (st.map fun v => v.category).sum ≤ 8) (hk : k ≤ X.2.2.2.1.cells ∧ ns ≤ X.2.2.2.1.slots) (hd : decode cc pc = .ok (.invokestatic index, 3)) (kk : V X g w nL k ns Q (pc + 3) vs (.int (if y < x then y else x) :: st) M) : V X g w nL k ns Q pc vs (.int y :: .int x :: st) M :=
  fun H locs ls hL hz hP hS => by
    have hts : ∀ c ∈ Tk, c.before X.2.2.2.2.2.2.1 X.2.2.2.2.1 = true := hC.2.2.2.2.2.2.1.hts
    have hR := hC.2.2.2.2.2.2.2.2.2.1
    exact va_mmin hC.1 hC.2.1 (hC.2.2.2.2.1.trans hL.size.symm) hC.2.2.1 (hts _ h1) (hts _ h2) (hts _ h3) (hts _ h4) (by omega) (by omega) hk.1 hk.2 hd (kk H locs ls hL hz hP hS)
theorem V_iret (hC : Cx X g cc nL own (some .int) d) {post : Int32 → Mm → Prop} {r : Int32} (h : post r M) (hd : decode cc pc = .ok (.ireturn, 1)) : V X g w nL k ns (QI X g w post k ns) pc vs [.int r] M :=
  fun H locs ls hL hz hP hS => W.iret hC.1 hC.2.1 hC.2.2.2.1 (fun t ht hW => ⟨⟨r, M, rfl, h, wb_of hC hz hP hS ht hW⟩, hS.F ht⟩) hS.2.2 hd hC.2.2.2.2.2.1
theorem V_zret (hC : Cx X g cc nL own (some .boolean) d) {post : Int32 → Mm → Prop} {r : Int32} (hr : zb r) (h : post r M) (hd : decode cc pc = .ok (.ireturn, 1)) : V X g w nL k ns (QI X g w (fun r M => zb r ∧ post r M) k ns) pc vs [.int r] M :=
  fun H locs ls hL hz hP hS => W.zret hC.1 hC.2.1 hC.2.2.2.1 (by rcases hr with rfl | rfl <;> rfl) (fun t ht hW => ⟨⟨r, M, rfl, ⟨hr, h⟩, wb_of hC hz hP hS ht hW⟩, hS.F ht⟩) hS.2.2 hd hC.2.2.2.2.2.1
theorem V_vret (hC : Cx X g cc nL own none d) {post : Mm → Prop} (h : post M) (hd : decode cc pc = .ok (.return_, 1)) : V X g w nL k ns (QV X g w post k ns) pc vs [] M :=
  fun H locs ls hL hz hP hS => W.vret hC.1 hC.2.1 hC.2.2.2.1 (fun t ht hW => ⟨⟨M, rfl, h, wb_of hC hz hP hS ht hW⟩, hS.F ht⟩) hS.2.2 hd hC.2.2.2.2.2.1
theorem V_oret {Cn : String} (hC : Cx X g cc nL own (some (.object Cn)) d) {post : Option Nat → Mm → Prop} (r : Option Nat) {v : Value} (hv : v = va_rf (r.map fun c => g.1 + c)) (h : post r M) (hd : decode cc pc = .ok (.areturn, 1)) : V X g w nL k ns (QO X g w post k ns) pc vs [v] M :=
  fun H locs ls hL hz hP hS => W.aret hC.1 hC.2.1 hC.2.2.2.1 (Or.inl ⟨_, rfl⟩) (by subst hv; cases r; exact Or.inl rfl; exact Or.inr ⟨_, rfl⟩) (fun t ht hW => ⟨⟨r.map fun c => g.1 + c, M, by rw [hv], ⟨r, rfl, h⟩, wb_of hC hz hP hS ht hW⟩, hS.F ht⟩) hS.2.2 hd hC.2.2.2.2.2.1
end RULES
end
section
/-! calls and entries -/
def MW (y : MethodName) (bytes : ByteArray) (maxL : Nat) (ret : Option FieldType) (n : Nat) : Prop :=
  Cond.code y bytes maxL ret ∈ Tk ∧ Cond.initialized y.cls ∈ Tk ∧ (y.cls ≠ "java/lang/invoke/MethodHandle" ∧ y.cls ≠ "java/lang/invoke/VarHandle") ∧ (parseMethodDescriptor y.desc).map (fun d => d.parameters.length) = some n ∧ maxL ≤ 17
def MI (y : MethodName) (bytes : ByteArray) (maxL : Nat) (ret : Option FieldType) (n : Nat) : Prop := MW y bytes maxL ret n ∧ Cond.instanceMethod y ∈ Tk ∧ Cond.selects y.cls y y ∈ Tk
def MS (y : MethodName) (bytes : ByteArray) (maxL : Nat) (ret : Option FieldType) (n : Nat) : Prop := MW y bytes maxL ret n ∧ Cond.static y ∈ Tk
def MC (y : MethodName) (bytes : ByteArray) (maxL n : Nat) : Prop := MW y bytes maxL none n ∧ Cond.instanceMethod y ∈ Tk ∧ y.name = "<init>"
theorem ent_obj {g : GX} {f : Nat → Int32} {t ci : Nat} (h : kd t = ci) (hc : ci ≤ 11) : ∃ fs, ent g f t = .inr (ci, fs) := by
  unfold ent
  rw [h]
  have : ci = 0 ∨ ci = 1 ∨ ci = 2 ∨ ci = 3 ∨ ci = 4 ∨ ci = 5 ∨ ci = 6 ∨ ci = 7 ∨ ci = 8 ∨ ci = 9 ∨ ci = 10 ∨ ci = 11 := by omega
  rcases this with rfl | rfl | rfl | rfl | rfl | rfl | rfl | rfl | rfl | rfl | rfl | rfl <;> exact ⟨_, rfl⟩
section CALLS
variable {X : CX} {g : GX} {w : WX} {cc : ByteArray} {nL k ns d : Nat} {own : String} {ret : Option FieldType} {Q : State → Prop} {pc : Nat} {vs : List (Option Value)} {st : List Value} {M : Mm}
variable {y : MethodName} {bytes : ByteArray} {maxL n d2 mc ms index : Nat} {ret2 : Option FieldType}
def rmC (d mc ms : Nat) : Room := { frames := d, cells := mc, slots := ms, locals := 36 * d }
theorem tk_word {s U : State} {a' : Array Value} (hT : TB s) {c : Cond} (hc : c ∈ Tk) (hW : s.WarmedH U.vm) : c.before a' U = true := (hT.warm hW).hts c hc
theorem cb_of (hC : Cx X g cc nL own ret d) (hm : MW y bytes maxL ret2 n) (hd : d2 < d) :
    (rmC d2 mc ms).cells = mc ∧ (rmC d2 mc ms).slots = ms ∧ (rmC d2 mc ms).frames + 1 ≤ X.2.2.2.1.frames ∧ 8 + (maxL + 11) + (rmC d2 mc ms).locals ≤ X.2.2.2.1.locals ∧ (∀ w ∈ [Cond.code y bytes maxL ret2], ∀ (a' : Array Value) (U : State), X.2.2.2.2.1.WarmedH U.vm → w.before a' U = true) ∧ Cond.code y bytes maxL ret2 ∈ [Cond.code y bytes maxL ret2] := by
  obtain ⟨h1, h2, h3, h4, h5⟩ := hm
  have hR := hC.2.2.2.2.2.2.2.2.2.1
  refine ⟨rfl, rfl, by show d2 + 1 ≤ _; omega, by show 8 + (maxL + 11) + 36 * d2 ≤ _; omega, fun w hw a' U hW => ?_, List.mem_cons_self⟩
  rw [List.mem_singleton.mp hw]
  exact tk_word hC.2.2.2.2.2.2.1 h1 hW
theorem np_of (hm : MW y bytes maxL ret2 n) : ∀ sig, parseMethodDescriptor y.desc = some sig → n = sig.parameters.length := fun sig h => by
  have h4 := hm.2.2.2.1
  rw [h] at h4
  exact (Option.some.inj h4).symm
theorem cbB (hC : Cx X g cc nL own ret d) (hm : MW y bytes maxL ret2 n) (hd : d2 < d) (hw : Cond.methodLink own index y ∈ Tk) : CallB X.2.2.2.1 X.2.2.2.2.1 X.2.2.2.2.2.2.1 own index y bytes maxL ret2 [Cond.code y bytes maxL ret2] (rmC d2 mc ms) mc ms n := by
  obtain ⟨a1, a2, a3, a4, a5, a6⟩ := cb_of (mc := mc) (ms := ms) hC hm hd
  have hts : ∀ c ∈ Tk, c.before X.2.2.2.2.2.2.1 X.2.2.2.2.1 = true := hC.2.2.2.2.2.2.1.hts
  exact ⟨a1, a2, a3, a4, a5, a6, hts _ hm.1, hts _ hm.2.1, hm.2.2.1, np_of hm, hts _ hw⟩
theorem cbN {host : String} (hC : Cx X g cc nL own ret d) (hm : MW y bytes maxL ret2 n) (hd : d2 < d) (hw : Cond.methodLinkNest own index y host ∈ Tk) : va_CN X.2.2.2.1 X.2.2.2.2.1 X.2.2.2.2.2.2.1 own index y host bytes maxL ret2 [Cond.code y bytes maxL ret2] (rmC d2 mc ms) mc ms n := by
  have hts : ∀ c ∈ Tk, c.before X.2.2.2.2.2.2.1 X.2.2.2.2.1 = true := hC.2.2.2.2.2.2.1.hts
  exact ⟨cb_of (mc := mc) (ms := ms) hC hm hd, hts _ hm.1, hts _ hm.2.1, hm.2.2.1, np_of hm, hts _ hw⟩
theorem fix_of (hC : Cx X g cc nL own ret d) : CallFix X.1 X.2.2.2.2.2.1 X.2.2.2.2.2.2.2.2.2 cc nL X.2.2.2.2.1 X.2.2.2.2.2.2.1 Tk own := ⟨hC.1, hC.2.1, hC.2.2.2.2.1, hC.2.2.1, hC.2.2.2.2.2.2.1.hts⟩
theorem preS_of (hC : Cx X g cc nL own ret d) {As : List Value} {H : Heap} {locs : List Loc} (hz : H.size = g.1 + w.1) (hP : va_P g.2.1 vwCl (wl g w M) H) (hS : va_S (Af g) X.2.2.2.2.1.heap H locs) : PreS X.2.2.2.2.1 H (va_Pc As (Wb g w M)) As :=
  ⟨wb_blind, fun U hU hW => ⟨rfl, wb_of hC hz hP hS hU hW⟩⟩
theorem preV_of (hC : Cx X g cc nL own ret d) {As : List Value} {H : Heap} {locs : List Loc} {t ci N : Nat} {T : u_T} (hk : ok w t ci) (h0 : 0 < sz ci) (hci : ci ≤ 11) (hc : vwCl[ci]? = some (y.cls, T, N)) (hz : H.size = g.1 + w.1) (hP : va_P g.2.1 vwCl (wl g w M) H) (hS : va_S (Af g) X.2.2.2.2.1.heap H locs) : PreV X.2.2.2.2.1 H y.cls (g.1 + t) (va_Pc (ob g t :: As) (Wb g w M)) As := by
  obtain ⟨h1, h2, h3⟩ := en_ok (g := g) (M := M) hk h0
  obtain ⟨fs, hfs⟩ := ent_obj (g := g) (f := M t) h3 hci
  exact ⟨wb_blind, va_recv hC.2.2.2.2.2.2.2.1 hP hc ((wl_at h1).trans (by rw [h2, hfs])), fun U hU hW => ⟨rfl, wb_of hC hz hP hS hU hW⟩⟩
/-- what a callee's end gives its caller -/
theorem behind_i {post : Int32 → Mm → Prop} {w' : WX} {H : Heap} {locs : List Loc} {ls : Array Slot} {st0 : List Value} {a : Array Value} (hL : Lc ls nL vs) (hS : va_S (Af g) X.2.2.2.2.1.heap H locs)
    (hr : va_Run X.1 X.2.1 X.2.2.1 X.2.2.2.1 X.2.2.2.2.1 X.2.2.2.2.2.1 X.2.2.2.2.2.2.1 X.2.2.2.2.2.2.2.1 X.2.2.2.2.2.2.2.2.1 X.2.2.2.2.2.2.2.2.2 H locs k ns mc ms (F0 X.2.2.2.2.2.1 pc ls st0) st (va_Qi post (Wb g w') (Af g) a) (Af g))
    (kk : ∀ r M', post r M' → V X g w' nL (k + mc) (ns + ms) Q (pc + 3) vs (.int r :: st) M') :
    W X.1 X.2.1 X.2.2.1 X.2.2.2.1 X.2.2.2.2.1 X.2.2.2.2.2.1 X.2.2.2.2.2.2.1 X.2.2.2.2.2.2.2.1 X.2.2.2.2.2.2.2.2.1 X.2.2.2.2.2.2.2.2.2 H locs k ns Q (F0 X.2.2.2.2.2.1 pc ls st0) :=
  va_calli hr hS (fun _ _ h => h) (fun _ h => h) (fun r u t H1 locs1 ht _ hp hB _ _ hS1 => kk r u hp H1 locs1 ls hL (by rw [← ht]; exact hB.2.2.2.1) (by rw [← ht]; exact hB.2.2.2.2) hS1)
theorem behind_v {post : Mm → Prop} {w' : WX} {H : Heap} {locs : List Loc} {ls : Array Slot} {st0 : List Value} {a : Array Value} (hL : Lc ls nL vs) (hS : va_S (Af g) X.2.2.2.2.1.heap H locs)
    (hr : va_Run X.1 X.2.1 X.2.2.1 X.2.2.2.1 X.2.2.2.2.1 X.2.2.2.2.2.1 X.2.2.2.2.2.2.1 X.2.2.2.2.2.2.2.1 X.2.2.2.2.2.2.2.2.1 X.2.2.2.2.2.2.2.2.2 H locs k ns mc ms (F0 X.2.2.2.2.2.1 pc ls st0) st (va_Qv post (Wb g w') (Af g) a) (Af g))
    (kk : ∀ M', post M' → V X g w' nL (k + mc) (ns + ms) Q (pc + 3) vs st M') :
    W X.1 X.2.1 X.2.2.1 X.2.2.2.1 X.2.2.2.2.1 X.2.2.2.2.2.1 X.2.2.2.2.2.2.1 X.2.2.2.2.2.2.2.1 X.2.2.2.2.2.2.2.2.1 X.2.2.2.2.2.2.2.2.2 H locs k ns Q (F0 X.2.2.2.2.2.1 pc ls st0) :=
  va_callv hr hS (fun _ _ h => h) (fun _ h => h) (fun u t H1 locs1 ht _ hp hB _ _ hS1 => kk u hp H1 locs1 ls hL (by rw [← ht]; exact hB.2.2.2.1) (by rw [← ht]; exact hB.2.2.2.2) hS1)
theorem behind_o {post : Option Nat → Mm → Prop} {w' : WX} {H : Heap} {locs : List Loc} {ls : Array Slot} {st0 : List Value} {a : Array Value} (hL : Lc ls nL vs) (hS : va_S (Af g) X.2.2.2.2.1.heap H locs)
    (hr : va_Run X.1 X.2.1 X.2.2.1 X.2.2.2.1 X.2.2.2.2.1 X.2.2.2.2.2.1 X.2.2.2.2.2.2.1 X.2.2.2.2.2.2.2.1 X.2.2.2.2.2.2.2.2.1 X.2.2.2.2.2.2.2.2.2 H locs k ns mc ms (F0 X.2.2.2.2.2.1 pc ls st0) st (va_Qq (fun r M => ∃ q : Option Nat, r = q.map (fun c => g.1 + c) ∧ post q M) (Wb g w') (Af g) a) (Af g))
    (kk : ∀ r M', post r M' → V X g w' nL (k + mc) (ns + ms) Q (pc + 3) vs (va_rf (r.map fun c => g.1 + c) :: st) M') :
    W X.1 X.2.1 X.2.2.1 X.2.2.2.1 X.2.2.2.2.1 X.2.2.2.2.2.1 X.2.2.2.2.2.2.1 X.2.2.2.2.2.2.2.1 X.2.2.2.2.2.2.2.2.1 X.2.2.2.2.2.2.2.2.2 H locs k ns Q (F0 X.2.2.2.2.2.1 pc ls st0) :=
  va_callq hr hS (fun _ _ h => h) (fun _ h => h) (fun r u t H1 locs1 ht _ hp hB _ _ hS1 => by
    obtain ⟨q, rfl, hq⟩ := hp
    exact kk q u hq H1 locs1 ls hL (by rw [← ht]; exact hB.2.2.2.1) (by rw [← ht]; exact hB.2.2.2.2) hS1)
theorem V_calli (hC : Cx X g cc nL own ret d) {post : Int32 → Mm → Prop} {t ci N : Nat} {T : u_T} {As : List Value} (hM : Met X.2.1 y [Cond.code y bytes maxL ret2] (rmC d2 0 0) (va_Pc (ob g t :: As) (Wb g w M)) (va_Qi post (Wb g w) (Af g)) 0 0 (Af g)) (hm : MI y bytes maxL ret2 n) (hd2 : d2 < d) (hw : Cond.methodLink own index y ∈ Tk) (hk : ok w t ci) (hci : 0 < sz ci ∧ ci ≤ 11) (hc : vwCl[ci]? = some (y.cls, T, N)) (hn : As.length = n) {stk : List Value} (hstk : stk = As.reverse ++ ob g t :: st) (hcat : (st.map fun v => v.category).sum ≤ 8) (hr : k ≤ X.2.2.2.1.cells ∧ ns ≤ X.2.2.2.1.slots) (hd : decode cc pc = .ok (.invokevirtual index, 3)) (kk : ∀ r M', post r M' → V X g w nL k ns Q (pc + 3) vs (.int r :: st) M') : V X g w nL k ns Q pc vs stk M :=
  fun H locs ls hL hz hP hS => by
    have hts : ∀ c ∈ Tk, c.before X.2.2.2.2.2.2.1 X.2.2.2.2.1 = true := hC.2.2.2.2.2.2.1.hts
    exact behind_i hL hS (va_runV (C := y.cls) (b := g.1 + t) (As := As) (rest := st) (fix_of hC) hM ⟨cbB hC hm.1 hd2 hw, hts _ hm.2.1, hts _ hm.2.2⟩ (preV_of hC hk hci.1 hci.2 hc hz hP hS) rfl hn hL.size hstk (lv_room hcat) hd hr) kk
theorem V_scalli (hC : Cx X g cc nL own ret d) {post : Int32 → Mm → Prop} {As : List Value} (hM : Met X.2.1 y [Cond.code y bytes maxL ret2] (rmC d2 0 0) (va_Pc As (Wb g w M)) (va_Qi post (Wb g w) (Af g)) 0 0 (Af g)) (hm : MS y bytes maxL ret2 n) (hd2 : d2 < d) (hw : Cond.methodLink own index y ∈ Tk) (hn : As.length = n) {stk : List Value} (hstk : stk = As.reverse ++ st) (hcat : (st.map fun v => v.category).sum ≤ 8) (hr : k ≤ X.2.2.2.1.cells ∧ ns ≤ X.2.2.2.1.slots) (hd : decode cc pc = .ok (.invokestatic index, 3)) (kk : ∀ r M', post r M' → V X g w nL k ns Q (pc + 3) vs (.int r :: st) M') : V X g w nL k ns Q pc vs stk M :=
  fun H locs ls hL hz hP hS => by
    have hts : ∀ c ∈ Tk, c.before X.2.2.2.2.2.2.1 X.2.2.2.2.1 = true := hC.2.2.2.2.2.2.1.hts
    exact behind_i hL hS (va_runS (As := As) (rest := st) (fix_of hC) hM ⟨cbB hC hm.1 hd2 hw, hts _ hm.2⟩ (preS_of hC hz hP hS) rfl hn hL.size hstk (lv_room hcat) hd hr) kk
theorem V_calliN (hC : Cx X g cc nL own ret d) {host : String} {post : Int32 → Mm → Prop} {t ci N : Nat} {T : u_T} {As : List Value} (hM : Met X.2.1 y [Cond.code y bytes maxL ret2] (rmC d2 0 0) (va_Pc (ob g t :: As) (Wb g w M)) (va_Qi post (Wb g w) (Af g)) 0 0 (Af g)) (hm : MI y bytes maxL ret2 n) (hd2 : d2 < d) (hw : Cond.methodLinkNest own index y host ∈ Tk) (hk : ok w t ci) (hci : 0 < sz ci ∧ ci ≤ 11) (hc : vwCl[ci]? = some (y.cls, T, N)) (hn : As.length = n) {stk : List Value} (hstk : stk = As.reverse ++ ob g t :: st) (hcat : (st.map fun v => v.category).sum ≤ 8) (hr : k ≤ X.2.2.2.1.cells ∧ ns ≤ X.2.2.2.1.slots) (hd : decode cc pc = .ok (.invokevirtual index, 3)) (kk : ∀ r M', post r M' → V X g w nL k ns Q (pc + 3) vs (.int r :: st) M') : V X g w nL k ns Q pc vs stk M :=
  fun H locs ls hL hz hP hS => by
    have hts : ∀ c ∈ Tk, c.before X.2.2.2.2.2.2.1 X.2.2.2.2.1 = true := hC.2.2.2.2.2.2.1.hts
    exact behind_i hL hS (va_runVN (C := y.cls) (b := g.1 + t) (As := As) (rest := st) (fix_of hC) hM ⟨cbN hC hm.1 hd2 hw, hts _ hm.2.1, hts _ hm.2.2⟩ (preV_of hC hk hci.1 hci.2 hc hz hP hS) rfl hn hL.size hstk (lv_room hcat) hd hr) kk
theorem V_scalliN (hC : Cx X g cc nL own ret d) {host : String} {post : Int32 → Mm → Prop} {As : List Value} (hM : Met X.2.1 y [Cond.code y bytes maxL ret2] (rmC d2 0 0) (va_Pc As (Wb g w M)) (va_Qi post (Wb g w) (Af g)) 0 0 (Af g)) (hm : MS y bytes maxL ret2 n) (hd2 : d2 < d) (hw : Cond.methodLinkNest own index y host ∈ Tk) (hn : As.length = n) {stk : List Value} (hstk : stk = As.reverse ++ st) (hcat : (st.map fun v => v.category).sum ≤ 8) (hr : k ≤ X.2.2.2.1.cells ∧ ns ≤ X.2.2.2.1.slots) (hd : decode cc pc = .ok (.invokestatic index, 3)) (kk : ∀ r M', post r M' → V X g w nL k ns Q (pc + 3) vs (.int r :: st) M') : V X g w nL k ns Q pc vs stk M :=
  fun H locs ls hL hz hP hS => by
    have hts : ∀ c ∈ Tk, c.before X.2.2.2.2.2.2.1 X.2.2.2.2.1 = true := hC.2.2.2.2.2.2.1.hts
    exact behind_i hL hS (va_runSN (As := As) (rest := st) (fix_of hC) hM ⟨cbN hC hm.1 hd2 hw, hts _ hm.2, trivial⟩ (preS_of hC hz hP hS) rfl hn hL.size hstk (lv_room hcat) hd hr) kk
theorem V_callv (hC : Cx X g cc nL own ret d) {post : Mm → Prop} {t ci N : Nat} {T : u_T} {As : List Value} (hM : Met X.2.1 y [Cond.code y bytes maxL ret2] (rmC d2 0 0) (va_Pc (ob g t :: As) (Wb g w M)) (va_Qv post (Wb g w) (Af g)) 0 0 (Af g)) (hm : MI y bytes maxL ret2 n) (hd2 : d2 < d) (hw : Cond.methodLink own index y ∈ Tk) (hk : ok w t ci) (hci : 0 < sz ci ∧ ci ≤ 11) (hc : vwCl[ci]? = some (y.cls, T, N)) (hn : As.length = n) {stk : List Value} (hstk : stk = As.reverse ++ ob g t :: st) (hcat : (st.map fun v => v.category).sum ≤ 8) (hr : k ≤ X.2.2.2.1.cells ∧ ns ≤ X.2.2.2.1.slots) (hd : decode cc pc = .ok (.invokevirtual index, 3)) (kk : ∀ M', post M' → V X g w nL k ns Q (pc + 3) vs st M') : V X g w nL k ns Q pc vs stk M :=
  fun H locs ls hL hz hP hS => by
    have hts : ∀ c ∈ Tk, c.before X.2.2.2.2.2.2.1 X.2.2.2.2.1 = true := hC.2.2.2.2.2.2.1.hts
    exact behind_v hL hS (va_runV (C := y.cls) (b := g.1 + t) (As := As) (rest := st) (fix_of hC) hM ⟨cbB hC hm.1 hd2 hw, hts _ hm.2.1, hts _ hm.2.2⟩ (preV_of hC hk hci.1 hci.2 hc hz hP hS) rfl hn hL.size hstk (lv_room hcat) hd hr) kk
theorem V_scallv (hC : Cx X g cc nL own ret d) {post : Mm → Prop} {As : List Value} (hM : Met X.2.1 y [Cond.code y bytes maxL ret2] (rmC d2 0 0) (va_Pc As (Wb g w M)) (va_Qv post (Wb g w) (Af g)) 0 0 (Af g)) (hm : MS y bytes maxL ret2 n) (hd2 : d2 < d) (hw : Cond.methodLink own index y ∈ Tk) (hn : As.length = n) {stk : List Value} (hstk : stk = As.reverse ++ st) (hcat : (st.map fun v => v.category).sum ≤ 8) (hr : k ≤ X.2.2.2.1.cells ∧ ns ≤ X.2.2.2.1.slots) (hd : decode cc pc = .ok (.invokestatic index, 3)) (kk : ∀ M', post M' → V X g w nL k ns Q (pc + 3) vs st M') : V X g w nL k ns Q pc vs stk M :=
  fun H locs ls hL hz hP hS => by
    have hts : ∀ c ∈ Tk, c.before X.2.2.2.2.2.2.1 X.2.2.2.2.1 = true := hC.2.2.2.2.2.2.1.hts
    exact behind_v hL hS (va_runS (As := As) (rest := st) (fix_of hC) hM ⟨cbB hC hm.1 hd2 hw, hts _ hm.2⟩ (preS_of hC hz hP hS) rfl hn hL.size hstk (lv_room hcat) hd hr) kk
theorem V_callvN (hC : Cx X g cc nL own ret d) {host : String} {post : Mm → Prop} {t ci N : Nat} {T : u_T} {As : List Value} (hM : Met X.2.1 y [Cond.code y bytes maxL ret2] (rmC d2 0 0) (va_Pc (ob g t :: As) (Wb g w M)) (va_Qv post (Wb g w) (Af g)) 0 0 (Af g)) (hm : MI y bytes maxL ret2 n) (hd2 : d2 < d) (hw : Cond.methodLinkNest own index y host ∈ Tk) (hk : ok w t ci) (hci : 0 < sz ci ∧ ci ≤ 11) (hc : vwCl[ci]? = some (y.cls, T, N)) (hn : As.length = n) {stk : List Value} (hstk : stk = As.reverse ++ ob g t :: st) (hcat : (st.map fun v => v.category).sum ≤ 8) (hr : k ≤ X.2.2.2.1.cells ∧ ns ≤ X.2.2.2.1.slots) (hd : decode cc pc = .ok (.invokevirtual index, 3)) (kk : ∀ M', post M' → V X g w nL k ns Q (pc + 3) vs st M') : V X g w nL k ns Q pc vs stk M :=
  fun H locs ls hL hz hP hS => by
    have hts : ∀ c ∈ Tk, c.before X.2.2.2.2.2.2.1 X.2.2.2.2.1 = true := hC.2.2.2.2.2.2.1.hts
    exact behind_v hL hS (va_runVN (C := y.cls) (b := g.1 + t) (As := As) (rest := st) (fix_of hC) hM ⟨cbN hC hm.1 hd2 hw, hts _ hm.2.1, hts _ hm.2.2⟩ (preV_of hC hk hci.1 hci.2 hc hz hP hS) rfl hn hL.size hstk (lv_room hcat) hd hr) kk
theorem V_scallvN (hC : Cx X g cc nL own ret d) {host : String} {post : Mm → Prop} {As : List Value} (hM : Met X.2.1 y [Cond.code y bytes maxL ret2] (rmC d2 0 0) (va_Pc As (Wb g w M)) (va_Qv post (Wb g w) (Af g)) 0 0 (Af g)) (hm : MS y bytes maxL ret2 n) (hd2 : d2 < d) (hw : Cond.methodLinkNest own index y host ∈ Tk) (hn : As.length = n) {stk : List Value} (hstk : stk = As.reverse ++ st) (hcat : (st.map fun v => v.category).sum ≤ 8) (hr : k ≤ X.2.2.2.1.cells ∧ ns ≤ X.2.2.2.1.slots) (hd : decode cc pc = .ok (.invokestatic index, 3)) (kk : ∀ M', post M' → V X g w nL k ns Q (pc + 3) vs st M') : V X g w nL k ns Q pc vs stk M :=
  fun H locs ls hL hz hP hS => by
    have hts : ∀ c ∈ Tk, c.before X.2.2.2.2.2.2.1 X.2.2.2.2.1 = true := hC.2.2.2.2.2.2.1.hts
    exact behind_v hL hS (va_runSN (As := As) (rest := st) (fix_of hC) hM ⟨cbN hC hm.1 hd2 hw, hts _ hm.2, trivial⟩ (preS_of hC hz hP hS) rfl hn hL.size hstk (lv_room hcat) hd hr) kk
theorem V_callo (hC : Cx X g cc nL own ret d) {post : Option Nat → Mm → Prop} {t ci N : Nat} {T : u_T} {As : List Value} (hM : Met X.2.1 y [Cond.code y bytes maxL ret2] (rmC d2 0 0) (va_Pc (ob g t :: As) (Wb g w M)) (va_Qq (fun r M => ∃ q : Option Nat, r = q.map (fun c => g.1 + c) ∧ post q M) (Wb g w) (Af g)) 0 0 (Af g)) (hm : MI y bytes maxL ret2 n) (hd2 : d2 < d) (hw : Cond.methodLink own index y ∈ Tk) (hk : ok w t ci) (hci : 0 < sz ci ∧ ci ≤ 11) (hc : vwCl[ci]? = some (y.cls, T, N)) (hn : As.length = n) {stk : List Value} (hstk : stk = As.reverse ++ ob g t :: st) (hcat : (st.map fun v => v.category).sum ≤ 8) (hr : k ≤ X.2.2.2.1.cells ∧ ns ≤ X.2.2.2.1.slots) (hd : decode cc pc = .ok (.invokevirtual index, 3)) (kk : ∀ r M', post r M' → V X g w nL k ns Q (pc + 3) vs (va_rf (r.map fun c => g.1 + c) :: st) M') : V X g w nL k ns Q pc vs stk M :=
  fun H locs ls hL hz hP hS => by
    have hts : ∀ c ∈ Tk, c.before X.2.2.2.2.2.2.1 X.2.2.2.2.1 = true := hC.2.2.2.2.2.2.1.hts
    exact behind_o hL hS (va_runV (C := y.cls) (b := g.1 + t) (As := As) (rest := st) (fix_of hC) hM ⟨cbB hC hm.1 hd2 hw, hts _ hm.2.1, hts _ hm.2.2⟩ (preV_of hC hk hci.1 hci.2 hc hz hP hS) rfl hn hL.size hstk (lv_room hcat) hd hr) kk
end CALLS
/-- from a walk of the body to the contract -/
theorem Ct_i {l : Launch} {g : GX} {w : WX} {y : MethodName} {cc : ByteArray} {nL d : Nat} {own : String} {ret : Option FieldType} {av : List Value} {M : Mm} {post : Int32 → Mm → Prop} (hy : plainName y.cls = true) (ho : y.cls = own) (hcat : ∀ v ∈ av, v.category = 1) (hn : (lg_sl av).length ≤ nL) (hsz : g.1 ≤ g.1)
    (body : ∀ X : CX, X.2.1 = l → X.2.2.2.2.2.2.1 = av.toArray → Cx X g cc nL own ret d → V X g w nL 0 0 (QI X g w post 0 0) 0 (evs av nL) [] M) :
    Met l y [Cond.code y cc nL ret] (rmC d 0 0) (va_Pc av (Wb g w M)) (va_Qi post (Wb g w) (Af g)) 0 0 (Af g) := by
  refine Met.ofW (cc := cc) (maxL := nL) (ret := ret) hy rfl ?_
  intro p e s m args below meth c s₁ B hml hv
  obtain ⟨rfl, hT, hK, hR, hz, hP⟩ := hv
  have hC : Cx (p, l, e, (headSpec [Cond.code y cc nL ret] (rmC d 0 0)).room, s, m, av.toArray, below, meth, c) g cc nL own ret d :=
    ⟨B.exec, B.bytes, ho ▸ findClass_of_methodNamed B.named, B.returns, hml, B.notSynchronized, hT, hK, hR, ⟨Nat.le_refl d, Nat.le_refl (36 * d)⟩, by show g.1 ≤ s.heap.size; omega⟩
  have h0 := body _ rfl rfl hC s.heap [] _ (Lc.entry hcat hn) hz hP va_S.rf
  rw [lg_entry_eq]
  exact h0
/-- from a walk of the body to the contract -/
theorem Ct_v {l : Launch} {g : GX} {w : WX} {y : MethodName} {cc : ByteArray} {nL d : Nat} {own : String} {ret : Option FieldType} {av : List Value} {M : Mm} {post : Mm → Prop} (hy : plainName y.cls = true) (ho : y.cls = own) (hcat : ∀ v ∈ av, v.category = 1) (hn : (lg_sl av).length ≤ nL) (hsz : g.1 ≤ g.1)
    (body : ∀ X : CX, X.2.1 = l → X.2.2.2.2.2.2.1 = av.toArray → Cx X g cc nL own ret d → V X g w nL 0 0 (QV X g w post 0 0) 0 (evs av nL) [] M) :
    Met l y [Cond.code y cc nL ret] (rmC d 0 0) (va_Pc av (Wb g w M)) (va_Qv post (Wb g w) (Af g)) 0 0 (Af g) := by
  refine Met.ofW (cc := cc) (maxL := nL) (ret := ret) hy rfl ?_
  intro p e s m args below meth c s₁ B hml hv
  obtain ⟨rfl, hT, hK, hR, hz, hP⟩ := hv
  have hC : Cx (p, l, e, (headSpec [Cond.code y cc nL ret] (rmC d 0 0)).room, s, m, av.toArray, below, meth, c) g cc nL own ret d :=
    ⟨B.exec, B.bytes, ho ▸ findClass_of_methodNamed B.named, B.returns, hml, B.notSynchronized, hT, hK, hR, ⟨Nat.le_refl d, Nat.le_refl (36 * d)⟩, by show g.1 ≤ s.heap.size; omega⟩
  have h0 := body _ rfl rfl hC s.heap [] _ (Lc.entry hcat hn) hz hP va_S.rf
  rw [lg_entry_eq]
  exact h0
/-- from a walk of the body to the contract -/
theorem Ct_o {l : Launch} {g : GX} {w : WX} {y : MethodName} {cc : ByteArray} {nL d : Nat} {own : String} {ret : Option FieldType} {av : List Value} {M : Mm} {post : Option Nat → Mm → Prop} (hy : plainName y.cls = true) (ho : y.cls = own) (hcat : ∀ v ∈ av, v.category = 1) (hn : (lg_sl av).length ≤ nL) (hsz : g.1 ≤ g.1)
    (body : ∀ X : CX, X.2.1 = l → X.2.2.2.2.2.2.1 = av.toArray → Cx X g cc nL own ret d → V X g w nL 0 0 (QO X g w post 0 0) 0 (evs av nL) [] M) :
    Met l y [Cond.code y cc nL ret] (rmC d 0 0) (va_Pc av (Wb g w M)) (va_Qq (fun r M => ∃ q : Option Nat, r = q.map (fun c => g.1 + c) ∧ post q M) (Wb g w) (Af g)) 0 0 (Af g) := by
  refine Met.ofW (cc := cc) (maxL := nL) (ret := ret) hy rfl ?_
  intro p e s m args below meth c s₁ B hml hv
  obtain ⟨rfl, hT, hK, hR, hz, hP⟩ := hv
  have hC : Cx (p, l, e, (headSpec [Cond.code y cc nL ret] (rmC d 0 0)).room, s, m, av.toArray, below, meth, c) g cc nL own ret d :=
    ⟨B.exec, B.bytes, ho ▸ findClass_of_methodNamed B.named, B.returns, hml, B.notSynchronized, hT, hK, hR, ⟨Nat.le_refl d, Nat.le_refl (36 * d)⟩, by show g.1 ≤ s.heap.size; omega⟩
  have h0 := body _ rfl rfl hC s.heap [] _ (Lc.entry hcat hn) hz hP va_S.rf
  rw [lg_entry_eq]
  exact h0
end
section
/-! words by their places, fields, kinds -/
theorem V_topi {X : CX} {g : GX} {w : WX} {nL k ns : Nat} {Q : State → Prop} {pc : Nat} {vs : List (Option Value)} {st : List Value} {M : Mm} {x : Int32} (kk : ∀ y, y = x → V X g w nL k ns Q pc vs (.int y :: st) M) : V X g w nL k ns Q pc vs (.int x :: st) M := kk x rfl
theorem V_mem {X : CX} {g : GX} {w : WX} {nL k ns : Nat} {Q : State → Prop} {pc : Nat} {vs : List (Option Value)} {st : List Value} {M M' : Mm} (e : M' = M) (kk : V X g w nL k ns Q pc vs st M') : V X g w nL k ns Q pc vs st M := e ▸ kk
def oko (w : WX) (r : Option Nat) : Prop := ∀ c, r = some c → ok w c 8
theorem V_astore_n0 {X : CX} {g : GX} {w : WX} {cc : ByteArray} {nL k ns d : Nat} {own : String} {ret : Option FieldType} {Q : State → Prop} {pc : Nat} {vs : List (Option Value)} {st : List Value} {M : Mm} (hC : Cx X g cc nL own ret d) {j : Fin 4} (hn : (j : Nat) < nL) (hd : decode cc pc = .ok (.astore_n j, 1)) (kk : V X g w nL k ns Q (pc + 1) (vs.set (j : Nat) (some .null)) st M) : V X g w nL k ns Q pc vs (.null :: st) M :=
  fun H locs ls hL hz hP hS => lv_astore_nN hC.1 hC.2.1 hd rfl hL.2 hn rfl (fun ls' h' => kk H locs ls' (hL.put rfl h') hz hP hS)
theorem V_aload_n0 {X : CX} {g : GX} {w : WX} {cc : ByteArray} {nL k ns d : Nat} {own : String} {ret : Option FieldType} {Q : State → Prop} {pc : Nat} {vs : List (Option Value)} {st : List Value} {M : Mm} (hC : Cx X g cc nL own ret d) {j : Fin 4} (hl : vs[(j : Nat)]? = some (some .null)) (hd : decode cc pc = .ok (.aload_n j, 1)) (kk : V X g w nL k ns Q (pc + 1) vs (.null :: st) M) : V X g w nL k ns Q pc vs st M :=
  fun H locs ls hL hz hP hS => lv_aload_nN hC.1 hC.2.1 hd rfl (hL.at hl) (kk H locs ls hL hz hP hS)
theorem tout3 {x : Int32} (h1 : ¬ x = 1) (h2 : ¬ x = 2) (h3 : ¬ x = 3) : x.toInt < 1 ∨ 3 < x.toInt := by
  have q1 : x.toInt ≠ 1 := fun e => h1 (Int32.toInt_inj.mp e)
  have q2 : x.toInt ≠ 2 := fun e => h2 (Int32.toInt_inj.mp e)
  have q3 : x.toInt ≠ 3 := fun e => h3 (Int32.toInt_inj.mp e)
  omega
theorem V_iaL {X : CX} {g : GX} {w : WX} {cc : ByteArray} {nL k ns d : Nat} {own : String} {ret : Option FieldType} {Q : State → Prop} {pc : Nat} {vs : List (Option Value)} {st : List Value} {M : Mm} {r j : Nat} {i : Int32} (hj : i.toNatClampNeg = j) (hC : Cx X g cc nL own ret d) (hk : ok w r 20) (hin : vp_in i (ln r)) (hd : decode cc pc = .ok (.iaload, 1)) (kk : V X g w nL k ns Q (pc + 1) vs (.int (M r j) :: st) M) : V X g w nL k ns Q pc vs (.int i :: ob g r :: st) M := V_iald hC hk hin hd (by rw [hj]; exact kk)
theorem V_isL {X : CX} {g : GX} {w : WX} {cc : ByteArray} {nL k ns d : Nat} {own : String} {ret : Option FieldType} {Q : State → Prop} {pc : Nat} {vs : List (Option Value)} {st : List Value} {M : Mm} {r j : Nat} {i x : Int32} (hj : i.toNatClampNeg = j) (hC : Cx X g cc nL own ret d) (hk : ok w r 20) (hin : vp_in i (ln r)) (hd : decode cc pc = .ok (.iastore, 1)) (kk : V X g w nL k ns Q (pc + 1) vs st (up M r j x)) : V X g w nL k ns Q pc vs (.int x :: .int i :: ob g r :: st) M := V_iast hC hk hin hd (by rw [hj]; exact kk)
def sch (i k : Nat) : Int32 := (bytS.getD i []).getD k 0
theorem kd_lt {c K : Nat} (h : kd c = K) (hK : K < 99) : c < 156 := by
  rcases Nat.lt_or_ge c 156 with q | q
  · exact q
  · exfalso
    have e : kd c = 99 := by
      unfold kd
      rw [List.getD_eq_getElem?_getD, List.getElem?_eq_none (by exact q)]
      rfl
    omega
theorem ok_in {w : WX} {t K o K' : Nat} (h : ok w t K) (hk : kd (t + o) = K') (ho : o + sz K' ≤ sz K) : ok w (t + o) K' := ⟨hk, fun j hj => by have := h.2 (o + j) (by omega); rwa [← Nat.add_assoc] at this⟩
theorem kd_0_0 : ∀ c, c < 156 → kd c = 0 → kd (c + 1) = 20 := by decide +kernel
theorem ok_0_0 {w : WX} {t : Nat} (h : ok w t 0) : ok w (t + 1) 20 := ok_in h (kd_0_0 t (kd_lt h.1 (by decide)) h.1) (by decide)
theorem kd_0_1 : ∀ c, c < 156 → kd c = 0 → kd (c + 2) = 20 := by decide +kernel
theorem ok_0_1 {w : WX} {t : Nat} (h : ok w t 0) : ok w (t + 2) 20 := ok_in h (kd_0_1 t (kd_lt h.1 (by decide)) h.1) (by decide)
theorem kd_0_2 : ∀ c, c < 156 → kd c = 0 → kd (c + 3) = 20 := by decide +kernel
theorem ok_0_2 {w : WX} {t : Nat} (h : ok w t 0) : ok w (t + 3) 20 := ok_in h (kd_0_2 t (kd_lt h.1 (by decide)) h.1) (by decide)
theorem kd_0_3 : ∀ c, c < 156 → kd c = 0 → kd (c + 4) = 20 := by decide +kernel
theorem ok_0_3 {w : WX} {t : Nat} (h : ok w t 0) : ok w (t + 4) 20 := ok_in h (kd_0_3 t (kd_lt h.1 (by decide)) h.1) (by decide)
theorem kd_1_0 : ∀ c, c < 156 → kd c = 1 → kd (c + 1) = 20 := by decide +kernel
theorem ok_1_0 {w : WX} {t : Nat} (h : ok w t 1) : ok w (t + 1) 20 := ok_in h (kd_1_0 t (kd_lt h.1 (by decide)) h.1) (by decide)
theorem kd_3_0 : ∀ c, c < 156 → kd c = 3 → kd (c + 1) = 20 := by decide +kernel
theorem ok_3_0 {w : WX} {t : Nat} (h : ok w t 3) : ok w (t + 1) 20 := ok_in h (kd_3_0 t (kd_lt h.1 (by decide)) h.1) (by decide)
theorem kd_3_1 : ∀ c, c < 156 → kd c = 3 → kd (c + 2) = 8 := by decide +kernel
theorem ok_3_1 {w : WX} {t : Nat} (h : ok w t 3) : ok w (t + 2) 8 := ok_in h (kd_3_1 t (kd_lt h.1 (by decide)) h.1) (by decide)
theorem kd_4_0 : ∀ c, c < 156 → kd c = 4 → kd (c + 1) = 21 := by decide +kernel
theorem ok_4_0 {w : WX} {t : Nat} (h : ok w t 4) : ok w (t + 1) 21 := ok_in h (kd_4_0 t (kd_lt h.1 (by decide)) h.1) (by decide)
theorem kd_5_0 : ∀ c, c < 156 → kd c = 5 → kd (c + 1) = 20 := by decide +kernel
theorem ok_5_0 {w : WX} {t : Nat} (h : ok w t 5) : ok w (t + 1) 20 := ok_in h (kd_5_0 t (kd_lt h.1 (by decide)) h.1) (by decide)
theorem kd_5_1 : ∀ c, c < 156 → kd c = 5 → kd (c + 2) = 20 := by decide +kernel
theorem ok_5_1 {w : WX} {t : Nat} (h : ok w t 5) : ok w (t + 2) 20 := ok_in h (kd_5_1 t (kd_lt h.1 (by decide)) h.1) (by decide)
theorem kd_5_2 : ∀ c, c < 156 → kd c = 5 → kd (c + 3) = 20 := by decide +kernel
theorem ok_5_2 {w : WX} {t : Nat} (h : ok w t 5) : ok w (t + 3) 20 := ok_in h (kd_5_2 t (kd_lt h.1 (by decide)) h.1) (by decide)
theorem kd_6_0 : ∀ c, c < 156 → kd c = 6 → kd (c + 1) = 20 := by decide +kernel
theorem ok_6_0 {w : WX} {t : Nat} (h : ok w t 6) : ok w (t + 1) 20 := ok_in h (kd_6_0 t (kd_lt h.1 (by decide)) h.1) (by decide)
theorem kd_6_1 : ∀ c, c < 156 → kd c = 6 → kd (c + 2) = 20 := by decide +kernel
theorem ok_6_1 {w : WX} {t : Nat} (h : ok w t 6) : ok w (t + 2) 20 := ok_in h (kd_6_1 t (kd_lt h.1 (by decide)) h.1) (by decide)
theorem kd_7_0 : ∀ c, c < 156 → kd c = 7 → kd (c + 1) = 8 := by decide +kernel
theorem ok_7_0 {w : WX} {t : Nat} (h : ok w t 7) : ok w (t + 1) 8 := ok_in h (kd_7_0 t (kd_lt h.1 (by decide)) h.1) (by decide)
theorem kd_7_1 : ∀ c, c < 156 → kd c = 7 → kd (c + 11) = 5 := by decide +kernel
theorem ok_7_1 {w : WX} {t : Nat} (h : ok w t 7) : ok w (t + 11) 5 := ok_in h (kd_7_1 t (kd_lt h.1 (by decide)) h.1) (by decide)
theorem kd_7_2 : ∀ c, c < 156 → kd c = 7 → kd (c + 15) = 20 := by decide +kernel
theorem ok_7_2 {w : WX} {t : Nat} (h : ok w t 7) : ok w (t + 15) 20 := ok_in h (kd_7_2 t (kd_lt h.1 (by decide)) h.1) (by decide)
theorem kd_7_3 : ∀ c, c < 156 → kd c = 7 → kd (c + 16) = 20 := by decide +kernel
theorem ok_7_3 {w : WX} {t : Nat} (h : ok w t 7) : ok w (t + 16) 20 := ok_in h (kd_7_3 t (kd_lt h.1 (by decide)) h.1) (by decide)
theorem kd_7_4 : ∀ c, c < 156 → kd c = 7 → kd (c + 17) = 20 := by decide +kernel
theorem ok_7_4 {w : WX} {t : Nat} (h : ok w t 7) : ok w (t + 17) 20 := ok_in h (kd_7_4 t (kd_lt h.1 (by decide)) h.1) (by decide)
theorem kd_8_0 : ∀ c, c < 156 → kd c = 8 → kd (c + 1) = 0 := by decide +kernel
theorem ok_8_0 {w : WX} {t : Nat} (h : ok w t 8) : ok w (t + 1) 0 := ok_in h (kd_8_0 t (kd_lt h.1 (by decide)) h.1) (by decide)
theorem kd_8_1 : ∀ c, c < 156 → kd c = 8 → kd (c + 6) = 1 := by decide +kernel
theorem ok_8_1 {w : WX} {t : Nat} (h : ok w t 8) : ok w (t + 6) 1 := ok_in h (kd_8_1 t (kd_lt h.1 (by decide)) h.1) (by decide)
theorem kd_8_2 : ∀ c, c < 156 → kd c = 8 → kd (c + 8) = 9 := by decide +kernel
theorem ok_8_2 {w : WX} {t : Nat} (h : ok w t 8) : ok w (t + 8) 9 := ok_in h (kd_8_2 t (kd_lt h.1 (by decide)) h.1) (by decide)
theorem kd_9_0 : ∀ c, c < 156 → kd c = 9 → kd (c + 1) = 20 := by decide +kernel
theorem ok_9_0 {w : WX} {t : Nat} (h : ok w t 9) : ok w (t + 1) 20 := ok_in h (kd_9_0 t (kd_lt h.1 (by decide)) h.1) (by decide)
theorem kd_10_0 : ∀ c, c < 156 → kd c = 10 → kd (c + 1) = 8 := by decide +kernel
theorem ok_10_0 {w : WX} {t : Nat} (h : ok w t 10) : ok w (t + 1) 8 := ok_in h (kd_10_0 t (kd_lt h.1 (by decide)) h.1) (by decide)
theorem kd_10_1 : ∀ c, c < 156 → kd c = 10 → kd (c + 11) = 4 := by decide +kernel
theorem ok_10_1 {w : WX} {t : Nat} (h : ok w t 10) : ok w (t + 11) 4 := ok_in h (kd_10_1 t (kd_lt h.1 (by decide)) h.1) (by decide)
theorem kd_10_2 : ∀ c, c < 156 → kd c = 10 → kd (c + 93) = 3 := by decide +kernel
theorem ok_10_2 {w : WX} {t : Nat} (h : ok w t 10) : ok w (t + 93) 3 := ok_in h (kd_10_2 t (kd_lt h.1 (by decide)) h.1) (by decide)
theorem kd_10_3 : ∀ c, c < 156 → kd c = 10 → kd (c + 105) = 7 := by decide +kernel
theorem ok_10_3 {w : WX} {t : Nat} (h : ok w t 10) : ok w (t + 105) 7 := ok_in h (kd_10_3 t (kd_lt h.1 (by decide)) h.1) (by decide)
theorem kd_10_4 : ∀ c, c < 156 → kd c = 10 → kd (c + 123) = 7 := by decide +kernel
theorem ok_10_4 {w : WX} {t : Nat} (h : ok w t 10) : ok w (t + 123) 7 := ok_in h (kd_10_4 t (kd_lt h.1 (by decide)) h.1) (by decide)
theorem kd_10_5 : ∀ c, c < 156 → kd c = 10 → kd (c + 141) = 6 := by decide +kernel
theorem ok_10_5 {w : WX} {t : Nat} (h : ok w t 10) : ok w (t + 141) 6 := ok_in h (kd_10_5 t (kd_lt h.1 (by decide)) h.1) (by decide)
theorem kd_10_6 : ∀ c, c < 156 → kd c = 10 → kd (c + 144) = 2 := by decide +kernel
theorem ok_10_6 {w : WX} {t : Nat} (h : ok w t 10) : ok w (t + 144) 2 := ok_in h (kd_10_6 t (kd_lt h.1 (by decide)) h.1) (by decide)
theorem kd_11_0 : ∀ c, c < 156 → kd c = 11 → kd (c + 1) = 20 := by decide +kernel
theorem ok_11_0 {w : WX} {t : Nat} (h : ok w t 11) : ok w (t + 1) 20 := ok_in h (kd_11_0 t (kd_lt h.1 (by decide)) h.1) (by decide)
theorem kd_11_1 : ∀ c, c < 156 → kd c = 11 → kd (c + 2) = 20 := by decide +kernel
theorem ok_11_1 {w : WX} {t : Nat} (h : ok w t 11) : ok w (t + 2) 20 := ok_in h (kd_11_1 t (kd_lt h.1 (by decide)) h.1) (by decide)
theorem kd_11_2 : ∀ c, c < 156 → kd c = 11 → kd (c + 3) = 20 := by decide +kernel
theorem ok_11_2 {w : WX} {t : Nat} (h : ok w t 11) : ok w (t + 3) 20 := ok_in h (kd_11_2 t (kd_lt h.1 (by decide)) h.1) (by decide)
theorem kd_11_4 : ∀ c, c < 156 → kd c = 11 → kd (c + 4) = 20 := by decide +kernel
theorem ok_11_4 {w : WX} {t : Nat} (h : ok w t 11) : ok w (t + 4) 20 := ok_in h (kd_11_4 t (kd_lt h.1 (by decide)) h.1) (by decide)
theorem kd_11_13 : ∀ c, c < 156 → kd c = 11 → kd (c + 5) = 20 := by decide +kernel
theorem ok_11_13 {w : WX} {t : Nat} (h : ok w t 11) : ok w (t + 5) 20 := ok_in h (kd_11_13 t (kd_lt h.1 (by decide)) h.1) (by decide)
theorem kd_11_14 : ∀ c, c < 156 → kd c = 11 → kd (c + 6) = 20 := by decide +kernel
theorem ok_11_14 {w : WX} {t : Nat} (h : ok w t 11) : ok w (t + 6) 20 := ok_in h (kd_11_14 t (kd_lt h.1 (by decide)) h.1) (by decide)
theorem kd_11_15 : ∀ c, c < 156 → kd c = 11 → kd (c + 7) = 20 := by decide +kernel
theorem ok_11_15 {w : WX} {t : Nat} (h : ok w t 11) : ok w (t + 7) 20 := ok_in h (kd_11_15 t (kd_lt h.1 (by decide)) h.1) (by decide)
theorem kd_11_19 : ∀ c, c < 156 → kd c = 11 → kd (c + 8) = 20 := by decide +kernel
theorem ok_11_19 {w : WX} {t : Nat} (h : ok w t 11) : ok w (t + 8) 20 := ok_in h (kd_11_19 t (kd_lt h.1 (by decide)) h.1) (by decide)
theorem kd_11_20 : ∀ c, c < 156 → kd c = 11 → kd (c + 9) = 20 := by decide +kernel
theorem ok_11_20 {w : WX} {t : Nat} (h : ok w t 11) : ok w (t + 9) 20 := ok_in h (kd_11_20 t (kd_lt h.1 (by decide)) h.1) (by decide)
theorem kd_11_23 : ∀ c, c < 156 → kd c = 11 → kd (c + 10) = 20 := by decide +kernel
theorem ok_11_23 {w : WX} {t : Nat} (h : ok w t 11) : ok w (t + 10) 20 := ok_in h (kd_11_23 t (kd_lt h.1 (by decide)) h.1) (by decide)
theorem ln_ring : ∀ c, c < 156 → kd c = 21 → ln c = 8 := by decide +kernel
theorem kd_ring0 : ∀ c, c < 156 → kd c = 21 → ∀ i, i < 8 → kd (c + 1 + 10 * i) = 8 := by decide +kernel
theorem ok_ring0 {w : WX} {t : Nat} (h : ok w t 4) {i : Int32} (hi : vp_in i (ln (t + 1))) : ok w (t + 1 + 1 + 10 * i.toNatClampNeg) 8 := by
  have h1 := kd_4_0 t (kd_lt h.1 (by decide)) h.1
  have h2 := ln_ring _ (kd_lt h1 (by decide)) h1
  have h3 : i.toNatClampNeg < 8 := by
    rw [h2] at hi
    exact Nat.not_le.mp fun q => hi (Or.inr q)
  have h4 := kd_ring0 _ (kd_lt h1 (by decide)) h1 _ h3
  refine ⟨h4, fun j hj => ?_⟩
  have hj : j < 10 := hj
  have := h.2 (2 + 10 * i.toNatClampNeg + j) (by show _ < 82; omega)
  rwa [show t + (2 + 10 * i.toNatClampNeg + j) = t + 1 + 1 + 10 * i.toNatClampNeg + j by omega] at this
section WORDS
theorem iw_0 : ∀ x ∈ u_ws RX0 TX0 5, x ∈ Tk := by
  show ∀ x ∈ [u_lay RX0 TX0 0, u_lay RX0 TX0 1, u_lay RX0 TX0 2, u_lay RX0 TX0 3, u_lay RX0 TX0 4], x ∈ Tk
  simp only [List.forall_mem_cons]
  exact ⟨tk_at 45 (by decide +kernel) rfl, tk_at 47 (by decide +kernel) rfl, tk_at 49 (by decide +kernel) rfl, tk_at 51 (by decide +kernel) rfl, tk_at 53 (by decide +kernel) rfl, fun _ h => absurd h List.not_mem_nil⟩
theorem iw_1 : ∀ x ∈ u_ws RX1 TX1 1, x ∈ Tk := by
  show ∀ x ∈ [u_lay RX1 TX1 0], x ∈ Tk
  simp only [List.forall_mem_cons]
  exact ⟨tk_at 78 (by decide +kernel) rfl, fun _ h => absurd h List.not_mem_nil⟩
theorem iw_2 : ∀ x ∈ u_ws RX2 TX2 2, x ∈ Tk := by
  show ∀ x ∈ [u_lay RX2 TX2 0, u_lay RX2 TX2 1], x ∈ Tk
  simp only [List.forall_mem_cons]
  exact ⟨tk_at 258 (by decide +kernel) rfl, tk_at 260 (by decide +kernel) rfl, fun _ h => absurd h List.not_mem_nil⟩
theorem iw_3 : ∀ x ∈ u_ws RX3 TX3 5, x ∈ Tk := by
  show ∀ x ∈ [u_lay RX3 TX3 0, u_lay RX3 TX3 1, u_lay RX3 TX3 2, u_lay RX3 TX3 3, u_lay RX3 TX3 4], x ∈ Tk
  simp only [List.forall_mem_cons]
  exact ⟨tk_at 153 (by decide +kernel) rfl, tk_at 155 (by decide +kernel) rfl, tk_at 157 (by decide +kernel) rfl, tk_at 159 (by decide +kernel) rfl, tk_at 161 (by decide +kernel) rfl, fun _ h => absurd h List.not_mem_nil⟩
theorem iw_4 : ∀ x ∈ u_ws RX4 TX4 3, x ∈ Tk := by
  show ∀ x ∈ [u_lay RX4 TX4 0, u_lay RX4 TX4 1, u_lay RX4 TX4 2], x ∈ Tk
  simp only [List.forall_mem_cons]
  exact ⟨tk_at 131 (by decide +kernel) rfl, tk_at 133 (by decide +kernel) rfl, tk_at 135 (by decide +kernel) rfl, fun _ h => absurd h List.not_mem_nil⟩
theorem iw_5 : ∀ x ∈ u_ws RX5 TX5 4, x ∈ Tk := by
  show ∀ x ∈ [u_lay RX5 TX5 0, u_lay RX5 TX5 1, u_lay RX5 TX5 2, u_lay RX5 TX5 3], x ∈ Tk
  simp only [List.forall_mem_cons]
  exact ⟨tk_at 183 (by decide +kernel) rfl, tk_at 185 (by decide +kernel) rfl, tk_at 187 (by decide +kernel) rfl, tk_at 189 (by decide +kernel) rfl, fun _ h => absurd h List.not_mem_nil⟩
theorem iw_6 : ∀ x ∈ u_ws RX6 TX6 3, x ∈ Tk := by
  show ∀ x ∈ [u_lay RX6 TX6 0, u_lay RX6 TX6 1, u_lay RX6 TX6 2], x ∈ Tk
  simp only [List.forall_mem_cons]
  exact ⟨tk_at 239 (by decide +kernel) rfl, tk_at 241 (by decide +kernel) rfl, tk_at 243 (by decide +kernel) rfl, fun _ h => absurd h List.not_mem_nil⟩
theorem iw_7 : ∀ x ∈ u_ws RX7 TX7 11, x ∈ Tk := by
  show ∀ x ∈ [u_lay RX7 TX7 0, u_lay RX7 TX7 1, u_lay RX7 TX7 2, u_lay RX7 TX7 3, u_lay RX7 TX7 4, u_lay RX7 TX7 5, u_lay RX7 TX7 6, u_lay RX7 TX7 7, u_lay RX7 TX7 8, u_lay RX7 TX7 9, u_lay RX7 TX7 10], x ∈ Tk
  simp only [List.forall_mem_cons]
  exact ⟨tk_at 204 (by decide +kernel) rfl, tk_at 206 (by decide +kernel) rfl, tk_at 208 (by decide +kernel) rfl, tk_at 210 (by decide +kernel) rfl, tk_at 212 (by decide +kernel) rfl, tk_at 214 (by decide +kernel) rfl, tk_at 216 (by decide +kernel) rfl, tk_at 218 (by decide +kernel) rfl, tk_at 220 (by decide +kernel) rfl, tk_at 222 (by decide +kernel) rfl, tk_at 224 (by decide +kernel) rfl, fun _ h => absurd h List.not_mem_nil⟩
theorem iw_8 : ∀ x ∈ u_ws RX8 TX8 3, x ∈ Tk := by
  show ∀ x ∈ [u_lay RX8 TX8 0, u_lay RX8 TX8 1, u_lay RX8 TX8 2], x ∈ Tk
  simp only [List.forall_mem_cons]
  exact ⟨tk_at 111 (by decide +kernel) rfl, tk_at 113 (by decide +kernel) rfl, tk_at 115 (by decide +kernel) rfl, fun _ h => absurd h List.not_mem_nil⟩
theorem iw_9 : ∀ x ∈ u_ws RX9 TX9 2, x ∈ Tk := by
  show ∀ x ∈ [u_lay RX9 TX9 0, u_lay RX9 TX9 1], x ∈ Tk
  simp only [List.forall_mem_cons]
  exact ⟨tk_at 93 (by decide +kernel) rfl, tk_at 95 (by decide +kernel) rfl, fun _ h => absurd h List.not_mem_nil⟩
theorem iw_10 : ∀ x ∈ u_ws RX10 TX10 7, x ∈ Tk := by
  show ∀ x ∈ [u_lay RX10 TX10 0, u_lay RX10 TX10 1, u_lay RX10 TX10 2, u_lay RX10 TX10 3, u_lay RX10 TX10 4, u_lay RX10 TX10 5, u_lay RX10 TX10 6], x ∈ Tk
  simp only [List.forall_mem_cons]
  exact ⟨tk_at 275 (by decide +kernel) rfl, tk_at 277 (by decide +kernel) rfl, tk_at 279 (by decide +kernel) rfl, tk_at 281 (by decide +kernel) rfl, tk_at 283 (by decide +kernel) rfl, tk_at 285 (by decide +kernel) rfl, tk_at 287 (by decide +kernel) rfl, fun _ h => absurd h List.not_mem_nil⟩
theorem iw_11 : ∀ x ∈ u_ws RX11 TX11 24, x ∈ Tk := by
  show ∀ x ∈ [u_lay RX11 TX11 0, u_lay RX11 TX11 1, u_lay RX11 TX11 2, u_lay RX11 TX11 3, u_lay RX11 TX11 4, u_lay RX11 TX11 5, u_lay RX11 TX11 6, u_lay RX11 TX11 7, u_lay RX11 TX11 8, u_lay RX11 TX11 9, u_lay RX11 TX11 10, u_lay RX11 TX11 11, u_lay RX11 TX11 12, u_lay RX11 TX11 13, u_lay RX11 TX11 14, u_lay RX11 TX11 15, u_lay RX11 TX11 16, u_lay RX11 TX11 17, u_lay RX11 TX11 18, u_lay RX11 TX11 19, u_lay RX11 TX11 20, u_lay RX11 TX11 21, u_lay RX11 TX11 22, u_lay RX11 TX11 23], x ∈ Tk
  simp only [List.forall_mem_cons]
  exact ⟨tk_at 841 (by decide +kernel) rfl, tk_at 843 (by decide +kernel) rfl, tk_at 845 (by decide +kernel) rfl, tk_at 847 (by decide +kernel) rfl, tk_at 849 (by decide +kernel) rfl, tk_at 851 (by decide +kernel) rfl, tk_at 853 (by decide +kernel) rfl, tk_at 855 (by decide +kernel) rfl, tk_at 857 (by decide +kernel) rfl, tk_at 859 (by decide +kernel) rfl, tk_at 861 (by decide +kernel) rfl, tk_at 863 (by decide +kernel) rfl, tk_at 865 (by decide +kernel) rfl, tk_at 867 (by decide +kernel) rfl, tk_at 869 (by decide +kernel) rfl, tk_at 871 (by decide +kernel) rfl, tk_at 873 (by decide +kernel) rfl, tk_at 875 (by decide +kernel) rfl, tk_at 877 (by decide +kernel) rfl, tk_at 879 (by decide +kernel) rfl, tk_at 881 (by decide +kernel) rfl, tk_at 883 (by decide +kernel) rfl, tk_at 885 (by decide +kernel) rfl, tk_at 887 (by decide +kernel) rfl, fun _ h => absurd h List.not_mem_nil⟩
/-! fields, by kind and place -/
theorem ent_0 {g : GX} {f : Nat → Int32} {t : Nat} (h : kd t = 0) : ent g f t = .inr (0, [ob g (t + 1), ob g (t + 2), ob g (t + 3), ob g (t + 4), .int (f 4)]) := by unfold ent; rw [h]; rfl
theorem gf_0_0 {X : CX} {g : GX} {w : WX} {cc : ByteArray} {nL k ns d : Nat} {own : String} {ret : Option FieldType} {Q : State → Prop} {pc : Nat} {vs : List (Option Value)} {st : List Value} {M : Mm} (hC : Cx X g cc nL own ret d) {t : Nat} (ht : ok w t 0) {index : Nat} (hw : Cond.fieldLink own index "SyntaxRepair$Automaton" "accepting" "[I" ∈ Tk) (hd : decode cc pc = .ok (.getfield index, 3)) (kk : V X g w nL k ns Q (pc + 3) vs (ob g (t + 1) :: st) M) : V X g w nL k ns Q pc vs (ob g t :: st) M := V_get hC ht (by decide) (ci := 0) rfl iw_0 (ent_0 ht.1) 0 (by decide) rfl hw hd kk
theorem gfN_0_0 {X : CX} {g : GX} {w : WX} {cc : ByteArray} {nL k ns d : Nat} {own : String} {ret : Option FieldType} {Q : State → Prop} {pc : Nat} {vs : List (Option Value)} {st : List Value} {M : Mm} (hC : Cx X g cc nL own ret d) {t : Nat} (ht : ok w t 0) {index : Nat} {host : String} (hw : Cond.fieldLinkNest own index "SyntaxRepair$Automaton" "accepting" "[I" host ∈ Tk) (hd : decode cc pc = .ok (.getfield index, 3)) (kk : V X g w nL k ns Q (pc + 3) vs (ob g (t + 1) :: st) M) : V X g w nL k ns Q pc vs (ob g t :: st) M := V_getN hC ht (by decide) (ci := 0) rfl iw_0 (ent_0 ht.1) 0 (by decide) rfl hw hd kk
theorem gf_0_1 {X : CX} {g : GX} {w : WX} {cc : ByteArray} {nL k ns d : Nat} {own : String} {ret : Option FieldType} {Q : State → Prop} {pc : Nat} {vs : List (Option Value)} {st : List Value} {M : Mm} (hC : Cx X g cc nL own ret d) {t : Nat} (ht : ok w t 0) {index : Nat} (hw : Cond.fieldLink own index "SyntaxRepair$Automaton" "types" "[I" ∈ Tk) (hd : decode cc pc = .ok (.getfield index, 3)) (kk : V X g w nL k ns Q (pc + 3) vs (ob g (t + 2) :: st) M) : V X g w nL k ns Q pc vs (ob g t :: st) M := V_get hC ht (by decide) (ci := 0) rfl iw_0 (ent_0 ht.1) 1 (by decide) rfl hw hd kk
theorem gfN_0_1 {X : CX} {g : GX} {w : WX} {cc : ByteArray} {nL k ns d : Nat} {own : String} {ret : Option FieldType} {Q : State → Prop} {pc : Nat} {vs : List (Option Value)} {st : List Value} {M : Mm} (hC : Cx X g cc nL own ret d) {t : Nat} (ht : ok w t 0) {index : Nat} {host : String} (hw : Cond.fieldLinkNest own index "SyntaxRepair$Automaton" "types" "[I" host ∈ Tk) (hd : decode cc pc = .ok (.getfield index, 3)) (kk : V X g w nL k ns Q (pc + 3) vs (ob g (t + 2) :: st) M) : V X g w nL k ns Q pc vs (ob g t :: st) M := V_getN hC ht (by decide) (ci := 0) rfl iw_0 (ent_0 ht.1) 1 (by decide) rfl hw hd kk
theorem gf_0_2 {X : CX} {g : GX} {w : WX} {cc : ByteArray} {nL k ns d : Nat} {own : String} {ret : Option FieldType} {Q : State → Prop} {pc : Nat} {vs : List (Option Value)} {st : List Value} {M : Mm} (hC : Cx X g cc nL own ret d) {t : Nat} (ht : ok w t 0) {index : Nat} (hw : Cond.fieldLink own index "SyntaxRepair$Automaton" "targets" "[I" ∈ Tk) (hd : decode cc pc = .ok (.getfield index, 3)) (kk : V X g w nL k ns Q (pc + 3) vs (ob g (t + 3) :: st) M) : V X g w nL k ns Q pc vs (ob g t :: st) M := V_get hC ht (by decide) (ci := 0) rfl iw_0 (ent_0 ht.1) 2 (by decide) rfl hw hd kk
theorem gfN_0_2 {X : CX} {g : GX} {w : WX} {cc : ByteArray} {nL k ns d : Nat} {own : String} {ret : Option FieldType} {Q : State → Prop} {pc : Nat} {vs : List (Option Value)} {st : List Value} {M : Mm} (hC : Cx X g cc nL own ret d) {t : Nat} (ht : ok w t 0) {index : Nat} {host : String} (hw : Cond.fieldLinkNest own index "SyntaxRepair$Automaton" "targets" "[I" host ∈ Tk) (hd : decode cc pc = .ok (.getfield index, 3)) (kk : V X g w nL k ns Q (pc + 3) vs (ob g (t + 3) :: st) M) : V X g w nL k ns Q pc vs (ob g t :: st) M := V_getN hC ht (by decide) (ci := 0) rfl iw_0 (ent_0 ht.1) 2 (by decide) rfl hw hd kk
theorem gf_0_3 {X : CX} {g : GX} {w : WX} {cc : ByteArray} {nL k ns d : Nat} {own : String} {ret : Option FieldType} {Q : State → Prop} {pc : Nat} {vs : List (Option Value)} {st : List Value} {M : Mm} (hC : Cx X g cc nL own ret d) {t : Nat} (ht : ok w t 0) {index : Nat} (hw : Cond.fieldLink own index "SyntaxRepair$Automaton" "symbols" "[I" ∈ Tk) (hd : decode cc pc = .ok (.getfield index, 3)) (kk : V X g w nL k ns Q (pc + 3) vs (ob g (t + 4) :: st) M) : V X g w nL k ns Q pc vs (ob g t :: st) M := V_get hC ht (by decide) (ci := 0) rfl iw_0 (ent_0 ht.1) 3 (by decide) rfl hw hd kk
theorem gfN_0_3 {X : CX} {g : GX} {w : WX} {cc : ByteArray} {nL k ns d : Nat} {own : String} {ret : Option FieldType} {Q : State → Prop} {pc : Nat} {vs : List (Option Value)} {st : List Value} {M : Mm} (hC : Cx X g cc nL own ret d) {t : Nat} (ht : ok w t 0) {index : Nat} {host : String} (hw : Cond.fieldLinkNest own index "SyntaxRepair$Automaton" "symbols" "[I" host ∈ Tk) (hd : decode cc pc = .ok (.getfield index, 3)) (kk : V X g w nL k ns Q (pc + 3) vs (ob g (t + 4) :: st) M) : V X g w nL k ns Q pc vs (ob g t :: st) M := V_getN hC ht (by decide) (ci := 0) rfl iw_0 (ent_0 ht.1) 3 (by decide) rfl hw hd kk
theorem gf_0_4 {X : CX} {g : GX} {w : WX} {cc : ByteArray} {nL k ns d : Nat} {own : String} {ret : Option FieldType} {Q : State → Prop} {pc : Nat} {vs : List (Option Value)} {st : List Value} {M : Mm} (hC : Cx X g cc nL own ret d) {t : Nat} (ht : ok w t 0) {index : Nat} (hw : Cond.fieldLink own index "SyntaxRepair$Automaton" "states" "I" ∈ Tk) (hd : decode cc pc = .ok (.getfield index, 3)) (kk : V X g w nL k ns Q (pc + 3) vs (.int (M t 4) :: st) M) : V X g w nL k ns Q pc vs (ob g t :: st) M := V_get hC ht (by decide) (ci := 0) rfl iw_0 (ent_0 ht.1) 4 (by decide) rfl hw hd kk
theorem pf_0_4 {X : CX} {g : GX} {w : WX} {cc : ByteArray} {nL k ns d : Nat} {own : String} {ret : Option FieldType} {Q : State → Prop} {pc : Nat} {vs : List (Option Value)} {st : List Value} {M : Mm} (hC : Cx X g cc nL own ret d) {t : Nat} {x : Int32} (ht : ok w t 0) {index : Nat} (hw : Cond.fieldLink own index "SyntaxRepair$Automaton" "states" "I" ∈ Tk) (hd : decode cc pc = .ok (.putfield index, 3)) (kk : V X g w nL k ns Q (pc + 3) vs st (up M t 4 x)) : V X g w nL k ns Q pc vs (.int x :: ob g t :: st) M := V_put hC ht (by decide) (ci := 0) rfl iw_0 tyX0 tyX0_ok nmX0 (ent_0 ht.1) 4 (by decide) rfl (ty := .int) (by decide +kernel) rfl rfl (Nat.le_of_ble_eq_true rfl) (M' := (up M t 4 x)) (by rw [ent_0 ht.1]; simp [up]) (fun c' h => up_c h) hw hd kk
theorem gfN_0_4 {X : CX} {g : GX} {w : WX} {cc : ByteArray} {nL k ns d : Nat} {own : String} {ret : Option FieldType} {Q : State → Prop} {pc : Nat} {vs : List (Option Value)} {st : List Value} {M : Mm} (hC : Cx X g cc nL own ret d) {t : Nat} (ht : ok w t 0) {index : Nat} {host : String} (hw : Cond.fieldLinkNest own index "SyntaxRepair$Automaton" "states" "I" host ∈ Tk) (hd : decode cc pc = .ok (.getfield index, 3)) (kk : V X g w nL k ns Q (pc + 3) vs (.int (M t 4) :: st) M) : V X g w nL k ns Q pc vs (ob g t :: st) M := V_getN hC ht (by decide) (ci := 0) rfl iw_0 (ent_0 ht.1) 4 (by decide) rfl hw hd kk
theorem pfN_0_4 {X : CX} {g : GX} {w : WX} {cc : ByteArray} {nL k ns d : Nat} {own : String} {ret : Option FieldType} {Q : State → Prop} {pc : Nat} {vs : List (Option Value)} {st : List Value} {M : Mm} (hC : Cx X g cc nL own ret d) {t : Nat} {x : Int32} (ht : ok w t 0) {index : Nat} {host : String} (hw : Cond.fieldLinkNest own index "SyntaxRepair$Automaton" "states" "I" host ∈ Tk) (hd : decode cc pc = .ok (.putfield index, 3)) (kk : V X g w nL k ns Q (pc + 3) vs st (up M t 4 x)) : V X g w nL k ns Q pc vs (.int x :: ob g t :: st) M := V_putN hC ht (by decide) (ci := 0) rfl iw_0 tyX0 tyX0_ok nmX0 (ent_0 ht.1) 4 (by decide) rfl (ty := .int) (by decide +kernel) rfl rfl (Nat.le_of_ble_eq_true rfl) (M' := (up M t 4 x)) (by rw [ent_0 ht.1]; simp [up]) (fun c' h => up_c h) hw hd kk
theorem ent_1 {g : GX} {f : Nat → Int32} {t : Nat} (h : kd t = 1) : ent g f t = .inr (1, [ob g (t + 1)]) := by unfold ent; rw [h]; rfl
theorem gf_1_0 {X : CX} {g : GX} {w : WX} {cc : ByteArray} {nL k ns d : Nat} {own : String} {ret : Option FieldType} {Q : State → Prop} {pc : Nat} {vs : List (Option Value)} {st : List Value} {M : Mm} (hC : Cx X g cc nL own ret d) {t : Nat} (ht : ok w t 1) {index : Nat} (hw : Cond.fieldLink own index "SyntaxRepair$Costs" "row" "[I" ∈ Tk) (hd : decode cc pc = .ok (.getfield index, 3)) (kk : V X g w nL k ns Q (pc + 3) vs (ob g (t + 1) :: st) M) : V X g w nL k ns Q pc vs (ob g t :: st) M := V_get hC ht (by decide) (ci := 1) rfl iw_1 (ent_1 ht.1) 0 (by decide) rfl hw hd kk
theorem gfN_1_0 {X : CX} {g : GX} {w : WX} {cc : ByteArray} {nL k ns d : Nat} {own : String} {ret : Option FieldType} {Q : State → Prop} {pc : Nat} {vs : List (Option Value)} {st : List Value} {M : Mm} (hC : Cx X g cc nL own ret d) {t : Nat} (ht : ok w t 1) {index : Nat} {host : String} (hw : Cond.fieldLinkNest own index "SyntaxRepair$Costs" "row" "[I" host ∈ Tk) (hd : decode cc pc = .ok (.getfield index, 3)) (kk : V X g w nL k ns Q (pc + 3) vs (ob g (t + 1) :: st) M) : V X g w nL k ns Q pc vs (ob g t :: st) M := V_getN hC ht (by decide) (ci := 1) rfl iw_1 (ent_1 ht.1) 0 (by decide) rfl hw hd kk
theorem ent_2 {g : GX} {f : Nat → Int32} {t : Nat} (h : kd t = 2) : ent g f t = .inr (2, [.int (f 0), .int (f 1)]) := by unfold ent; rw [h]; rfl
theorem gf_2_0 {X : CX} {g : GX} {w : WX} {cc : ByteArray} {nL k ns d : Nat} {own : String} {ret : Option FieldType} {Q : State → Prop} {pc : Nat} {vs : List (Option Value)} {st : List Value} {M : Mm} (hC : Cx X g cc nL own ret d) {t : Nat} (ht : ok w t 2) {index : Nat} (hw : Cond.fieldLink own index "SyntaxRepair$Cursor" "position" "I" ∈ Tk) (hd : decode cc pc = .ok (.getfield index, 3)) (kk : V X g w nL k ns Q (pc + 3) vs (.int (M t 0) :: st) M) : V X g w nL k ns Q pc vs (ob g t :: st) M := V_get hC ht (by decide) (ci := 2) rfl iw_2 (ent_2 ht.1) 0 (by decide) rfl hw hd kk
theorem pf_2_0 {X : CX} {g : GX} {w : WX} {cc : ByteArray} {nL k ns d : Nat} {own : String} {ret : Option FieldType} {Q : State → Prop} {pc : Nat} {vs : List (Option Value)} {st : List Value} {M : Mm} (hC : Cx X g cc nL own ret d) {t : Nat} {x : Int32} (ht : ok w t 2) {index : Nat} (hw : Cond.fieldLink own index "SyntaxRepair$Cursor" "position" "I" ∈ Tk) (hd : decode cc pc = .ok (.putfield index, 3)) (kk : V X g w nL k ns Q (pc + 3) vs st (up M t 0 x)) : V X g w nL k ns Q pc vs (.int x :: ob g t :: st) M := V_put hC ht (by decide) (ci := 2) rfl iw_2 tyX2 tyX2_ok nmX2 (ent_2 ht.1) 0 (by decide) rfl (ty := .int) (by decide +kernel) rfl rfl (Nat.le_of_ble_eq_true rfl) (M' := (up M t 0 x)) (by rw [ent_2 ht.1]; simp [up]) (fun c' h => up_c h) hw hd kk
theorem gfN_2_0 {X : CX} {g : GX} {w : WX} {cc : ByteArray} {nL k ns d : Nat} {own : String} {ret : Option FieldType} {Q : State → Prop} {pc : Nat} {vs : List (Option Value)} {st : List Value} {M : Mm} (hC : Cx X g cc nL own ret d) {t : Nat} (ht : ok w t 2) {index : Nat} {host : String} (hw : Cond.fieldLinkNest own index "SyntaxRepair$Cursor" "position" "I" host ∈ Tk) (hd : decode cc pc = .ok (.getfield index, 3)) (kk : V X g w nL k ns Q (pc + 3) vs (.int (M t 0) :: st) M) : V X g w nL k ns Q pc vs (ob g t :: st) M := V_getN hC ht (by decide) (ci := 2) rfl iw_2 (ent_2 ht.1) 0 (by decide) rfl hw hd kk
theorem pfN_2_0 {X : CX} {g : GX} {w : WX} {cc : ByteArray} {nL k ns d : Nat} {own : String} {ret : Option FieldType} {Q : State → Prop} {pc : Nat} {vs : List (Option Value)} {st : List Value} {M : Mm} (hC : Cx X g cc nL own ret d) {t : Nat} {x : Int32} (ht : ok w t 2) {index : Nat} {host : String} (hw : Cond.fieldLinkNest own index "SyntaxRepair$Cursor" "position" "I" host ∈ Tk) (hd : decode cc pc = .ok (.putfield index, 3)) (kk : V X g w nL k ns Q (pc + 3) vs st (up M t 0 x)) : V X g w nL k ns Q pc vs (.int x :: ob g t :: st) M := V_putN hC ht (by decide) (ci := 2) rfl iw_2 tyX2 tyX2_ok nmX2 (ent_2 ht.1) 0 (by decide) rfl (ty := .int) (by decide +kernel) rfl rfl (Nat.le_of_ble_eq_true rfl) (M' := (up M t 0 x)) (by rw [ent_2 ht.1]; simp [up]) (fun c' h => up_c h) hw hd kk
theorem gf_2_1 {X : CX} {g : GX} {w : WX} {cc : ByteArray} {nL k ns d : Nat} {own : String} {ret : Option FieldType} {Q : State → Prop} {pc : Nat} {vs : List (Option Value)} {st : List Value} {M : Mm} (hC : Cx X g cc nL own ret d) {t : Nat} (ht : ok w t 2) {index : Nat} (hw : Cond.fieldLink own index "SyntaxRepair$Cursor" "configuration" "I" ∈ Tk) (hd : decode cc pc = .ok (.getfield index, 3)) (kk : V X g w nL k ns Q (pc + 3) vs (.int (M t 1) :: st) M) : V X g w nL k ns Q pc vs (ob g t :: st) M := V_get hC ht (by decide) (ci := 2) rfl iw_2 (ent_2 ht.1) 1 (by decide) rfl hw hd kk
theorem pf_2_1 {X : CX} {g : GX} {w : WX} {cc : ByteArray} {nL k ns d : Nat} {own : String} {ret : Option FieldType} {Q : State → Prop} {pc : Nat} {vs : List (Option Value)} {st : List Value} {M : Mm} (hC : Cx X g cc nL own ret d) {t : Nat} {x : Int32} (ht : ok w t 2) {index : Nat} (hw : Cond.fieldLink own index "SyntaxRepair$Cursor" "configuration" "I" ∈ Tk) (hd : decode cc pc = .ok (.putfield index, 3)) (kk : V X g w nL k ns Q (pc + 3) vs st (up M t 1 x)) : V X g w nL k ns Q pc vs (.int x :: ob g t :: st) M := V_put hC ht (by decide) (ci := 2) rfl iw_2 tyX2 tyX2_ok nmX2 (ent_2 ht.1) 1 (by decide) rfl (ty := .int) (by decide +kernel) rfl rfl (Nat.le_of_ble_eq_true rfl) (M' := (up M t 1 x)) (by rw [ent_2 ht.1]; simp [up]) (fun c' h => up_c h) hw hd kk
theorem gfN_2_1 {X : CX} {g : GX} {w : WX} {cc : ByteArray} {nL k ns d : Nat} {own : String} {ret : Option FieldType} {Q : State → Prop} {pc : Nat} {vs : List (Option Value)} {st : List Value} {M : Mm} (hC : Cx X g cc nL own ret d) {t : Nat} (ht : ok w t 2) {index : Nat} {host : String} (hw : Cond.fieldLinkNest own index "SyntaxRepair$Cursor" "configuration" "I" host ∈ Tk) (hd : decode cc pc = .ok (.getfield index, 3)) (kk : V X g w nL k ns Q (pc + 3) vs (.int (M t 1) :: st) M) : V X g w nL k ns Q pc vs (ob g t :: st) M := V_getN hC ht (by decide) (ci := 2) rfl iw_2 (ent_2 ht.1) 1 (by decide) rfl hw hd kk
theorem pfN_2_1 {X : CX} {g : GX} {w : WX} {cc : ByteArray} {nL k ns d : Nat} {own : String} {ret : Option FieldType} {Q : State → Prop} {pc : Nat} {vs : List (Option Value)} {st : List Value} {M : Mm} (hC : Cx X g cc nL own ret d) {t : Nat} {x : Int32} (ht : ok w t 2) {index : Nat} {host : String} (hw : Cond.fieldLinkNest own index "SyntaxRepair$Cursor" "configuration" "I" host ∈ Tk) (hd : decode cc pc = .ok (.putfield index, 3)) (kk : V X g w nL k ns Q (pc + 3) vs st (up M t 1 x)) : V X g w nL k ns Q pc vs (.int x :: ob g t :: st) M := V_putN hC ht (by decide) (ci := 2) rfl iw_2 tyX2 tyX2_ok nmX2 (ent_2 ht.1) 1 (by decide) rfl (ty := .int) (by decide +kernel) rfl rfl (Nat.le_of_ble_eq_true rfl) (M' := (up M t 1 x)) (by rw [ent_2 ht.1]; simp [up]) (fun c' h => up_c h) hw hd kk
theorem ent_3 {g : GX} {f : Nat → Int32} {t : Nat} (h : kd t = 3) : ent g f t = .inr (3, [ob g (t + 1), ob g (t + 2), .int (f 2), .int (f 3), .int (f 4)]) := by unfold ent; rw [h]; rfl
theorem gf_3_0 {X : CX} {g : GX} {w : WX} {cc : ByteArray} {nL k ns d : Nat} {own : String} {ret : Option FieldType} {Q : State → Prop} {pc : Nat} {vs : List (Option Value)} {st : List Value} {M : Mm} (hC : Cx X g cc nL own ret d) {t : Nat} (ht : ok w t 3) {index : Nat} (hw : Cond.fieldLink own index "SyntaxRepair$GrammarText" "characters" "[I" ∈ Tk) (hd : decode cc pc = .ok (.getfield index, 3)) (kk : V X g w nL k ns Q (pc + 3) vs (ob g (t + 1) :: st) M) : V X g w nL k ns Q pc vs (ob g t :: st) M := V_get hC ht (by decide) (ci := 3) rfl iw_3 (ent_3 ht.1) 0 (by decide) rfl hw hd kk
theorem gfN_3_0 {X : CX} {g : GX} {w : WX} {cc : ByteArray} {nL k ns d : Nat} {own : String} {ret : Option FieldType} {Q : State → Prop} {pc : Nat} {vs : List (Option Value)} {st : List Value} {M : Mm} (hC : Cx X g cc nL own ret d) {t : Nat} (ht : ok w t 3) {index : Nat} {host : String} (hw : Cond.fieldLinkNest own index "SyntaxRepair$GrammarText" "characters" "[I" host ∈ Tk) (hd : decode cc pc = .ok (.getfield index, 3)) (kk : V X g w nL k ns Q (pc + 3) vs (ob g (t + 1) :: st) M) : V X g w nL k ns Q pc vs (ob g t :: st) M := V_getN hC ht (by decide) (ci := 3) rfl iw_3 (ent_3 ht.1) 0 (by decide) rfl hw hd kk
theorem gf_3_1 {X : CX} {g : GX} {w : WX} {cc : ByteArray} {nL k ns d : Nat} {own : String} {ret : Option FieldType} {Q : State → Prop} {pc : Nat} {vs : List (Option Value)} {st : List Value} {M : Mm} (hC : Cx X g cc nL own ret d) {t : Nat} (ht : ok w t 3) {index : Nat} (hw : Cond.fieldLink own index "SyntaxRepair$GrammarText" "draft" "LSyntaxRepair$Situation;" ∈ Tk) (hd : decode cc pc = .ok (.getfield index, 3)) (kk : V X g w nL k ns Q (pc + 3) vs (ob g (t + 2) :: st) M) : V X g w nL k ns Q pc vs (ob g t :: st) M := V_get hC ht (by decide) (ci := 3) rfl iw_3 (ent_3 ht.1) 1 (by decide) rfl hw hd kk
theorem gfN_3_1 {X : CX} {g : GX} {w : WX} {cc : ByteArray} {nL k ns d : Nat} {own : String} {ret : Option FieldType} {Q : State → Prop} {pc : Nat} {vs : List (Option Value)} {st : List Value} {M : Mm} (hC : Cx X g cc nL own ret d) {t : Nat} (ht : ok w t 3) {index : Nat} {host : String} (hw : Cond.fieldLinkNest own index "SyntaxRepair$GrammarText" "draft" "LSyntaxRepair$Situation;" host ∈ Tk) (hd : decode cc pc = .ok (.getfield index, 3)) (kk : V X g w nL k ns Q (pc + 3) vs (ob g (t + 2) :: st) M) : V X g w nL k ns Q pc vs (ob g t :: st) M := V_getN hC ht (by decide) (ci := 3) rfl iw_3 (ent_3 ht.1) 1 (by decide) rfl hw hd kk
theorem gf_3_2 {X : CX} {g : GX} {w : WX} {cc : ByteArray} {nL k ns d : Nat} {own : String} {ret : Option FieldType} {Q : State → Prop} {pc : Nat} {vs : List (Option Value)} {st : List Value} {M : Mm} (hC : Cx X g cc nL own ret d) {t : Nat} (ht : ok w t 3) {index : Nat} (hw : Cond.fieldLink own index "SyntaxRepair$GrammarText" "length" "I" ∈ Tk) (hd : decode cc pc = .ok (.getfield index, 3)) (kk : V X g w nL k ns Q (pc + 3) vs (.int (M t 2) :: st) M) : V X g w nL k ns Q pc vs (ob g t :: st) M := V_get hC ht (by decide) (ci := 3) rfl iw_3 (ent_3 ht.1) 2 (by decide) rfl hw hd kk
theorem pf_3_2 {X : CX} {g : GX} {w : WX} {cc : ByteArray} {nL k ns d : Nat} {own : String} {ret : Option FieldType} {Q : State → Prop} {pc : Nat} {vs : List (Option Value)} {st : List Value} {M : Mm} (hC : Cx X g cc nL own ret d) {t : Nat} {x : Int32} (ht : ok w t 3) {index : Nat} (hw : Cond.fieldLink own index "SyntaxRepair$GrammarText" "length" "I" ∈ Tk) (hd : decode cc pc = .ok (.putfield index, 3)) (kk : V X g w nL k ns Q (pc + 3) vs st (up M t 2 x)) : V X g w nL k ns Q pc vs (.int x :: ob g t :: st) M := V_put hC ht (by decide) (ci := 3) rfl iw_3 tyX3 tyX3_ok nmX3 (ent_3 ht.1) 2 (by decide) rfl (ty := .int) (by decide +kernel) rfl rfl (Nat.le_of_ble_eq_true rfl) (M' := (up M t 2 x)) (by rw [ent_3 ht.1]; simp [up]) (fun c' h => up_c h) hw hd kk
theorem gfN_3_2 {X : CX} {g : GX} {w : WX} {cc : ByteArray} {nL k ns d : Nat} {own : String} {ret : Option FieldType} {Q : State → Prop} {pc : Nat} {vs : List (Option Value)} {st : List Value} {M : Mm} (hC : Cx X g cc nL own ret d) {t : Nat} (ht : ok w t 3) {index : Nat} {host : String} (hw : Cond.fieldLinkNest own index "SyntaxRepair$GrammarText" "length" "I" host ∈ Tk) (hd : decode cc pc = .ok (.getfield index, 3)) (kk : V X g w nL k ns Q (pc + 3) vs (.int (M t 2) :: st) M) : V X g w nL k ns Q pc vs (ob g t :: st) M := V_getN hC ht (by decide) (ci := 3) rfl iw_3 (ent_3 ht.1) 2 (by decide) rfl hw hd kk
theorem pfN_3_2 {X : CX} {g : GX} {w : WX} {cc : ByteArray} {nL k ns d : Nat} {own : String} {ret : Option FieldType} {Q : State → Prop} {pc : Nat} {vs : List (Option Value)} {st : List Value} {M : Mm} (hC : Cx X g cc nL own ret d) {t : Nat} {x : Int32} (ht : ok w t 3) {index : Nat} {host : String} (hw : Cond.fieldLinkNest own index "SyntaxRepair$GrammarText" "length" "I" host ∈ Tk) (hd : decode cc pc = .ok (.putfield index, 3)) (kk : V X g w nL k ns Q (pc + 3) vs st (up M t 2 x)) : V X g w nL k ns Q pc vs (.int x :: ob g t :: st) M := V_putN hC ht (by decide) (ci := 3) rfl iw_3 tyX3 tyX3_ok nmX3 (ent_3 ht.1) 2 (by decide) rfl (ty := .int) (by decide +kernel) rfl rfl (Nat.le_of_ble_eq_true rfl) (M' := (up M t 2 x)) (by rw [ent_3 ht.1]; simp [up]) (fun c' h => up_c h) hw hd kk
theorem gf_3_3 {X : CX} {g : GX} {w : WX} {cc : ByteArray} {nL k ns d : Nat} {own : String} {ret : Option FieldType} {Q : State → Prop} {pc : Nat} {vs : List (Option Value)} {st : List Value} {M : Mm} (hC : Cx X g cc nL own ret d) {t : Nat} (ht : ok w t 3) {index : Nat} (hw : Cond.fieldLink own index "SyntaxRepair$GrammarText" "start" "I" ∈ Tk) (hd : decode cc pc = .ok (.getfield index, 3)) (kk : V X g w nL k ns Q (pc + 3) vs (.int (M t 3) :: st) M) : V X g w nL k ns Q pc vs (ob g t :: st) M := V_get hC ht (by decide) (ci := 3) rfl iw_3 (ent_3 ht.1) 3 (by decide) rfl hw hd kk
theorem pf_3_3 {X : CX} {g : GX} {w : WX} {cc : ByteArray} {nL k ns d : Nat} {own : String} {ret : Option FieldType} {Q : State → Prop} {pc : Nat} {vs : List (Option Value)} {st : List Value} {M : Mm} (hC : Cx X g cc nL own ret d) {t : Nat} {x : Int32} (ht : ok w t 3) {index : Nat} (hw : Cond.fieldLink own index "SyntaxRepair$GrammarText" "start" "I" ∈ Tk) (hd : decode cc pc = .ok (.putfield index, 3)) (kk : V X g w nL k ns Q (pc + 3) vs st (up M t 3 x)) : V X g w nL k ns Q pc vs (.int x :: ob g t :: st) M := V_put hC ht (by decide) (ci := 3) rfl iw_3 tyX3 tyX3_ok nmX3 (ent_3 ht.1) 3 (by decide) rfl (ty := .int) (by decide +kernel) rfl rfl (Nat.le_of_ble_eq_true rfl) (M' := (up M t 3 x)) (by rw [ent_3 ht.1]; simp [up]) (fun c' h => up_c h) hw hd kk
theorem gfN_3_3 {X : CX} {g : GX} {w : WX} {cc : ByteArray} {nL k ns d : Nat} {own : String} {ret : Option FieldType} {Q : State → Prop} {pc : Nat} {vs : List (Option Value)} {st : List Value} {M : Mm} (hC : Cx X g cc nL own ret d) {t : Nat} (ht : ok w t 3) {index : Nat} {host : String} (hw : Cond.fieldLinkNest own index "SyntaxRepair$GrammarText" "start" "I" host ∈ Tk) (hd : decode cc pc = .ok (.getfield index, 3)) (kk : V X g w nL k ns Q (pc + 3) vs (.int (M t 3) :: st) M) : V X g w nL k ns Q pc vs (ob g t :: st) M := V_getN hC ht (by decide) (ci := 3) rfl iw_3 (ent_3 ht.1) 3 (by decide) rfl hw hd kk
theorem pfN_3_3 {X : CX} {g : GX} {w : WX} {cc : ByteArray} {nL k ns d : Nat} {own : String} {ret : Option FieldType} {Q : State → Prop} {pc : Nat} {vs : List (Option Value)} {st : List Value} {M : Mm} (hC : Cx X g cc nL own ret d) {t : Nat} {x : Int32} (ht : ok w t 3) {index : Nat} {host : String} (hw : Cond.fieldLinkNest own index "SyntaxRepair$GrammarText" "start" "I" host ∈ Tk) (hd : decode cc pc = .ok (.putfield index, 3)) (kk : V X g w nL k ns Q (pc + 3) vs st (up M t 3 x)) : V X g w nL k ns Q pc vs (.int x :: ob g t :: st) M := V_putN hC ht (by decide) (ci := 3) rfl iw_3 tyX3 tyX3_ok nmX3 (ent_3 ht.1) 3 (by decide) rfl (ty := .int) (by decide +kernel) rfl rfl (Nat.le_of_ble_eq_true rfl) (M' := (up M t 3 x)) (by rw [ent_3 ht.1]; simp [up]) (fun c' h => up_c h) hw hd kk
theorem gf_3_4 {X : CX} {g : GX} {w : WX} {cc : ByteArray} {nL k ns d : Nat} {own : String} {ret : Option FieldType} {Q : State → Prop} {pc : Nat} {vs : List (Option Value)} {st : List Value} {M : Mm} (hC : Cx X g cc nL own ret d) {t : Nat} (ht : ok w t 3) {index : Nat} (hw : Cond.fieldLink own index "SyntaxRepair$GrammarText" "end" "I" ∈ Tk) (hd : decode cc pc = .ok (.getfield index, 3)) (kk : V X g w nL k ns Q (pc + 3) vs (.int (M t 4) :: st) M) : V X g w nL k ns Q pc vs (ob g t :: st) M := V_get hC ht (by decide) (ci := 3) rfl iw_3 (ent_3 ht.1) 4 (by decide) rfl hw hd kk
theorem pf_3_4 {X : CX} {g : GX} {w : WX} {cc : ByteArray} {nL k ns d : Nat} {own : String} {ret : Option FieldType} {Q : State → Prop} {pc : Nat} {vs : List (Option Value)} {st : List Value} {M : Mm} (hC : Cx X g cc nL own ret d) {t : Nat} {x : Int32} (ht : ok w t 3) {index : Nat} (hw : Cond.fieldLink own index "SyntaxRepair$GrammarText" "end" "I" ∈ Tk) (hd : decode cc pc = .ok (.putfield index, 3)) (kk : V X g w nL k ns Q (pc + 3) vs st (up M t 4 x)) : V X g w nL k ns Q pc vs (.int x :: ob g t :: st) M := V_put hC ht (by decide) (ci := 3) rfl iw_3 tyX3 tyX3_ok nmX3 (ent_3 ht.1) 4 (by decide) rfl (ty := .int) (by decide +kernel) rfl rfl (Nat.le_of_ble_eq_true rfl) (M' := (up M t 4 x)) (by rw [ent_3 ht.1]; simp [up]) (fun c' h => up_c h) hw hd kk
theorem gfN_3_4 {X : CX} {g : GX} {w : WX} {cc : ByteArray} {nL k ns d : Nat} {own : String} {ret : Option FieldType} {Q : State → Prop} {pc : Nat} {vs : List (Option Value)} {st : List Value} {M : Mm} (hC : Cx X g cc nL own ret d) {t : Nat} (ht : ok w t 3) {index : Nat} {host : String} (hw : Cond.fieldLinkNest own index "SyntaxRepair$GrammarText" "end" "I" host ∈ Tk) (hd : decode cc pc = .ok (.getfield index, 3)) (kk : V X g w nL k ns Q (pc + 3) vs (.int (M t 4) :: st) M) : V X g w nL k ns Q pc vs (ob g t :: st) M := V_getN hC ht (by decide) (ci := 3) rfl iw_3 (ent_3 ht.1) 4 (by decide) rfl hw hd kk
theorem pfN_3_4 {X : CX} {g : GX} {w : WX} {cc : ByteArray} {nL k ns d : Nat} {own : String} {ret : Option FieldType} {Q : State → Prop} {pc : Nat} {vs : List (Option Value)} {st : List Value} {M : Mm} (hC : Cx X g cc nL own ret d) {t : Nat} {x : Int32} (ht : ok w t 3) {index : Nat} {host : String} (hw : Cond.fieldLinkNest own index "SyntaxRepair$GrammarText" "end" "I" host ∈ Tk) (hd : decode cc pc = .ok (.putfield index, 3)) (kk : V X g w nL k ns Q (pc + 3) vs st (up M t 4 x)) : V X g w nL k ns Q pc vs (.int x :: ob g t :: st) M := V_putN hC ht (by decide) (ci := 3) rfl iw_3 tyX3 tyX3_ok nmX3 (ent_3 ht.1) 4 (by decide) rfl (ty := .int) (by decide +kernel) rfl rfl (Nat.le_of_ble_eq_true rfl) (M' := (up M t 4 x)) (by rw [ent_3 ht.1]; simp [up]) (fun c' h => up_c h) hw hd kk
theorem ent_4 {g : GX} {f : Nat → Int32} {t : Nat} (h : kd t = 4) : ent g f t = .inr (4, [ob g (t + 1), .int (f 1), .int (f 2)]) := by unfold ent; rw [h]; rfl
theorem gf_4_0 {X : CX} {g : GX} {w : WX} {cc : ByteArray} {nL k ns d : Nat} {own : String} {ret : Option FieldType} {Q : State → Prop} {pc : Nat} {vs : List (Option Value)} {st : List Value} {M : Mm} (hC : Cx X g cc nL own ret d) {t : Nat} (ht : ok w t 4) {index : Nat} (hw : Cond.fieldLink own index "SyntaxRepair$History" "ring" "[LSyntaxRepair$Situation;" ∈ Tk) (hd : decode cc pc = .ok (.getfield index, 3)) (kk : V X g w nL k ns Q (pc + 3) vs (ob g (t + 1) :: st) M) : V X g w nL k ns Q pc vs (ob g t :: st) M := V_get hC ht (by decide) (ci := 4) rfl iw_4 (ent_4 ht.1) 0 (by decide) rfl hw hd kk
theorem gfN_4_0 {X : CX} {g : GX} {w : WX} {cc : ByteArray} {nL k ns d : Nat} {own : String} {ret : Option FieldType} {Q : State → Prop} {pc : Nat} {vs : List (Option Value)} {st : List Value} {M : Mm} (hC : Cx X g cc nL own ret d) {t : Nat} (ht : ok w t 4) {index : Nat} {host : String} (hw : Cond.fieldLinkNest own index "SyntaxRepair$History" "ring" "[LSyntaxRepair$Situation;" host ∈ Tk) (hd : decode cc pc = .ok (.getfield index, 3)) (kk : V X g w nL k ns Q (pc + 3) vs (ob g (t + 1) :: st) M) : V X g w nL k ns Q pc vs (ob g t :: st) M := V_getN hC ht (by decide) (ci := 4) rfl iw_4 (ent_4 ht.1) 0 (by decide) rfl hw hd kk
theorem gf_4_1 {X : CX} {g : GX} {w : WX} {cc : ByteArray} {nL k ns d : Nat} {own : String} {ret : Option FieldType} {Q : State → Prop} {pc : Nat} {vs : List (Option Value)} {st : List Value} {M : Mm} (hC : Cx X g cc nL own ret d) {t : Nat} (ht : ok w t 4) {index : Nat} (hw : Cond.fieldLink own index "SyntaxRepair$History" "next" "I" ∈ Tk) (hd : decode cc pc = .ok (.getfield index, 3)) (kk : V X g w nL k ns Q (pc + 3) vs (.int (M t 1) :: st) M) : V X g w nL k ns Q pc vs (ob g t :: st) M := V_get hC ht (by decide) (ci := 4) rfl iw_4 (ent_4 ht.1) 1 (by decide) rfl hw hd kk
theorem pf_4_1 {X : CX} {g : GX} {w : WX} {cc : ByteArray} {nL k ns d : Nat} {own : String} {ret : Option FieldType} {Q : State → Prop} {pc : Nat} {vs : List (Option Value)} {st : List Value} {M : Mm} (hC : Cx X g cc nL own ret d) {t : Nat} {x : Int32} (ht : ok w t 4) {index : Nat} (hw : Cond.fieldLink own index "SyntaxRepair$History" "next" "I" ∈ Tk) (hd : decode cc pc = .ok (.putfield index, 3)) (kk : V X g w nL k ns Q (pc + 3) vs st (up M t 1 x)) : V X g w nL k ns Q pc vs (.int x :: ob g t :: st) M := V_put hC ht (by decide) (ci := 4) rfl iw_4 tyX4 tyX4_ok nmX4 (ent_4 ht.1) 1 (by decide) rfl (ty := .int) (by decide +kernel) rfl rfl (Nat.le_of_ble_eq_true rfl) (M' := (up M t 1 x)) (by rw [ent_4 ht.1]; simp [up]) (fun c' h => up_c h) hw hd kk
theorem gfN_4_1 {X : CX} {g : GX} {w : WX} {cc : ByteArray} {nL k ns d : Nat} {own : String} {ret : Option FieldType} {Q : State → Prop} {pc : Nat} {vs : List (Option Value)} {st : List Value} {M : Mm} (hC : Cx X g cc nL own ret d) {t : Nat} (ht : ok w t 4) {index : Nat} {host : String} (hw : Cond.fieldLinkNest own index "SyntaxRepair$History" "next" "I" host ∈ Tk) (hd : decode cc pc = .ok (.getfield index, 3)) (kk : V X g w nL k ns Q (pc + 3) vs (.int (M t 1) :: st) M) : V X g w nL k ns Q pc vs (ob g t :: st) M := V_getN hC ht (by decide) (ci := 4) rfl iw_4 (ent_4 ht.1) 1 (by decide) rfl hw hd kk
theorem pfN_4_1 {X : CX} {g : GX} {w : WX} {cc : ByteArray} {nL k ns d : Nat} {own : String} {ret : Option FieldType} {Q : State → Prop} {pc : Nat} {vs : List (Option Value)} {st : List Value} {M : Mm} (hC : Cx X g cc nL own ret d) {t : Nat} {x : Int32} (ht : ok w t 4) {index : Nat} {host : String} (hw : Cond.fieldLinkNest own index "SyntaxRepair$History" "next" "I" host ∈ Tk) (hd : decode cc pc = .ok (.putfield index, 3)) (kk : V X g w nL k ns Q (pc + 3) vs st (up M t 1 x)) : V X g w nL k ns Q pc vs (.int x :: ob g t :: st) M := V_putN hC ht (by decide) (ci := 4) rfl iw_4 tyX4 tyX4_ok nmX4 (ent_4 ht.1) 1 (by decide) rfl (ty := .int) (by decide +kernel) rfl rfl (Nat.le_of_ble_eq_true rfl) (M' := (up M t 1 x)) (by rw [ent_4 ht.1]; simp [up]) (fun c' h => up_c h) hw hd kk
theorem gf_4_2 {X : CX} {g : GX} {w : WX} {cc : ByteArray} {nL k ns d : Nat} {own : String} {ret : Option FieldType} {Q : State → Prop} {pc : Nat} {vs : List (Option Value)} {st : List Value} {M : Mm} (hC : Cx X g cc nL own ret d) {t : Nat} (ht : ok w t 4) {index : Nat} (hw : Cond.fieldLink own index "SyntaxRepair$History" "count" "I" ∈ Tk) (hd : decode cc pc = .ok (.getfield index, 3)) (kk : V X g w nL k ns Q (pc + 3) vs (.int (M t 2) :: st) M) : V X g w nL k ns Q pc vs (ob g t :: st) M := V_get hC ht (by decide) (ci := 4) rfl iw_4 (ent_4 ht.1) 2 (by decide) rfl hw hd kk
theorem pf_4_2 {X : CX} {g : GX} {w : WX} {cc : ByteArray} {nL k ns d : Nat} {own : String} {ret : Option FieldType} {Q : State → Prop} {pc : Nat} {vs : List (Option Value)} {st : List Value} {M : Mm} (hC : Cx X g cc nL own ret d) {t : Nat} {x : Int32} (ht : ok w t 4) {index : Nat} (hw : Cond.fieldLink own index "SyntaxRepair$History" "count" "I" ∈ Tk) (hd : decode cc pc = .ok (.putfield index, 3)) (kk : V X g w nL k ns Q (pc + 3) vs st (up M t 2 x)) : V X g w nL k ns Q pc vs (.int x :: ob g t :: st) M := V_put hC ht (by decide) (ci := 4) rfl iw_4 tyX4 tyX4_ok nmX4 (ent_4 ht.1) 2 (by decide) rfl (ty := .int) (by decide +kernel) rfl rfl (Nat.le_of_ble_eq_true rfl) (M' := (up M t 2 x)) (by rw [ent_4 ht.1]; simp [up]) (fun c' h => up_c h) hw hd kk
theorem gfN_4_2 {X : CX} {g : GX} {w : WX} {cc : ByteArray} {nL k ns d : Nat} {own : String} {ret : Option FieldType} {Q : State → Prop} {pc : Nat} {vs : List (Option Value)} {st : List Value} {M : Mm} (hC : Cx X g cc nL own ret d) {t : Nat} (ht : ok w t 4) {index : Nat} {host : String} (hw : Cond.fieldLinkNest own index "SyntaxRepair$History" "count" "I" host ∈ Tk) (hd : decode cc pc = .ok (.getfield index, 3)) (kk : V X g w nL k ns Q (pc + 3) vs (.int (M t 2) :: st) M) : V X g w nL k ns Q pc vs (ob g t :: st) M := V_getN hC ht (by decide) (ci := 4) rfl iw_4 (ent_4 ht.1) 2 (by decide) rfl hw hd kk
theorem pfN_4_2 {X : CX} {g : GX} {w : WX} {cc : ByteArray} {nL k ns d : Nat} {own : String} {ret : Option FieldType} {Q : State → Prop} {pc : Nat} {vs : List (Option Value)} {st : List Value} {M : Mm} (hC : Cx X g cc nL own ret d) {t : Nat} {x : Int32} (ht : ok w t 4) {index : Nat} {host : String} (hw : Cond.fieldLinkNest own index "SyntaxRepair$History" "count" "I" host ∈ Tk) (hd : decode cc pc = .ok (.putfield index, 3)) (kk : V X g w nL k ns Q (pc + 3) vs st (up M t 2 x)) : V X g w nL k ns Q pc vs (.int x :: ob g t :: st) M := V_putN hC ht (by decide) (ci := 4) rfl iw_4 tyX4 tyX4_ok nmX4 (ent_4 ht.1) 2 (by decide) rfl (ty := .int) (by decide +kernel) rfl rfl (Nat.le_of_ble_eq_true rfl) (M' := (up M t 2 x)) (by rw [ent_4 ht.1]; simp [up]) (fun c' h => up_c h) hw hd kk
theorem ent_5 {g : GX} {f : Nat → Int32} {t : Nat} (h : kd t = 5) : ent g f t = .inr (5, [ob g (t + 1), ob g (t + 2), ob g (t + 3), .int (f 3)]) := by unfold ent; rw [h]; rfl
theorem gf_5_0 {X : CX} {g : GX} {w : WX} {cc : ByteArray} {nL k ns d : Nat} {own : String} {ret : Option FieldType} {Q : State → Prop} {pc : Nat} {vs : List (Option Value)} {st : List Value} {M : Mm} (hC : Cx X g cc nL own ret d) {t : Nat} (ht : ok w t 5) {index : Nat} (hw : Cond.fieldLink own index "SyntaxRepair$Reach" "next" "[I" ∈ Tk) (hd : decode cc pc = .ok (.getfield index, 3)) (kk : V X g w nL k ns Q (pc + 3) vs (ob g (t + 1) :: st) M) : V X g w nL k ns Q pc vs (ob g t :: st) M := V_get hC ht (by decide) (ci := 5) rfl iw_5 (ent_5 ht.1) 0 (by decide) rfl hw hd kk
theorem gfN_5_0 {X : CX} {g : GX} {w : WX} {cc : ByteArray} {nL k ns d : Nat} {own : String} {ret : Option FieldType} {Q : State → Prop} {pc : Nat} {vs : List (Option Value)} {st : List Value} {M : Mm} (hC : Cx X g cc nL own ret d) {t : Nat} (ht : ok w t 5) {index : Nat} {host : String} (hw : Cond.fieldLinkNest own index "SyntaxRepair$Reach" "next" "[I" host ∈ Tk) (hd : decode cc pc = .ok (.getfield index, 3)) (kk : V X g w nL k ns Q (pc + 3) vs (ob g (t + 1) :: st) M) : V X g w nL k ns Q pc vs (ob g t :: st) M := V_getN hC ht (by decide) (ci := 5) rfl iw_5 (ent_5 ht.1) 0 (by decide) rfl hw hd kk
theorem gf_5_1 {X : CX} {g : GX} {w : WX} {cc : ByteArray} {nL k ns d : Nat} {own : String} {ret : Option FieldType} {Q : State → Prop} {pc : Nat} {vs : List (Option Value)} {st : List Value} {M : Mm} (hC : Cx X g cc nL own ret d) {t : Nat} (ht : ok w t 5) {index : Nat} (hw : Cond.fieldLink own index "SyntaxRepair$Reach" "reached" "[I" ∈ Tk) (hd : decode cc pc = .ok (.getfield index, 3)) (kk : V X g w nL k ns Q (pc + 3) vs (ob g (t + 2) :: st) M) : V X g w nL k ns Q pc vs (ob g t :: st) M := V_get hC ht (by decide) (ci := 5) rfl iw_5 (ent_5 ht.1) 1 (by decide) rfl hw hd kk
theorem gfN_5_1 {X : CX} {g : GX} {w : WX} {cc : ByteArray} {nL k ns d : Nat} {own : String} {ret : Option FieldType} {Q : State → Prop} {pc : Nat} {vs : List (Option Value)} {st : List Value} {M : Mm} (hC : Cx X g cc nL own ret d) {t : Nat} (ht : ok w t 5) {index : Nat} {host : String} (hw : Cond.fieldLinkNest own index "SyntaxRepair$Reach" "reached" "[I" host ∈ Tk) (hd : decode cc pc = .ok (.getfield index, 3)) (kk : V X g w nL k ns Q (pc + 3) vs (ob g (t + 2) :: st) M) : V X g w nL k ns Q pc vs (ob g t :: st) M := V_getN hC ht (by decide) (ci := 5) rfl iw_5 (ent_5 ht.1) 1 (by decide) rfl hw hd kk
theorem gf_5_2 {X : CX} {g : GX} {w : WX} {cc : ByteArray} {nL k ns d : Nat} {own : String} {ret : Option FieldType} {Q : State → Prop} {pc : Nat} {vs : List (Option Value)} {st : List Value} {M : Mm} (hC : Cx X g cc nL own ret d) {t : Nat} (ht : ok w t 5) {index : Nat} (hw : Cond.fieldLink own index "SyntaxRepair$Reach" "seen" "[I" ∈ Tk) (hd : decode cc pc = .ok (.getfield index, 3)) (kk : V X g w nL k ns Q (pc + 3) vs (ob g (t + 3) :: st) M) : V X g w nL k ns Q pc vs (ob g t :: st) M := V_get hC ht (by decide) (ci := 5) rfl iw_5 (ent_5 ht.1) 2 (by decide) rfl hw hd kk
theorem gfN_5_2 {X : CX} {g : GX} {w : WX} {cc : ByteArray} {nL k ns d : Nat} {own : String} {ret : Option FieldType} {Q : State → Prop} {pc : Nat} {vs : List (Option Value)} {st : List Value} {M : Mm} (hC : Cx X g cc nL own ret d) {t : Nat} (ht : ok w t 5) {index : Nat} {host : String} (hw : Cond.fieldLinkNest own index "SyntaxRepair$Reach" "seen" "[I" host ∈ Tk) (hd : decode cc pc = .ok (.getfield index, 3)) (kk : V X g w nL k ns Q (pc + 3) vs (ob g (t + 3) :: st) M) : V X g w nL k ns Q pc vs (ob g t :: st) M := V_getN hC ht (by decide) (ci := 5) rfl iw_5 (ent_5 ht.1) 2 (by decide) rfl hw hd kk
theorem gf_5_3 {X : CX} {g : GX} {w : WX} {cc : ByteArray} {nL k ns d : Nat} {own : String} {ret : Option FieldType} {Q : State → Prop} {pc : Nat} {vs : List (Option Value)} {st : List Value} {M : Mm} (hC : Cx X g cc nL own ret d) {t : Nat} (ht : ok w t 5) {index : Nat} (hw : Cond.fieldLink own index "SyntaxRepair$Reach" "count" "I" ∈ Tk) (hd : decode cc pc = .ok (.getfield index, 3)) (kk : V X g w nL k ns Q (pc + 3) vs (.int (M t 3) :: st) M) : V X g w nL k ns Q pc vs (ob g t :: st) M := V_get hC ht (by decide) (ci := 5) rfl iw_5 (ent_5 ht.1) 3 (by decide) rfl hw hd kk
theorem pf_5_3 {X : CX} {g : GX} {w : WX} {cc : ByteArray} {nL k ns d : Nat} {own : String} {ret : Option FieldType} {Q : State → Prop} {pc : Nat} {vs : List (Option Value)} {st : List Value} {M : Mm} (hC : Cx X g cc nL own ret d) {t : Nat} {x : Int32} (ht : ok w t 5) {index : Nat} (hw : Cond.fieldLink own index "SyntaxRepair$Reach" "count" "I" ∈ Tk) (hd : decode cc pc = .ok (.putfield index, 3)) (kk : V X g w nL k ns Q (pc + 3) vs st (up M t 3 x)) : V X g w nL k ns Q pc vs (.int x :: ob g t :: st) M := V_put hC ht (by decide) (ci := 5) rfl iw_5 tyX5 tyX5_ok nmX5 (ent_5 ht.1) 3 (by decide) rfl (ty := .int) (by decide +kernel) rfl rfl (Nat.le_of_ble_eq_true rfl) (M' := (up M t 3 x)) (by rw [ent_5 ht.1]; simp [up]) (fun c' h => up_c h) hw hd kk
theorem gfN_5_3 {X : CX} {g : GX} {w : WX} {cc : ByteArray} {nL k ns d : Nat} {own : String} {ret : Option FieldType} {Q : State → Prop} {pc : Nat} {vs : List (Option Value)} {st : List Value} {M : Mm} (hC : Cx X g cc nL own ret d) {t : Nat} (ht : ok w t 5) {index : Nat} {host : String} (hw : Cond.fieldLinkNest own index "SyntaxRepair$Reach" "count" "I" host ∈ Tk) (hd : decode cc pc = .ok (.getfield index, 3)) (kk : V X g w nL k ns Q (pc + 3) vs (.int (M t 3) :: st) M) : V X g w nL k ns Q pc vs (ob g t :: st) M := V_getN hC ht (by decide) (ci := 5) rfl iw_5 (ent_5 ht.1) 3 (by decide) rfl hw hd kk
theorem pfN_5_3 {X : CX} {g : GX} {w : WX} {cc : ByteArray} {nL k ns d : Nat} {own : String} {ret : Option FieldType} {Q : State → Prop} {pc : Nat} {vs : List (Option Value)} {st : List Value} {M : Mm} (hC : Cx X g cc nL own ret d) {t : Nat} {x : Int32} (ht : ok w t 5) {index : Nat} {host : String} (hw : Cond.fieldLinkNest own index "SyntaxRepair$Reach" "count" "I" host ∈ Tk) (hd : decode cc pc = .ok (.putfield index, 3)) (kk : V X g w nL k ns Q (pc + 3) vs st (up M t 3 x)) : V X g w nL k ns Q pc vs (.int x :: ob g t :: st) M := V_putN hC ht (by decide) (ci := 5) rfl iw_5 tyX5 tyX5_ok nmX5 (ent_5 ht.1) 3 (by decide) rfl (ty := .int) (by decide +kernel) rfl rfl (Nat.le_of_ble_eq_true rfl) (M' := (up M t 3 x)) (by rw [ent_5 ht.1]; simp [up]) (fun c' h => up_c h) hw hd kk
theorem ent_6 {g : GX} {f : Nat → Int32} {t : Nat} (h : kd t = 6) : ent g f t = .inr (6, [ob g (t + 1), ob g (t + 2), .int (f 2)]) := by unfold ent; rw [h]; rfl
theorem gf_6_0 {X : CX} {g : GX} {w : WX} {cc : ByteArray} {nL k ns d : Nat} {own : String} {ret : Option FieldType} {Q : State → Prop} {pc : Nat} {vs : List (Option Value)} {st : List Value} {M : Mm} (hC : Cx X g cc nL own ret d) {t : Nat} (ht : ok w t 6) {index : Nat} (hw : Cond.fieldLink own index "SyntaxRepair$Script" "operations" "[I" ∈ Tk) (hd : decode cc pc = .ok (.getfield index, 3)) (kk : V X g w nL k ns Q (pc + 3) vs (ob g (t + 1) :: st) M) : V X g w nL k ns Q pc vs (ob g t :: st) M := V_get hC ht (by decide) (ci := 6) rfl iw_6 (ent_6 ht.1) 0 (by decide) rfl hw hd kk
theorem gfN_6_0 {X : CX} {g : GX} {w : WX} {cc : ByteArray} {nL k ns d : Nat} {own : String} {ret : Option FieldType} {Q : State → Prop} {pc : Nat} {vs : List (Option Value)} {st : List Value} {M : Mm} (hC : Cx X g cc nL own ret d) {t : Nat} (ht : ok w t 6) {index : Nat} {host : String} (hw : Cond.fieldLinkNest own index "SyntaxRepair$Script" "operations" "[I" host ∈ Tk) (hd : decode cc pc = .ok (.getfield index, 3)) (kk : V X g w nL k ns Q (pc + 3) vs (ob g (t + 1) :: st) M) : V X g w nL k ns Q pc vs (ob g t :: st) M := V_getN hC ht (by decide) (ci := 6) rfl iw_6 (ent_6 ht.1) 0 (by decide) rfl hw hd kk
theorem gf_6_1 {X : CX} {g : GX} {w : WX} {cc : ByteArray} {nL k ns d : Nat} {own : String} {ret : Option FieldType} {Q : State → Prop} {pc : Nat} {vs : List (Option Value)} {st : List Value} {M : Mm} (hC : Cx X g cc nL own ret d) {t : Nat} (ht : ok w t 6) {index : Nat} (hw : Cond.fieldLink own index "SyntaxRepair$Script" "kinds" "[I" ∈ Tk) (hd : decode cc pc = .ok (.getfield index, 3)) (kk : V X g w nL k ns Q (pc + 3) vs (ob g (t + 2) :: st) M) : V X g w nL k ns Q pc vs (ob g t :: st) M := V_get hC ht (by decide) (ci := 6) rfl iw_6 (ent_6 ht.1) 1 (by decide) rfl hw hd kk
theorem gfN_6_1 {X : CX} {g : GX} {w : WX} {cc : ByteArray} {nL k ns d : Nat} {own : String} {ret : Option FieldType} {Q : State → Prop} {pc : Nat} {vs : List (Option Value)} {st : List Value} {M : Mm} (hC : Cx X g cc nL own ret d) {t : Nat} (ht : ok w t 6) {index : Nat} {host : String} (hw : Cond.fieldLinkNest own index "SyntaxRepair$Script" "kinds" "[I" host ∈ Tk) (hd : decode cc pc = .ok (.getfield index, 3)) (kk : V X g w nL k ns Q (pc + 3) vs (ob g (t + 2) :: st) M) : V X g w nL k ns Q pc vs (ob g t :: st) M := V_getN hC ht (by decide) (ci := 6) rfl iw_6 (ent_6 ht.1) 1 (by decide) rfl hw hd kk
theorem gf_6_2 {X : CX} {g : GX} {w : WX} {cc : ByteArray} {nL k ns d : Nat} {own : String} {ret : Option FieldType} {Q : State → Prop} {pc : Nat} {vs : List (Option Value)} {st : List Value} {M : Mm} (hC : Cx X g cc nL own ret d) {t : Nat} (ht : ok w t 6) {index : Nat} (hw : Cond.fieldLink own index "SyntaxRepair$Script" "length" "I" ∈ Tk) (hd : decode cc pc = .ok (.getfield index, 3)) (kk : V X g w nL k ns Q (pc + 3) vs (.int (M t 2) :: st) M) : V X g w nL k ns Q pc vs (ob g t :: st) M := V_get hC ht (by decide) (ci := 6) rfl iw_6 (ent_6 ht.1) 2 (by decide) rfl hw hd kk
theorem pf_6_2 {X : CX} {g : GX} {w : WX} {cc : ByteArray} {nL k ns d : Nat} {own : String} {ret : Option FieldType} {Q : State → Prop} {pc : Nat} {vs : List (Option Value)} {st : List Value} {M : Mm} (hC : Cx X g cc nL own ret d) {t : Nat} {x : Int32} (ht : ok w t 6) {index : Nat} (hw : Cond.fieldLink own index "SyntaxRepair$Script" "length" "I" ∈ Tk) (hd : decode cc pc = .ok (.putfield index, 3)) (kk : V X g w nL k ns Q (pc + 3) vs st (up M t 2 x)) : V X g w nL k ns Q pc vs (.int x :: ob g t :: st) M := V_put hC ht (by decide) (ci := 6) rfl iw_6 tyX6 tyX6_ok nmX6 (ent_6 ht.1) 2 (by decide) rfl (ty := .int) (by decide +kernel) rfl rfl (Nat.le_of_ble_eq_true rfl) (M' := (up M t 2 x)) (by rw [ent_6 ht.1]; simp [up]) (fun c' h => up_c h) hw hd kk
theorem gfN_6_2 {X : CX} {g : GX} {w : WX} {cc : ByteArray} {nL k ns d : Nat} {own : String} {ret : Option FieldType} {Q : State → Prop} {pc : Nat} {vs : List (Option Value)} {st : List Value} {M : Mm} (hC : Cx X g cc nL own ret d) {t : Nat} (ht : ok w t 6) {index : Nat} {host : String} (hw : Cond.fieldLinkNest own index "SyntaxRepair$Script" "length" "I" host ∈ Tk) (hd : decode cc pc = .ok (.getfield index, 3)) (kk : V X g w nL k ns Q (pc + 3) vs (.int (M t 2) :: st) M) : V X g w nL k ns Q pc vs (ob g t :: st) M := V_getN hC ht (by decide) (ci := 6) rfl iw_6 (ent_6 ht.1) 2 (by decide) rfl hw hd kk
theorem pfN_6_2 {X : CX} {g : GX} {w : WX} {cc : ByteArray} {nL k ns d : Nat} {own : String} {ret : Option FieldType} {Q : State → Prop} {pc : Nat} {vs : List (Option Value)} {st : List Value} {M : Mm} (hC : Cx X g cc nL own ret d) {t : Nat} {x : Int32} (ht : ok w t 6) {index : Nat} {host : String} (hw : Cond.fieldLinkNest own index "SyntaxRepair$Script" "length" "I" host ∈ Tk) (hd : decode cc pc = .ok (.putfield index, 3)) (kk : V X g w nL k ns Q (pc + 3) vs st (up M t 2 x)) : V X g w nL k ns Q pc vs (.int x :: ob g t :: st) M := V_putN hC ht (by decide) (ci := 6) rfl iw_6 tyX6 tyX6_ok nmX6 (ent_6 ht.1) 2 (by decide) rfl (ty := .int) (by decide +kernel) rfl rfl (Nat.le_of_ble_eq_true rfl) (M' := (up M t 2 x)) (by rw [ent_6 ht.1]; simp [up]) (fun c' h => up_c h) hw hd kk
theorem ent_7 {g : GX} {f : Nat → Int32} {t : Nat} (h : kd t = 7) : ent g f t = .inr (7, [ob g (t + 1), ob g (t + 11), ob g (t + 15), ob g (t + 16), ob g (t + 17), .int (f 5), .int (f 6), .int (f 7), .int (f 8), .int (f 9), .int (f 10)]) := by unfold ent; rw [h]; rfl
theorem gf_7_0 {X : CX} {g : GX} {w : WX} {cc : ByteArray} {nL k ns d : Nat} {own : String} {ret : Option FieldType} {Q : State → Prop} {pc : Nat} {vs : List (Option Value)} {st : List Value} {M : Mm} (hC : Cx X g cc nL own ret d) {t : Nat} (ht : ok w t 7) {index : Nat} (hw : Cond.fieldLink own index "SyntaxRepair$ScriptTable" "situation" "LSyntaxRepair$Situation;" ∈ Tk) (hd : decode cc pc = .ok (.getfield index, 3)) (kk : V X g w nL k ns Q (pc + 3) vs (ob g (t + 1) :: st) M) : V X g w nL k ns Q pc vs (ob g t :: st) M := V_get hC ht (by decide) (ci := 7) rfl iw_7 (ent_7 ht.1) 0 (by decide) rfl hw hd kk
theorem gfN_7_0 {X : CX} {g : GX} {w : WX} {cc : ByteArray} {nL k ns d : Nat} {own : String} {ret : Option FieldType} {Q : State → Prop} {pc : Nat} {vs : List (Option Value)} {st : List Value} {M : Mm} (hC : Cx X g cc nL own ret d) {t : Nat} (ht : ok w t 7) {index : Nat} {host : String} (hw : Cond.fieldLinkNest own index "SyntaxRepair$ScriptTable" "situation" "LSyntaxRepair$Situation;" host ∈ Tk) (hd : decode cc pc = .ok (.getfield index, 3)) (kk : V X g w nL k ns Q (pc + 3) vs (ob g (t + 1) :: st) M) : V X g w nL k ns Q pc vs (ob g t :: st) M := V_getN hC ht (by decide) (ci := 7) rfl iw_7 (ent_7 ht.1) 0 (by decide) rfl hw hd kk
theorem gf_7_1 {X : CX} {g : GX} {w : WX} {cc : ByteArray} {nL k ns d : Nat} {own : String} {ret : Option FieldType} {Q : State → Prop} {pc : Nat} {vs : List (Option Value)} {st : List Value} {M : Mm} (hC : Cx X g cc nL own ret d) {t : Nat} (ht : ok w t 7) {index : Nat} (hw : Cond.fieldLink own index "SyntaxRepair$ScriptTable" "reach" "LSyntaxRepair$Reach;" ∈ Tk) (hd : decode cc pc = .ok (.getfield index, 3)) (kk : V X g w nL k ns Q (pc + 3) vs (ob g (t + 11) :: st) M) : V X g w nL k ns Q pc vs (ob g t :: st) M := V_get hC ht (by decide) (ci := 7) rfl iw_7 (ent_7 ht.1) 1 (by decide) rfl hw hd kk
theorem gfN_7_1 {X : CX} {g : GX} {w : WX} {cc : ByteArray} {nL k ns d : Nat} {own : String} {ret : Option FieldType} {Q : State → Prop} {pc : Nat} {vs : List (Option Value)} {st : List Value} {M : Mm} (hC : Cx X g cc nL own ret d) {t : Nat} (ht : ok w t 7) {index : Nat} {host : String} (hw : Cond.fieldLinkNest own index "SyntaxRepair$ScriptTable" "reach" "LSyntaxRepair$Reach;" host ∈ Tk) (hd : decode cc pc = .ok (.getfield index, 3)) (kk : V X g w nL k ns Q (pc + 3) vs (ob g (t + 11) :: st) M) : V X g w nL k ns Q pc vs (ob g t :: st) M := V_getN hC ht (by decide) (ci := 7) rfl iw_7 (ent_7 ht.1) 1 (by decide) rfl hw hd kk
theorem gf_7_2 {X : CX} {g : GX} {w : WX} {cc : ByteArray} {nL k ns d : Nat} {own : String} {ret : Option FieldType} {Q : State → Prop} {pc : Nat} {vs : List (Option Value)} {st : List Value} {M : Mm} (hC : Cx X g cc nL own ret d) {t : Nat} (ht : ok w t 7) {index : Nat} (hw : Cond.fieldLink own index "SyntaxRepair$ScriptTable" "least" "[I" ∈ Tk) (hd : decode cc pc = .ok (.getfield index, 3)) (kk : V X g w nL k ns Q (pc + 3) vs (ob g (t + 15) :: st) M) : V X g w nL k ns Q pc vs (ob g t :: st) M := V_get hC ht (by decide) (ci := 7) rfl iw_7 (ent_7 ht.1) 2 (by decide) rfl hw hd kk
theorem gfN_7_2 {X : CX} {g : GX} {w : WX} {cc : ByteArray} {nL k ns d : Nat} {own : String} {ret : Option FieldType} {Q : State → Prop} {pc : Nat} {vs : List (Option Value)} {st : List Value} {M : Mm} (hC : Cx X g cc nL own ret d) {t : Nat} (ht : ok w t 7) {index : Nat} {host : String} (hw : Cond.fieldLinkNest own index "SyntaxRepair$ScriptTable" "least" "[I" host ∈ Tk) (hd : decode cc pc = .ok (.getfield index, 3)) (kk : V X g w nL k ns Q (pc + 3) vs (ob g (t + 15) :: st) M) : V X g w nL k ns Q pc vs (ob g t :: st) M := V_getN hC ht (by decide) (ci := 7) rfl iw_7 (ent_7 ht.1) 2 (by decide) rfl hw hd kk
theorem gf_7_3 {X : CX} {g : GX} {w : WX} {cc : ByteArray} {nL k ns d : Nat} {own : String} {ret : Option FieldType} {Q : State → Prop} {pc : Nat} {vs : List (Option Value)} {st : List Value} {M : Mm} (hC : Cx X g cc nL own ret d) {t : Nat} (ht : ok w t 7) {index : Nat} (hw : Cond.fieldLink own index "SyntaxRepair$ScriptTable" "second" "[I" ∈ Tk) (hd : decode cc pc = .ok (.getfield index, 3)) (kk : V X g w nL k ns Q (pc + 3) vs (ob g (t + 16) :: st) M) : V X g w nL k ns Q pc vs (ob g t :: st) M := V_get hC ht (by decide) (ci := 7) rfl iw_7 (ent_7 ht.1) 3 (by decide) rfl hw hd kk
theorem gfN_7_3 {X : CX} {g : GX} {w : WX} {cc : ByteArray} {nL k ns d : Nat} {own : String} {ret : Option FieldType} {Q : State → Prop} {pc : Nat} {vs : List (Option Value)} {st : List Value} {M : Mm} (hC : Cx X g cc nL own ret d) {t : Nat} (ht : ok w t 7) {index : Nat} {host : String} (hw : Cond.fieldLinkNest own index "SyntaxRepair$ScriptTable" "second" "[I" host ∈ Tk) (hd : decode cc pc = .ok (.getfield index, 3)) (kk : V X g w nL k ns Q (pc + 3) vs (ob g (t + 16) :: st) M) : V X g w nL k ns Q pc vs (ob g t :: st) M := V_getN hC ht (by decide) (ci := 7) rfl iw_7 (ent_7 ht.1) 3 (by decide) rfl hw hd kk
theorem gf_7_4 {X : CX} {g : GX} {w : WX} {cc : ByteArray} {nL k ns d : Nat} {own : String} {ret : Option FieldType} {Q : State → Prop} {pc : Nat} {vs : List (Option Value)} {st : List Value} {M : Mm} (hC : Cx X g cc nL own ret d) {t : Nat} (ht : ok w t 7) {index : Nat} (hw : Cond.fieldLink own index "SyntaxRepair$ScriptTable" "ways" "[I" ∈ Tk) (hd : decode cc pc = .ok (.getfield index, 3)) (kk : V X g w nL k ns Q (pc + 3) vs (ob g (t + 17) :: st) M) : V X g w nL k ns Q pc vs (ob g t :: st) M := V_get hC ht (by decide) (ci := 7) rfl iw_7 (ent_7 ht.1) 4 (by decide) rfl hw hd kk
theorem gfN_7_4 {X : CX} {g : GX} {w : WX} {cc : ByteArray} {nL k ns d : Nat} {own : String} {ret : Option FieldType} {Q : State → Prop} {pc : Nat} {vs : List (Option Value)} {st : List Value} {M : Mm} (hC : Cx X g cc nL own ret d) {t : Nat} (ht : ok w t 7) {index : Nat} {host : String} (hw : Cond.fieldLinkNest own index "SyntaxRepair$ScriptTable" "ways" "[I" host ∈ Tk) (hd : decode cc pc = .ok (.getfield index, 3)) (kk : V X g w nL k ns Q (pc + 3) vs (ob g (t + 17) :: st) M) : V X g w nL k ns Q pc vs (ob g t :: st) M := V_getN hC ht (by decide) (ci := 7) rfl iw_7 (ent_7 ht.1) 4 (by decide) rfl hw hd kk
theorem gf_7_5 {X : CX} {g : GX} {w : WX} {cc : ByteArray} {nL k ns d : Nat} {own : String} {ret : Option FieldType} {Q : State → Prop} {pc : Nat} {vs : List (Option Value)} {st : List Value} {M : Mm} (hC : Cx X g cc nL own ret d) {t : Nat} (ht : ok w t 7) {index : Nat} (hw : Cond.fieldLink own index "SyntaxRepair$ScriptTable" "solved" "Z" ∈ Tk) (hd : decode cc pc = .ok (.getfield index, 3)) (kk : V X g w nL k ns Q (pc + 3) vs (.int (M t 5) :: st) M) : V X g w nL k ns Q pc vs (ob g t :: st) M := V_get hC ht (by decide) (ci := 7) rfl iw_7 (ent_7 ht.1) 5 (by decide) rfl hw hd kk
theorem pf_7_5 {X : CX} {g : GX} {w : WX} {cc : ByteArray} {nL k ns d : Nat} {own : String} {ret : Option FieldType} {Q : State → Prop} {pc : Nat} {vs : List (Option Value)} {st : List Value} {M : Mm} (hC : Cx X g cc nL own ret d) {t : Nat} {x : Int32} (ht : ok w t 7) (hz : narrow .boolean (.int x) = .int x ∧ fits .boolean (.int x) = true) {index : Nat} (hw : Cond.fieldLink own index "SyntaxRepair$ScriptTable" "solved" "Z" ∈ Tk) (hd : decode cc pc = .ok (.putfield index, 3)) (kk : V X g w nL k ns Q (pc + 3) vs st (up M t 5 x)) : V X g w nL k ns Q pc vs (.int x :: ob g t :: st) M := V_put hC ht (by decide) (ci := 7) rfl iw_7 tyX7 tyX7_ok nmX7 (ent_7 ht.1) 5 (by decide) rfl (ty := .boolean) (by decide +kernel) hz.1 hz.2 (Nat.le_of_ble_eq_true rfl) (M' := (up M t 5 x)) (by rw [ent_7 ht.1]; simp [up]) (fun c' h => up_c h) hw hd kk
theorem gfN_7_5 {X : CX} {g : GX} {w : WX} {cc : ByteArray} {nL k ns d : Nat} {own : String} {ret : Option FieldType} {Q : State → Prop} {pc : Nat} {vs : List (Option Value)} {st : List Value} {M : Mm} (hC : Cx X g cc nL own ret d) {t : Nat} (ht : ok w t 7) {index : Nat} {host : String} (hw : Cond.fieldLinkNest own index "SyntaxRepair$ScriptTable" "solved" "Z" host ∈ Tk) (hd : decode cc pc = .ok (.getfield index, 3)) (kk : V X g w nL k ns Q (pc + 3) vs (.int (M t 5) :: st) M) : V X g w nL k ns Q pc vs (ob g t :: st) M := V_getN hC ht (by decide) (ci := 7) rfl iw_7 (ent_7 ht.1) 5 (by decide) rfl hw hd kk
theorem pfN_7_5 {X : CX} {g : GX} {w : WX} {cc : ByteArray} {nL k ns d : Nat} {own : String} {ret : Option FieldType} {Q : State → Prop} {pc : Nat} {vs : List (Option Value)} {st : List Value} {M : Mm} (hC : Cx X g cc nL own ret d) {t : Nat} {x : Int32} (ht : ok w t 7) (hz : narrow .boolean (.int x) = .int x ∧ fits .boolean (.int x) = true) {index : Nat} {host : String} (hw : Cond.fieldLinkNest own index "SyntaxRepair$ScriptTable" "solved" "Z" host ∈ Tk) (hd : decode cc pc = .ok (.putfield index, 3)) (kk : V X g w nL k ns Q (pc + 3) vs st (up M t 5 x)) : V X g w nL k ns Q pc vs (.int x :: ob g t :: st) M := V_putN hC ht (by decide) (ci := 7) rfl iw_7 tyX7 tyX7_ok nmX7 (ent_7 ht.1) 5 (by decide) rfl (ty := .boolean) (by decide +kernel) hz.1 hz.2 (Nat.le_of_ble_eq_true rfl) (M' := (up M t 5 x)) (by rw [ent_7 ht.1]; simp [up]) (fun c' h => up_c h) hw hd kk
theorem gf_7_6 {X : CX} {g : GX} {w : WX} {cc : ByteArray} {nL k ns d : Nat} {own : String} {ret : Option FieldType} {Q : State → Prop} {pc : Nat} {vs : List (Option Value)} {st : List Value} {M : Mm} (hC : Cx X g cc nL own ret d) {t : Nat} (ht : ok w t 7) {index : Nat} (hw : Cond.fieldLink own index "SyntaxRepair$ScriptTable" "lookAhead" "I" ∈ Tk) (hd : decode cc pc = .ok (.getfield index, 3)) (kk : V X g w nL k ns Q (pc + 3) vs (.int (M t 6) :: st) M) : V X g w nL k ns Q pc vs (ob g t :: st) M := V_get hC ht (by decide) (ci := 7) rfl iw_7 (ent_7 ht.1) 6 (by decide) rfl hw hd kk
theorem pf_7_6 {X : CX} {g : GX} {w : WX} {cc : ByteArray} {nL k ns d : Nat} {own : String} {ret : Option FieldType} {Q : State → Prop} {pc : Nat} {vs : List (Option Value)} {st : List Value} {M : Mm} (hC : Cx X g cc nL own ret d) {t : Nat} {x : Int32} (ht : ok w t 7) {index : Nat} (hw : Cond.fieldLink own index "SyntaxRepair$ScriptTable" "lookAhead" "I" ∈ Tk) (hd : decode cc pc = .ok (.putfield index, 3)) (kk : V X g w nL k ns Q (pc + 3) vs st (up M t 6 x)) : V X g w nL k ns Q pc vs (.int x :: ob g t :: st) M := V_put hC ht (by decide) (ci := 7) rfl iw_7 tyX7 tyX7_ok nmX7 (ent_7 ht.1) 6 (by decide) rfl (ty := .int) (by decide +kernel) rfl rfl (Nat.le_of_ble_eq_true rfl) (M' := (up M t 6 x)) (by rw [ent_7 ht.1]; simp [up]) (fun c' h => up_c h) hw hd kk
theorem gfN_7_6 {X : CX} {g : GX} {w : WX} {cc : ByteArray} {nL k ns d : Nat} {own : String} {ret : Option FieldType} {Q : State → Prop} {pc : Nat} {vs : List (Option Value)} {st : List Value} {M : Mm} (hC : Cx X g cc nL own ret d) {t : Nat} (ht : ok w t 7) {index : Nat} {host : String} (hw : Cond.fieldLinkNest own index "SyntaxRepair$ScriptTable" "lookAhead" "I" host ∈ Tk) (hd : decode cc pc = .ok (.getfield index, 3)) (kk : V X g w nL k ns Q (pc + 3) vs (.int (M t 6) :: st) M) : V X g w nL k ns Q pc vs (ob g t :: st) M := V_getN hC ht (by decide) (ci := 7) rfl iw_7 (ent_7 ht.1) 6 (by decide) rfl hw hd kk
theorem pfN_7_6 {X : CX} {g : GX} {w : WX} {cc : ByteArray} {nL k ns d : Nat} {own : String} {ret : Option FieldType} {Q : State → Prop} {pc : Nat} {vs : List (Option Value)} {st : List Value} {M : Mm} (hC : Cx X g cc nL own ret d) {t : Nat} {x : Int32} (ht : ok w t 7) {index : Nat} {host : String} (hw : Cond.fieldLinkNest own index "SyntaxRepair$ScriptTable" "lookAhead" "I" host ∈ Tk) (hd : decode cc pc = .ok (.putfield index, 3)) (kk : V X g w nL k ns Q (pc + 3) vs st (up M t 6 x)) : V X g w nL k ns Q pc vs (.int x :: ob g t :: st) M := V_putN hC ht (by decide) (ci := 7) rfl iw_7 tyX7 tyX7_ok nmX7 (ent_7 ht.1) 6 (by decide) rfl (ty := .int) (by decide +kernel) rfl rfl (Nat.le_of_ble_eq_true rfl) (M' := (up M t 6 x)) (by rw [ent_7 ht.1]; simp [up]) (fun c' h => up_c h) hw hd kk
theorem gf_7_7 {X : CX} {g : GX} {w : WX} {cc : ByteArray} {nL k ns d : Nat} {own : String} {ret : Option FieldType} {Q : State → Prop} {pc : Nat} {vs : List (Option Value)} {st : List Value} {M : Mm} (hC : Cx X g cc nL own ret d) {t : Nat} (ht : ok w t 7) {index : Nat} (hw : Cond.fieldLink own index "SyntaxRepair$ScriptTable" "newLeast" "I" ∈ Tk) (hd : decode cc pc = .ok (.getfield index, 3)) (kk : V X g w nL k ns Q (pc + 3) vs (.int (M t 7) :: st) M) : V X g w nL k ns Q pc vs (ob g t :: st) M := V_get hC ht (by decide) (ci := 7) rfl iw_7 (ent_7 ht.1) 7 (by decide) rfl hw hd kk
theorem pf_7_7 {X : CX} {g : GX} {w : WX} {cc : ByteArray} {nL k ns d : Nat} {own : String} {ret : Option FieldType} {Q : State → Prop} {pc : Nat} {vs : List (Option Value)} {st : List Value} {M : Mm} (hC : Cx X g cc nL own ret d) {t : Nat} {x : Int32} (ht : ok w t 7) {index : Nat} (hw : Cond.fieldLink own index "SyntaxRepair$ScriptTable" "newLeast" "I" ∈ Tk) (hd : decode cc pc = .ok (.putfield index, 3)) (kk : V X g w nL k ns Q (pc + 3) vs st (up M t 7 x)) : V X g w nL k ns Q pc vs (.int x :: ob g t :: st) M := V_put hC ht (by decide) (ci := 7) rfl iw_7 tyX7 tyX7_ok nmX7 (ent_7 ht.1) 7 (by decide) rfl (ty := .int) (by decide +kernel) rfl rfl (Nat.le_of_ble_eq_true rfl) (M' := (up M t 7 x)) (by rw [ent_7 ht.1]; simp [up]) (fun c' h => up_c h) hw hd kk
theorem gfN_7_7 {X : CX} {g : GX} {w : WX} {cc : ByteArray} {nL k ns d : Nat} {own : String} {ret : Option FieldType} {Q : State → Prop} {pc : Nat} {vs : List (Option Value)} {st : List Value} {M : Mm} (hC : Cx X g cc nL own ret d) {t : Nat} (ht : ok w t 7) {index : Nat} {host : String} (hw : Cond.fieldLinkNest own index "SyntaxRepair$ScriptTable" "newLeast" "I" host ∈ Tk) (hd : decode cc pc = .ok (.getfield index, 3)) (kk : V X g w nL k ns Q (pc + 3) vs (.int (M t 7) :: st) M) : V X g w nL k ns Q pc vs (ob g t :: st) M := V_getN hC ht (by decide) (ci := 7) rfl iw_7 (ent_7 ht.1) 7 (by decide) rfl hw hd kk
theorem pfN_7_7 {X : CX} {g : GX} {w : WX} {cc : ByteArray} {nL k ns d : Nat} {own : String} {ret : Option FieldType} {Q : State → Prop} {pc : Nat} {vs : List (Option Value)} {st : List Value} {M : Mm} (hC : Cx X g cc nL own ret d) {t : Nat} {x : Int32} (ht : ok w t 7) {index : Nat} {host : String} (hw : Cond.fieldLinkNest own index "SyntaxRepair$ScriptTable" "newLeast" "I" host ∈ Tk) (hd : decode cc pc = .ok (.putfield index, 3)) (kk : V X g w nL k ns Q (pc + 3) vs st (up M t 7 x)) : V X g w nL k ns Q pc vs (.int x :: ob g t :: st) M := V_putN hC ht (by decide) (ci := 7) rfl iw_7 tyX7 tyX7_ok nmX7 (ent_7 ht.1) 7 (by decide) rfl (ty := .int) (by decide +kernel) rfl rfl (Nat.le_of_ble_eq_true rfl) (M' := (up M t 7 x)) (by rw [ent_7 ht.1]; simp [up]) (fun c' h => up_c h) hw hd kk
theorem gf_7_8 {X : CX} {g : GX} {w : WX} {cc : ByteArray} {nL k ns d : Nat} {own : String} {ret : Option FieldType} {Q : State → Prop} {pc : Nat} {vs : List (Option Value)} {st : List Value} {M : Mm} (hC : Cx X g cc nL own ret d) {t : Nat} (ht : ok w t 7) {index : Nat} (hw : Cond.fieldLink own index "SyntaxRepair$ScriptTable" "newSecond" "I" ∈ Tk) (hd : decode cc pc = .ok (.getfield index, 3)) (kk : V X g w nL k ns Q (pc + 3) vs (.int (M t 8) :: st) M) : V X g w nL k ns Q pc vs (ob g t :: st) M := V_get hC ht (by decide) (ci := 7) rfl iw_7 (ent_7 ht.1) 8 (by decide) rfl hw hd kk
theorem pf_7_8 {X : CX} {g : GX} {w : WX} {cc : ByteArray} {nL k ns d : Nat} {own : String} {ret : Option FieldType} {Q : State → Prop} {pc : Nat} {vs : List (Option Value)} {st : List Value} {M : Mm} (hC : Cx X g cc nL own ret d) {t : Nat} {x : Int32} (ht : ok w t 7) {index : Nat} (hw : Cond.fieldLink own index "SyntaxRepair$ScriptTable" "newSecond" "I" ∈ Tk) (hd : decode cc pc = .ok (.putfield index, 3)) (kk : V X g w nL k ns Q (pc + 3) vs st (up M t 8 x)) : V X g w nL k ns Q pc vs (.int x :: ob g t :: st) M := V_put hC ht (by decide) (ci := 7) rfl iw_7 tyX7 tyX7_ok nmX7 (ent_7 ht.1) 8 (by decide) rfl (ty := .int) (by decide +kernel) rfl rfl (Nat.le_of_ble_eq_true rfl) (M' := (up M t 8 x)) (by rw [ent_7 ht.1]; simp [up]) (fun c' h => up_c h) hw hd kk
theorem gfN_7_8 {X : CX} {g : GX} {w : WX} {cc : ByteArray} {nL k ns d : Nat} {own : String} {ret : Option FieldType} {Q : State → Prop} {pc : Nat} {vs : List (Option Value)} {st : List Value} {M : Mm} (hC : Cx X g cc nL own ret d) {t : Nat} (ht : ok w t 7) {index : Nat} {host : String} (hw : Cond.fieldLinkNest own index "SyntaxRepair$ScriptTable" "newSecond" "I" host ∈ Tk) (hd : decode cc pc = .ok (.getfield index, 3)) (kk : V X g w nL k ns Q (pc + 3) vs (.int (M t 8) :: st) M) : V X g w nL k ns Q pc vs (ob g t :: st) M := V_getN hC ht (by decide) (ci := 7) rfl iw_7 (ent_7 ht.1) 8 (by decide) rfl hw hd kk
theorem pfN_7_8 {X : CX} {g : GX} {w : WX} {cc : ByteArray} {nL k ns d : Nat} {own : String} {ret : Option FieldType} {Q : State → Prop} {pc : Nat} {vs : List (Option Value)} {st : List Value} {M : Mm} (hC : Cx X g cc nL own ret d) {t : Nat} {x : Int32} (ht : ok w t 7) {index : Nat} {host : String} (hw : Cond.fieldLinkNest own index "SyntaxRepair$ScriptTable" "newSecond" "I" host ∈ Tk) (hd : decode cc pc = .ok (.putfield index, 3)) (kk : V X g w nL k ns Q (pc + 3) vs st (up M t 8 x)) : V X g w nL k ns Q pc vs (.int x :: ob g t :: st) M := V_putN hC ht (by decide) (ci := 7) rfl iw_7 tyX7 tyX7_ok nmX7 (ent_7 ht.1) 8 (by decide) rfl (ty := .int) (by decide +kernel) rfl rfl (Nat.le_of_ble_eq_true rfl) (M' := (up M t 8 x)) (by rw [ent_7 ht.1]; simp [up]) (fun c' h => up_c h) hw hd kk
theorem gf_7_9 {X : CX} {g : GX} {w : WX} {cc : ByteArray} {nL k ns d : Nat} {own : String} {ret : Option FieldType} {Q : State → Prop} {pc : Nat} {vs : List (Option Value)} {st : List Value} {M : Mm} (hC : Cx X g cc nL own ret d) {t : Nat} (ht : ok w t 7) {index : Nat} (hw : Cond.fieldLink own index "SyntaxRepair$ScriptTable" "newWays" "I" ∈ Tk) (hd : decode cc pc = .ok (.getfield index, 3)) (kk : V X g w nL k ns Q (pc + 3) vs (.int (M t 9) :: st) M) : V X g w nL k ns Q pc vs (ob g t :: st) M := V_get hC ht (by decide) (ci := 7) rfl iw_7 (ent_7 ht.1) 9 (by decide) rfl hw hd kk
theorem pf_7_9 {X : CX} {g : GX} {w : WX} {cc : ByteArray} {nL k ns d : Nat} {own : String} {ret : Option FieldType} {Q : State → Prop} {pc : Nat} {vs : List (Option Value)} {st : List Value} {M : Mm} (hC : Cx X g cc nL own ret d) {t : Nat} {x : Int32} (ht : ok w t 7) {index : Nat} (hw : Cond.fieldLink own index "SyntaxRepair$ScriptTable" "newWays" "I" ∈ Tk) (hd : decode cc pc = .ok (.putfield index, 3)) (kk : V X g w nL k ns Q (pc + 3) vs st (up M t 9 x)) : V X g w nL k ns Q pc vs (.int x :: ob g t :: st) M := V_put hC ht (by decide) (ci := 7) rfl iw_7 tyX7 tyX7_ok nmX7 (ent_7 ht.1) 9 (by decide) rfl (ty := .int) (by decide +kernel) rfl rfl (Nat.le_of_ble_eq_true rfl) (M' := (up M t 9 x)) (by rw [ent_7 ht.1]; simp [up]) (fun c' h => up_c h) hw hd kk
theorem gfN_7_9 {X : CX} {g : GX} {w : WX} {cc : ByteArray} {nL k ns d : Nat} {own : String} {ret : Option FieldType} {Q : State → Prop} {pc : Nat} {vs : List (Option Value)} {st : List Value} {M : Mm} (hC : Cx X g cc nL own ret d) {t : Nat} (ht : ok w t 7) {index : Nat} {host : String} (hw : Cond.fieldLinkNest own index "SyntaxRepair$ScriptTable" "newWays" "I" host ∈ Tk) (hd : decode cc pc = .ok (.getfield index, 3)) (kk : V X g w nL k ns Q (pc + 3) vs (.int (M t 9) :: st) M) : V X g w nL k ns Q pc vs (ob g t :: st) M := V_getN hC ht (by decide) (ci := 7) rfl iw_7 (ent_7 ht.1) 9 (by decide) rfl hw hd kk
theorem pfN_7_9 {X : CX} {g : GX} {w : WX} {cc : ByteArray} {nL k ns d : Nat} {own : String} {ret : Option FieldType} {Q : State → Prop} {pc : Nat} {vs : List (Option Value)} {st : List Value} {M : Mm} (hC : Cx X g cc nL own ret d) {t : Nat} {x : Int32} (ht : ok w t 7) {index : Nat} {host : String} (hw : Cond.fieldLinkNest own index "SyntaxRepair$ScriptTable" "newWays" "I" host ∈ Tk) (hd : decode cc pc = .ok (.putfield index, 3)) (kk : V X g w nL k ns Q (pc + 3) vs st (up M t 9 x)) : V X g w nL k ns Q pc vs (.int x :: ob g t :: st) M := V_putN hC ht (by decide) (ci := 7) rfl iw_7 tyX7 tyX7_ok nmX7 (ent_7 ht.1) 9 (by decide) rfl (ty := .int) (by decide +kernel) rfl rfl (Nat.le_of_ble_eq_true rfl) (M' := (up M t 9 x)) (by rw [ent_7 ht.1]; simp [up]) (fun c' h => up_c h) hw hd kk
theorem gf_7_10 {X : CX} {g : GX} {w : WX} {cc : ByteArray} {nL k ns d : Nat} {own : String} {ret : Option FieldType} {Q : State → Prop} {pc : Nat} {vs : List (Option Value)} {st : List Value} {M : Mm} (hC : Cx X g cc nL own ret d) {t : Nat} (ht : ok w t 7) {index : Nat} (hw : Cond.fieldLink own index "SyntaxRepair$ScriptTable" "rankLeft" "I" ∈ Tk) (hd : decode cc pc = .ok (.getfield index, 3)) (kk : V X g w nL k ns Q (pc + 3) vs (.int (M t 10) :: st) M) : V X g w nL k ns Q pc vs (ob g t :: st) M := V_get hC ht (by decide) (ci := 7) rfl iw_7 (ent_7 ht.1) 10 (by decide) rfl hw hd kk
theorem pf_7_10 {X : CX} {g : GX} {w : WX} {cc : ByteArray} {nL k ns d : Nat} {own : String} {ret : Option FieldType} {Q : State → Prop} {pc : Nat} {vs : List (Option Value)} {st : List Value} {M : Mm} (hC : Cx X g cc nL own ret d) {t : Nat} {x : Int32} (ht : ok w t 7) {index : Nat} (hw : Cond.fieldLink own index "SyntaxRepair$ScriptTable" "rankLeft" "I" ∈ Tk) (hd : decode cc pc = .ok (.putfield index, 3)) (kk : V X g w nL k ns Q (pc + 3) vs st (up M t 10 x)) : V X g w nL k ns Q pc vs (.int x :: ob g t :: st) M := V_put hC ht (by decide) (ci := 7) rfl iw_7 tyX7 tyX7_ok nmX7 (ent_7 ht.1) 10 (by decide) rfl (ty := .int) (by decide +kernel) rfl rfl (Nat.le_of_ble_eq_true rfl) (M' := (up M t 10 x)) (by rw [ent_7 ht.1]; simp [up]) (fun c' h => up_c h) hw hd kk
theorem gfN_7_10 {X : CX} {g : GX} {w : WX} {cc : ByteArray} {nL k ns d : Nat} {own : String} {ret : Option FieldType} {Q : State → Prop} {pc : Nat} {vs : List (Option Value)} {st : List Value} {M : Mm} (hC : Cx X g cc nL own ret d) {t : Nat} (ht : ok w t 7) {index : Nat} {host : String} (hw : Cond.fieldLinkNest own index "SyntaxRepair$ScriptTable" "rankLeft" "I" host ∈ Tk) (hd : decode cc pc = .ok (.getfield index, 3)) (kk : V X g w nL k ns Q (pc + 3) vs (.int (M t 10) :: st) M) : V X g w nL k ns Q pc vs (ob g t :: st) M := V_getN hC ht (by decide) (ci := 7) rfl iw_7 (ent_7 ht.1) 10 (by decide) rfl hw hd kk
theorem pfN_7_10 {X : CX} {g : GX} {w : WX} {cc : ByteArray} {nL k ns d : Nat} {own : String} {ret : Option FieldType} {Q : State → Prop} {pc : Nat} {vs : List (Option Value)} {st : List Value} {M : Mm} (hC : Cx X g cc nL own ret d) {t : Nat} {x : Int32} (ht : ok w t 7) {index : Nat} {host : String} (hw : Cond.fieldLinkNest own index "SyntaxRepair$ScriptTable" "rankLeft" "I" host ∈ Tk) (hd : decode cc pc = .ok (.putfield index, 3)) (kk : V X g w nL k ns Q (pc + 3) vs st (up M t 10 x)) : V X g w nL k ns Q pc vs (.int x :: ob g t :: st) M := V_putN hC ht (by decide) (ci := 7) rfl iw_7 tyX7 tyX7_ok nmX7 (ent_7 ht.1) 10 (by decide) rfl (ty := .int) (by decide +kernel) rfl rfl (Nat.le_of_ble_eq_true rfl) (M' := (up M t 10 x)) (by rw [ent_7 ht.1]; simp [up]) (fun c' h => up_c h) hw hd kk
theorem ent_8 {g : GX} {f : Nat → Int32} {t : Nat} (h : kd t = 8) : ent g f t = .inr (8, [ob g (t + 1), ob g (t + 6), ob g (t + 8)]) := by unfold ent; rw [h]; rfl
theorem gf_8_0 {X : CX} {g : GX} {w : WX} {cc : ByteArray} {nL k ns d : Nat} {own : String} {ret : Option FieldType} {Q : State → Prop} {pc : Nat} {vs : List (Option Value)} {st : List Value} {M : Mm} (hC : Cx X g cc nL own ret d) {t : Nat} (ht : ok w t 8) {index : Nat} (hw : Cond.fieldLink own index "SyntaxRepair$Situation" "automaton" "LSyntaxRepair$Automaton;" ∈ Tk) (hd : decode cc pc = .ok (.getfield index, 3)) (kk : V X g w nL k ns Q (pc + 3) vs (ob g (t + 1) :: st) M) : V X g w nL k ns Q pc vs (ob g t :: st) M := V_get hC ht (by decide) (ci := 8) rfl iw_8 (ent_8 ht.1) 0 (by decide) rfl hw hd kk
theorem gfN_8_0 {X : CX} {g : GX} {w : WX} {cc : ByteArray} {nL k ns d : Nat} {own : String} {ret : Option FieldType} {Q : State → Prop} {pc : Nat} {vs : List (Option Value)} {st : List Value} {M : Mm} (hC : Cx X g cc nL own ret d) {t : Nat} (ht : ok w t 8) {index : Nat} {host : String} (hw : Cond.fieldLinkNest own index "SyntaxRepair$Situation" "automaton" "LSyntaxRepair$Automaton;" host ∈ Tk) (hd : decode cc pc = .ok (.getfield index, 3)) (kk : V X g w nL k ns Q (pc + 3) vs (ob g (t + 1) :: st) M) : V X g w nL k ns Q pc vs (ob g t :: st) M := V_getN hC ht (by decide) (ci := 8) rfl iw_8 (ent_8 ht.1) 0 (by decide) rfl hw hd kk
theorem gf_8_1 {X : CX} {g : GX} {w : WX} {cc : ByteArray} {nL k ns d : Nat} {own : String} {ret : Option FieldType} {Q : State → Prop} {pc : Nat} {vs : List (Option Value)} {st : List Value} {M : Mm} (hC : Cx X g cc nL own ret d) {t : Nat} (ht : ok w t 8) {index : Nat} (hw : Cond.fieldLink own index "SyntaxRepair$Situation" "costs" "LSyntaxRepair$Costs;" ∈ Tk) (hd : decode cc pc = .ok (.getfield index, 3)) (kk : V X g w nL k ns Q (pc + 3) vs (ob g (t + 6) :: st) M) : V X g w nL k ns Q pc vs (ob g t :: st) M := V_get hC ht (by decide) (ci := 8) rfl iw_8 (ent_8 ht.1) 1 (by decide) rfl hw hd kk
theorem gfN_8_1 {X : CX} {g : GX} {w : WX} {cc : ByteArray} {nL k ns d : Nat} {own : String} {ret : Option FieldType} {Q : State → Prop} {pc : Nat} {vs : List (Option Value)} {st : List Value} {M : Mm} (hC : Cx X g cc nL own ret d) {t : Nat} (ht : ok w t 8) {index : Nat} {host : String} (hw : Cond.fieldLinkNest own index "SyntaxRepair$Situation" "costs" "LSyntaxRepair$Costs;" host ∈ Tk) (hd : decode cc pc = .ok (.getfield index, 3)) (kk : V X g w nL k ns Q (pc + 3) vs (ob g (t + 6) :: st) M) : V X g w nL k ns Q pc vs (ob g t :: st) M := V_getN hC ht (by decide) (ci := 8) rfl iw_8 (ent_8 ht.1) 1 (by decide) rfl hw hd kk
theorem gf_8_2 {X : CX} {g : GX} {w : WX} {cc : ByteArray} {nL k ns d : Nat} {own : String} {ret : Option FieldType} {Q : State → Prop} {pc : Nat} {vs : List (Option Value)} {st : List Value} {M : Mm} (hC : Cx X g cc nL own ret d) {t : Nat} (ht : ok w t 8) {index : Nat} (hw : Cond.fieldLink own index "SyntaxRepair$Situation" "tokens" "LSyntaxRepair$Tokens;" ∈ Tk) (hd : decode cc pc = .ok (.getfield index, 3)) (kk : V X g w nL k ns Q (pc + 3) vs (ob g (t + 8) :: st) M) : V X g w nL k ns Q pc vs (ob g t :: st) M := V_get hC ht (by decide) (ci := 8) rfl iw_8 (ent_8 ht.1) 2 (by decide) rfl hw hd kk
theorem gfN_8_2 {X : CX} {g : GX} {w : WX} {cc : ByteArray} {nL k ns d : Nat} {own : String} {ret : Option FieldType} {Q : State → Prop} {pc : Nat} {vs : List (Option Value)} {st : List Value} {M : Mm} (hC : Cx X g cc nL own ret d) {t : Nat} (ht : ok w t 8) {index : Nat} {host : String} (hw : Cond.fieldLinkNest own index "SyntaxRepair$Situation" "tokens" "LSyntaxRepair$Tokens;" host ∈ Tk) (hd : decode cc pc = .ok (.getfield index, 3)) (kk : V X g w nL k ns Q (pc + 3) vs (ob g (t + 8) :: st) M) : V X g w nL k ns Q pc vs (ob g t :: st) M := V_getN hC ht (by decide) (ci := 8) rfl iw_8 (ent_8 ht.1) 2 (by decide) rfl hw hd kk
theorem ent_9 {g : GX} {f : Nat → Int32} {t : Nat} (h : kd t = 9) : ent g f t = .inr (9, [ob g (t + 1), .int (f 1)]) := by unfold ent; rw [h]; rfl
theorem gf_9_0 {X : CX} {g : GX} {w : WX} {cc : ByteArray} {nL k ns d : Nat} {own : String} {ret : Option FieldType} {Q : State → Prop} {pc : Nat} {vs : List (Option Value)} {st : List Value} {M : Mm} (hC : Cx X g cc nL own ret d) {t : Nat} (ht : ok w t 9) {index : Nat} (hw : Cond.fieldLink own index "SyntaxRepair$Tokens" "kinds" "[I" ∈ Tk) (hd : decode cc pc = .ok (.getfield index, 3)) (kk : V X g w nL k ns Q (pc + 3) vs (ob g (t + 1) :: st) M) : V X g w nL k ns Q pc vs (ob g t :: st) M := V_get hC ht (by decide) (ci := 9) rfl iw_9 (ent_9 ht.1) 0 (by decide) rfl hw hd kk
theorem gfN_9_0 {X : CX} {g : GX} {w : WX} {cc : ByteArray} {nL k ns d : Nat} {own : String} {ret : Option FieldType} {Q : State → Prop} {pc : Nat} {vs : List (Option Value)} {st : List Value} {M : Mm} (hC : Cx X g cc nL own ret d) {t : Nat} (ht : ok w t 9) {index : Nat} {host : String} (hw : Cond.fieldLinkNest own index "SyntaxRepair$Tokens" "kinds" "[I" host ∈ Tk) (hd : decode cc pc = .ok (.getfield index, 3)) (kk : V X g w nL k ns Q (pc + 3) vs (ob g (t + 1) :: st) M) : V X g w nL k ns Q pc vs (ob g t :: st) M := V_getN hC ht (by decide) (ci := 9) rfl iw_9 (ent_9 ht.1) 0 (by decide) rfl hw hd kk
theorem gf_9_1 {X : CX} {g : GX} {w : WX} {cc : ByteArray} {nL k ns d : Nat} {own : String} {ret : Option FieldType} {Q : State → Prop} {pc : Nat} {vs : List (Option Value)} {st : List Value} {M : Mm} (hC : Cx X g cc nL own ret d) {t : Nat} (ht : ok w t 9) {index : Nat} (hw : Cond.fieldLink own index "SyntaxRepair$Tokens" "count" "I" ∈ Tk) (hd : decode cc pc = .ok (.getfield index, 3)) (kk : V X g w nL k ns Q (pc + 3) vs (.int (M t 1) :: st) M) : V X g w nL k ns Q pc vs (ob g t :: st) M := V_get hC ht (by decide) (ci := 9) rfl iw_9 (ent_9 ht.1) 1 (by decide) rfl hw hd kk
theorem pf_9_1 {X : CX} {g : GX} {w : WX} {cc : ByteArray} {nL k ns d : Nat} {own : String} {ret : Option FieldType} {Q : State → Prop} {pc : Nat} {vs : List (Option Value)} {st : List Value} {M : Mm} (hC : Cx X g cc nL own ret d) {t : Nat} {x : Int32} (ht : ok w t 9) {index : Nat} (hw : Cond.fieldLink own index "SyntaxRepair$Tokens" "count" "I" ∈ Tk) (hd : decode cc pc = .ok (.putfield index, 3)) (kk : V X g w nL k ns Q (pc + 3) vs st (up M t 1 x)) : V X g w nL k ns Q pc vs (.int x :: ob g t :: st) M := V_put hC ht (by decide) (ci := 9) rfl iw_9 tyX9 tyX9_ok nmX9 (ent_9 ht.1) 1 (by decide) rfl (ty := .int) (by decide +kernel) rfl rfl (Nat.le_of_ble_eq_true rfl) (M' := (up M t 1 x)) (by rw [ent_9 ht.1]; simp [up]) (fun c' h => up_c h) hw hd kk
theorem gfN_9_1 {X : CX} {g : GX} {w : WX} {cc : ByteArray} {nL k ns d : Nat} {own : String} {ret : Option FieldType} {Q : State → Prop} {pc : Nat} {vs : List (Option Value)} {st : List Value} {M : Mm} (hC : Cx X g cc nL own ret d) {t : Nat} (ht : ok w t 9) {index : Nat} {host : String} (hw : Cond.fieldLinkNest own index "SyntaxRepair$Tokens" "count" "I" host ∈ Tk) (hd : decode cc pc = .ok (.getfield index, 3)) (kk : V X g w nL k ns Q (pc + 3) vs (.int (M t 1) :: st) M) : V X g w nL k ns Q pc vs (ob g t :: st) M := V_getN hC ht (by decide) (ci := 9) rfl iw_9 (ent_9 ht.1) 1 (by decide) rfl hw hd kk
theorem pfN_9_1 {X : CX} {g : GX} {w : WX} {cc : ByteArray} {nL k ns d : Nat} {own : String} {ret : Option FieldType} {Q : State → Prop} {pc : Nat} {vs : List (Option Value)} {st : List Value} {M : Mm} (hC : Cx X g cc nL own ret d) {t : Nat} {x : Int32} (ht : ok w t 9) {index : Nat} {host : String} (hw : Cond.fieldLinkNest own index "SyntaxRepair$Tokens" "count" "I" host ∈ Tk) (hd : decode cc pc = .ok (.putfield index, 3)) (kk : V X g w nL k ns Q (pc + 3) vs st (up M t 1 x)) : V X g w nL k ns Q pc vs (.int x :: ob g t :: st) M := V_putN hC ht (by decide) (ci := 9) rfl iw_9 tyX9 tyX9_ok nmX9 (ent_9 ht.1) 1 (by decide) rfl (ty := .int) (by decide +kernel) rfl rfl (Nat.le_of_ble_eq_true rfl) (M' := (up M t 1 x)) (by rw [ent_9 ht.1]; simp [up]) (fun c' h => up_c h) hw hd kk
theorem ent_10 {g : GX} {f : Nat → Int32} {t : Nat} (h : kd t = 10) : ent g f t = .inr (10, [ob g (t + 1), ob g (t + 11), ob g (t + 93), ob g (t + 105), ob g (t + 123), ob g (t + 141), ob g (t + 144)]) := by unfold ent; rw [h]; rfl
theorem gf_10_0 {X : CX} {g : GX} {w : WX} {cc : ByteArray} {nL k ns d : Nat} {own : String} {ret : Option FieldType} {Q : State → Prop} {pc : Nat} {vs : List (Option Value)} {st : List Value} {M : Mm} (hC : Cx X g cc nL own ret d) {t : Nat} (ht : ok w t 10) {index : Nat} (hw : Cond.fieldLink own index "SyntaxRepair" "now" "LSyntaxRepair$Situation;" ∈ Tk) (hd : decode cc pc = .ok (.getfield index, 3)) (kk : V X g w nL k ns Q (pc + 3) vs (ob g (t + 1) :: st) M) : V X g w nL k ns Q pc vs (ob g t :: st) M := V_get hC ht (by decide) (ci := 10) rfl iw_10 (ent_10 ht.1) 0 (by decide) rfl hw hd kk
theorem gfN_10_0 {X : CX} {g : GX} {w : WX} {cc : ByteArray} {nL k ns d : Nat} {own : String} {ret : Option FieldType} {Q : State → Prop} {pc : Nat} {vs : List (Option Value)} {st : List Value} {M : Mm} (hC : Cx X g cc nL own ret d) {t : Nat} (ht : ok w t 10) {index : Nat} {host : String} (hw : Cond.fieldLinkNest own index "SyntaxRepair" "now" "LSyntaxRepair$Situation;" host ∈ Tk) (hd : decode cc pc = .ok (.getfield index, 3)) (kk : V X g w nL k ns Q (pc + 3) vs (ob g (t + 1) :: st) M) : V X g w nL k ns Q pc vs (ob g t :: st) M := V_getN hC ht (by decide) (ci := 10) rfl iw_10 (ent_10 ht.1) 0 (by decide) rfl hw hd kk
theorem gf_10_1 {X : CX} {g : GX} {w : WX} {cc : ByteArray} {nL k ns d : Nat} {own : String} {ret : Option FieldType} {Q : State → Prop} {pc : Nat} {vs : List (Option Value)} {st : List Value} {M : Mm} (hC : Cx X g cc nL own ret d) {t : Nat} (ht : ok w t 10) {index : Nat} (hw : Cond.fieldLink own index "SyntaxRepair" "history" "LSyntaxRepair$History;" ∈ Tk) (hd : decode cc pc = .ok (.getfield index, 3)) (kk : V X g w nL k ns Q (pc + 3) vs (ob g (t + 11) :: st) M) : V X g w nL k ns Q pc vs (ob g t :: st) M := V_get hC ht (by decide) (ci := 10) rfl iw_10 (ent_10 ht.1) 1 (by decide) rfl hw hd kk
theorem gfN_10_1 {X : CX} {g : GX} {w : WX} {cc : ByteArray} {nL k ns d : Nat} {own : String} {ret : Option FieldType} {Q : State → Prop} {pc : Nat} {vs : List (Option Value)} {st : List Value} {M : Mm} (hC : Cx X g cc nL own ret d) {t : Nat} (ht : ok w t 10) {index : Nat} {host : String} (hw : Cond.fieldLinkNest own index "SyntaxRepair" "history" "LSyntaxRepair$History;" host ∈ Tk) (hd : decode cc pc = .ok (.getfield index, 3)) (kk : V X g w nL k ns Q (pc + 3) vs (ob g (t + 11) :: st) M) : V X g w nL k ns Q pc vs (ob g t :: st) M := V_getN hC ht (by decide) (ci := 10) rfl iw_10 (ent_10 ht.1) 1 (by decide) rfl hw hd kk
theorem gf_10_2 {X : CX} {g : GX} {w : WX} {cc : ByteArray} {nL k ns d : Nat} {own : String} {ret : Option FieldType} {Q : State → Prop} {pc : Nat} {vs : List (Option Value)} {st : List Value} {M : Mm} (hC : Cx X g cc nL own ret d) {t : Nat} (ht : ok w t 10) {index : Nat} (hw : Cond.fieldLink own index "SyntaxRepair" "text" "LSyntaxRepair$GrammarText;" ∈ Tk) (hd : decode cc pc = .ok (.getfield index, 3)) (kk : V X g w nL k ns Q (pc + 3) vs (ob g (t + 93) :: st) M) : V X g w nL k ns Q pc vs (ob g t :: st) M := V_get hC ht (by decide) (ci := 10) rfl iw_10 (ent_10 ht.1) 2 (by decide) rfl hw hd kk
theorem gfN_10_2 {X : CX} {g : GX} {w : WX} {cc : ByteArray} {nL k ns d : Nat} {own : String} {ret : Option FieldType} {Q : State → Prop} {pc : Nat} {vs : List (Option Value)} {st : List Value} {M : Mm} (hC : Cx X g cc nL own ret d) {t : Nat} (ht : ok w t 10) {index : Nat} {host : String} (hw : Cond.fieldLinkNest own index "SyntaxRepair" "text" "LSyntaxRepair$GrammarText;" host ∈ Tk) (hd : decode cc pc = .ok (.getfield index, 3)) (kk : V X g w nL k ns Q (pc + 3) vs (ob g (t + 93) :: st) M) : V X g w nL k ns Q pc vs (ob g t :: st) M := V_getN hC ht (by decide) (ci := 10) rfl iw_10 (ent_10 ht.1) 2 (by decide) rfl hw hd kk
theorem gf_10_3 {X : CX} {g : GX} {w : WX} {cc : ByteArray} {nL k ns d : Nat} {own : String} {ret : Option FieldType} {Q : State → Prop} {pc : Nat} {vs : List (Option Value)} {st : List Value} {M : Mm} (hC : Cx X g cc nL own ret d) {t : Nat} (ht : ok w t 10) {index : Nat} (hw : Cond.fieldLink own index "SyntaxRepair" "best" "LSyntaxRepair$ScriptTable;" ∈ Tk) (hd : decode cc pc = .ok (.getfield index, 3)) (kk : V X g w nL k ns Q (pc + 3) vs (ob g (t + 105) :: st) M) : V X g w nL k ns Q pc vs (ob g t :: st) M := V_get hC ht (by decide) (ci := 10) rfl iw_10 (ent_10 ht.1) 3 (by decide) rfl hw hd kk
theorem gfN_10_3 {X : CX} {g : GX} {w : WX} {cc : ByteArray} {nL k ns d : Nat} {own : String} {ret : Option FieldType} {Q : State → Prop} {pc : Nat} {vs : List (Option Value)} {st : List Value} {M : Mm} (hC : Cx X g cc nL own ret d) {t : Nat} (ht : ok w t 10) {index : Nat} {host : String} (hw : Cond.fieldLinkNest own index "SyntaxRepair" "best" "LSyntaxRepair$ScriptTable;" host ∈ Tk) (hd : decode cc pc = .ok (.getfield index, 3)) (kk : V X g w nL k ns Q (pc + 3) vs (ob g (t + 105) :: st) M) : V X g w nL k ns Q pc vs (ob g t :: st) M := V_getN hC ht (by decide) (ci := 10) rfl iw_10 (ent_10 ht.1) 3 (by decide) rfl hw hd kk
theorem gf_10_4 {X : CX} {g : GX} {w : WX} {cc : ByteArray} {nL k ns d : Nat} {own : String} {ret : Option FieldType} {Q : State → Prop} {pc : Nat} {vs : List (Option Value)} {st : List Value} {M : Mm} (hC : Cx X g cc nL own ret d) {t : Nat} (ht : ok w t 10) {index : Nat} (hw : Cond.fieldLink own index "SyntaxRepair" "local" "LSyntaxRepair$ScriptTable;" ∈ Tk) (hd : decode cc pc = .ok (.getfield index, 3)) (kk : V X g w nL k ns Q (pc + 3) vs (ob g (t + 123) :: st) M) : V X g w nL k ns Q pc vs (ob g t :: st) M := V_get hC ht (by decide) (ci := 10) rfl iw_10 (ent_10 ht.1) 4 (by decide) rfl hw hd kk
theorem gfN_10_4 {X : CX} {g : GX} {w : WX} {cc : ByteArray} {nL k ns d : Nat} {own : String} {ret : Option FieldType} {Q : State → Prop} {pc : Nat} {vs : List (Option Value)} {st : List Value} {M : Mm} (hC : Cx X g cc nL own ret d) {t : Nat} (ht : ok w t 10) {index : Nat} {host : String} (hw : Cond.fieldLinkNest own index "SyntaxRepair" "local" "LSyntaxRepair$ScriptTable;" host ∈ Tk) (hd : decode cc pc = .ok (.getfield index, 3)) (kk : V X g w nL k ns Q (pc + 3) vs (ob g (t + 123) :: st) M) : V X g w nL k ns Q pc vs (ob g t :: st) M := V_getN hC ht (by decide) (ci := 10) rfl iw_10 (ent_10 ht.1) 4 (by decide) rfl hw hd kk
theorem gf_10_5 {X : CX} {g : GX} {w : WX} {cc : ByteArray} {nL k ns d : Nat} {own : String} {ret : Option FieldType} {Q : State → Prop} {pc : Nat} {vs : List (Option Value)} {st : List Value} {M : Mm} (hC : Cx X g cc nL own ret d) {t : Nat} (ht : ok w t 10) {index : Nat} (hw : Cond.fieldLink own index "SyntaxRepair" "script" "LSyntaxRepair$Script;" ∈ Tk) (hd : decode cc pc = .ok (.getfield index, 3)) (kk : V X g w nL k ns Q (pc + 3) vs (ob g (t + 141) :: st) M) : V X g w nL k ns Q pc vs (ob g t :: st) M := V_get hC ht (by decide) (ci := 10) rfl iw_10 (ent_10 ht.1) 5 (by decide) rfl hw hd kk
theorem gfN_10_5 {X : CX} {g : GX} {w : WX} {cc : ByteArray} {nL k ns d : Nat} {own : String} {ret : Option FieldType} {Q : State → Prop} {pc : Nat} {vs : List (Option Value)} {st : List Value} {M : Mm} (hC : Cx X g cc nL own ret d) {t : Nat} (ht : ok w t 10) {index : Nat} {host : String} (hw : Cond.fieldLinkNest own index "SyntaxRepair" "script" "LSyntaxRepair$Script;" host ∈ Tk) (hd : decode cc pc = .ok (.getfield index, 3)) (kk : V X g w nL k ns Q (pc + 3) vs (ob g (t + 141) :: st) M) : V X g w nL k ns Q pc vs (ob g t :: st) M := V_getN hC ht (by decide) (ci := 10) rfl iw_10 (ent_10 ht.1) 5 (by decide) rfl hw hd kk
theorem gf_10_6 {X : CX} {g : GX} {w : WX} {cc : ByteArray} {nL k ns d : Nat} {own : String} {ret : Option FieldType} {Q : State → Prop} {pc : Nat} {vs : List (Option Value)} {st : List Value} {M : Mm} (hC : Cx X g cc nL own ret d) {t : Nat} (ht : ok w t 10) {index : Nat} (hw : Cond.fieldLink own index "SyntaxRepair" "cursor" "LSyntaxRepair$Cursor;" ∈ Tk) (hd : decode cc pc = .ok (.getfield index, 3)) (kk : V X g w nL k ns Q (pc + 3) vs (ob g (t + 144) :: st) M) : V X g w nL k ns Q pc vs (ob g t :: st) M := V_get hC ht (by decide) (ci := 10) rfl iw_10 (ent_10 ht.1) 6 (by decide) rfl hw hd kk
theorem gfN_10_6 {X : CX} {g : GX} {w : WX} {cc : ByteArray} {nL k ns d : Nat} {own : String} {ret : Option FieldType} {Q : State → Prop} {pc : Nat} {vs : List (Option Value)} {st : List Value} {M : Mm} (hC : Cx X g cc nL own ret d) {t : Nat} (ht : ok w t 10) {index : Nat} {host : String} (hw : Cond.fieldLinkNest own index "SyntaxRepair" "cursor" "LSyntaxRepair$Cursor;" host ∈ Tk) (hd : decode cc pc = .ok (.getfield index, 3)) (kk : V X g w nL k ns Q (pc + 3) vs (ob g (t + 144) :: st) M) : V X g w nL k ns Q pc vs (ob g t :: st) M := V_getN hC ht (by decide) (ci := 10) rfl iw_10 (ent_10 ht.1) 6 (by decide) rfl hw hd kk
theorem ent_11 {g : GX} {f : Nat → Int32} {t : Nat} (h : kd t = 11) : ent g f t = .inr (11, [ob g (t + 1), ob g (t + 2), ob g (t + 3), .int (f 3), ob g (t + 4), .int (f 5), .int (f 6), .int (f 7), .int (f 8), .long (mkL (f 24) (f 9)), .int (f 10), .int (f 11), .int (f 12), ob g (t + 5), ob g (t + 6), ob g (t + 7), .int (f 16), .int (f 17), .int (f 18), ob g (t + 8), ob g (t + 9), .int (f 21), .int (f 22), ob g (t + 10)]) := by unfold ent; rw [h]; rfl
theorem gf_11_0 {X : CX} {g : GX} {w : WX} {cc : ByteArray} {nL k ns d : Nat} {own : String} {ret : Option FieldType} {Q : State → Prop} {pc : Nat} {vs : List (Option Value)} {st : List Value} {M : Mm} (hC : Cx X g cc nL own ret d) {t : Nat} (ht : ok w t 11) {index : Nat} (hw : Cond.fieldLink own index "SyntaxRepairModel" "now" "[I" ∈ Tk) (hd : decode cc pc = .ok (.getfield index, 3)) (kk : V X g w nL k ns Q (pc + 3) vs (ob g (t + 1) :: st) M) : V X g w nL k ns Q pc vs (ob g t :: st) M := V_get hC ht (by decide) (ci := 11) rfl iw_11 (ent_11 ht.1) 0 (by decide) rfl hw hd kk
theorem gfN_11_0 {X : CX} {g : GX} {w : WX} {cc : ByteArray} {nL k ns d : Nat} {own : String} {ret : Option FieldType} {Q : State → Prop} {pc : Nat} {vs : List (Option Value)} {st : List Value} {M : Mm} (hC : Cx X g cc nL own ret d) {t : Nat} (ht : ok w t 11) {index : Nat} {host : String} (hw : Cond.fieldLinkNest own index "SyntaxRepairModel" "now" "[I" host ∈ Tk) (hd : decode cc pc = .ok (.getfield index, 3)) (kk : V X g w nL k ns Q (pc + 3) vs (ob g (t + 1) :: st) M) : V X g w nL k ns Q pc vs (ob g t :: st) M := V_getN hC ht (by decide) (ci := 11) rfl iw_11 (ent_11 ht.1) 0 (by decide) rfl hw hd kk
theorem gf_11_1 {X : CX} {g : GX} {w : WX} {cc : ByteArray} {nL k ns d : Nat} {own : String} {ret : Option FieldType} {Q : State → Prop} {pc : Nat} {vs : List (Option Value)} {st : List Value} {M : Mm} (hC : Cx X g cc nL own ret d) {t : Nat} (ht : ok w t 11) {index : Nat} (hw : Cond.fieldLink own index "SyntaxRepairModel" "read" "[I" ∈ Tk) (hd : decode cc pc = .ok (.getfield index, 3)) (kk : V X g w nL k ns Q (pc + 3) vs (ob g (t + 2) :: st) M) : V X g w nL k ns Q pc vs (ob g t :: st) M := V_get hC ht (by decide) (ci := 11) rfl iw_11 (ent_11 ht.1) 1 (by decide) rfl hw hd kk
theorem gfN_11_1 {X : CX} {g : GX} {w : WX} {cc : ByteArray} {nL k ns d : Nat} {own : String} {ret : Option FieldType} {Q : State → Prop} {pc : Nat} {vs : List (Option Value)} {st : List Value} {M : Mm} (hC : Cx X g cc nL own ret d) {t : Nat} (ht : ok w t 11) {index : Nat} {host : String} (hw : Cond.fieldLinkNest own index "SyntaxRepairModel" "read" "[I" host ∈ Tk) (hd : decode cc pc = .ok (.getfield index, 3)) (kk : V X g w nL k ns Q (pc + 3) vs (ob g (t + 2) :: st) M) : V X g w nL k ns Q pc vs (ob g t :: st) M := V_getN hC ht (by decide) (ci := 11) rfl iw_11 (ent_11 ht.1) 1 (by decide) rfl hw hd kk
theorem gf_11_2 {X : CX} {g : GX} {w : WX} {cc : ByteArray} {nL k ns d : Nat} {own : String} {ret : Option FieldType} {Q : State → Prop} {pc : Nat} {vs : List (Option Value)} {st : List Value} {M : Mm} (hC : Cx X g cc nL own ret d) {t : Nat} (ht : ok w t 11) {index : Nat} (hw : Cond.fieldLink own index "SyntaxRepairModel" "history" "[I" ∈ Tk) (hd : decode cc pc = .ok (.getfield index, 3)) (kk : V X g w nL k ns Q (pc + 3) vs (ob g (t + 3) :: st) M) : V X g w nL k ns Q pc vs (ob g t :: st) M := V_get hC ht (by decide) (ci := 11) rfl iw_11 (ent_11 ht.1) 2 (by decide) rfl hw hd kk
theorem gfN_11_2 {X : CX} {g : GX} {w : WX} {cc : ByteArray} {nL k ns d : Nat} {own : String} {ret : Option FieldType} {Q : State → Prop} {pc : Nat} {vs : List (Option Value)} {st : List Value} {M : Mm} (hC : Cx X g cc nL own ret d) {t : Nat} (ht : ok w t 11) {index : Nat} {host : String} (hw : Cond.fieldLinkNest own index "SyntaxRepairModel" "history" "[I" host ∈ Tk) (hd : decode cc pc = .ok (.getfield index, 3)) (kk : V X g w nL k ns Q (pc + 3) vs (ob g (t + 3) :: st) M) : V X g w nL k ns Q pc vs (ob g t :: st) M := V_getN hC ht (by decide) (ci := 11) rfl iw_11 (ent_11 ht.1) 2 (by decide) rfl hw hd kk
theorem gf_11_3 {X : CX} {g : GX} {w : WX} {cc : ByteArray} {nL k ns d : Nat} {own : String} {ret : Option FieldType} {Q : State → Prop} {pc : Nat} {vs : List (Option Value)} {st : List Value} {M : Mm} (hC : Cx X g cc nL own ret d) {t : Nat} (ht : ok w t 11) {index : Nat} (hw : Cond.fieldLink own index "SyntaxRepairModel" "undoable" "I" ∈ Tk) (hd : decode cc pc = .ok (.getfield index, 3)) (kk : V X g w nL k ns Q (pc + 3) vs (.int (M t 3) :: st) M) : V X g w nL k ns Q pc vs (ob g t :: st) M := V_get hC ht (by decide) (ci := 11) rfl iw_11 (ent_11 ht.1) 3 (by decide) rfl hw hd kk
theorem pf_11_3 {X : CX} {g : GX} {w : WX} {cc : ByteArray} {nL k ns d : Nat} {own : String} {ret : Option FieldType} {Q : State → Prop} {pc : Nat} {vs : List (Option Value)} {st : List Value} {M : Mm} (hC : Cx X g cc nL own ret d) {t : Nat} {x : Int32} (ht : ok w t 11) {index : Nat} (hw : Cond.fieldLink own index "SyntaxRepairModel" "undoable" "I" ∈ Tk) (hd : decode cc pc = .ok (.putfield index, 3)) (kk : V X g w nL k ns Q (pc + 3) vs st (up M t 3 x)) : V X g w nL k ns Q pc vs (.int x :: ob g t :: st) M := V_put hC ht (by decide) (ci := 11) rfl iw_11 tyX11 tyX11_ok nmX11 (ent_11 ht.1) 3 (by decide) rfl (ty := .int) (by decide +kernel) rfl rfl (Nat.le_of_ble_eq_true rfl) (M' := (up M t 3 x)) (by rw [ent_11 ht.1]; simp [up]) (fun c' h => up_c h) hw hd kk
theorem gfN_11_3 {X : CX} {g : GX} {w : WX} {cc : ByteArray} {nL k ns d : Nat} {own : String} {ret : Option FieldType} {Q : State → Prop} {pc : Nat} {vs : List (Option Value)} {st : List Value} {M : Mm} (hC : Cx X g cc nL own ret d) {t : Nat} (ht : ok w t 11) {index : Nat} {host : String} (hw : Cond.fieldLinkNest own index "SyntaxRepairModel" "undoable" "I" host ∈ Tk) (hd : decode cc pc = .ok (.getfield index, 3)) (kk : V X g w nL k ns Q (pc + 3) vs (.int (M t 3) :: st) M) : V X g w nL k ns Q pc vs (ob g t :: st) M := V_getN hC ht (by decide) (ci := 11) rfl iw_11 (ent_11 ht.1) 3 (by decide) rfl hw hd kk
theorem pfN_11_3 {X : CX} {g : GX} {w : WX} {cc : ByteArray} {nL k ns d : Nat} {own : String} {ret : Option FieldType} {Q : State → Prop} {pc : Nat} {vs : List (Option Value)} {st : List Value} {M : Mm} (hC : Cx X g cc nL own ret d) {t : Nat} {x : Int32} (ht : ok w t 11) {index : Nat} {host : String} (hw : Cond.fieldLinkNest own index "SyntaxRepairModel" "undoable" "I" host ∈ Tk) (hd : decode cc pc = .ok (.putfield index, 3)) (kk : V X g w nL k ns Q (pc + 3) vs st (up M t 3 x)) : V X g w nL k ns Q pc vs (.int x :: ob g t :: st) M := V_putN hC ht (by decide) (ci := 11) rfl iw_11 tyX11 tyX11_ok nmX11 (ent_11 ht.1) 3 (by decide) rfl (ty := .int) (by decide +kernel) rfl rfl (Nat.le_of_ble_eq_true rfl) (M' := (up M t 3 x)) (by rw [ent_11 ht.1]; simp [up]) (fun c' h => up_c h) hw hd kk
theorem gf_11_4 {X : CX} {g : GX} {w : WX} {cc : ByteArray} {nL k ns d : Nat} {own : String} {ret : Option FieldType} {Q : State → Prop} {pc : Nat} {vs : List (Option Value)} {st : List Value} {M : Mm} (hC : Cx X g cc nL own ret d) {t : Nat} (ht : ok w t 11) {index : Nat} (hw : Cond.fieldLink own index "SyntaxRepairModel" "text" "[I" ∈ Tk) (hd : decode cc pc = .ok (.getfield index, 3)) (kk : V X g w nL k ns Q (pc + 3) vs (ob g (t + 4) :: st) M) : V X g w nL k ns Q pc vs (ob g t :: st) M := V_get hC ht (by decide) (ci := 11) rfl iw_11 (ent_11 ht.1) 4 (by decide) rfl hw hd kk
theorem gfN_11_4 {X : CX} {g : GX} {w : WX} {cc : ByteArray} {nL k ns d : Nat} {own : String} {ret : Option FieldType} {Q : State → Prop} {pc : Nat} {vs : List (Option Value)} {st : List Value} {M : Mm} (hC : Cx X g cc nL own ret d) {t : Nat} (ht : ok w t 11) {index : Nat} {host : String} (hw : Cond.fieldLinkNest own index "SyntaxRepairModel" "text" "[I" host ∈ Tk) (hd : decode cc pc = .ok (.getfield index, 3)) (kk : V X g w nL k ns Q (pc + 3) vs (ob g (t + 4) :: st) M) : V X g w nL k ns Q pc vs (ob g t :: st) M := V_getN hC ht (by decide) (ci := 11) rfl iw_11 (ent_11 ht.1) 4 (by decide) rfl hw hd kk
theorem gf_11_5 {X : CX} {g : GX} {w : WX} {cc : ByteArray} {nL k ns d : Nat} {own : String} {ret : Option FieldType} {Q : State → Prop} {pc : Nat} {vs : List (Option Value)} {st : List Value} {M : Mm} (hC : Cx X g cc nL own ret d) {t : Nat} (ht : ok w t 11) {index : Nat} (hw : Cond.fieldLink own index "SyntaxRepairModel" "length" "I" ∈ Tk) (hd : decode cc pc = .ok (.getfield index, 3)) (kk : V X g w nL k ns Q (pc + 3) vs (.int (M t 5) :: st) M) : V X g w nL k ns Q pc vs (ob g t :: st) M := V_get hC ht (by decide) (ci := 11) rfl iw_11 (ent_11 ht.1) 5 (by decide) rfl hw hd kk
theorem pf_11_5 {X : CX} {g : GX} {w : WX} {cc : ByteArray} {nL k ns d : Nat} {own : String} {ret : Option FieldType} {Q : State → Prop} {pc : Nat} {vs : List (Option Value)} {st : List Value} {M : Mm} (hC : Cx X g cc nL own ret d) {t : Nat} {x : Int32} (ht : ok w t 11) {index : Nat} (hw : Cond.fieldLink own index "SyntaxRepairModel" "length" "I" ∈ Tk) (hd : decode cc pc = .ok (.putfield index, 3)) (kk : V X g w nL k ns Q (pc + 3) vs st (up M t 5 x)) : V X g w nL k ns Q pc vs (.int x :: ob g t :: st) M := V_put hC ht (by decide) (ci := 11) rfl iw_11 tyX11 tyX11_ok nmX11 (ent_11 ht.1) 5 (by decide) rfl (ty := .int) (by decide +kernel) rfl rfl (Nat.le_of_ble_eq_true rfl) (M' := (up M t 5 x)) (by rw [ent_11 ht.1]; simp [up]) (fun c' h => up_c h) hw hd kk
theorem gfN_11_5 {X : CX} {g : GX} {w : WX} {cc : ByteArray} {nL k ns d : Nat} {own : String} {ret : Option FieldType} {Q : State → Prop} {pc : Nat} {vs : List (Option Value)} {st : List Value} {M : Mm} (hC : Cx X g cc nL own ret d) {t : Nat} (ht : ok w t 11) {index : Nat} {host : String} (hw : Cond.fieldLinkNest own index "SyntaxRepairModel" "length" "I" host ∈ Tk) (hd : decode cc pc = .ok (.getfield index, 3)) (kk : V X g w nL k ns Q (pc + 3) vs (.int (M t 5) :: st) M) : V X g w nL k ns Q pc vs (ob g t :: st) M := V_getN hC ht (by decide) (ci := 11) rfl iw_11 (ent_11 ht.1) 5 (by decide) rfl hw hd kk
theorem pfN_11_5 {X : CX} {g : GX} {w : WX} {cc : ByteArray} {nL k ns d : Nat} {own : String} {ret : Option FieldType} {Q : State → Prop} {pc : Nat} {vs : List (Option Value)} {st : List Value} {M : Mm} (hC : Cx X g cc nL own ret d) {t : Nat} {x : Int32} (ht : ok w t 11) {index : Nat} {host : String} (hw : Cond.fieldLinkNest own index "SyntaxRepairModel" "length" "I" host ∈ Tk) (hd : decode cc pc = .ok (.putfield index, 3)) (kk : V X g w nL k ns Q (pc + 3) vs st (up M t 5 x)) : V X g w nL k ns Q pc vs (.int x :: ob g t :: st) M := V_putN hC ht (by decide) (ci := 11) rfl iw_11 tyX11 tyX11_ok nmX11 (ent_11 ht.1) 5 (by decide) rfl (ty := .int) (by decide +kernel) rfl rfl (Nat.le_of_ble_eq_true rfl) (M' := (up M t 5 x)) (by rw [ent_11 ht.1]; simp [up]) (fun c' h => up_c h) hw hd kk
theorem gf_11_6 {X : CX} {g : GX} {w : WX} {cc : ByteArray} {nL k ns d : Nat} {own : String} {ret : Option FieldType} {Q : State → Prop} {pc : Nat} {vs : List (Option Value)} {st : List Value} {M : Mm} (hC : Cx X g cc nL own ret d) {t : Nat} (ht : ok w t 11) {index : Nat} (hw : Cond.fieldLink own index "SyntaxRepairModel" "at" "I" ∈ Tk) (hd : decode cc pc = .ok (.getfield index, 3)) (kk : V X g w nL k ns Q (pc + 3) vs (.int (M t 6) :: st) M) : V X g w nL k ns Q pc vs (ob g t :: st) M := V_get hC ht (by decide) (ci := 11) rfl iw_11 (ent_11 ht.1) 6 (by decide) rfl hw hd kk
theorem pf_11_6 {X : CX} {g : GX} {w : WX} {cc : ByteArray} {nL k ns d : Nat} {own : String} {ret : Option FieldType} {Q : State → Prop} {pc : Nat} {vs : List (Option Value)} {st : List Value} {M : Mm} (hC : Cx X g cc nL own ret d) {t : Nat} {x : Int32} (ht : ok w t 11) {index : Nat} (hw : Cond.fieldLink own index "SyntaxRepairModel" "at" "I" ∈ Tk) (hd : decode cc pc = .ok (.putfield index, 3)) (kk : V X g w nL k ns Q (pc + 3) vs st (up M t 6 x)) : V X g w nL k ns Q pc vs (.int x :: ob g t :: st) M := V_put hC ht (by decide) (ci := 11) rfl iw_11 tyX11 tyX11_ok nmX11 (ent_11 ht.1) 6 (by decide) rfl (ty := .int) (by decide +kernel) rfl rfl (Nat.le_of_ble_eq_true rfl) (M' := (up M t 6 x)) (by rw [ent_11 ht.1]; simp [up]) (fun c' h => up_c h) hw hd kk
theorem gfN_11_6 {X : CX} {g : GX} {w : WX} {cc : ByteArray} {nL k ns d : Nat} {own : String} {ret : Option FieldType} {Q : State → Prop} {pc : Nat} {vs : List (Option Value)} {st : List Value} {M : Mm} (hC : Cx X g cc nL own ret d) {t : Nat} (ht : ok w t 11) {index : Nat} {host : String} (hw : Cond.fieldLinkNest own index "SyntaxRepairModel" "at" "I" host ∈ Tk) (hd : decode cc pc = .ok (.getfield index, 3)) (kk : V X g w nL k ns Q (pc + 3) vs (.int (M t 6) :: st) M) : V X g w nL k ns Q pc vs (ob g t :: st) M := V_getN hC ht (by decide) (ci := 11) rfl iw_11 (ent_11 ht.1) 6 (by decide) rfl hw hd kk
theorem pfN_11_6 {X : CX} {g : GX} {w : WX} {cc : ByteArray} {nL k ns d : Nat} {own : String} {ret : Option FieldType} {Q : State → Prop} {pc : Nat} {vs : List (Option Value)} {st : List Value} {M : Mm} (hC : Cx X g cc nL own ret d) {t : Nat} {x : Int32} (ht : ok w t 11) {index : Nat} {host : String} (hw : Cond.fieldLinkNest own index "SyntaxRepairModel" "at" "I" host ∈ Tk) (hd : decode cc pc = .ok (.putfield index, 3)) (kk : V X g w nL k ns Q (pc + 3) vs st (up M t 6 x)) : V X g w nL k ns Q pc vs (.int x :: ob g t :: st) M := V_putN hC ht (by decide) (ci := 11) rfl iw_11 tyX11 tyX11_ok nmX11 (ent_11 ht.1) 6 (by decide) rfl (ty := .int) (by decide +kernel) rfl rfl (Nat.le_of_ble_eq_true rfl) (M' := (up M t 6 x)) (by rw [ent_11 ht.1]; simp [up]) (fun c' h => up_c h) hw hd kk
theorem gf_11_7 {X : CX} {g : GX} {w : WX} {cc : ByteArray} {nL k ns d : Nat} {own : String} {ret : Option FieldType} {Q : State → Prop} {pc : Nat} {vs : List (Option Value)} {st : List Value} {M : Mm} (hC : Cx X g cc nL own ret d) {t : Nat} (ht : ok w t 11) {index : Nat} (hw : Cond.fieldLink own index "SyntaxRepairModel" "lexeme" "I" ∈ Tk) (hd : decode cc pc = .ok (.getfield index, 3)) (kk : V X g w nL k ns Q (pc + 3) vs (.int (M t 7) :: st) M) : V X g w nL k ns Q pc vs (ob g t :: st) M := V_get hC ht (by decide) (ci := 11) rfl iw_11 (ent_11 ht.1) 7 (by decide) rfl hw hd kk
theorem pf_11_7 {X : CX} {g : GX} {w : WX} {cc : ByteArray} {nL k ns d : Nat} {own : String} {ret : Option FieldType} {Q : State → Prop} {pc : Nat} {vs : List (Option Value)} {st : List Value} {M : Mm} (hC : Cx X g cc nL own ret d) {t : Nat} {x : Int32} (ht : ok w t 11) {index : Nat} (hw : Cond.fieldLink own index "SyntaxRepairModel" "lexeme" "I" ∈ Tk) (hd : decode cc pc = .ok (.putfield index, 3)) (kk : V X g w nL k ns Q (pc + 3) vs st (up M t 7 x)) : V X g w nL k ns Q pc vs (.int x :: ob g t :: st) M := V_put hC ht (by decide) (ci := 11) rfl iw_11 tyX11 tyX11_ok nmX11 (ent_11 ht.1) 7 (by decide) rfl (ty := .int) (by decide +kernel) rfl rfl (Nat.le_of_ble_eq_true rfl) (M' := (up M t 7 x)) (by rw [ent_11 ht.1]; simp [up]) (fun c' h => up_c h) hw hd kk
theorem gfN_11_7 {X : CX} {g : GX} {w : WX} {cc : ByteArray} {nL k ns d : Nat} {own : String} {ret : Option FieldType} {Q : State → Prop} {pc : Nat} {vs : List (Option Value)} {st : List Value} {M : Mm} (hC : Cx X g cc nL own ret d) {t : Nat} (ht : ok w t 11) {index : Nat} {host : String} (hw : Cond.fieldLinkNest own index "SyntaxRepairModel" "lexeme" "I" host ∈ Tk) (hd : decode cc pc = .ok (.getfield index, 3)) (kk : V X g w nL k ns Q (pc + 3) vs (.int (M t 7) :: st) M) : V X g w nL k ns Q pc vs (ob g t :: st) M := V_getN hC ht (by decide) (ci := 11) rfl iw_11 (ent_11 ht.1) 7 (by decide) rfl hw hd kk
theorem pfN_11_7 {X : CX} {g : GX} {w : WX} {cc : ByteArray} {nL k ns d : Nat} {own : String} {ret : Option FieldType} {Q : State → Prop} {pc : Nat} {vs : List (Option Value)} {st : List Value} {M : Mm} (hC : Cx X g cc nL own ret d) {t : Nat} {x : Int32} (ht : ok w t 11) {index : Nat} {host : String} (hw : Cond.fieldLinkNest own index "SyntaxRepairModel" "lexeme" "I" host ∈ Tk) (hd : decode cc pc = .ok (.putfield index, 3)) (kk : V X g w nL k ns Q (pc + 3) vs st (up M t 7 x)) : V X g w nL k ns Q pc vs (.int x :: ob g t :: st) M := V_putN hC ht (by decide) (ci := 11) rfl iw_11 tyX11 tyX11_ok nmX11 (ent_11 ht.1) 7 (by decide) rfl (ty := .int) (by decide +kernel) rfl rfl (Nat.le_of_ble_eq_true rfl) (M' := (up M t 7 x)) (by rw [ent_11 ht.1]; simp [up]) (fun c' h => up_c h) hw hd kk
theorem gf_11_8 {X : CX} {g : GX} {w : WX} {cc : ByteArray} {nL k ns d : Nat} {own : String} {ret : Option FieldType} {Q : State → Prop} {pc : Nat} {vs : List (Option Value)} {st : List Value} {M : Mm} (hC : Cx X g cc nL own ret d) {t : Nat} (ht : ok w t 11) {index : Nat} (hw : Cond.fieldLink own index "SyntaxRepairModel" "lexemeAt" "I" ∈ Tk) (hd : decode cc pc = .ok (.getfield index, 3)) (kk : V X g w nL k ns Q (pc + 3) vs (.int (M t 8) :: st) M) : V X g w nL k ns Q pc vs (ob g t :: st) M := V_get hC ht (by decide) (ci := 11) rfl iw_11 (ent_11 ht.1) 8 (by decide) rfl hw hd kk
theorem pf_11_8 {X : CX} {g : GX} {w : WX} {cc : ByteArray} {nL k ns d : Nat} {own : String} {ret : Option FieldType} {Q : State → Prop} {pc : Nat} {vs : List (Option Value)} {st : List Value} {M : Mm} (hC : Cx X g cc nL own ret d) {t : Nat} {x : Int32} (ht : ok w t 11) {index : Nat} (hw : Cond.fieldLink own index "SyntaxRepairModel" "lexemeAt" "I" ∈ Tk) (hd : decode cc pc = .ok (.putfield index, 3)) (kk : V X g w nL k ns Q (pc + 3) vs st (up M t 8 x)) : V X g w nL k ns Q pc vs (.int x :: ob g t :: st) M := V_put hC ht (by decide) (ci := 11) rfl iw_11 tyX11 tyX11_ok nmX11 (ent_11 ht.1) 8 (by decide) rfl (ty := .int) (by decide +kernel) rfl rfl (Nat.le_of_ble_eq_true rfl) (M' := (up M t 8 x)) (by rw [ent_11 ht.1]; simp [up]) (fun c' h => up_c h) hw hd kk
theorem gfN_11_8 {X : CX} {g : GX} {w : WX} {cc : ByteArray} {nL k ns d : Nat} {own : String} {ret : Option FieldType} {Q : State → Prop} {pc : Nat} {vs : List (Option Value)} {st : List Value} {M : Mm} (hC : Cx X g cc nL own ret d) {t : Nat} (ht : ok w t 11) {index : Nat} {host : String} (hw : Cond.fieldLinkNest own index "SyntaxRepairModel" "lexemeAt" "I" host ∈ Tk) (hd : decode cc pc = .ok (.getfield index, 3)) (kk : V X g w nL k ns Q (pc + 3) vs (.int (M t 8) :: st) M) : V X g w nL k ns Q pc vs (ob g t :: st) M := V_getN hC ht (by decide) (ci := 11) rfl iw_11 (ent_11 ht.1) 8 (by decide) rfl hw hd kk
theorem pfN_11_8 {X : CX} {g : GX} {w : WX} {cc : ByteArray} {nL k ns d : Nat} {own : String} {ret : Option FieldType} {Q : State → Prop} {pc : Nat} {vs : List (Option Value)} {st : List Value} {M : Mm} (hC : Cx X g cc nL own ret d) {t : Nat} {x : Int32} (ht : ok w t 11) {index : Nat} {host : String} (hw : Cond.fieldLinkNest own index "SyntaxRepairModel" "lexemeAt" "I" host ∈ Tk) (hd : decode cc pc = .ok (.putfield index, 3)) (kk : V X g w nL k ns Q (pc + 3) vs st (up M t 8 x)) : V X g w nL k ns Q pc vs (.int x :: ob g t :: st) M := V_putN hC ht (by decide) (ci := 11) rfl iw_11 tyX11 tyX11_ok nmX11 (ent_11 ht.1) 8 (by decide) rfl (ty := .int) (by decide +kernel) rfl rfl (Nat.le_of_ble_eq_true rfl) (M' := (up M t 8 x)) (by rw [ent_11 ht.1]; simp [up]) (fun c' h => up_c h) hw hd kk
theorem gf_11_9 {X : CX} {g : GX} {w : WX} {cc : ByteArray} {nL k ns d : Nat} {own : String} {ret : Option FieldType} {Q : State → Prop} {pc : Nat} {vs : List (Option Value)} {st : List Value} {M : Mm} (hC : Cx X g cc nL own ret d) {t : Nat} (ht : ok w t 11) {index : Nat} (hw : Cond.fieldLink own index "SyntaxRepairModel" "word" "J" ∈ Tk) (hd : decode cc pc = .ok (.getfield index, 3)) (kk : V X g w nL k ns Q (pc + 3) vs (.long (mkL (M t 24) (M t 9)) :: st) M) : V X g w nL k ns Q pc vs (ob g t :: st) M := V_get hC ht (by decide) (ci := 11) rfl iw_11 (ent_11 ht.1) 9 (by decide) rfl hw hd kk
theorem pf_11_9 {X : CX} {g : GX} {w : WX} {cc : ByteArray} {nL k ns d : Nat} {own : String} {ret : Option FieldType} {Q : State → Prop} {pc : Nat} {vs : List (Option Value)} {st : List Value} {M : Mm} (hC : Cx X g cc nL own ret d) {t : Nat} {x : Int64} (ht : ok w t 11) {index : Nat} (hw : Cond.fieldLink own index "SyntaxRepairModel" "word" "J" ∈ Tk) (hd : decode cc pc = .ok (.putfield index, 3)) (kk : V X g w nL k ns Q (pc + 3) vs st (up (up M t 24 (hiW x)) t 9 (loW x))) : V X g w nL k ns Q pc vs (.long x :: ob g t :: st) M := V_put hC ht (by decide) (ci := 11) rfl iw_11 tyX11 tyX11_ok nmX11 (ent_11 ht.1) 9 (by decide) rfl (ty := .long) (by decide +kernel) rfl rfl (Nat.le_of_ble_eq_true rfl) (M' := (up (up M t 24 (hiW x)) t 9 (loW x))) (by rw [ent_11 ht.1]; simp [up, mkL_hl]) (fun c' h => by rw [up_c h, up_c h]) hw hd kk
theorem gfN_11_9 {X : CX} {g : GX} {w : WX} {cc : ByteArray} {nL k ns d : Nat} {own : String} {ret : Option FieldType} {Q : State → Prop} {pc : Nat} {vs : List (Option Value)} {st : List Value} {M : Mm} (hC : Cx X g cc nL own ret d) {t : Nat} (ht : ok w t 11) {index : Nat} {host : String} (hw : Cond.fieldLinkNest own index "SyntaxRepairModel" "word" "J" host ∈ Tk) (hd : decode cc pc = .ok (.getfield index, 3)) (kk : V X g w nL k ns Q (pc + 3) vs (.long (mkL (M t 24) (M t 9)) :: st) M) : V X g w nL k ns Q pc vs (ob g t :: st) M := V_getN hC ht (by decide) (ci := 11) rfl iw_11 (ent_11 ht.1) 9 (by decide) rfl hw hd kk
theorem pfN_11_9 {X : CX} {g : GX} {w : WX} {cc : ByteArray} {nL k ns d : Nat} {own : String} {ret : Option FieldType} {Q : State → Prop} {pc : Nat} {vs : List (Option Value)} {st : List Value} {M : Mm} (hC : Cx X g cc nL own ret d) {t : Nat} {x : Int64} (ht : ok w t 11) {index : Nat} {host : String} (hw : Cond.fieldLinkNest own index "SyntaxRepairModel" "word" "J" host ∈ Tk) (hd : decode cc pc = .ok (.putfield index, 3)) (kk : V X g w nL k ns Q (pc + 3) vs st (up (up M t 24 (hiW x)) t 9 (loW x))) : V X g w nL k ns Q pc vs (.long x :: ob g t :: st) M := V_putN hC ht (by decide) (ci := 11) rfl iw_11 tyX11 tyX11_ok nmX11 (ent_11 ht.1) 9 (by decide) rfl (ty := .long) (by decide +kernel) rfl rfl (Nat.le_of_ble_eq_true rfl) (M' := (up (up M t 24 (hiW x)) t 9 (loW x))) (by rw [ent_11 ht.1]; simp [up, mkL_hl]) (fun c' h => by rw [up_c h, up_c h]) hw hd kk
theorem gf_11_10 {X : CX} {g : GX} {w : WX} {cc : ByteArray} {nL k ns d : Nat} {own : String} {ret : Option FieldType} {Q : State → Prop} {pc : Nat} {vs : List (Option Value)} {st : List Value} {M : Mm} (hC : Cx X g cc nL own ret d) {t : Nat} (ht : ok w t 11) {index : Nat} (hw : Cond.fieldLink own index "SyntaxRepairModel" "digit" "I" ∈ Tk) (hd : decode cc pc = .ok (.getfield index, 3)) (kk : V X g w nL k ns Q (pc + 3) vs (.int (M t 10) :: st) M) : V X g w nL k ns Q pc vs (ob g t :: st) M := V_get hC ht (by decide) (ci := 11) rfl iw_11 (ent_11 ht.1) 10 (by decide) rfl hw hd kk
theorem pf_11_10 {X : CX} {g : GX} {w : WX} {cc : ByteArray} {nL k ns d : Nat} {own : String} {ret : Option FieldType} {Q : State → Prop} {pc : Nat} {vs : List (Option Value)} {st : List Value} {M : Mm} (hC : Cx X g cc nL own ret d) {t : Nat} {x : Int32} (ht : ok w t 11) {index : Nat} (hw : Cond.fieldLink own index "SyntaxRepairModel" "digit" "I" ∈ Tk) (hd : decode cc pc = .ok (.putfield index, 3)) (kk : V X g w nL k ns Q (pc + 3) vs st (up M t 10 x)) : V X g w nL k ns Q pc vs (.int x :: ob g t :: st) M := V_put hC ht (by decide) (ci := 11) rfl iw_11 tyX11 tyX11_ok nmX11 (ent_11 ht.1) 10 (by decide) rfl (ty := .int) (by decide +kernel) rfl rfl (Nat.le_of_ble_eq_true rfl) (M' := (up M t 10 x)) (by rw [ent_11 ht.1]; simp [up]) (fun c' h => up_c h) hw hd kk
theorem gfN_11_10 {X : CX} {g : GX} {w : WX} {cc : ByteArray} {nL k ns d : Nat} {own : String} {ret : Option FieldType} {Q : State → Prop} {pc : Nat} {vs : List (Option Value)} {st : List Value} {M : Mm} (hC : Cx X g cc nL own ret d) {t : Nat} (ht : ok w t 11) {index : Nat} {host : String} (hw : Cond.fieldLinkNest own index "SyntaxRepairModel" "digit" "I" host ∈ Tk) (hd : decode cc pc = .ok (.getfield index, 3)) (kk : V X g w nL k ns Q (pc + 3) vs (.int (M t 10) :: st) M) : V X g w nL k ns Q pc vs (ob g t :: st) M := V_getN hC ht (by decide) (ci := 11) rfl iw_11 (ent_11 ht.1) 10 (by decide) rfl hw hd kk
theorem pfN_11_10 {X : CX} {g : GX} {w : WX} {cc : ByteArray} {nL k ns d : Nat} {own : String} {ret : Option FieldType} {Q : State → Prop} {pc : Nat} {vs : List (Option Value)} {st : List Value} {M : Mm} (hC : Cx X g cc nL own ret d) {t : Nat} {x : Int32} (ht : ok w t 11) {index : Nat} {host : String} (hw : Cond.fieldLinkNest own index "SyntaxRepairModel" "digit" "I" host ∈ Tk) (hd : decode cc pc = .ok (.putfield index, 3)) (kk : V X g w nL k ns Q (pc + 3) vs st (up M t 10 x)) : V X g w nL k ns Q pc vs (.int x :: ob g t :: st) M := V_putN hC ht (by decide) (ci := 11) rfl iw_11 tyX11 tyX11_ok nmX11 (ent_11 ht.1) 10 (by decide) rfl (ty := .int) (by decide +kernel) rfl rfl (Nat.le_of_ble_eq_true rfl) (M' := (up M t 10 x)) (by rw [ent_11 ht.1]; simp [up]) (fun c' h => up_c h) hw hd kk
theorem gf_11_11 {X : CX} {g : GX} {w : WX} {cc : ByteArray} {nL k ns d : Nat} {own : String} {ret : Option FieldType} {Q : State → Prop} {pc : Nat} {vs : List (Option Value)} {st : List Value} {M : Mm} (hC : Cx X g cc nL own ret d) {t : Nat} (ht : ok w t 11) {index : Nat} (hw : Cond.fieldLink own index "SyntaxRepairModel" "statements" "I" ∈ Tk) (hd : decode cc pc = .ok (.getfield index, 3)) (kk : V X g w nL k ns Q (pc + 3) vs (.int (M t 11) :: st) M) : V X g w nL k ns Q pc vs (ob g t :: st) M := V_get hC ht (by decide) (ci := 11) rfl iw_11 (ent_11 ht.1) 11 (by decide) rfl hw hd kk
theorem pf_11_11 {X : CX} {g : GX} {w : WX} {cc : ByteArray} {nL k ns d : Nat} {own : String} {ret : Option FieldType} {Q : State → Prop} {pc : Nat} {vs : List (Option Value)} {st : List Value} {M : Mm} (hC : Cx X g cc nL own ret d) {t : Nat} {x : Int32} (ht : ok w t 11) {index : Nat} (hw : Cond.fieldLink own index "SyntaxRepairModel" "statements" "I" ∈ Tk) (hd : decode cc pc = .ok (.putfield index, 3)) (kk : V X g w nL k ns Q (pc + 3) vs st (up M t 11 x)) : V X g w nL k ns Q pc vs (.int x :: ob g t :: st) M := V_put hC ht (by decide) (ci := 11) rfl iw_11 tyX11 tyX11_ok nmX11 (ent_11 ht.1) 11 (by decide) rfl (ty := .int) (by decide +kernel) rfl rfl (Nat.le_of_ble_eq_true rfl) (M' := (up M t 11 x)) (by rw [ent_11 ht.1]; simp [up]) (fun c' h => up_c h) hw hd kk
theorem gfN_11_11 {X : CX} {g : GX} {w : WX} {cc : ByteArray} {nL k ns d : Nat} {own : String} {ret : Option FieldType} {Q : State → Prop} {pc : Nat} {vs : List (Option Value)} {st : List Value} {M : Mm} (hC : Cx X g cc nL own ret d) {t : Nat} (ht : ok w t 11) {index : Nat} {host : String} (hw : Cond.fieldLinkNest own index "SyntaxRepairModel" "statements" "I" host ∈ Tk) (hd : decode cc pc = .ok (.getfield index, 3)) (kk : V X g w nL k ns Q (pc + 3) vs (.int (M t 11) :: st) M) : V X g w nL k ns Q pc vs (ob g t :: st) M := V_getN hC ht (by decide) (ci := 11) rfl iw_11 (ent_11 ht.1) 11 (by decide) rfl hw hd kk
theorem pfN_11_11 {X : CX} {g : GX} {w : WX} {cc : ByteArray} {nL k ns d : Nat} {own : String} {ret : Option FieldType} {Q : State → Prop} {pc : Nat} {vs : List (Option Value)} {st : List Value} {M : Mm} (hC : Cx X g cc nL own ret d) {t : Nat} {x : Int32} (ht : ok w t 11) {index : Nat} {host : String} (hw : Cond.fieldLinkNest own index "SyntaxRepairModel" "statements" "I" host ∈ Tk) (hd : decode cc pc = .ok (.putfield index, 3)) (kk : V X g w nL k ns Q (pc + 3) vs st (up M t 11 x)) : V X g w nL k ns Q pc vs (.int x :: ob g t :: st) M := V_putN hC ht (by decide) (ci := 11) rfl iw_11 tyX11 tyX11_ok nmX11 (ent_11 ht.1) 11 (by decide) rfl (ty := .int) (by decide +kernel) rfl rfl (Nat.le_of_ble_eq_true rfl) (M' := (up M t 11 x)) (by rw [ent_11 ht.1]; simp [up]) (fun c' h => up_c h) hw hd kk
theorem gf_11_12 {X : CX} {g : GX} {w : WX} {cc : ByteArray} {nL k ns d : Nat} {own : String} {ret : Option FieldType} {Q : State → Prop} {pc : Nat} {vs : List (Option Value)} {st : List Value} {M : Mm} (hC : Cx X g cc nL own ret d) {t : Nat} (ht : ok w t 11) {index : Nat} (hw : Cond.fieldLink own index "SyntaxRepairModel" "reached" "I" ∈ Tk) (hd : decode cc pc = .ok (.getfield index, 3)) (kk : V X g w nL k ns Q (pc + 3) vs (.int (M t 12) :: st) M) : V X g w nL k ns Q pc vs (ob g t :: st) M := V_get hC ht (by decide) (ci := 11) rfl iw_11 (ent_11 ht.1) 12 (by decide) rfl hw hd kk
theorem pf_11_12 {X : CX} {g : GX} {w : WX} {cc : ByteArray} {nL k ns d : Nat} {own : String} {ret : Option FieldType} {Q : State → Prop} {pc : Nat} {vs : List (Option Value)} {st : List Value} {M : Mm} (hC : Cx X g cc nL own ret d) {t : Nat} {x : Int32} (ht : ok w t 11) {index : Nat} (hw : Cond.fieldLink own index "SyntaxRepairModel" "reached" "I" ∈ Tk) (hd : decode cc pc = .ok (.putfield index, 3)) (kk : V X g w nL k ns Q (pc + 3) vs st (up M t 12 x)) : V X g w nL k ns Q pc vs (.int x :: ob g t :: st) M := V_put hC ht (by decide) (ci := 11) rfl iw_11 tyX11 tyX11_ok nmX11 (ent_11 ht.1) 12 (by decide) rfl (ty := .int) (by decide +kernel) rfl rfl (Nat.le_of_ble_eq_true rfl) (M' := (up M t 12 x)) (by rw [ent_11 ht.1]; simp [up]) (fun c' h => up_c h) hw hd kk
theorem gfN_11_12 {X : CX} {g : GX} {w : WX} {cc : ByteArray} {nL k ns d : Nat} {own : String} {ret : Option FieldType} {Q : State → Prop} {pc : Nat} {vs : List (Option Value)} {st : List Value} {M : Mm} (hC : Cx X g cc nL own ret d) {t : Nat} (ht : ok w t 11) {index : Nat} {host : String} (hw : Cond.fieldLinkNest own index "SyntaxRepairModel" "reached" "I" host ∈ Tk) (hd : decode cc pc = .ok (.getfield index, 3)) (kk : V X g w nL k ns Q (pc + 3) vs (.int (M t 12) :: st) M) : V X g w nL k ns Q pc vs (ob g t :: st) M := V_getN hC ht (by decide) (ci := 11) rfl iw_11 (ent_11 ht.1) 12 (by decide) rfl hw hd kk
theorem pfN_11_12 {X : CX} {g : GX} {w : WX} {cc : ByteArray} {nL k ns d : Nat} {own : String} {ret : Option FieldType} {Q : State → Prop} {pc : Nat} {vs : List (Option Value)} {st : List Value} {M : Mm} (hC : Cx X g cc nL own ret d) {t : Nat} {x : Int32} (ht : ok w t 11) {index : Nat} {host : String} (hw : Cond.fieldLinkNest own index "SyntaxRepairModel" "reached" "I" host ∈ Tk) (hd : decode cc pc = .ok (.putfield index, 3)) (kk : V X g w nL k ns Q (pc + 3) vs st (up M t 12 x)) : V X g w nL k ns Q pc vs (.int x :: ob g t :: st) M := V_putN hC ht (by decide) (ci := 11) rfl iw_11 tyX11 tyX11_ok nmX11 (ent_11 ht.1) 12 (by decide) rfl (ty := .int) (by decide +kernel) rfl rfl (Nat.le_of_ble_eq_true rfl) (M' := (up M t 12 x)) (by rw [ent_11 ht.1]; simp [up]) (fun c' h => up_c h) hw hd kk
theorem gf_11_13 {X : CX} {g : GX} {w : WX} {cc : ByteArray} {nL k ns d : Nat} {own : String} {ret : Option FieldType} {Q : State → Prop} {pc : Nat} {vs : List (Option Value)} {st : List Value} {M : Mm} (hC : Cx X g cc nL own ret d) {t : Nat} (ht : ok w t 11) {index : Nat} (hw : Cond.fieldLink own index "SyntaxRepairModel" "first" "[I" ∈ Tk) (hd : decode cc pc = .ok (.getfield index, 3)) (kk : V X g w nL k ns Q (pc + 3) vs (ob g (t + 5) :: st) M) : V X g w nL k ns Q pc vs (ob g t :: st) M := V_get hC ht (by decide) (ci := 11) rfl iw_11 (ent_11 ht.1) 13 (by decide) rfl hw hd kk
theorem gfN_11_13 {X : CX} {g : GX} {w : WX} {cc : ByteArray} {nL k ns d : Nat} {own : String} {ret : Option FieldType} {Q : State → Prop} {pc : Nat} {vs : List (Option Value)} {st : List Value} {M : Mm} (hC : Cx X g cc nL own ret d) {t : Nat} (ht : ok w t 11) {index : Nat} {host : String} (hw : Cond.fieldLinkNest own index "SyntaxRepairModel" "first" "[I" host ∈ Tk) (hd : decode cc pc = .ok (.getfield index, 3)) (kk : V X g w nL k ns Q (pc + 3) vs (ob g (t + 5) :: st) M) : V X g w nL k ns Q pc vs (ob g t :: st) M := V_getN hC ht (by decide) (ci := 11) rfl iw_11 (ent_11 ht.1) 13 (by decide) rfl hw hd kk
theorem gf_11_14 {X : CX} {g : GX} {w : WX} {cc : ByteArray} {nL k ns d : Nat} {own : String} {ret : Option FieldType} {Q : State → Prop} {pc : Nat} {vs : List (Option Value)} {st : List Value} {M : Mm} (hC : Cx X g cc nL own ret d) {t : Nat} (ht : ok w t 11) {index : Nat} (hw : Cond.fieldLink own index "SyntaxRepairModel" "second" "[I" ∈ Tk) (hd : decode cc pc = .ok (.getfield index, 3)) (kk : V X g w nL k ns Q (pc + 3) vs (ob g (t + 6) :: st) M) : V X g w nL k ns Q pc vs (ob g t :: st) M := V_get hC ht (by decide) (ci := 11) rfl iw_11 (ent_11 ht.1) 14 (by decide) rfl hw hd kk
theorem gfN_11_14 {X : CX} {g : GX} {w : WX} {cc : ByteArray} {nL k ns d : Nat} {own : String} {ret : Option FieldType} {Q : State → Prop} {pc : Nat} {vs : List (Option Value)} {st : List Value} {M : Mm} (hC : Cx X g cc nL own ret d) {t : Nat} (ht : ok w t 11) {index : Nat} {host : String} (hw : Cond.fieldLinkNest own index "SyntaxRepairModel" "second" "[I" host ∈ Tk) (hd : decode cc pc = .ok (.getfield index, 3)) (kk : V X g w nL k ns Q (pc + 3) vs (ob g (t + 6) :: st) M) : V X g w nL k ns Q pc vs (ob g t :: st) M := V_getN hC ht (by decide) (ci := 11) rfl iw_11 (ent_11 ht.1) 14 (by decide) rfl hw hd kk
theorem gf_11_15 {X : CX} {g : GX} {w : WX} {cc : ByteArray} {nL k ns d : Nat} {own : String} {ret : Option FieldType} {Q : State → Prop} {pc : Nat} {vs : List (Option Value)} {st : List Value} {M : Mm} (hC : Cx X g cc nL own ret d) {t : Nat} (ht : ok w t 11) {index : Nat} (hw : Cond.fieldLink own index "SyntaxRepairModel" "paths" "[I" ∈ Tk) (hd : decode cc pc = .ok (.getfield index, 3)) (kk : V X g w nL k ns Q (pc + 3) vs (ob g (t + 7) :: st) M) : V X g w nL k ns Q pc vs (ob g t :: st) M := V_get hC ht (by decide) (ci := 11) rfl iw_11 (ent_11 ht.1) 15 (by decide) rfl hw hd kk
theorem gfN_11_15 {X : CX} {g : GX} {w : WX} {cc : ByteArray} {nL k ns d : Nat} {own : String} {ret : Option FieldType} {Q : State → Prop} {pc : Nat} {vs : List (Option Value)} {st : List Value} {M : Mm} (hC : Cx X g cc nL own ret d) {t : Nat} (ht : ok w t 11) {index : Nat} {host : String} (hw : Cond.fieldLinkNest own index "SyntaxRepairModel" "paths" "[I" host ∈ Tk) (hd : decode cc pc = .ok (.getfield index, 3)) (kk : V X g w nL k ns Q (pc + 3) vs (ob g (t + 7) :: st) M) : V X g w nL k ns Q pc vs (ob g t :: st) M := V_getN hC ht (by decide) (ci := 11) rfl iw_11 (ent_11 ht.1) 15 (by decide) rfl hw hd kk
theorem gf_11_16 {X : CX} {g : GX} {w : WX} {cc : ByteArray} {nL k ns d : Nat} {own : String} {ret : Option FieldType} {Q : State → Prop} {pc : Nat} {vs : List (Option Value)} {st : List Value} {M : Mm} (hC : Cx X g cc nL own ret d) {t : Nat} (ht : ok w t 11) {index : Nat} (hw : Cond.fieldLink own index "SyntaxRepairModel" "least" "I" ∈ Tk) (hd : decode cc pc = .ok (.getfield index, 3)) (kk : V X g w nL k ns Q (pc + 3) vs (.int (M t 16) :: st) M) : V X g w nL k ns Q pc vs (ob g t :: st) M := V_get hC ht (by decide) (ci := 11) rfl iw_11 (ent_11 ht.1) 16 (by decide) rfl hw hd kk
theorem pf_11_16 {X : CX} {g : GX} {w : WX} {cc : ByteArray} {nL k ns d : Nat} {own : String} {ret : Option FieldType} {Q : State → Prop} {pc : Nat} {vs : List (Option Value)} {st : List Value} {M : Mm} (hC : Cx X g cc nL own ret d) {t : Nat} {x : Int32} (ht : ok w t 11) {index : Nat} (hw : Cond.fieldLink own index "SyntaxRepairModel" "least" "I" ∈ Tk) (hd : decode cc pc = .ok (.putfield index, 3)) (kk : V X g w nL k ns Q (pc + 3) vs st (up M t 16 x)) : V X g w nL k ns Q pc vs (.int x :: ob g t :: st) M := V_put hC ht (by decide) (ci := 11) rfl iw_11 tyX11 tyX11_ok nmX11 (ent_11 ht.1) 16 (by decide) rfl (ty := .int) (by decide +kernel) rfl rfl (Nat.le_of_ble_eq_true rfl) (M' := (up M t 16 x)) (by rw [ent_11 ht.1]; simp [up]) (fun c' h => up_c h) hw hd kk
theorem gfN_11_16 {X : CX} {g : GX} {w : WX} {cc : ByteArray} {nL k ns d : Nat} {own : String} {ret : Option FieldType} {Q : State → Prop} {pc : Nat} {vs : List (Option Value)} {st : List Value} {M : Mm} (hC : Cx X g cc nL own ret d) {t : Nat} (ht : ok w t 11) {index : Nat} {host : String} (hw : Cond.fieldLinkNest own index "SyntaxRepairModel" "least" "I" host ∈ Tk) (hd : decode cc pc = .ok (.getfield index, 3)) (kk : V X g w nL k ns Q (pc + 3) vs (.int (M t 16) :: st) M) : V X g w nL k ns Q pc vs (ob g t :: st) M := V_getN hC ht (by decide) (ci := 11) rfl iw_11 (ent_11 ht.1) 16 (by decide) rfl hw hd kk
theorem pfN_11_16 {X : CX} {g : GX} {w : WX} {cc : ByteArray} {nL k ns d : Nat} {own : String} {ret : Option FieldType} {Q : State → Prop} {pc : Nat} {vs : List (Option Value)} {st : List Value} {M : Mm} (hC : Cx X g cc nL own ret d) {t : Nat} {x : Int32} (ht : ok w t 11) {index : Nat} {host : String} (hw : Cond.fieldLinkNest own index "SyntaxRepairModel" "least" "I" host ∈ Tk) (hd : decode cc pc = .ok (.putfield index, 3)) (kk : V X g w nL k ns Q (pc + 3) vs st (up M t 16 x)) : V X g w nL k ns Q pc vs (.int x :: ob g t :: st) M := V_putN hC ht (by decide) (ci := 11) rfl iw_11 tyX11 tyX11_ok nmX11 (ent_11 ht.1) 16 (by decide) rfl (ty := .int) (by decide +kernel) rfl rfl (Nat.le_of_ble_eq_true rfl) (M' := (up M t 16 x)) (by rw [ent_11 ht.1]; simp [up]) (fun c' h => up_c h) hw hd kk
theorem gf_11_17 {X : CX} {g : GX} {w : WX} {cc : ByteArray} {nL k ns d : Nat} {own : String} {ret : Option FieldType} {Q : State → Prop} {pc : Nat} {vs : List (Option Value)} {st : List Value} {M : Mm} (hC : Cx X g cc nL own ret d) {t : Nat} (ht : ok w t 11) {index : Nat} (hw : Cond.fieldLink own index "SyntaxRepairModel" "greater" "I" ∈ Tk) (hd : decode cc pc = .ok (.getfield index, 3)) (kk : V X g w nL k ns Q (pc + 3) vs (.int (M t 17) :: st) M) : V X g w nL k ns Q pc vs (ob g t :: st) M := V_get hC ht (by decide) (ci := 11) rfl iw_11 (ent_11 ht.1) 17 (by decide) rfl hw hd kk
theorem pf_11_17 {X : CX} {g : GX} {w : WX} {cc : ByteArray} {nL k ns d : Nat} {own : String} {ret : Option FieldType} {Q : State → Prop} {pc : Nat} {vs : List (Option Value)} {st : List Value} {M : Mm} (hC : Cx X g cc nL own ret d) {t : Nat} {x : Int32} (ht : ok w t 11) {index : Nat} (hw : Cond.fieldLink own index "SyntaxRepairModel" "greater" "I" ∈ Tk) (hd : decode cc pc = .ok (.putfield index, 3)) (kk : V X g w nL k ns Q (pc + 3) vs st (up M t 17 x)) : V X g w nL k ns Q pc vs (.int x :: ob g t :: st) M := V_put hC ht (by decide) (ci := 11) rfl iw_11 tyX11 tyX11_ok nmX11 (ent_11 ht.1) 17 (by decide) rfl (ty := .int) (by decide +kernel) rfl rfl (Nat.le_of_ble_eq_true rfl) (M' := (up M t 17 x)) (by rw [ent_11 ht.1]; simp [up]) (fun c' h => up_c h) hw hd kk
theorem gfN_11_17 {X : CX} {g : GX} {w : WX} {cc : ByteArray} {nL k ns d : Nat} {own : String} {ret : Option FieldType} {Q : State → Prop} {pc : Nat} {vs : List (Option Value)} {st : List Value} {M : Mm} (hC : Cx X g cc nL own ret d) {t : Nat} (ht : ok w t 11) {index : Nat} {host : String} (hw : Cond.fieldLinkNest own index "SyntaxRepairModel" "greater" "I" host ∈ Tk) (hd : decode cc pc = .ok (.getfield index, 3)) (kk : V X g w nL k ns Q (pc + 3) vs (.int (M t 17) :: st) M) : V X g w nL k ns Q pc vs (ob g t :: st) M := V_getN hC ht (by decide) (ci := 11) rfl iw_11 (ent_11 ht.1) 17 (by decide) rfl hw hd kk
theorem pfN_11_17 {X : CX} {g : GX} {w : WX} {cc : ByteArray} {nL k ns d : Nat} {own : String} {ret : Option FieldType} {Q : State → Prop} {pc : Nat} {vs : List (Option Value)} {st : List Value} {M : Mm} (hC : Cx X g cc nL own ret d) {t : Nat} {x : Int32} (ht : ok w t 11) {index : Nat} {host : String} (hw : Cond.fieldLinkNest own index "SyntaxRepairModel" "greater" "I" host ∈ Tk) (hd : decode cc pc = .ok (.putfield index, 3)) (kk : V X g w nL k ns Q (pc + 3) vs st (up M t 17 x)) : V X g w nL k ns Q pc vs (.int x :: ob g t :: st) M := V_putN hC ht (by decide) (ci := 11) rfl iw_11 tyX11 tyX11_ok nmX11 (ent_11 ht.1) 17 (by decide) rfl (ty := .int) (by decide +kernel) rfl rfl (Nat.le_of_ble_eq_true rfl) (M' := (up M t 17 x)) (by rw [ent_11 ht.1]; simp [up]) (fun c' h => up_c h) hw hd kk
theorem gf_11_18 {X : CX} {g : GX} {w : WX} {cc : ByteArray} {nL k ns d : Nat} {own : String} {ret : Option FieldType} {Q : State → Prop} {pc : Nat} {vs : List (Option Value)} {st : List Value} {M : Mm} (hC : Cx X g cc nL own ret d) {t : Nat} (ht : ok w t 11) {index : Nat} (hw : Cond.fieldLink own index "SyntaxRepairModel" "edgeCost" "I" ∈ Tk) (hd : decode cc pc = .ok (.getfield index, 3)) (kk : V X g w nL k ns Q (pc + 3) vs (.int (M t 18) :: st) M) : V X g w nL k ns Q pc vs (ob g t :: st) M := V_get hC ht (by decide) (ci := 11) rfl iw_11 (ent_11 ht.1) 18 (by decide) rfl hw hd kk
theorem pf_11_18 {X : CX} {g : GX} {w : WX} {cc : ByteArray} {nL k ns d : Nat} {own : String} {ret : Option FieldType} {Q : State → Prop} {pc : Nat} {vs : List (Option Value)} {st : List Value} {M : Mm} (hC : Cx X g cc nL own ret d) {t : Nat} {x : Int32} (ht : ok w t 11) {index : Nat} (hw : Cond.fieldLink own index "SyntaxRepairModel" "edgeCost" "I" ∈ Tk) (hd : decode cc pc = .ok (.putfield index, 3)) (kk : V X g w nL k ns Q (pc + 3) vs st (up M t 18 x)) : V X g w nL k ns Q pc vs (.int x :: ob g t :: st) M := V_put hC ht (by decide) (ci := 11) rfl iw_11 tyX11 tyX11_ok nmX11 (ent_11 ht.1) 18 (by decide) rfl (ty := .int) (by decide +kernel) rfl rfl (Nat.le_of_ble_eq_true rfl) (M' := (up M t 18 x)) (by rw [ent_11 ht.1]; simp [up]) (fun c' h => up_c h) hw hd kk
theorem gfN_11_18 {X : CX} {g : GX} {w : WX} {cc : ByteArray} {nL k ns d : Nat} {own : String} {ret : Option FieldType} {Q : State → Prop} {pc : Nat} {vs : List (Option Value)} {st : List Value} {M : Mm} (hC : Cx X g cc nL own ret d) {t : Nat} (ht : ok w t 11) {index : Nat} {host : String} (hw : Cond.fieldLinkNest own index "SyntaxRepairModel" "edgeCost" "I" host ∈ Tk) (hd : decode cc pc = .ok (.getfield index, 3)) (kk : V X g w nL k ns Q (pc + 3) vs (.int (M t 18) :: st) M) : V X g w nL k ns Q pc vs (ob g t :: st) M := V_getN hC ht (by decide) (ci := 11) rfl iw_11 (ent_11 ht.1) 18 (by decide) rfl hw hd kk
theorem pfN_11_18 {X : CX} {g : GX} {w : WX} {cc : ByteArray} {nL k ns d : Nat} {own : String} {ret : Option FieldType} {Q : State → Prop} {pc : Nat} {vs : List (Option Value)} {st : List Value} {M : Mm} (hC : Cx X g cc nL own ret d) {t : Nat} {x : Int32} (ht : ok w t 11) {index : Nat} {host : String} (hw : Cond.fieldLinkNest own index "SyntaxRepairModel" "edgeCost" "I" host ∈ Tk) (hd : decode cc pc = .ok (.putfield index, 3)) (kk : V X g w nL k ns Q (pc + 3) vs st (up M t 18 x)) : V X g w nL k ns Q pc vs (.int x :: ob g t :: st) M := V_putN hC ht (by decide) (ci := 11) rfl iw_11 tyX11 tyX11_ok nmX11 (ent_11 ht.1) 18 (by decide) rfl (ty := .int) (by decide +kernel) rfl rfl (Nat.le_of_ble_eq_true rfl) (M' := (up M t 18 x)) (by rw [ent_11 ht.1]; simp [up]) (fun c' h => up_c h) hw hd kk
theorem gf_11_19 {X : CX} {g : GX} {w : WX} {cc : ByteArray} {nL k ns d : Nat} {own : String} {ret : Option FieldType} {Q : State → Prop} {pc : Nat} {vs : List (Option Value)} {st : List Value} {M : Mm} (hC : Cx X g cc nL own ret d) {t : Nat} (ht : ok w t 11) {index : Nat} (hw : Cond.fieldLink own index "SyntaxRepairModel" "operations" "[I" ∈ Tk) (hd : decode cc pc = .ok (.getfield index, 3)) (kk : V X g w nL k ns Q (pc + 3) vs (ob g (t + 8) :: st) M) : V X g w nL k ns Q pc vs (ob g t :: st) M := V_get hC ht (by decide) (ci := 11) rfl iw_11 (ent_11 ht.1) 19 (by decide) rfl hw hd kk
theorem gfN_11_19 {X : CX} {g : GX} {w : WX} {cc : ByteArray} {nL k ns d : Nat} {own : String} {ret : Option FieldType} {Q : State → Prop} {pc : Nat} {vs : List (Option Value)} {st : List Value} {M : Mm} (hC : Cx X g cc nL own ret d) {t : Nat} (ht : ok w t 11) {index : Nat} {host : String} (hw : Cond.fieldLinkNest own index "SyntaxRepairModel" "operations" "[I" host ∈ Tk) (hd : decode cc pc = .ok (.getfield index, 3)) (kk : V X g w nL k ns Q (pc + 3) vs (ob g (t + 8) :: st) M) : V X g w nL k ns Q pc vs (ob g t :: st) M := V_getN hC ht (by decide) (ci := 11) rfl iw_11 (ent_11 ht.1) 19 (by decide) rfl hw hd kk
theorem gf_11_20 {X : CX} {g : GX} {w : WX} {cc : ByteArray} {nL k ns d : Nat} {own : String} {ret : Option FieldType} {Q : State → Prop} {pc : Nat} {vs : List (Option Value)} {st : List Value} {M : Mm} (hC : Cx X g cc nL own ret d) {t : Nat} (ht : ok w t 11) {index : Nat} (hw : Cond.fieldLink own index "SyntaxRepairModel" "kinds" "[I" ∈ Tk) (hd : decode cc pc = .ok (.getfield index, 3)) (kk : V X g w nL k ns Q (pc + 3) vs (ob g (t + 9) :: st) M) : V X g w nL k ns Q pc vs (ob g t :: st) M := V_get hC ht (by decide) (ci := 11) rfl iw_11 (ent_11 ht.1) 20 (by decide) rfl hw hd kk
theorem gfN_11_20 {X : CX} {g : GX} {w : WX} {cc : ByteArray} {nL k ns d : Nat} {own : String} {ret : Option FieldType} {Q : State → Prop} {pc : Nat} {vs : List (Option Value)} {st : List Value} {M : Mm} (hC : Cx X g cc nL own ret d) {t : Nat} (ht : ok w t 11) {index : Nat} {host : String} (hw : Cond.fieldLinkNest own index "SyntaxRepairModel" "kinds" "[I" host ∈ Tk) (hd : decode cc pc = .ok (.getfield index, 3)) (kk : V X g w nL k ns Q (pc + 3) vs (ob g (t + 9) :: st) M) : V X g w nL k ns Q pc vs (ob g t :: st) M := V_getN hC ht (by decide) (ci := 11) rfl iw_11 (ent_11 ht.1) 20 (by decide) rfl hw hd kk
theorem gf_11_21 {X : CX} {g : GX} {w : WX} {cc : ByteArray} {nL k ns d : Nat} {own : String} {ret : Option FieldType} {Q : State → Prop} {pc : Nat} {vs : List (Option Value)} {st : List Value} {M : Mm} (hC : Cx X g cc nL own ret d) {t : Nat} (ht : ok w t 11) {index : Nat} (hw : Cond.fieldLink own index "SyntaxRepairModel" "scriptLength" "I" ∈ Tk) (hd : decode cc pc = .ok (.getfield index, 3)) (kk : V X g w nL k ns Q (pc + 3) vs (.int (M t 21) :: st) M) : V X g w nL k ns Q pc vs (ob g t :: st) M := V_get hC ht (by decide) (ci := 11) rfl iw_11 (ent_11 ht.1) 21 (by decide) rfl hw hd kk
theorem pf_11_21 {X : CX} {g : GX} {w : WX} {cc : ByteArray} {nL k ns d : Nat} {own : String} {ret : Option FieldType} {Q : State → Prop} {pc : Nat} {vs : List (Option Value)} {st : List Value} {M : Mm} (hC : Cx X g cc nL own ret d) {t : Nat} {x : Int32} (ht : ok w t 11) {index : Nat} (hw : Cond.fieldLink own index "SyntaxRepairModel" "scriptLength" "I" ∈ Tk) (hd : decode cc pc = .ok (.putfield index, 3)) (kk : V X g w nL k ns Q (pc + 3) vs st (up M t 21 x)) : V X g w nL k ns Q pc vs (.int x :: ob g t :: st) M := V_put hC ht (by decide) (ci := 11) rfl iw_11 tyX11 tyX11_ok nmX11 (ent_11 ht.1) 21 (by decide) rfl (ty := .int) (by decide +kernel) rfl rfl (Nat.le_of_ble_eq_true rfl) (M' := (up M t 21 x)) (by rw [ent_11 ht.1]; simp [up]) (fun c' h => up_c h) hw hd kk
theorem gfN_11_21 {X : CX} {g : GX} {w : WX} {cc : ByteArray} {nL k ns d : Nat} {own : String} {ret : Option FieldType} {Q : State → Prop} {pc : Nat} {vs : List (Option Value)} {st : List Value} {M : Mm} (hC : Cx X g cc nL own ret d) {t : Nat} (ht : ok w t 11) {index : Nat} {host : String} (hw : Cond.fieldLinkNest own index "SyntaxRepairModel" "scriptLength" "I" host ∈ Tk) (hd : decode cc pc = .ok (.getfield index, 3)) (kk : V X g w nL k ns Q (pc + 3) vs (.int (M t 21) :: st) M) : V X g w nL k ns Q pc vs (ob g t :: st) M := V_getN hC ht (by decide) (ci := 11) rfl iw_11 (ent_11 ht.1) 21 (by decide) rfl hw hd kk
theorem pfN_11_21 {X : CX} {g : GX} {w : WX} {cc : ByteArray} {nL k ns d : Nat} {own : String} {ret : Option FieldType} {Q : State → Prop} {pc : Nat} {vs : List (Option Value)} {st : List Value} {M : Mm} (hC : Cx X g cc nL own ret d) {t : Nat} {x : Int32} (ht : ok w t 11) {index : Nat} {host : String} (hw : Cond.fieldLinkNest own index "SyntaxRepairModel" "scriptLength" "I" host ∈ Tk) (hd : decode cc pc = .ok (.putfield index, 3)) (kk : V X g w nL k ns Q (pc + 3) vs st (up M t 21 x)) : V X g w nL k ns Q pc vs (.int x :: ob g t :: st) M := V_putN hC ht (by decide) (ci := 11) rfl iw_11 tyX11 tyX11_ok nmX11 (ent_11 ht.1) 21 (by decide) rfl (ty := .int) (by decide +kernel) rfl rfl (Nat.le_of_ble_eq_true rfl) (M' := (up M t 21 x)) (by rw [ent_11 ht.1]; simp [up]) (fun c' h => up_c h) hw hd kk
theorem gf_11_22 {X : CX} {g : GX} {w : WX} {cc : ByteArray} {nL k ns d : Nat} {own : String} {ret : Option FieldType} {Q : State → Prop} {pc : Nat} {vs : List (Option Value)} {st : List Value} {M : Mm} (hC : Cx X g cc nL own ret d) {t : Nat} (ht : ok w t 11) {index : Nat} (hw : Cond.fieldLink own index "SyntaxRepairModel" "left" "I" ∈ Tk) (hd : decode cc pc = .ok (.getfield index, 3)) (kk : V X g w nL k ns Q (pc + 3) vs (.int (M t 22) :: st) M) : V X g w nL k ns Q pc vs (ob g t :: st) M := V_get hC ht (by decide) (ci := 11) rfl iw_11 (ent_11 ht.1) 22 (by decide) rfl hw hd kk
theorem pf_11_22 {X : CX} {g : GX} {w : WX} {cc : ByteArray} {nL k ns d : Nat} {own : String} {ret : Option FieldType} {Q : State → Prop} {pc : Nat} {vs : List (Option Value)} {st : List Value} {M : Mm} (hC : Cx X g cc nL own ret d) {t : Nat} {x : Int32} (ht : ok w t 11) {index : Nat} (hw : Cond.fieldLink own index "SyntaxRepairModel" "left" "I" ∈ Tk) (hd : decode cc pc = .ok (.putfield index, 3)) (kk : V X g w nL k ns Q (pc + 3) vs st (up M t 22 x)) : V X g w nL k ns Q pc vs (.int x :: ob g t :: st) M := V_put hC ht (by decide) (ci := 11) rfl iw_11 tyX11 tyX11_ok nmX11 (ent_11 ht.1) 22 (by decide) rfl (ty := .int) (by decide +kernel) rfl rfl (Nat.le_of_ble_eq_true rfl) (M' := (up M t 22 x)) (by rw [ent_11 ht.1]; simp [up]) (fun c' h => up_c h) hw hd kk
theorem gfN_11_22 {X : CX} {g : GX} {w : WX} {cc : ByteArray} {nL k ns d : Nat} {own : String} {ret : Option FieldType} {Q : State → Prop} {pc : Nat} {vs : List (Option Value)} {st : List Value} {M : Mm} (hC : Cx X g cc nL own ret d) {t : Nat} (ht : ok w t 11) {index : Nat} {host : String} (hw : Cond.fieldLinkNest own index "SyntaxRepairModel" "left" "I" host ∈ Tk) (hd : decode cc pc = .ok (.getfield index, 3)) (kk : V X g w nL k ns Q (pc + 3) vs (.int (M t 22) :: st) M) : V X g w nL k ns Q pc vs (ob g t :: st) M := V_getN hC ht (by decide) (ci := 11) rfl iw_11 (ent_11 ht.1) 22 (by decide) rfl hw hd kk
theorem pfN_11_22 {X : CX} {g : GX} {w : WX} {cc : ByteArray} {nL k ns d : Nat} {own : String} {ret : Option FieldType} {Q : State → Prop} {pc : Nat} {vs : List (Option Value)} {st : List Value} {M : Mm} (hC : Cx X g cc nL own ret d) {t : Nat} {x : Int32} (ht : ok w t 11) {index : Nat} {host : String} (hw : Cond.fieldLinkNest own index "SyntaxRepairModel" "left" "I" host ∈ Tk) (hd : decode cc pc = .ok (.putfield index, 3)) (kk : V X g w nL k ns Q (pc + 3) vs st (up M t 22 x)) : V X g w nL k ns Q pc vs (.int x :: ob g t :: st) M := V_putN hC ht (by decide) (ci := 11) rfl iw_11 tyX11 tyX11_ok nmX11 (ent_11 ht.1) 22 (by decide) rfl (ty := .int) (by decide +kernel) rfl rfl (Nat.le_of_ble_eq_true rfl) (M' := (up M t 22 x)) (by rw [ent_11 ht.1]; simp [up]) (fun c' h => up_c h) hw hd kk
theorem gf_11_23 {X : CX} {g : GX} {w : WX} {cc : ByteArray} {nL k ns d : Nat} {own : String} {ret : Option FieldType} {Q : State → Prop} {pc : Nat} {vs : List (Option Value)} {st : List Value} {M : Mm} (hC : Cx X g cc nL own ret d) {t : Nat} (ht : ok w t 11) {index : Nat} (hw : Cond.fieldLink own index "SyntaxRepairModel" "local" "[I" ∈ Tk) (hd : decode cc pc = .ok (.getfield index, 3)) (kk : V X g w nL k ns Q (pc + 3) vs (ob g (t + 10) :: st) M) : V X g w nL k ns Q pc vs (ob g t :: st) M := V_get hC ht (by decide) (ci := 11) rfl iw_11 (ent_11 ht.1) 23 (by decide) rfl hw hd kk
theorem gfN_11_23 {X : CX} {g : GX} {w : WX} {cc : ByteArray} {nL k ns d : Nat} {own : String} {ret : Option FieldType} {Q : State → Prop} {pc : Nat} {vs : List (Option Value)} {st : List Value} {M : Mm} (hC : Cx X g cc nL own ret d) {t : Nat} (ht : ok w t 11) {index : Nat} {host : String} (hw : Cond.fieldLinkNest own index "SyntaxRepairModel" "local" "[I" host ∈ Tk) (hd : decode cc pc = .ok (.getfield index, 3)) (kk : V X g w nL k ns Q (pc + 3) vs (ob g (t + 10) :: st) M) : V X g w nL k ns Q pc vs (ob g t :: st) M := V_getN hC ht (by decide) (ci := 11) rfl iw_11 (ent_11 ht.1) 23 (by decide) rfl hw hd kk
end WORDS
end
section
/-! the tables' words that the walks use -/
theorem tw_min : Cond.code Lib.Math.min.name Lib.Math.min.code 2 (some .int) ∈ Tk := tk_at 467 (by decide +kernel) rfl
theorem mw_X10_put : MS yX10_put cX10_put 3 (none) 3 := ⟨⟨tk_at 76 (by decide +kernel) rfl, tk_at 1 (by decide +kernel) rfl, ⟨by decide +kernel, by decide +kernel⟩, by decide +kernel, by decide⟩, tk_at 75 (by decide +kernel) rfl⟩
theorem mw_X3_add : MI yX3_add cX3_add 2 (none) 1 := ⟨⟨tk_at 297 (by decide +kernel) rfl, tk_at 7 (by decide +kernel) rfl, ⟨by decide +kernel, by decide +kernel⟩, by decide +kernel, by decide⟩, tk_at 295 (by decide +kernel) rfl, tk_at 296 (by decide +kernel) rfl⟩
theorem mw_X10_appendCharacter : MI yX10_appendCharacter cX10_appendCharacter 2 (some .int) 1 := ⟨⟨tk_at 293 (by decide +kernel) rfl, tk_at 1 (by decide +kernel) rfl, ⟨by decide +kernel, by decide +kernel⟩, by decide +kernel, by decide⟩, tk_at 291 (by decide +kernel) rfl, tk_at 292 (by decide +kernel) rfl⟩
theorem mw_X10_clearText : MI yX10_clearText cX10_clearText 2 (some .int) 0 := ⟨⟨tk_at 302 (by decide +kernel) rfl, tk_at 1 (by decide +kernel) rfl, ⟨by decide +kernel, by decide +kernel⟩, by decide +kernel, by decide⟩, tk_at 300 (by decide +kernel) rfl, tk_at 301 (by decide +kernel) rfl⟩
theorem mw_X10_at : MS yX10_at cX10_at 2 (some .int) 2 := ⟨⟨tk_at 317 (by decide +kernel) rfl, tk_at 1 (by decide +kernel) rfl, ⟨by decide +kernel, by decide +kernel⟩, by decide +kernel, by decide⟩, tk_at 316 (by decide +kernel) rfl⟩
theorem mw_X3_isLetter : MS yX3_isLetter cX3_isLetter 1 (some .boolean) 1 := ⟨⟨tk_at 320 (by decide +kernel) rfl, tk_at 7 (by decide +kernel) rfl, ⟨by decide +kernel, by decide +kernel⟩, by decide +kernel, by decide⟩, tk_at 319 (by decide +kernel) rfl⟩
theorem mw_X3_nextLexeme : MI yX3_nextLexeme cX3_nextLexeme 1 (none) 0 := ⟨⟨tk_at 314 (by decide +kernel) rfl, tk_at 7 (by decide +kernel) rfl, ⟨by decide +kernel, by decide +kernel⟩, by decide +kernel, by decide⟩, tk_at 313 (by decide +kernel) rfl, tk_sel 0 (by decide +kernel) rfl⟩
theorem mw_X3_takeWord : MI yX3_takeWord cX3_takeWord 3 (some .boolean) 1 := ⟨⟨tk_at 329 (by decide +kernel) rfl, tk_at 7 (by decide +kernel) rfl, ⟨by decide +kernel, by decide +kernel⟩, by decide +kernel, by decide⟩, tk_at 328 (by decide +kernel) rfl, tk_sel 2 (by decide +kernel) rfl⟩
theorem mw_X3_takeDigit : MI yX3_takeDigit cX3_takeDigit 4 (some .int) 2 := ⟨⟨tk_at 381 (by decide +kernel) rfl, tk_at 7 (by decide +kernel) rfl, ⟨by decide +kernel, by decide +kernel⟩, by decide +kernel, by decide⟩, tk_at 380 (by decide +kernel) rfl, tk_sel 3 (by decide +kernel) rfl⟩
theorem mw_X1_change : MI yX1_change cX1_change 4 (none) 3 := ⟨⟨tk_at 73 (by decide +kernel) rfl, tk_at 4 (by decide +kernel) rfl, ⟨by decide +kernel, by decide +kernel⟩, by decide +kernel, by decide⟩, tk_at 71 (by decide +kernel) rfl, tk_at 72 (by decide +kernel) rfl⟩
theorem mw_X10_isKind : MS yX10_isKind cX10_isKind 1 (some .boolean) 1 := ⟨⟨tk_at 414 (by decide +kernel) rfl, tk_at 1 (by decide +kernel) rfl, ⟨by decide +kernel, by decide +kernel⟩, by decide +kernel, by decide⟩, tk_at 413 (by decide +kernel) rfl⟩
theorem mw_X3_kindHere : MI yX3_kindHere cX3_kindHere 2 (some .int) 0 := ⟨⟨tk_at 411 (by decide +kernel) rfl, tk_at 7 (by decide +kernel) rfl, ⟨by decide +kernel, by decide +kernel⟩, by decide +kernel, by decide⟩, tk_at 410 (by decide +kernel) rfl, tk_sel 7 (by decide +kernel) rfl⟩
theorem mw_X3_readCosts : MI yX3_readCosts cX3_readCosts 4 (some .boolean) 0 := ⟨⟨tk_at 430 (by decide +kernel) rfl, tk_at 7 (by decide +kernel) rfl, ⟨by decide +kernel, by decide +kernel⟩, by decide +kernel, by decide⟩, tk_at 429 (by decide +kernel) rfl, tk_sel 8 (by decide +kernel) rfl⟩
theorem mw_X0_addRule : MI yX0_addRule cX0_addRule 7 (none) 5 := ⟨⟨tk_at 423 (by decide +kernel) rfl, tk_at 3 (by decide +kernel) rfl, ⟨by decide +kernel, by decide +kernel⟩, by decide +kernel, by decide⟩, tk_at 421 (by decide +kernel) rfl, tk_at 422 (by decide +kernel) rfl⟩
theorem mw_X0_hasRule : MI yX0_hasRule cX0_hasRule 3 (some .boolean) 2 := ⟨⟨tk_at 418 (by decide +kernel) rfl, tk_at 3 (by decide +kernel) rfl, ⟨by decide +kernel, by decide +kernel⟩, by decide +kernel, by decide⟩, tk_at 416 (by decide +kernel) rfl, tk_at 417 (by decide +kernel) rfl⟩
theorem mw_X3_readRule : MI yX3_readRule cX3_readRule 6 (some .boolean) 1 := ⟨⟨tk_at 407 (by decide +kernel) rfl, tk_at 7 (by decide +kernel) rfl, ⟨by decide +kernel, by decide +kernel⟩, by decide +kernel, by decide⟩, tk_at 406 (by decide +kernel) rfl, tk_sel 6 (by decide +kernel) rfl⟩
theorem mw_X0_setAccepting : MI yX0_setAccepting cX0_setAccepting 2 (none) 1 := ⟨⟨tk_at 266 (by decide +kernel) rfl, tk_at 3 (by decide +kernel) rfl, ⟨by decide +kernel, by decide +kernel⟩, by decide +kernel, by decide⟩, tk_at 264 (by decide +kernel) rfl, tk_at 265 (by decide +kernel) rfl⟩
theorem mw_X3_readAccept : MI yX3_readAccept cX3_readAccept 2 (some .boolean) 0 := ⟨⟨tk_at 401 (by decide +kernel) rfl, tk_at 7 (by decide +kernel) rfl, ⟨by decide +kernel, by decide +kernel⟩, by decide +kernel, by decide⟩, tk_at 400 (by decide +kernel) rfl, tk_sel 5 (by decide +kernel) rfl⟩
theorem mw_X3_readStatement : MI yX3_readStatement cX3_readStatement 2 (some .boolean) 0 := ⟨⟨tk_at 396 (by decide +kernel) rfl, tk_at 7 (by decide +kernel) rfl, ⟨by decide +kernel, by decide +kernel⟩, by decide +kernel, by decide⟩, tk_at 395 (by decide +kernel) rfl, tk_sel 4 (by decide +kernel) rfl⟩
theorem mw_X10_fill : MS yX10_fill cX10_fill 3 (none) 2 := ⟨⟨tk_at 69 (by decide +kernel) rfl, tk_at 1 (by decide +kernel) rfl, ⟨by decide +kernel, by decide +kernel⟩, by decide +kernel, by decide⟩, tk_at 68 (by decide +kernel) rfl⟩
theorem mw_X0_clear : MI yX0_clear cX0_clear 2 (none) 1 := ⟨⟨tk_at 389 (by decide +kernel) rfl, tk_at 3 (by decide +kernel) rfl, ⟨by decide +kernel, by decide +kernel⟩, by decide +kernel, by decide⟩, tk_at 387 (by decide +kernel) rfl, tk_at 388 (by decide +kernel) rfl⟩
theorem mw_X1_setAllToOne : MI yX1_setAllToOne cX1_setAllToOne 2 (none) 0 := ⟨⟨tk_at 66 (by decide +kernel) rfl, tk_at 4 (by decide +kernel) rfl, ⟨by decide +kernel, by decide +kernel⟩, by decide +kernel, by decide⟩, tk_at 64 (by decide +kernel) rfl, tk_at 65 (by decide +kernel) rfl⟩
theorem mw_X8_clear : MI yX8_clear cX8_clear 2 (none) 1 := ⟨⟨tk_at 385 (by decide +kernel) rfl, tk_at 2 (by decide +kernel) rfl, ⟨by decide +kernel, by decide +kernel⟩, by decide +kernel, by decide⟩, tk_at 383 (by decide +kernel) rfl, tk_at 384 (by decide +kernel) rfl⟩
theorem mw_X3_readStates : MI yX3_readStates cX3_readStates 2 (some .boolean) 0 := ⟨⟨tk_at 324 (by decide +kernel) rfl, tk_at 7 (by decide +kernel) rfl, ⟨by decide +kernel, by decide +kernel⟩, by decide +kernel, by decide⟩, tk_at 323 (by decide +kernel) rfl, tk_sel 1 (by decide +kernel) rfl⟩
theorem mw_X3_read : MI yX3_read cX3_read 2 (some .int) 0 := ⟨⟨tk_at 310 (by decide +kernel) rfl, tk_at 7 (by decide +kernel) rfl, ⟨by decide +kernel, by decide +kernel⟩, by decide +kernel, by decide⟩, tk_at 308 (by decide +kernel) rfl, tk_at 309 (by decide +kernel) rfl⟩
theorem mw_X4_slotAt : MI yX4_slotAt cX4_slotAt 2 (some (.object "SyntaxRepair$Situation")) 1 := ⟨⟨tk_at 443 (by decide +kernel) rfl, tk_at 6 (by decide +kernel) rfl, ⟨by decide +kernel, by decide +kernel⟩, by decide +kernel, by decide⟩, tk_at 442 (by decide +kernel) rfl, tk_sel 10 (by decide +kernel) rfl⟩
theorem mw_X10_copy : MS yX10_copy cX10_copy 3 (none) 2 := ⟨⟨tk_at 454 (by decide +kernel) rfl, tk_at 1 (by decide +kernel) rfl, ⟨by decide +kernel, by decide +kernel⟩, by decide +kernel, by decide⟩, tk_at 453 (by decide +kernel) rfl⟩
theorem mw_X0_copyFrom : MI yX0_copyFrom cX0_copyFrom 2 (none) 1 := ⟨⟨tk_at 451 (by decide +kernel) rfl, tk_at 3 (by decide +kernel) rfl, ⟨by decide +kernel, by decide +kernel⟩, by decide +kernel, by decide⟩, tk_at 449 (by decide +kernel) rfl, tk_at 450 (by decide +kernel) rfl⟩
theorem mw_X1_copyFrom : MI yX1_copyFrom cX1_copyFrom 2 (none) 1 := ⟨⟨tk_at 458 (by decide +kernel) rfl, tk_at 4 (by decide +kernel) rfl, ⟨by decide +kernel, by decide +kernel⟩, by decide +kernel, by decide⟩, tk_at 456 (by decide +kernel) rfl, tk_at 457 (by decide +kernel) rfl⟩
theorem mw_X9_copyFrom : MI yX9_copyFrom cX9_copyFrom 2 (none) 1 := ⟨⟨tk_at 463 (by decide +kernel) rfl, tk_at 5 (by decide +kernel) rfl, ⟨by decide +kernel, by decide +kernel⟩, by decide +kernel, by decide⟩, tk_at 461 (by decide +kernel) rfl, tk_at 462 (by decide +kernel) rfl⟩
theorem mw_X8_copyFrom : MI yX8_copyFrom cX8_copyFrom 2 (none) 1 := ⟨⟨tk_at 447 (by decide +kernel) rfl, tk_at 2 (by decide +kernel) rfl, ⟨by decide +kernel, by decide +kernel⟩, by decide +kernel, by decide⟩, tk_at 445 (by decide +kernel) rfl, tk_at 446 (by decide +kernel) rfl⟩
theorem mw_X4_remember : MI yX4_remember cX4_remember 3 (none) 1 := ⟨⟨tk_at 439 (by decide +kernel) rfl, tk_at 6 (by decide +kernel) rfl, ⟨by decide +kernel, by decide +kernel⟩, by decide +kernel, by decide⟩, tk_at 437 (by decide +kernel) rfl, tk_at 438 (by decide +kernel) rfl⟩
theorem mw_X10_forgetTables : MI yX10_forgetTables cX10_forgetTables 1 (none) 0 := ⟨⟨tk_at 471 (by decide +kernel) rfl, tk_at 1 (by decide +kernel) rfl, ⟨by decide +kernel, by decide +kernel⟩, by decide +kernel, by decide⟩, tk_at 470 (by decide +kernel) rfl, tk_sel 11 (by decide +kernel) rfl⟩
theorem mw_X10_beginEdit : MI yX10_beginEdit cX10_beginEdit 1 (none) 0 := ⟨⟨tk_at 435 (by decide +kernel) rfl, tk_at 1 (by decide +kernel) rfl, ⟨by decide +kernel, by decide +kernel⟩, by decide +kernel, by decide⟩, tk_at 434 (by decide +kernel) rfl, tk_sel 9 (by decide +kernel) rfl⟩
theorem mw_X10_loadGrammar : MI yX10_loadGrammar cX10_loadGrammar 2 (some .int) 0 := ⟨⟨tk_at 306 (by decide +kernel) rfl, tk_at 1 (by decide +kernel) rfl, ⟨by decide +kernel, by decide +kernel⟩, by decide +kernel, by decide⟩, tk_at 304 (by decide +kernel) rfl, tk_at 305 (by decide +kernel) rfl⟩
theorem mw_X9_add : MI yX9_add cX9_add 4 (none) 2 := ⟨⟨tk_at 486 (by decide +kernel) rfl, tk_at 5 (by decide +kernel) rfl, ⟨by decide +kernel, by decide +kernel⟩, by decide +kernel, by decide⟩, tk_at 484 (by decide +kernel) rfl, tk_at 485 (by decide +kernel) rfl⟩
theorem mw_X10_addToken : MI yX10_addToken cX10_addToken 3 (some .int) 2 := ⟨⟨tk_at 481 (by decide +kernel) rfl, tk_at 1 (by decide +kernel) rfl, ⟨by decide +kernel, by decide +kernel⟩, by decide +kernel, by decide⟩, tk_at 480 (by decide +kernel) rfl, tk_sel 12 (by decide +kernel) rfl⟩
theorem mw_X10_appendToken : MI yX10_appendToken cX10_appendToken 2 (some .int) 1 := ⟨⟨tk_at 477 (by decide +kernel) rfl, tk_at 1 (by decide +kernel) rfl, ⟨by decide +kernel, by decide +kernel⟩, by decide +kernel, by decide⟩, tk_at 475 (by decide +kernel) rfl, tk_at 476 (by decide +kernel) rfl⟩
theorem mw_X10_insertToken : MI yX10_insertToken cX10_insertToken 3 (some .int) 2 := ⟨⟨tk_at 492 (by decide +kernel) rfl, tk_at 1 (by decide +kernel) rfl, ⟨by decide +kernel, by decide +kernel⟩, by decide +kernel, by decide⟩, tk_at 490 (by decide +kernel) rfl, tk_at 491 (by decide +kernel) rfl⟩
theorem mw_X10_isToken : MI yX10_isToken cX10_isToken 2 (some .boolean) 1 := ⟨⟨tk_at 500 (by decide +kernel) rfl, tk_at 1 (by decide +kernel) rfl, ⟨by decide +kernel, by decide +kernel⟩, by decide +kernel, by decide⟩, tk_at 499 (by decide +kernel) rfl, tk_sel 13 (by decide +kernel) rfl⟩
theorem mw_X9_kindAt : MI yX9_kindAt cX9_kindAt 2 (some .int) 1 := ⟨⟨tk_at 508 (by decide +kernel) rfl, tk_at 5 (by decide +kernel) rfl, ⟨by decide +kernel, by decide +kernel⟩, by decide +kernel, by decide⟩, tk_at 506 (by decide +kernel) rfl, tk_at 507 (by decide +kernel) rfl⟩
theorem mw_X9_remove : MI yX9_remove cX9_remove 4 (some .int) 1 := ⟨⟨tk_at 504 (by decide +kernel) rfl, tk_at 5 (by decide +kernel) rfl, ⟨by decide +kernel, by decide +kernel⟩, by decide +kernel, by decide⟩, tk_at 502 (by decide +kernel) rfl, tk_at 503 (by decide +kernel) rfl⟩
theorem mw_X10_removeToken : MI yX10_removeToken cX10_removeToken 2 (some .int) 1 := ⟨⟨tk_at 496 (by decide +kernel) rfl, tk_at 1 (by decide +kernel) rfl, ⟨by decide +kernel, by decide +kernel⟩, by decide +kernel, by decide⟩, tk_at 494 (by decide +kernel) rfl, tk_at 495 (by decide +kernel) rfl⟩
theorem mw_X10_clearTokens : MI yX10_clearTokens cX10_clearTokens 2 (some .int) 0 := ⟨⟨tk_at 512 (by decide +kernel) rfl, tk_at 1 (by decide +kernel) rfl, ⟨by decide +kernel, by decide +kernel⟩, by decide +kernel, by decide⟩, tk_at 510 (by decide +kernel) rfl, tk_at 511 (by decide +kernel) rfl⟩
theorem mw_X1_of : MI yX1_of cX1_of 3 (some .int) 2 := ⟨⟨tk_at 524 (by decide +kernel) rfl, tk_at 4 (by decide +kernel) rfl, ⟨by decide +kernel, by decide +kernel⟩, by decide +kernel, by decide⟩, tk_at 522 (by decide +kernel) rfl, tk_at 523 (by decide +kernel) rfl⟩
theorem mw_X10_changeCost : MI yX10_changeCost cX10_changeCost 5 (some .int) 3 := ⟨⟨tk_at 520 (by decide +kernel) rfl, tk_at 1 (by decide +kernel) rfl, ⟨by decide +kernel, by decide +kernel⟩, by decide +kernel, by decide⟩, tk_at 519 (by decide +kernel) rfl, tk_sel 14 (by decide +kernel) rfl⟩
theorem mw_X10_setInsertionCost : MI yX10_setInsertionCost cX10_setInsertionCost 3 (some .int) 2 := ⟨⟨tk_at 516 (by decide +kernel) rfl, tk_at 1 (by decide +kernel) rfl, ⟨by decide +kernel, by decide +kernel⟩, by decide +kernel, by decide⟩, tk_at 514 (by decide +kernel) rfl, tk_at 515 (by decide +kernel) rfl⟩
theorem mw_X10_setDeletionCost : MI yX10_setDeletionCost cX10_setDeletionCost 3 (some .int) 2 := ⟨⟨tk_at 530 (by decide +kernel) rfl, tk_at 1 (by decide +kernel) rfl, ⟨by decide +kernel, by decide +kernel⟩, by decide +kernel, by decide⟩, tk_at 528 (by decide +kernel) rfl, tk_at 529 (by decide +kernel) rfl⟩
theorem mw_X10_setReplacementCost : MI yX10_setReplacementCost cX10_setReplacementCost 3 (some .int) 2 := ⟨⟨tk_at 534 (by decide +kernel) rfl, tk_at 1 (by decide +kernel) rfl, ⟨by decide +kernel, by decide +kernel⟩, by decide +kernel, by decide⟩, tk_at 532 (by decide +kernel) rfl, tk_at 533 (by decide +kernel) rfl⟩
theorem mw_X4_recall : MI yX4_recall cX4_recall 3 (none) 1 := ⟨⟨tk_at 542 (by decide +kernel) rfl, tk_at 6 (by decide +kernel) rfl, ⟨by decide +kernel, by decide +kernel⟩, by decide +kernel, by decide⟩, tk_at 540 (by decide +kernel) rfl, tk_at 541 (by decide +kernel) rfl⟩
theorem mw_X10_undo : MI yX10_undo cX10_undo 1 (some .int) 0 := ⟨⟨tk_at 538 (by decide +kernel) rfl, tk_at 1 (by decide +kernel) rfl, ⟨by decide +kernel, by decide +kernel⟩, by decide +kernel, by decide⟩, tk_at 536 (by decide +kernel) rfl, tk_at 537 (by decide +kernel) rfl⟩
theorem mw_X10_stateCount : MI yX10_stateCount cX10_stateCount 1 (some .int) 0 := ⟨⟨tk_at 546 (by decide +kernel) rfl, tk_at 1 (by decide +kernel) rfl, ⟨by decide +kernel, by decide +kernel⟩, by decide +kernel, by decide⟩, tk_at 544 (by decide +kernel) rfl, tk_at 545 (by decide +kernel) rfl⟩
theorem mw_X0_accepts : MI yX0_accepts cX0_accepts 2 (some .boolean) 1 := ⟨⟨tk_at 554 (by decide +kernel) rfl, tk_at 3 (by decide +kernel) rfl, ⟨by decide +kernel, by decide +kernel⟩, by decide +kernel, by decide⟩, tk_at 552 (by decide +kernel) rfl, tk_at 553 (by decide +kernel) rfl⟩
theorem mw_X10_isAccepting : MI yX10_isAccepting cX10_isAccepting 2 (some .int) 1 := ⟨⟨tk_at 550 (by decide +kernel) rfl, tk_at 1 (by decide +kernel) rfl, ⟨by decide +kernel, by decide +kernel⟩, by decide +kernel, by decide⟩, tk_at 548 (by decide +kernel) rfl, tk_at 549 (by decide +kernel) rfl⟩
theorem mw_X0_countRules : MI yX0_countRules cX0_countRules 3 (some .int) 0 := ⟨⟨tk_at 562 (by decide +kernel) rfl, tk_at 3 (by decide +kernel) rfl, ⟨by decide +kernel, by decide +kernel⟩, by decide +kernel, by decide⟩, tk_at 560 (by decide +kernel) rfl, tk_at 561 (by decide +kernel) rfl⟩
theorem mw_X10_ruleCount : MI yX10_ruleCount cX10_ruleCount 1 (some .int) 0 := ⟨⟨tk_at 558 (by decide +kernel) rfl, tk_at 1 (by decide +kernel) rfl, ⟨by decide +kernel, by decide +kernel⟩, by decide +kernel, by decide⟩, tk_at 556 (by decide +kernel) rfl, tk_at 557 (by decide +kernel) rfl⟩
theorem mw_X10_tokenCount : MI yX10_tokenCount cX10_tokenCount 1 (some .int) 0 := ⟨⟨tk_at 566 (by decide +kernel) rfl, tk_at 1 (by decide +kernel) rfl, ⟨by decide +kernel, by decide +kernel⟩, by decide +kernel, by decide⟩, tk_at 564 (by decide +kernel) rfl, tk_at 565 (by decide +kernel) rfl⟩
theorem mw_X10_tokenAt : MI yX10_tokenAt cX10_tokenAt 2 (some .int) 1 := ⟨⟨tk_at 570 (by decide +kernel) rfl, tk_at 1 (by decide +kernel) rfl, ⟨by decide +kernel, by decide +kernel⟩, by decide +kernel, by decide⟩, tk_at 568 (by decide +kernel) rfl, tk_at 569 (by decide +kernel) rfl⟩
theorem mw_X2_toStart : MI yX2_toStart cX2_toStart 1 (none) 0 := ⟨⟨tk_at 583 (by decide +kernel) rfl, tk_at 11 (by decide +kernel) rfl, ⟨by decide +kernel, by decide +kernel⟩, by decide +kernel, by decide⟩, tk_at 581 (by decide +kernel) rfl, tk_at 582 (by decide +kernel) rfl⟩
theorem mw_X0_after : MI yX0_after cX0_after 7 (some .int) 2 := ⟨⟨tk_at 593 (by decide +kernel) rfl, tk_at 3 (by decide +kernel) rfl, ⟨by decide +kernel, by decide +kernel⟩, by decide +kernel, by decide⟩, tk_at 591 (by decide +kernel) rfl, tk_at 592 (by decide +kernel) rfl⟩
theorem mw_X2_run : MI yX2_run cX2_run 6 (none) 2 := ⟨⟨tk_at 587 (by decide +kernel) rfl, tk_at 11 (by decide +kernel) rfl, ⟨by decide +kernel, by decide +kernel⟩, by decide +kernel, by decide⟩, tk_at 585 (by decide +kernel) rfl, tk_at 586 (by decide +kernel) rfl⟩
theorem mw_X0_isFinal : MI yX0_isFinal cX0_isFinal 2 (some .boolean) 1 := ⟨⟨tk_at 602 (by decide +kernel) rfl, tk_at 3 (by decide +kernel) rfl, ⟨by decide +kernel, by decide +kernel⟩, by decide +kernel, by decide⟩, tk_at 600 (by decide +kernel) rfl, tk_at 601 (by decide +kernel) rfl⟩
theorem mw_X2_isDone : MI yX2_isDone cX2_isDone 2 (some .boolean) 1 := ⟨⟨tk_at 598 (by decide +kernel) rfl, tk_at 11 (by decide +kernel) rfl, ⟨by decide +kernel, by decide +kernel⟩, by decide +kernel, by decide⟩, tk_at 596 (by decide +kernel) rfl, tk_at 597 (by decide +kernel) rfl⟩
theorem mw_X10_findError : MI yX10_findError cX10_findError 1 (some .boolean) 0 := ⟨⟨tk_at 579 (by decide +kernel) rfl, tk_at 1 (by decide +kernel) rfl, ⟨by decide +kernel, by decide +kernel⟩, by decide +kernel, by decide⟩, tk_at 578 (by decide +kernel) rfl, tk_sel 15 (by decide +kernel) rfl⟩
theorem mw_X10_errorPosition : MI yX10_errorPosition cX10_errorPosition 1 (some .int) 0 := ⟨⟨tk_at 575 (by decide +kernel) rfl, tk_at 1 (by decide +kernel) rfl, ⟨by decide +kernel, by decide +kernel⟩, by decide +kernel, by decide⟩, tk_at 573 (by decide +kernel) rfl, tk_at 574 (by decide +kernel) rfl⟩
theorem mw_X10_runFirst : MI yX10_runFirst cX10_runFirst 2 (some .int) 1 := ⟨⟨tk_at 610 (by decide +kernel) rfl, tk_at 1 (by decide +kernel) rfl, ⟨by decide +kernel, by decide +kernel⟩, by decide +kernel, by decide⟩, tk_at 609 (by decide +kernel) rfl, tk_sel 16 (by decide +kernel) rfl⟩
theorem mw_X10_stateAfter : MI yX10_stateAfter cX10_stateAfter 3 (some .int) 1 := ⟨⟨tk_at 606 (by decide +kernel) rfl, tk_at 1 (by decide +kernel) rfl, ⟨by decide +kernel, by decide +kernel⟩, by decide +kernel, by decide⟩, tk_at 604 (by decide +kernel) rfl, tk_at 605 (by decide +kernel) rfl⟩
theorem mw_X10_depthOf : MS yX10_depthOf cX10_depthOf 3 (some .int) 1 := ⟨⟨tk_at 617 (by decide +kernel) rfl, tk_at 1 (by decide +kernel) rfl, ⟨by decide +kernel, by decide +kernel⟩, by decide +kernel, by decide⟩, tk_at 616 (by decide +kernel) rfl⟩
theorem mw_X10_depthAfter : MI yX10_depthAfter cX10_depthAfter 3 (some .int) 1 := ⟨⟨tk_at 614 (by decide +kernel) rfl, tk_at 1 (by decide +kernel) rfl, ⟨by decide +kernel, by decide +kernel⟩, by decide +kernel, by decide⟩, tk_at 612 (by decide +kernel) rfl, tk_at 613 (by decide +kernel) rfl⟩
theorem mw_X10_expectedKinds : MI yX10_expectedKinds cX10_expectedKinds 3 (some .int) 0 := ⟨⟨tk_at 621 (by decide +kernel) rfl, tk_at 1 (by decide +kernel) rfl, ⟨by decide +kernel, by decide +kernel⟩, by decide +kernel, by decide⟩, tk_at 619 (by decide +kernel) rfl, tk_at 620 (by decide +kernel) rfl⟩
theorem mw_X5_configurationAt : MI yX5_configurationAt cX5_configurationAt 2 (some .int) 1 := ⟨⟨tk_at 657 (by decide +kernel) rfl, tk_at 9 (by decide +kernel) rfl, ⟨by decide +kernel, by decide +kernel⟩, by decide +kernel, by decide⟩, tk_at 655 (by decide +kernel) rfl, tk_at 656 (by decide +kernel) rfl⟩
theorem mw_X7_store : MI yX7_store cX7_store 5 (none) 4 := ⟨⟨tk_at 652 (by decide +kernel) rfl, tk_at 8 (by decide +kernel) rfl, ⟨by decide +kernel, by decide +kernel⟩, by decide +kernel, by decide⟩, tk_at 651 (by decide +kernel) rfl, tk_sel 19 (by decide +kernel) rfl⟩
theorem mw_X7_offer : MI yX7_offer cX7_offer 4 (none) 2 := ⟨⟨tk_at 681 (by decide +kernel) rfl, tk_at 8 (by decide +kernel) rfl, ⟨by decide +kernel, by decide +kernel⟩, by decide +kernel, by decide⟩, tk_at 680 (by decide +kernel) rfl, tk_sel 23 (by decide +kernel) rfl⟩
theorem mw_X5_after : MI yX5_after cX5_after 4 (some .int) 2 := ⟨⟨tk_at 672 (by decide +kernel) rfl, tk_at 9 (by decide +kernel) rfl, ⟨by decide +kernel, by decide +kernel⟩, by decide +kernel, by decide⟩, tk_at 670 (by decide +kernel) rfl, tk_at 671 (by decide +kernel) rfl⟩
theorem mw_X7_offerConsumption : MI yX7_offerConsumption cX7_offerConsumption 6 (none) 3 := ⟨⟨tk_at 676 (by decide +kernel) rfl, tk_at 8 (by decide +kernel) rfl, ⟨by decide +kernel, by decide +kernel⟩, by decide +kernel, by decide⟩, tk_at 675 (by decide +kernel) rfl, tk_sel 22 (by decide +kernel) rfl⟩
theorem mw_X7_isEnd : MI yX7_isEnd cX7_isEnd 7 (some .boolean) 2 := ⟨⟨tk_at 665 (by decide +kernel) rfl, tk_at 8 (by decide +kernel) rfl, ⟨by decide +kernel, by decide +kernel⟩, by decide +kernel, by decide⟩, tk_at 664 (by decide +kernel) rfl, tk_sel 21 (by decide +kernel) rfl⟩
theorem mw_X7_refresh : MI yX7_refresh cX7_refresh 7 (some .boolean) 2 := ⟨⟨tk_at 661 (by decide +kernel) rfl, tk_at 8 (by decide +kernel) rfl, ⟨by decide +kernel, by decide +kernel⟩, by decide +kernel, by decide⟩, tk_at 660 (by decide +kernel) rfl, tk_sel 20 (by decide +kernel) rfl⟩
theorem mw_X7_settleLevel : MI yX7_settleLevel cX7_settleLevel 5 (none) 1 := ⟨⟨tk_at 647 (by decide +kernel) rfl, tk_at 8 (by decide +kernel) rfl, ⟨by decide +kernel, by decide +kernel⟩, by decide +kernel, by decide⟩, tk_at 646 (by decide +kernel) rfl, tk_sel 18 (by decide +kernel) rfl⟩
theorem mw_X5_add : MI yX5_add cX5_add 2 (none) 1 := ⟨⟨tk_at 640 (by decide +kernel) rfl, tk_at 9 (by decide +kernel) rfl, ⟨by decide +kernel, by decide +kernel⟩, by decide +kernel, by decide⟩, tk_at 639 (by decide +kernel) rfl, tk_sel 17 (by decide +kernel) rfl⟩
theorem mw_X5_explore : MI yX5_explore cX5_explore 6 (none) 1 := ⟨⟨tk_at 635 (by decide +kernel) rfl, tk_at 9 (by decide +kernel) rfl, ⟨by decide +kernel, by decide +kernel⟩, by decide +kernel, by decide⟩, tk_at 633 (by decide +kernel) rfl, tk_at 634 (by decide +kernel) rfl⟩
theorem mw_X7_solve : MI yX7_solve cX7_solve 4 (none) 2 := ⟨⟨tk_at 630 (by decide +kernel) rfl, tk_at 8 (by decide +kernel) rfl, ⟨by decide +kernel, by decide +kernel⟩, by decide +kernel, by decide⟩, tk_at 628 (by decide +kernel) rfl, tk_at 629 (by decide +kernel) rfl⟩
theorem mw_X7_leastFrom : MI yX7_leastFrom cX7_leastFrom 3 (some .int) 2 := ⟨⟨tk_at 686 (by decide +kernel) rfl, tk_at 8 (by decide +kernel) rfl, ⟨by decide +kernel, by decide +kernel⟩, by decide +kernel, by decide⟩, tk_at 684 (by decide +kernel) rfl, tk_at 685 (by decide +kernel) rfl⟩
theorem mw_X10_costOrNone : MS yX10_costOrNone cX10_costOrNone 1 (some .int) 1 := ⟨⟨tk_at 689 (by decide +kernel) rfl, tk_at 1 (by decide +kernel) rfl, ⟨by decide +kernel, by decide +kernel⟩, by decide +kernel, by decide⟩, tk_at 688 (by decide +kernel) rfl⟩
theorem mw_X10_repairCost : MI yX10_repairCost cX10_repairCost 1 (some .int) 0 := ⟨⟨tk_at 626 (by decide +kernel) rfl, tk_at 1 (by decide +kernel) rfl, ⟨by decide +kernel, by decide +kernel⟩, by decide +kernel, by decide⟩, tk_at 624 (by decide +kernel) rfl, tk_at 625 (by decide +kernel) rfl⟩
theorem mw_X7_waysFrom : MI yX7_waysFrom cX7_waysFrom 3 (some .int) 2 := ⟨⟨tk_at 698 (by decide +kernel) rfl, tk_at 8 (by decide +kernel) rfl, ⟨by decide +kernel, by decide +kernel⟩, by decide +kernel, by decide⟩, tk_at 696 (by decide +kernel) rfl, tk_at 697 (by decide +kernel) rfl⟩
theorem mw_X10_repairCount : MI yX10_repairCount cX10_repairCount 1 (some .int) 0 := ⟨⟨tk_at 694 (by decide +kernel) rfl, tk_at 1 (by decide +kernel) rfl, ⟨by decide +kernel, by decide +kernel⟩, by decide +kernel, by decide⟩, tk_at 692 (by decide +kernel) rfl, tk_at 693 (by decide +kernel) rfl⟩
theorem mw_X7_secondFrom : MI yX7_secondFrom cX7_secondFrom 3 (some .int) 2 := ⟨⟨tk_at 706 (by decide +kernel) rfl, tk_at 8 (by decide +kernel) rfl, ⟨by decide +kernel, by decide +kernel⟩, by decide +kernel, by decide⟩, tk_at 704 (by decide +kernel) rfl, tk_at 705 (by decide +kernel) rfl⟩
theorem mw_X10_secondCost : MI yX10_secondCost cX10_secondCost 1 (some .int) 0 := ⟨⟨tk_at 702 (by decide +kernel) rfl, tk_at 1 (by decide +kernel) rfl, ⟨by decide +kernel, by decide +kernel⟩, by decide +kernel, by decide⟩, tk_at 700 (by decide +kernel) rfl, tk_at 701 (by decide +kernel) rfl⟩
theorem mw_X7_kindOf : MS yX7_kindOf cX7_kindOf 3 (some .int) 2 := ⟨⟨tk_at 736 (by decide +kernel) rfl, tk_at 8 (by decide +kernel) rfl, ⟨by decide +kernel, by decide +kernel⟩, by decide +kernel, by decide⟩, tk_at 735 (by decide +kernel) rfl⟩
theorem mw_X7_targetOf : MI yX7_targetOf cX7_targetOf 9 (some .int) 3 := ⟨⟨tk_at 731 (by decide +kernel) rfl, tk_at 8 (by decide +kernel) rfl, ⟨by decide +kernel, by decide +kernel⟩, by decide +kernel, by decide⟩, tk_at 730 (by decide +kernel) rfl, tk_sel 27 (by decide +kernel) rfl⟩
theorem mw_X7_priceOf : MI yX7_priceOf cX7_priceOf 3 (some .int) 2 := ⟨⟨tk_at 742 (by decide +kernel) rfl, tk_at 8 (by decide +kernel) rfl, ⟨by decide +kernel, by decide +kernel⟩, by decide +kernel, by decide⟩, tk_at 741 (by decide +kernel) rfl, tk_sel 28 (by decide +kernel) rfl⟩
theorem mw_X7_firstMove : MI yX7_firstMove cX7_firstMove 1 (some .int) 0 := ⟨⟨tk_at 727 (by decide +kernel) rfl, tk_at 8 (by decide +kernel) rfl, ⟨by decide +kernel, by decide +kernel⟩, by decide +kernel, by decide⟩, tk_at 726 (by decide +kernel) rfl, tk_sel 26 (by decide +kernel) rfl⟩
theorem mw_X7_pickMove : MI yX7_pickMove cX7_pickMove 8 (some .int) 2 := ⟨⟨tk_at 722 (by decide +kernel) rfl, tk_at 8 (by decide +kernel) rfl, ⟨by decide +kernel, by decide +kernel⟩, by decide +kernel, by decide⟩, tk_at 721 (by decide +kernel) rfl, tk_sel 25 (by decide +kernel) rfl⟩
theorem mw_X6_add : MI yX6_add cX6_add 3 (none) 2 := ⟨⟨tk_at 746 (by decide +kernel) rfl, tk_at 10 (by decide +kernel) rfl, ⟨by decide +kernel, by decide +kernel⟩, by decide +kernel, by decide⟩, tk_at 744 (by decide +kernel) rfl, tk_at 745 (by decide +kernel) rfl⟩
theorem mw_X7_trace : MI yX7_trace cX7_trace 8 (none) 3 := ⟨⟨tk_at 718 (by decide +kernel) rfl, tk_at 8 (by decide +kernel) rfl, ⟨by decide +kernel, by decide +kernel⟩, by decide +kernel, by decide⟩, tk_at 716 (by decide +kernel) rfl, tk_at 717 (by decide +kernel) rfl⟩
theorem mw_X10_traceBest : MI yX10_traceBest cX10_traceBest 2 (some .int) 1 := ⟨⟨tk_at 714 (by decide +kernel) rfl, tk_at 1 (by decide +kernel) rfl, ⟨by decide +kernel, by decide +kernel⟩, by decide +kernel, by decide⟩, tk_at 713 (by decide +kernel) rfl, tk_sel 24 (by decide +kernel) rfl⟩
theorem mw_X10_repairLength : MI yX10_repairLength cX10_repairLength 3 (some .int) 1 := ⟨⟨tk_at 710 (by decide +kernel) rfl, tk_at 1 (by decide +kernel) rfl, ⟨by decide +kernel, by decide +kernel⟩, by decide +kernel, by decide⟩, tk_at 708 (by decide +kernel) rfl, tk_at 709 (by decide +kernel) rfl⟩
theorem mw_X6_operationAt : MI yX6_operationAt cX6_operationAt 2 (some .int) 1 := ⟨⟨tk_at 755 (by decide +kernel) rfl, tk_at 10 (by decide +kernel) rfl, ⟨by decide +kernel, by decide +kernel⟩, by decide +kernel, by decide⟩, tk_at 753 (by decide +kernel) rfl, tk_at 754 (by decide +kernel) rfl⟩
theorem mw_X10_repairOperation : MI yX10_repairOperation cX10_repairOperation 4 (some .int) 2 := ⟨⟨tk_at 751 (by decide +kernel) rfl, tk_at 1 (by decide +kernel) rfl, ⟨by decide +kernel, by decide +kernel⟩, by decide +kernel, by decide⟩, tk_at 749 (by decide +kernel) rfl, tk_at 750 (by decide +kernel) rfl⟩
theorem mw_X6_kindAt : MI yX6_kindAt cX6_kindAt 2 (some .int) 1 := ⟨⟨tk_at 764 (by decide +kernel) rfl, tk_at 10 (by decide +kernel) rfl, ⟨by decide +kernel, by decide +kernel⟩, by decide +kernel, by decide⟩, tk_at 762 (by decide +kernel) rfl, tk_at 763 (by decide +kernel) rfl⟩
theorem mw_X10_repairKind : MI yX10_repairKind cX10_repairKind 4 (some .int) 2 := ⟨⟨tk_at 760 (by decide +kernel) rfl, tk_at 1 (by decide +kernel) rfl, ⟨by decide +kernel, by decide +kernel⟩, by decide +kernel, by decide⟩, tk_at 758 (by decide +kernel) rfl, tk_at 759 (by decide +kernel) rfl⟩
theorem mw_X6_countConsumed : MI yX6_countConsumed cX6_countConsumed 3 (some .int) 0 := ⟨⟨tk_at 772 (by decide +kernel) rfl, tk_at 10 (by decide +kernel) rfl, ⟨by decide +kernel, by decide +kernel⟩, by decide +kernel, by decide⟩, tk_at 770 (by decide +kernel) rfl, tk_at 771 (by decide +kernel) rfl⟩
theorem mw_X9_takeConsumed : MI yX9_takeConsumed cX9_takeConsumed 3 (none) 1 := ⟨⟨tk_at 777 (by decide +kernel) rfl, tk_at 5 (by decide +kernel) rfl, ⟨by decide +kernel, by decide +kernel⟩, by decide +kernel, by decide⟩, tk_at 775 (by decide +kernel) rfl, tk_at 776 (by decide +kernel) rfl⟩
theorem mw_X10_applyRepair : MI yX10_applyRepair cX10_applyRepair 3 (some .int) 1 := ⟨⟨tk_at 768 (by decide +kernel) rfl, tk_at 1 (by decide +kernel) rfl, ⟨by decide +kernel, by decide +kernel⟩, by decide +kernel, by decide⟩, tk_at 766 (by decide +kernel) rfl, tk_at 767 (by decide +kernel) rfl⟩
theorem mw_X10_isLookAhead : MS yX10_isLookAhead cX10_isLookAhead 1 (some .boolean) 1 := ⟨⟨tk_at 791 (by decide +kernel) rfl, tk_at 1 (by decide +kernel) rfl, ⟨by decide +kernel, by decide +kernel⟩, by decide +kernel, by decide⟩, tk_at 790 (by decide +kernel) rfl⟩
theorem mw_X10_solveLocal : MI yX10_solveLocal cX10_solveLocal 2 (some .int) 1 := ⟨⟨tk_at 788 (by decide +kernel) rfl, tk_at 1 (by decide +kernel) rfl, ⟨by decide +kernel, by decide +kernel⟩, by decide +kernel, by decide⟩, tk_at 787 (by decide +kernel) rfl, tk_sel 29 (by decide +kernel) rfl⟩
theorem mw_X10_localCost : MI yX10_localCost cX10_localCost 3 (some .int) 1 := ⟨⟨tk_at 784 (by decide +kernel) rfl, tk_at 1 (by decide +kernel) rfl, ⟨by decide +kernel, by decide +kernel⟩, by decide +kernel, by decide⟩, tk_at 782 (by decide +kernel) rfl, tk_at 783 (by decide +kernel) rfl⟩
theorem mw_X10_localOperation : MI yX10_localOperation cX10_localOperation 4 (some .int) 2 := ⟨⟨tk_at 795 (by decide +kernel) rfl, tk_at 1 (by decide +kernel) rfl, ⟨by decide +kernel, by decide +kernel⟩, by decide +kernel, by decide⟩, tk_at 793 (by decide +kernel) rfl, tk_at 794 (by decide +kernel) rfl⟩
theorem mw_X10_localKind : MI yX10_localKind cX10_localKind 4 (some .int) 2 := ⟨⟨tk_at 799 (by decide +kernel) rfl, tk_at 1 (by decide +kernel) rfl, ⟨by decide +kernel, by decide +kernel⟩, by decide +kernel, by decide⟩, tk_at 797 (by decide +kernel) rfl, tk_at 798 (by decide +kernel) rfl⟩
theorem mw_X10_sweepCost : MI yX10_sweepCost cX10_sweepCost 5 (some .int) 1 := ⟨⟨tk_at 803 (by decide +kernel) rfl, tk_at 1 (by decide +kernel) rfl, ⟨by decide +kernel, by decide +kernel⟩, by decide +kernel, by decide⟩, tk_at 801 (by decide +kernel) rfl, tk_at 802 (by decide +kernel) rfl⟩
theorem mw_X10_undoCount : MI yX10_undoCount cX10_undoCount 1 (some .int) 0 := ⟨⟨tk_at 807 (by decide +kernel) rfl, tk_at 1 (by decide +kernel) rfl, ⟨by decide +kernel, by decide +kernel⟩, by decide +kernel, by decide⟩, tk_at 805 (by decide +kernel) rfl, tk_at 806 (by decide +kernel) rfl⟩
theorem mw_X11_in : MS yX11_in cX11_in 3 (some .boolean) 3 := ⟨⟨tk_at 896 (by decide +kernel) rfl, tk_at 12 (by decide +kernel) rfl, ⟨by decide +kernel, by decide +kernel⟩, by decide +kernel, by decide⟩, tk_at 895 (by decide +kernel) rfl⟩
theorem mw_X11_clearData : MS yX11_clearData cX11_clearData 2 (none) 1 := ⟨⟨tk_at 816 (by decide +kernel) rfl, tk_at 12 (by decide +kernel) rfl, ⟨by decide +kernel, by decide +kernel⟩, by decide +kernel, by decide⟩, tk_at 815 (by decide +kernel) rfl⟩
theorem mw_X11_copyData : MS yX11_copyData cX11_copyData 5 (none) 4 := ⟨⟨tk_at 960 (by decide +kernel) rfl, tk_at 12 (by decide +kernel) rfl, ⟨by decide +kernel, by decide +kernel⟩, by decide +kernel, by decide⟩, tk_at 959 (by decide +kernel) rfl⟩
theorem mw_X11_save : MI yX11_save cX11_save 2 (none) 0 := ⟨⟨tk_at 957 (by decide +kernel) rfl, tk_at 12 (by decide +kernel) rfl, ⟨by decide +kernel, by decide +kernel⟩, by decide +kernel, by decide⟩, tk_at 956 (by decide +kernel) rfl, tk_sel 40 (by decide +kernel) rfl⟩
theorem mw_X11_isLetter : MI yX11_isLetter cX11_isLetter 1 (some .boolean) 0 := ⟨⟨tk_at 916 (by decide +kernel) rfl, tk_at 12 (by decide +kernel) rfl, ⟨by decide +kernel, by decide +kernel⟩, by decide +kernel, by decide⟩, tk_at 915 (by decide +kernel) rfl, tk_sel 32 (by decide +kernel) rfl⟩
theorem mw_X11_next : MI yX11_next cX11_next 2 (none) 0 := ⟨⟨tk_at 912 (by decide +kernel) rfl, tk_at 12 (by decide +kernel) rfl, ⟨by decide +kernel, by decide +kernel⟩, by decide +kernel, by decide⟩, tk_at 911 (by decide +kernel) rfl, tk_sel 31 (by decide +kernel) rfl⟩
theorem mw_X11_readDigit : MI yX11_readDigit cX11_readDigit 3 (some .boolean) 2 := ⟨⟨tk_at 927 (by decide +kernel) rfl, tk_at 12 (by decide +kernel) rfl, ⟨by decide +kernel, by decide +kernel⟩, by decide +kernel, by decide⟩, tk_at 926 (by decide +kernel) rfl, tk_sel 34 (by decide +kernel) rfl⟩
theorem mw_X11_readState : MI yX11_readState cX11_readState 1 (some .boolean) 0 := ⟨⟨tk_at 936 (by decide +kernel) rfl, tk_at 12 (by decide +kernel) rfl, ⟨by decide +kernel, by decide +kernel⟩, by decide +kernel, by decide⟩, tk_at 935 (by decide +kernel) rfl, tk_sel 36 (by decide +kernel) rfl⟩
theorem mw_X11_readKind : MI yX11_readKind cX11_readKind 2 (some .boolean) 0 := ⟨⟨tk_at 945 (by decide +kernel) rfl, tk_at 12 (by decide +kernel) rfl, ⟨by decide +kernel, by decide +kernel⟩, by decide +kernel, by decide⟩, tk_at 944 (by decide +kernel) rfl, tk_sel 38 (by decide +kernel) rfl⟩
theorem mw_X11_readAccept : MI yX11_readAccept cX11_readAccept 2 (some .boolean) 0 := ⟨⟨tk_at 932 (by decide +kernel) rfl, tk_at 12 (by decide +kernel) rfl, ⟨by decide +kernel, by decide +kernel⟩, by decide +kernel, by decide⟩, tk_at 931 (by decide +kernel) rfl, tk_sel 35 (by decide +kernel) rfl⟩
theorem mw_X11_readRule : MI yX11_readRule cX11_readRule 6 (some .boolean) 1 := ⟨⟨tk_at 953 (by decide +kernel) rfl, tk_at 12 (by decide +kernel) rfl, ⟨by decide +kernel, by decide +kernel⟩, by decide +kernel, by decide⟩, tk_at 952 (by decide +kernel) rfl, tk_sel 39 (by decide +kernel) rfl⟩
theorem mw_X11_readCost : MI yX11_readCost cX11_readCost 3 (some .boolean) 0 := ⟨⟨tk_at 941 (by decide +kernel) rfl, tk_at 12 (by decide +kernel) rfl, ⟨by decide +kernel, by decide +kernel⟩, by decide +kernel, by decide⟩, tk_at 940 (by decide +kernel) rfl, tk_sel 37 (by decide +kernel) rfl⟩
theorem mw_X11_readStatement : MI yX11_readStatement cX11_readStatement 3 (some .boolean) 1 := ⟨⟨tk_at 922 (by decide +kernel) rfl, tk_at 12 (by decide +kernel) rfl, ⟨by decide +kernel, by decide +kernel⟩, by decide +kernel, by decide⟩, tk_at 921 (by decide +kernel) rfl, tk_sel 33 (by decide +kernel) rfl⟩
theorem mw_X11_parse : MI yX11_parse cX11_parse 1 (some .int) 0 := ⟨⟨tk_at 908 (by decide +kernel) rfl, tk_at 12 (by decide +kernel) rfl, ⟨by decide +kernel, by decide +kernel⟩, by decide +kernel, by decide⟩, tk_at 907 (by decide +kernel) rfl, tk_sel 30 (by decide +kernel) rfl⟩
theorem mw_X11_appendCharacter : MI yX11_appendCharacter cX11_appendCharacter 2 (some .int) 1 := ⟨⟨tk_at 893 (by decide +kernel) rfl, tk_at 12 (by decide +kernel) rfl, ⟨by decide +kernel, by decide +kernel⟩, by decide +kernel, by decide⟩, tk_at 891 (by decide +kernel) rfl, tk_at 892 (by decide +kernel) rfl⟩
theorem mw_X11_clearText : MI yX11_clearText cX11_clearText 2 (some .int) 0 := ⟨⟨tk_at 900 (by decide +kernel) rfl, tk_at 12 (by decide +kernel) rfl, ⟨by decide +kernel, by decide +kernel⟩, by decide +kernel, by decide⟩, tk_at 898 (by decide +kernel) rfl, tk_at 899 (by decide +kernel) rfl⟩
theorem mw_X11_loadGrammar : MI yX11_loadGrammar cX11_loadGrammar 2 (some .int) 0 := ⟨⟨tk_at 904 (by decide +kernel) rfl, tk_at 12 (by decide +kernel) rfl, ⟨by decide +kernel, by decide +kernel⟩, by decide +kernel, by decide⟩, tk_at 902 (by decide +kernel) rfl, tk_at 903 (by decide +kernel) rfl⟩
theorem mw_X11_isKind : MS yX11_isKind cX11_isKind 1 (some .boolean) 1 := ⟨⟨tk_at 971 (by decide +kernel) rfl, tk_at 12 (by decide +kernel) rfl, ⟨by decide +kernel, by decide +kernel⟩, by decide +kernel, by decide⟩, tk_at 970 (by decide +kernel) rfl⟩
theorem mw_X11_isToken : MI yX11_isToken cX11_isToken 2 (some .boolean) 1 := ⟨⟨tk_at 980 (by decide +kernel) rfl, tk_at 12 (by decide +kernel) rfl, ⟨by decide +kernel, by decide +kernel⟩, by decide +kernel, by decide⟩, tk_at 979 (by decide +kernel) rfl, tk_sel 41 (by decide +kernel) rfl⟩
theorem mw_X11_insertToken : MI yX11_insertToken cX11_insertToken 4 (some .int) 2 := ⟨⟨tk_at 968 (by decide +kernel) rfl, tk_at 12 (by decide +kernel) rfl, ⟨by decide +kernel, by decide +kernel⟩, by decide +kernel, by decide⟩, tk_at 966 (by decide +kernel) rfl, tk_at 967 (by decide +kernel) rfl⟩
theorem mw_X11_appendToken : MI yX11_appendToken cX11_appendToken 2 (some .int) 1 := ⟨⟨tk_at 964 (by decide +kernel) rfl, tk_at 12 (by decide +kernel) rfl, ⟨by decide +kernel, by decide +kernel⟩, by decide +kernel, by decide⟩, tk_at 962 (by decide +kernel) rfl, tk_at 963 (by decide +kernel) rfl⟩
theorem mw_X11_removeToken : MI yX11_removeToken cX11_removeToken 4 (some .int) 1 := ⟨⟨tk_at 976 (by decide +kernel) rfl, tk_at 12 (by decide +kernel) rfl, ⟨by decide +kernel, by decide +kernel⟩, by decide +kernel, by decide⟩, tk_at 974 (by decide +kernel) rfl, tk_at 975 (by decide +kernel) rfl⟩
theorem mw_X11_clearTokens : MI yX11_clearTokens cX11_clearTokens 2 (some .int) 0 := ⟨⟨tk_at 984 (by decide +kernel) rfl, tk_at 12 (by decide +kernel) rfl, ⟨by decide +kernel, by decide +kernel⟩, by decide +kernel, by decide⟩, tk_at 982 (by decide +kernel) rfl, tk_at 983 (by decide +kernel) rfl⟩
theorem mw_X11_setCost : MI yX11_setCost cX11_setCost 5 (some .int) 3 := ⟨⟨tk_at 992 (by decide +kernel) rfl, tk_at 12 (by decide +kernel) rfl, ⟨by decide +kernel, by decide +kernel⟩, by decide +kernel, by decide⟩, tk_at 991 (by decide +kernel) rfl, tk_sel 42 (by decide +kernel) rfl⟩
theorem mw_X11_setInsertionCost : MI yX11_setInsertionCost cX11_setInsertionCost 3 (some .int) 2 := ⟨⟨tk_at 988 (by decide +kernel) rfl, tk_at 12 (by decide +kernel) rfl, ⟨by decide +kernel, by decide +kernel⟩, by decide +kernel, by decide⟩, tk_at 986 (by decide +kernel) rfl, tk_at 987 (by decide +kernel) rfl⟩
theorem mw_X11_setDeletionCost : MI yX11_setDeletionCost cX11_setDeletionCost 3 (some .int) 2 := ⟨⟨tk_at 996 (by decide +kernel) rfl, tk_at 12 (by decide +kernel) rfl, ⟨by decide +kernel, by decide +kernel⟩, by decide +kernel, by decide⟩, tk_at 994 (by decide +kernel) rfl, tk_at 995 (by decide +kernel) rfl⟩
theorem mw_X11_setReplacementCost : MI yX11_setReplacementCost cX11_setReplacementCost 3 (some .int) 2 := ⟨⟨tk_at 1000 (by decide +kernel) rfl, tk_at 12 (by decide +kernel) rfl, ⟨by decide +kernel, by decide +kernel⟩, by decide +kernel, by decide⟩, tk_at 998 (by decide +kernel) rfl, tk_at 999 (by decide +kernel) rfl⟩
theorem mw_X11_undo : MI yX11_undo cX11_undo 1 (some .int) 0 := ⟨⟨tk_at 1004 (by decide +kernel) rfl, tk_at 12 (by decide +kernel) rfl, ⟨by decide +kernel, by decide +kernel⟩, by decide +kernel, by decide⟩, tk_at 1002 (by decide +kernel) rfl, tk_at 1003 (by decide +kernel) rfl⟩
theorem mw_X11_stateCount : MI yX11_stateCount cX11_stateCount 1 (some .int) 0 := ⟨⟨tk_at 1008 (by decide +kernel) rfl, tk_at 12 (by decide +kernel) rfl, ⟨by decide +kernel, by decide +kernel⟩, by decide +kernel, by decide⟩, tk_at 1006 (by decide +kernel) rfl, tk_at 1007 (by decide +kernel) rfl⟩
theorem mw_X11_isAccepting : MI yX11_isAccepting cX11_isAccepting 2 (some .int) 1 := ⟨⟨tk_at 1012 (by decide +kernel) rfl, tk_at 12 (by decide +kernel) rfl, ⟨by decide +kernel, by decide +kernel⟩, by decide +kernel, by decide⟩, tk_at 1010 (by decide +kernel) rfl, tk_at 1011 (by decide +kernel) rfl⟩
theorem mw_X11_ruleCount : MI yX11_ruleCount cX11_ruleCount 3 (some .int) 0 := ⟨⟨tk_at 1016 (by decide +kernel) rfl, tk_at 12 (by decide +kernel) rfl, ⟨by decide +kernel, by decide +kernel⟩, by decide +kernel, by decide⟩, tk_at 1014 (by decide +kernel) rfl, tk_at 1015 (by decide +kernel) rfl⟩
theorem mw_X11_tokenCount : MI yX11_tokenCount cX11_tokenCount 1 (some .int) 0 := ⟨⟨tk_at 1020 (by decide +kernel) rfl, tk_at 12 (by decide +kernel) rfl, ⟨by decide +kernel, by decide +kernel⟩, by decide +kernel, by decide⟩, tk_at 1018 (by decide +kernel) rfl, tk_at 1019 (by decide +kernel) rfl⟩
theorem mw_X11_tokenAt : MI yX11_tokenAt cX11_tokenAt 2 (some .int) 1 := ⟨⟨tk_at 1024 (by decide +kernel) rfl, tk_at 12 (by decide +kernel) rfl, ⟨by decide +kernel, by decide +kernel⟩, by decide +kernel, by decide⟩, tk_at 1022 (by decide +kernel) rfl, tk_at 1023 (by decide +kernel) rfl⟩
theorem mw_X11_depth : MS yX11_depth cX11_depth 2 (some .int) 1 := ⟨⟨tk_at 1059 (by decide +kernel) rfl, tk_at 12 (by decide +kernel) rfl, ⟨by decide +kernel, by decide +kernel⟩, by decide +kernel, by decide⟩, tk_at 1058 (by decide +kernel) rfl⟩
theorem mw_X11_consume : MI yX11_consume cX11_consume 7 (some .int) 2 := ⟨⟨tk_at 1040 (by decide +kernel) rfl, tk_at 12 (by decide +kernel) rfl, ⟨by decide +kernel, by decide +kernel⟩, by decide +kernel, by decide⟩, tk_at 1039 (by decide +kernel) rfl, tk_sel 45 (by decide +kernel) rfl⟩
theorem mw_X11_isFinal : MI yX11_isFinal cX11_isFinal 2 (some .boolean) 1 := ⟨⟨tk_at 1044 (by decide +kernel) rfl, tk_at 12 (by decide +kernel) rfl, ⟨by decide +kernel, by decide +kernel⟩, by decide +kernel, by decide⟩, tk_at 1043 (by decide +kernel) rfl, tk_sel 46 (by decide +kernel) rfl⟩
theorem mw_X11_run : MI yX11_run cX11_run 5 (some .int) 3 := ⟨⟨tk_at 1036 (by decide +kernel) rfl, tk_at 12 (by decide +kernel) rfl, ⟨by decide +kernel, by decide +kernel⟩, by decide +kernel, by decide⟩, tk_at 1035 (by decide +kernel) rfl, tk_sel 44 (by decide +kernel) rfl⟩
theorem mw_X11_findError : MI yX11_findError cX11_findError 4 (some .int) 2 := ⟨⟨tk_at 1032 (by decide +kernel) rfl, tk_at 12 (by decide +kernel) rfl, ⟨by decide +kernel, by decide +kernel⟩, by decide +kernel, by decide⟩, tk_at 1031 (by decide +kernel) rfl, tk_sel 43 (by decide +kernel) rfl⟩
theorem mw_X11_errorPosition : MI yX11_errorPosition cX11_errorPosition 1 (some .int) 0 := ⟨⟨tk_at 1028 (by decide +kernel) rfl, tk_at 12 (by decide +kernel) rfl, ⟨by decide +kernel, by decide +kernel⟩, by decide +kernel, by decide⟩, tk_at 1026 (by decide +kernel) rfl, tk_at 1027 (by decide +kernel) rfl⟩
theorem mw_X11_runTokens : MI yX11_runTokens cX11_runTokens 2 (some .int) 1 := ⟨⟨tk_at 1052 (by decide +kernel) rfl, tk_at 12 (by decide +kernel) rfl, ⟨by decide +kernel, by decide +kernel⟩, by decide +kernel, by decide⟩, tk_at 1051 (by decide +kernel) rfl, tk_sel 47 (by decide +kernel) rfl⟩
theorem mw_X11_stateAfter : MI yX11_stateAfter cX11_stateAfter 3 (some .int) 1 := ⟨⟨tk_at 1048 (by decide +kernel) rfl, tk_at 12 (by decide +kernel) rfl, ⟨by decide +kernel, by decide +kernel⟩, by decide +kernel, by decide⟩, tk_at 1046 (by decide +kernel) rfl, tk_at 1047 (by decide +kernel) rfl⟩
theorem mw_X11_depthAfter : MI yX11_depthAfter cX11_depthAfter 3 (some .int) 1 := ⟨⟨tk_at 1056 (by decide +kernel) rfl, tk_at 12 (by decide +kernel) rfl, ⟨by decide +kernel, by decide +kernel⟩, by decide +kernel, by decide⟩, tk_at 1054 (by decide +kernel) rfl, tk_at 1055 (by decide +kernel) rfl⟩
theorem mw_X11_expectedKinds : MI yX11_expectedKinds cX11_expectedKinds 3 (some .int) 0 := ⟨⟨tk_at 1063 (by decide +kernel) rfl, tk_at 12 (by decide +kernel) rfl, ⟨by decide +kernel, by decide +kernel⟩, by decide +kernel, by decide⟩, tk_at 1061 (by decide +kernel) rfl, tk_at 1062 (by decide +kernel) rfl⟩
theorem mw_X11_offer : MI yX11_offer cX11_offer 2 (none) 1 := ⟨⟨tk_at 1083 (by decide +kernel) rfl, tk_at 12 (by decide +kernel) rfl, ⟨by decide +kernel, by decide +kernel⟩, by decide +kernel, by decide⟩, tk_at 1082 (by decide +kernel) rfl, tk_sel 50 (by decide +kernel) rfl⟩
theorem mw_X11_offerNode : MI yX11_offerNode cX11_offerNode 3 (none) 2 := ⟨⟨tk_at 1091 (by decide +kernel) rfl, tk_at 12 (by decide +kernel) rfl, ⟨by decide +kernel, by decide +kernel⟩, by decide +kernel, by decide⟩, tk_at 1090 (by decide +kernel) rfl, tk_sel 52 (by decide +kernel) rfl⟩
theorem mw_X11_edge : MI yX11_edge cX11_edge 10 (some .int) 3 := ⟨⟨tk_at 1087 (by decide +kernel) rfl, tk_at 12 (by decide +kernel) rfl, ⟨by decide +kernel, by decide +kernel⟩, by decide +kernel, by decide⟩, tk_at 1086 (by decide +kernel) rfl, tk_sel 51 (by decide +kernel) rfl⟩
theorem mw_X11_improve : MI yX11_improve cX11_improve 5 (some .boolean) 1 := ⟨⟨tk_at 1079 (by decide +kernel) rfl, tk_at 12 (by decide +kernel) rfl, ⟨by decide +kernel, by decide +kernel⟩, by decide +kernel, by decide⟩, tk_at 1078 (by decide +kernel) rfl, tk_sel 49 (by decide +kernel) rfl⟩
theorem mw_X11_isConfig : MS yX11_isConfig cX11_isConfig 1 (some .boolean) 1 := ⟨⟨tk_at 1075 (by decide +kernel) rfl, tk_at 12 (by decide +kernel) rfl, ⟨by decide +kernel, by decide +kernel⟩, by decide +kernel, by decide⟩, tk_at 1074 (by decide +kernel) rfl⟩
theorem mw_X11_findCosts : MI yX11_findCosts cX11_findCosts 4 (none) 0 := ⟨⟨tk_at 1071 (by decide +kernel) rfl, tk_at 12 (by decide +kernel) rfl, ⟨by decide +kernel, by decide +kernel⟩, by decide +kernel, by decide⟩, tk_at 1070 (by decide +kernel) rfl, tk_sel 48 (by decide +kernel) rfl⟩
theorem mw_X11_pathsBy : MI yX11_pathsBy cX11_pathsBy 5 (some .int) 3 := ⟨⟨tk_at 1107 (by decide +kernel) rfl, tk_at 12 (by decide +kernel) rfl, ⟨by decide +kernel, by decide +kernel⟩, by decide +kernel, by decide⟩, tk_at 1106 (by decide +kernel) rfl, tk_sel 55 (by decide +kernel) rfl⟩
theorem mw_X11_countPaths : MI yX11_countPaths cX11_countPaths 5 (some .boolean) 1 := ⟨⟨tk_at 1103 (by decide +kernel) rfl, tk_at 12 (by decide +kernel) rfl, ⟨by decide +kernel, by decide +kernel⟩, by decide +kernel, by decide⟩, tk_at 1102 (by decide +kernel) rfl, tk_sel 54 (by decide +kernel) rfl⟩
theorem mw_X11_findPaths : MI yX11_findPaths cX11_findPaths 4 (none) 0 := ⟨⟨tk_at 1099 (by decide +kernel) rfl, tk_at 12 (by decide +kernel) rfl, ⟨by decide +kernel, by decide +kernel⟩, by decide +kernel, by decide⟩, tk_at 1098 (by decide +kernel) rfl, tk_sel 53 (by decide +kernel) rfl⟩
theorem mw_X11_repairCost : MI yX11_repairCost cX11_repairCost 1 (some .int) 0 := ⟨⟨tk_at 1067 (by decide +kernel) rfl, tk_at 12 (by decide +kernel) rfl, ⟨by decide +kernel, by decide +kernel⟩, by decide +kernel, by decide⟩, tk_at 1065 (by decide +kernel) rfl, tk_at 1066 (by decide +kernel) rfl⟩
theorem mw_X11_repairCount : MI yX11_repairCount cX11_repairCount 1 (some .int) 0 := ⟨⟨tk_at 1095 (by decide +kernel) rfl, tk_at 12 (by decide +kernel) rfl, ⟨by decide +kernel, by decide +kernel⟩, by decide +kernel, by decide⟩, tk_at 1093 (by decide +kernel) rfl, tk_at 1094 (by decide +kernel) rfl⟩
theorem mw_X11_secondCost : MI yX11_secondCost cX11_secondCost 1 (some .int) 0 := ⟨⟨tk_at 1111 (by decide +kernel) rfl, tk_at 12 (by decide +kernel) rfl, ⟨by decide +kernel, by decide +kernel⟩, by decide +kernel, by decide⟩, tk_at 1109 (by decide +kernel) rfl, tk_at 1110 (by decide +kernel) rfl⟩
theorem mw_X11_append : MI yX11_append cX11_append 3 (none) 2 := ⟨⟨tk_at 1127 (by decide +kernel) rfl, tk_at 12 (by decide +kernel) rfl, ⟨by decide +kernel, by decide +kernel⟩, by decide +kernel, by decide⟩, tk_at 1126 (by decide +kernel) rfl, tk_sel 58 (by decide +kernel) rfl⟩
theorem mw_X11_follow : MI yX11_follow cX11_follow 5 (some .int) 1 := ⟨⟨tk_at 1123 (by decide +kernel) rfl, tk_at 12 (by decide +kernel) rfl, ⟨by decide +kernel, by decide +kernel⟩, by decide +kernel, by decide⟩, tk_at 1122 (by decide +kernel) rfl, tk_sel 57 (by decide +kernel) rfl⟩
theorem mw_X11_findScript : MI yX11_findScript cX11_findScript 3 (some .int) 1 := ⟨⟨tk_at 1119 (by decide +kernel) rfl, tk_at 12 (by decide +kernel) rfl, ⟨by decide +kernel, by decide +kernel⟩, by decide +kernel, by decide⟩, tk_at 1118 (by decide +kernel) rfl, tk_sel 56 (by decide +kernel) rfl⟩
theorem mw_X11_repairLength : MI yX11_repairLength cX11_repairLength 3 (some .int) 1 := ⟨⟨tk_at 1115 (by decide +kernel) rfl, tk_at 12 (by decide +kernel) rfl, ⟨by decide +kernel, by decide +kernel⟩, by decide +kernel, by decide⟩, tk_at 1113 (by decide +kernel) rfl, tk_at 1114 (by decide +kernel) rfl⟩
theorem mw_X11_scriptEntry : MI yX11_scriptEntry cX11_scriptEntry 3 (some .int) 2 := ⟨⟨tk_at 1139 (by decide +kernel) rfl, tk_at 12 (by decide +kernel) rfl, ⟨by decide +kernel, by decide +kernel⟩, by decide +kernel, by decide⟩, tk_at 1138 (by decide +kernel) rfl, tk_sel 60 (by decide +kernel) rfl⟩
theorem mw_X11_repairEntry : MI yX11_repairEntry cX11_repairEntry 5 (some .int) 3 := ⟨⟨tk_at 1135 (by decide +kernel) rfl, tk_at 12 (by decide +kernel) rfl, ⟨by decide +kernel, by decide +kernel⟩, by decide +kernel, by decide⟩, tk_at 1134 (by decide +kernel) rfl, tk_sel 59 (by decide +kernel) rfl⟩
theorem mw_X11_repairOperation : MI yX11_repairOperation cX11_repairOperation 3 (some .int) 2 := ⟨⟨tk_at 1131 (by decide +kernel) rfl, tk_at 12 (by decide +kernel) rfl, ⟨by decide +kernel, by decide +kernel⟩, by decide +kernel, by decide⟩, tk_at 1129 (by decide +kernel) rfl, tk_at 1130 (by decide +kernel) rfl⟩
theorem mw_X11_repairKind : MI yX11_repairKind cX11_repairKind 3 (some .int) 2 := ⟨⟨tk_at 1143 (by decide +kernel) rfl, tk_at 12 (by decide +kernel) rfl, ⟨by decide +kernel, by decide +kernel⟩, by decide +kernel, by decide⟩, tk_at 1141 (by decide +kernel) rfl, tk_at 1142 (by decide +kernel) rfl⟩
theorem mw_X11_applyRepair : MI yX11_applyRepair cX11_applyRepair 5 (some .int) 1 := ⟨⟨tk_at 1147 (by decide +kernel) rfl, tk_at 12 (by decide +kernel) rfl, ⟨by decide +kernel, by decide +kernel⟩, by decide +kernel, by decide⟩, tk_at 1145 (by decide +kernel) rfl, tk_at 1146 (by decide +kernel) rfl⟩
theorem mw_X11_passes : MI yX11_passes cX11_passes 5 (some .boolean) 2 := ⟨⟨tk_at 1163 (by decide +kernel) rfl, tk_at 12 (by decide +kernel) rfl, ⟨by decide +kernel, by decide +kernel⟩, by decide +kernel, by decide⟩, tk_at 1162 (by decide +kernel) rfl, tk_sel 63 (by decide +kernel) rfl⟩
theorem mw_X11_localBy : MI yX11_localBy cX11_localBy 5 (some .int) 3 := ⟨⟨tk_at 1171 (by decide +kernel) rfl, tk_at 12 (by decide +kernel) rfl, ⟨by decide +kernel, by decide +kernel⟩, by decide +kernel, by decide⟩, tk_at 1170 (by decide +kernel) rfl, tk_sel 65 (by decide +kernel) rfl⟩
theorem mw_X11_improveLocal : MI yX11_improveLocal cX11_improveLocal 6 (some .boolean) 1 := ⟨⟨tk_at 1167 (by decide +kernel) rfl, tk_at 12 (by decide +kernel) rfl, ⟨by decide +kernel, by decide +kernel⟩, by decide +kernel, by decide⟩, tk_at 1166 (by decide +kernel) rfl, tk_sel 64 (by decide +kernel) rfl⟩
theorem mw_X11_findLocalCosts : MI yX11_findLocalCosts cX11_findLocalCosts 5 (none) 1 := ⟨⟨tk_at 1159 (by decide +kernel) rfl, tk_at 12 (by decide +kernel) rfl, ⟨by decide +kernel, by decide +kernel⟩, by decide +kernel, by decide⟩, tk_at 1158 (by decide +kernel) rfl, tk_sel 62 (by decide +kernel) rfl⟩
theorem mw_X11_followLocal : MI yX11_followLocal cX11_followLocal 4 (some .int) 1 := ⟨⟨tk_at 1179 (by decide +kernel) rfl, tk_at 12 (by decide +kernel) rfl, ⟨by decide +kernel, by decide +kernel⟩, by decide +kernel, by decide⟩, tk_at 1178 (by decide +kernel) rfl, tk_sel 67 (by decide +kernel) rfl⟩
theorem mw_X11_repairLocally : MI yX11_repairLocally cX11_repairLocally 3 (some .int) 1 := ⟨⟨tk_at 1175 (by decide +kernel) rfl, tk_at 12 (by decide +kernel) rfl, ⟨by decide +kernel, by decide +kernel⟩, by decide +kernel, by decide⟩, tk_at 1174 (by decide +kernel) rfl, tk_sel 66 (by decide +kernel) rfl⟩
theorem mw_X11_findLocal : MI yX11_findLocal cX11_findLocal 5 (some .int) 1 := ⟨⟨tk_at 1155 (by decide +kernel) rfl, tk_at 12 (by decide +kernel) rfl, ⟨by decide +kernel, by decide +kernel⟩, by decide +kernel, by decide⟩, tk_at 1154 (by decide +kernel) rfl, tk_sel 61 (by decide +kernel) rfl⟩
theorem mw_X11_localCost : MI yX11_localCost cX11_localCost 2 (some .int) 1 := ⟨⟨tk_at 1151 (by decide +kernel) rfl, tk_at 12 (by decide +kernel) rfl, ⟨by decide +kernel, by decide +kernel⟩, by decide +kernel, by decide⟩, tk_at 1149 (by decide +kernel) rfl, tk_at 1150 (by decide +kernel) rfl⟩
theorem mw_X11_localEntry : MI yX11_localEntry cX11_localEntry 5 (some .int) 3 := ⟨⟨tk_at 1187 (by decide +kernel) rfl, tk_at 12 (by decide +kernel) rfl, ⟨by decide +kernel, by decide +kernel⟩, by decide +kernel, by decide⟩, tk_at 1186 (by decide +kernel) rfl, tk_sel 68 (by decide +kernel) rfl⟩
theorem mw_X11_localOperation : MI yX11_localOperation cX11_localOperation 3 (some .int) 2 := ⟨⟨tk_at 1183 (by decide +kernel) rfl, tk_at 12 (by decide +kernel) rfl, ⟨by decide +kernel, by decide +kernel⟩, by decide +kernel, by decide⟩, tk_at 1181 (by decide +kernel) rfl, tk_at 1182 (by decide +kernel) rfl⟩
theorem mw_X11_localKind : MI yX11_localKind cX11_localKind 3 (some .int) 2 := ⟨⟨tk_at 1191 (by decide +kernel) rfl, tk_at 12 (by decide +kernel) rfl, ⟨by decide +kernel, by decide +kernel⟩, by decide +kernel, by decide⟩, tk_at 1189 (by decide +kernel) rfl, tk_at 1190 (by decide +kernel) rfl⟩
theorem mw_X11_sweepCost : MI yX11_sweepCost cX11_sweepCost 6 (some .int) 1 := ⟨⟨tk_at 1195 (by decide +kernel) rfl, tk_at 12 (by decide +kernel) rfl, ⟨by decide +kernel, by decide +kernel⟩, by decide +kernel, by decide⟩, tk_at 1193 (by decide +kernel) rfl, tk_at 1194 (by decide +kernel) rfl⟩
theorem mw_X11_undoCount : MI yX11_undoCount cX11_undoCount 1 (some .int) 0 := ⟨⟨tk_at 1199 (by decide +kernel) rfl, tk_at 12 (by decide +kernel) rfl, ⟨by decide +kernel, by decide +kernel⟩, by decide +kernel, by decide⟩, tk_at 1197 (by decide +kernel) rfl, tk_at 1198 (by decide +kernel) rfl⟩
theorem tw_150 : Cond.fieldLinkNest RX10 64 "SyntaxRepair$GrammarText" "length" "I" "SyntaxRepair" ∈ Tk := tk_at 150 (by decide +kernel) rfl
theorem tw_270 : Cond.fieldLink RX10 26 "SyntaxRepair" "text" "LSyntaxRepair$GrammarText;" ∈ Tk := tk_at 270 (by decide +kernel) rfl
theorem tw_294 : Cond.methodLink RX10 68 yX3_add ∈ Tk := tk_at 294 (by decide +kernel) rfl
theorem tw_149 : Cond.fieldLink RX3 22 "SyntaxRepair$GrammarText" "length" "I" ∈ Tk := tk_at 149 (by decide +kernel) rfl
theorem tw_298 : Cond.methodLinkNest RX3 26 yX10_put "SyntaxRepair" ∈ Tk := tk_at 298 (by decide +kernel) rfl
theorem tw_146 : Cond.fieldLink RX3 9 "SyntaxRepair$GrammarText" "characters" "[I" ∈ Tk := tk_at 146 (by decide +kernel) rfl
theorem tw_472 : Cond.methodLink RX10 81 yX8_copyFrom ∈ Tk := tk_at 472 (by decide +kernel) rfl
theorem tw_148 : Cond.fieldLinkNest RX10 78 "SyntaxRepair$GrammarText" "draft" "LSyntaxRepair$Situation;" "SyntaxRepair" ∈ Tk := tk_at 148 (by decide +kernel) rfl
theorem tw_268 : Cond.fieldLink RX10 12 "SyntaxRepair" "now" "LSyntaxRepair$Situation;" ∈ Tk := tk_at 268 (by decide +kernel) rfl
theorem tw_432 : Cond.methodLink RX10 75 yX10_beginEdit ∈ Tk := tk_at 432 (by decide +kernel) rfl
theorem tw_307 : Cond.methodLink RX10 71 yX3_read ∈ Tk := tk_at 307 (by decide +kernel) rfl
theorem tw_151 : Cond.fieldLink RX3 40 "SyntaxRepair$GrammarText" "start" "I" ∈ Tk := tk_at 151 (by decide +kernel) rfl
theorem tw_393 : Cond.methodLink RX3 43 yX3_readStatement ∈ Tk := tk_at 393 (by decide +kernel) rfl
theorem tw_321 : Cond.methodLink RX3 36 yX3_readStates ∈ Tk := tk_at 321 (by decide +kernel) rfl
theorem tw_311 : Cond.methodLink RX3 33 yX3_nextLexeme ∈ Tk := tk_at 311 (by decide +kernel) rfl
theorem tw_152 : Cond.fieldLink RX3 30 "SyntaxRepair$GrammarText" "end" "I" ∈ Tk := tk_at 152 (by decide +kernel) rfl
theorem tw_326 : Cond.methodLink RX3 48 yX3_takeWord ∈ Tk := tk_at 326 (by decide +kernel) rfl
theorem tw_427 : Cond.methodLink RX3 79 yX3_readCosts ∈ Tk := tk_at 427 (by decide +kernel) rfl
theorem tw_404 : Cond.methodLink RX3 69 yX3_readRule ∈ Tk := tk_at 404 (by decide +kernel) rfl
theorem tw_398 : Cond.methodLink RX3 64 yX3_readAccept ∈ Tk := tk_at 398 (by decide +kernel) rfl
theorem tw_340 : Cond.methodLink RX3 123 ⟨"java/lang/String", "charAt", "(I)C"⟩ ∈ Tk := tk_at 340 (by decide +kernel) rfl
theorem tw_315 : Cond.methodLinkNest RX3 119 yX10_at "SyntaxRepair" ∈ Tk := tk_at 315 (by decide +kernel) rfl
theorem tw_330 : Cond.methodLink RX3 115 ⟨"java/lang/String", "length", "()I"⟩ ∈ Tk := tk_at 330 (by decide +kernel) rfl
theorem tw_318 : Cond.methodLink RX3 130 yX3_isLetter ∈ Tk := tk_at 318 (by decide +kernel) rfl
theorem tw_431 : Cond.methodLink RX3 109 yX1_change ∈ Tk := tk_at 431 (by decide +kernel) rfl
theorem tw_104 : Cond.fieldLinkNest RX3 105 "SyntaxRepair$Situation" "costs" "LSyntaxRepair$Costs;" "SyntaxRepair" ∈ Tk := tk_at 104 (by decide +kernel) rfl
theorem tw_147 : Cond.fieldLink RX3 18 "SyntaxRepair$GrammarText" "draft" "LSyntaxRepair$Situation;" ∈ Tk := tk_at 147 (by decide +kernel) rfl
theorem tw_378 : Cond.methodLink RX3 52 yX3_takeDigit ∈ Tk := tk_at 378 (by decide +kernel) rfl
theorem tw_408 : Cond.methodLink RX3 93 yX3_kindHere ∈ Tk := tk_at 408 (by decide +kernel) rfl
theorem tw_74 : Cond.methodLinkNest RX1 34 yX10_put "SyntaxRepair" ∈ Tk := tk_at 74 (by decide +kernel) rfl
theorem tw_77 : Cond.fieldLink RX1 9 "SyntaxRepair$Costs" "row" "[I" ∈ Tk := tk_at 77 (by decide +kernel) rfl
theorem tw_412 : Cond.methodLinkNest RX3 127 yX10_isKind "SyntaxRepair" ∈ Tk := tk_at 412 (by decide +kernel) rfl
theorem tw_420 : Cond.methodLink RX3 101 yX0_addRule ∈ Tk := tk_at 420 (by decide +kernel) rfl
theorem tw_102 : Cond.fieldLinkNest RX3 82 "SyntaxRepair$Situation" "automaton" "LSyntaxRepair$Automaton;" "SyntaxRepair" ∈ Tk := tk_at 102 (by decide +kernel) rfl
theorem tw_43 : Cond.fieldLinkNest RX3 86 "SyntaxRepair$Automaton" "states" "I" "SyntaxRepair" ∈ Tk := tk_at 43 (by decide +kernel) rfl
theorem tw_415 : Cond.methodLink RX3 97 yX0_hasRule ∈ Tk := tk_at 415 (by decide +kernel) rfl
theorem tw_267 : Cond.methodLinkNest RX0 36 yX10_put "SyntaxRepair" ∈ Tk := tk_at 267 (by decide +kernel) rfl
theorem tw_41 : Cond.fieldLink RX0 21 "SyntaxRepair$Automaton" "symbols" "[I" ∈ Tk := tk_at 41 (by decide +kernel) rfl
theorem tw_40 : Cond.fieldLink RX0 18 "SyntaxRepair$Automaton" "targets" "[I" ∈ Tk := tk_at 40 (by decide +kernel) rfl
theorem tw_39 : Cond.fieldLink RX0 15 "SyntaxRepair$Automaton" "types" "[I" ∈ Tk := tk_at 39 (by decide +kernel) rfl
theorem tw_419 : Cond.methodLinkNest RX0 40 yX10_at "SyntaxRepair" ∈ Tk := tk_at 419 (by decide +kernel) rfl
theorem tw_402 : Cond.methodLink RX3 90 yX0_setAccepting ∈ Tk := tk_at 402 (by decide +kernel) rfl
theorem tw_38 : Cond.fieldLink RX0 9 "SyntaxRepair$Automaton" "accepting" "[I" ∈ Tk := tk_at 38 (by decide +kernel) rfl
theorem tw_382 : Cond.methodLink RX3 56 yX8_clear ∈ Tk := tk_at 382 (by decide +kernel) rfl
theorem tw_89 : Cond.fieldLinkNest RX8 37 "SyntaxRepair$Tokens" "count" "I" "SyntaxRepair" ∈ Tk := tk_at 89 (by decide +kernel) rfl
theorem tw_107 : Cond.fieldLink RX8 26 "SyntaxRepair$Situation" "tokens" "LSyntaxRepair$Tokens;" ∈ Tk := tk_at 107 (by decide +kernel) rfl
theorem tw_391 : Cond.methodLink RX8 34 yX1_setAllToOne ∈ Tk := tk_at 391 (by decide +kernel) rfl
theorem tw_103 : Cond.fieldLink RX8 19 "SyntaxRepair$Situation" "costs" "LSyntaxRepair$Costs;" ∈ Tk := tk_at 103 (by decide +kernel) rfl
theorem tw_386 : Cond.methodLink RX8 30 yX0_clear ∈ Tk := tk_at 386 (by decide +kernel) rfl
theorem tw_98 : Cond.fieldLink RX8 10 "SyntaxRepair$Situation" "automaton" "LSyntaxRepair$Automaton;" ∈ Tk := tk_at 98 (by decide +kernel) rfl
theorem tw_390 : Cond.methodLinkNest RX0 28 yX10_fill "SyntaxRepair" ∈ Tk := tk_at 390 (by decide +kernel) rfl
theorem tw_42 : Cond.fieldLink RX0 24 "SyntaxRepair$Automaton" "states" "I" ∈ Tk := tk_at 42 (by decide +kernel) rfl
theorem tw_70 : Cond.methodLink RX1 22 yX1_change ∈ Tk := tk_at 70 (by decide +kernel) rfl
theorem tw_67 : Cond.methodLinkNest RX1 18 yX10_fill "SyntaxRepair" ∈ Tk := tk_at 67 (by decide +kernel) rfl
theorem tw_468 : Cond.methodLink RX10 133 yX10_forgetTables ∈ Tk := tk_at 468 (by decide +kernel) rfl
theorem tw_436 : Cond.methodLink RX10 136 yX4_remember ∈ Tk := tk_at 436 (by decide +kernel) rfl
theorem tw_269 : Cond.fieldLink RX10 19 "SyntaxRepair" "history" "LSyntaxRepair$History;" ∈ Tk := tk_at 269 (by decide +kernel) rfl
theorem tw_129 : Cond.fieldLink RX4 30 "SyntaxRepair$History" "count" "I" ∈ Tk := tk_at 129 (by decide +kernel) rfl
theorem tw_465 : Cond.methodLink RX4 33 Lib.Math.min.name ∈ Tk := tk_at 465 (by decide +kernel) rfl
theorem tw_466 : Cond.static Lib.Math.min.name ∈ Tk := tk_at 466 (by decide +kernel) rfl
theorem tw_17 : Cond.initialized "java/lang/Math" ∈ Tk := tk_at 17 (by decide +kernel) rfl
theorem tw_128 : Cond.fieldLink RX4 18 "SyntaxRepair$History" "next" "I" ∈ Tk := tk_at 128 (by decide +kernel) rfl
theorem tw_444 : Cond.methodLink RX4 26 yX8_copyFrom ∈ Tk := tk_at 444 (by decide +kernel) rfl
theorem tw_440 : Cond.methodLink RX4 22 yX4_slotAt ∈ Tk := tk_at 440 (by decide +kernel) rfl
theorem tw_127 : Cond.fieldLink RX4 11 "SyntaxRepair$History" "ring" "[LSyntaxRepair$Situation;" ∈ Tk := tk_at 127 (by decide +kernel) rfl
theorem tw_460 : Cond.methodLink RX8 48 yX9_copyFrom ∈ Tk := tk_at 460 (by decide +kernel) rfl
theorem tw_455 : Cond.methodLink RX8 45 yX1_copyFrom ∈ Tk := tk_at 455 (by decide +kernel) rfl
theorem tw_448 : Cond.methodLink RX8 41 yX0_copyFrom ∈ Tk := tk_at 448 (by decide +kernel) rfl
theorem tw_452 : Cond.methodLinkNest RX0 32 yX10_copy "SyntaxRepair" ∈ Tk := tk_at 452 (by decide +kernel) rfl
theorem tw_459 : Cond.methodLinkNest RX1 26 yX10_copy "SyntaxRepair" ∈ Tk := tk_at 459 (by decide +kernel) rfl
theorem tw_464 : Cond.methodLinkNest RX9 19 yX10_copy "SyntaxRepair" ∈ Tk := tk_at 464 (by decide +kernel) rfl
theorem tw_87 : Cond.fieldLink RX9 9 "SyntaxRepair$Tokens" "kinds" "[I" ∈ Tk := tk_at 87 (by decide +kernel) rfl
theorem tw_88 : Cond.fieldLink RX9 15 "SyntaxRepair$Tokens" "count" "I" ∈ Tk := tk_at 88 (by decide +kernel) rfl
theorem tw_198 : Cond.fieldLinkNest RX10 139 "SyntaxRepair$ScriptTable" "solved" "Z" "SyntaxRepair" ∈ Tk := tk_at 198 (by decide +kernel) rfl
theorem tw_272 : Cond.fieldLink RX10 37 "SyntaxRepair" "local" "LSyntaxRepair$ScriptTable;" ∈ Tk := tk_at 272 (by decide +kernel) rfl
theorem tw_271 : Cond.fieldLink RX10 33 "SyntaxRepair" "best" "LSyntaxRepair$ScriptTable;" ∈ Tk := tk_at 271 (by decide +kernel) rfl
theorem tw_478 : Cond.methodLink RX10 94 yX10_addToken ∈ Tk := tk_at 478 (by decide +kernel) rfl
theorem tw_91 : Cond.fieldLinkNest RX10 89 "SyntaxRepair$Tokens" "count" "I" "SyntaxRepair" ∈ Tk := tk_at 91 (by decide +kernel) rfl
theorem tw_109 : Cond.fieldLinkNest RX10 85 "SyntaxRepair$Situation" "tokens" "LSyntaxRepair$Tokens;" "SyntaxRepair" ∈ Tk := tk_at 109 (by decide +kernel) rfl
theorem tw_483 : Cond.methodLink RX10 102 yX9_add ∈ Tk := tk_at 483 (by decide +kernel) rfl
theorem tw_482 : Cond.methodLink RX10 98 yX10_isKind ∈ Tk := tk_at 482 (by decide +kernel) rfl
theorem tw_488 : Cond.methodLinkNest RX9 27 yX10_put "SyntaxRepair" ∈ Tk := tk_at 488 (by decide +kernel) rfl
theorem tw_487 : Cond.methodLinkNest RX9 23 yX10_at "SyntaxRepair" ∈ Tk := tk_at 487 (by decide +kernel) rfl
theorem tw_501 : Cond.methodLink RX10 108 yX9_remove ∈ Tk := tk_at 501 (by decide +kernel) rfl
theorem tw_497 : Cond.methodLink RX10 105 yX10_isToken ∈ Tk := tk_at 497 (by decide +kernel) rfl
theorem tw_505 : Cond.methodLink RX9 31 yX9_kindAt ∈ Tk := tk_at 505 (by decide +kernel) rfl
theorem tw_517 : Cond.methodLink RX10 112 yX10_changeCost ∈ Tk := tk_at 517 (by decide +kernel) rfl
theorem tw_526 : Cond.methodLink RX10 125 yX1_change ∈ Tk := tk_at 526 (by decide +kernel) rfl
theorem tw_106 : Cond.fieldLinkNest RX10 116 "SyntaxRepair$Situation" "costs" "LSyntaxRepair$Costs;" "SyntaxRepair" ∈ Tk := tk_at 106 (by decide +kernel) rfl
theorem tw_521 : Cond.methodLink RX10 120 yX1_of ∈ Tk := tk_at 521 (by decide +kernel) rfl
theorem tw_525 : Cond.methodLinkNest RX1 30 yX10_at "SyntaxRepair" ∈ Tk := tk_at 525 (by decide +kernel) rfl
theorem tw_130 : Cond.fieldLinkNest RX10 129 "SyntaxRepair$History" "count" "I" "SyntaxRepair" ∈ Tk := tk_at 130 (by decide +kernel) rfl
theorem tw_539 : Cond.methodLink RX10 130 yX4_recall ∈ Tk := tk_at 539 (by decide +kernel) rfl
theorem tw_44 : Cond.fieldLinkNest RX10 143 "SyntaxRepair$Automaton" "states" "I" "SyntaxRepair" ∈ Tk := tk_at 44 (by decide +kernel) rfl
theorem tw_99 : Cond.fieldLinkNest RX10 54 "SyntaxRepair$Situation" "automaton" "LSyntaxRepair$Automaton;" "SyntaxRepair" ∈ Tk := tk_at 99 (by decide +kernel) rfl
theorem tw_551 : Cond.methodLink RX10 146 yX0_accepts ∈ Tk := tk_at 551 (by decide +kernel) rfl
theorem tw_559 : Cond.methodLink RX10 149 yX0_countRules ∈ Tk := tk_at 559 (by decide +kernel) rfl
theorem tw_571 : Cond.methodLink RX10 152 yX9_kindAt ∈ Tk := tk_at 571 (by decide +kernel) rfl
theorem tw_254 : Cond.fieldLinkNest RX10 159 "SyntaxRepair$Cursor" "position" "I" "SyntaxRepair" ∈ Tk := tk_at 254 (by decide +kernel) rfl
theorem tw_274 : Cond.fieldLink RX10 50 "SyntaxRepair" "cursor" "LSyntaxRepair$Cursor;" ∈ Tk := tk_at 274 (by decide +kernel) rfl
theorem tw_576 : Cond.methodLink RX10 155 yX10_findError ∈ Tk := tk_at 576 (by decide +kernel) rfl
theorem tw_595 : Cond.methodLink RX10 181 yX2_isDone ∈ Tk := tk_at 595 (by decide +kernel) rfl
theorem tw_584 : Cond.methodLink RX10 177 yX2_run ∈ Tk := tk_at 584 (by decide +kernel) rfl
theorem tw_580 : Cond.methodLink RX10 174 yX2_toStart ∈ Tk := tk_at 580 (by decide +kernel) rfl
theorem tw_255 : Cond.fieldLink RX2 9 "SyntaxRepair$Cursor" "configuration" "I" ∈ Tk := tk_at 255 (by decide +kernel) rfl
theorem tw_252 : Cond.fieldLink RX2 15 "SyntaxRepair$Cursor" "position" "I" ∈ Tk := tk_at 252 (by decide +kernel) rfl
theorem tw_590 : Cond.methodLink RX2 43 yX0_after ∈ Tk := tk_at 590 (by decide +kernel) rfl
theorem tw_589 : Cond.methodLink RX2 39 yX9_kindAt ∈ Tk := tk_at 589 (by decide +kernel) rfl
theorem tw_108 : Cond.fieldLinkNest RX2 18 "SyntaxRepair$Situation" "tokens" "LSyntaxRepair$Tokens;" "SyntaxRepair" ∈ Tk := tk_at 108 (by decide +kernel) rfl
theorem tw_100 : Cond.fieldLinkNest RX2 35 "SyntaxRepair$Situation" "automaton" "LSyntaxRepair$Automaton;" "SyntaxRepair" ∈ Tk := tk_at 100 (by decide +kernel) rfl
theorem tw_588 : Cond.methodLink RX2 29 Lib.Math.min.name ∈ Tk := tk_at 588 (by decide +kernel) rfl
theorem tw_90 : Cond.fieldLinkNest RX2 24 "SyntaxRepair$Tokens" "count" "I" "SyntaxRepair" ∈ Tk := tk_at 90 (by decide +kernel) rfl
theorem tw_594 : Cond.methodLinkNest RX0 44 yX10_isKind "SyntaxRepair" ∈ Tk := tk_at 594 (by decide +kernel) rfl
theorem tw_599 : Cond.methodLink RX2 48 yX0_isFinal ∈ Tk := tk_at 599 (by decide +kernel) rfl
theorem tw_257 : Cond.fieldLinkNest RX10 165 "SyntaxRepair$Cursor" "configuration" "I" "SyntaxRepair" ∈ Tk := tk_at 257 (by decide +kernel) rfl
theorem tw_607 : Cond.methodLink RX10 162 yX10_runFirst ∈ Tk := tk_at 607 (by decide +kernel) rfl
theorem tw_615 : Cond.methodLink RX10 168 yX10_depthOf ∈ Tk := tk_at 615 (by decide +kernel) rfl
theorem tw_622 : Cond.methodLink RX10 171 yX0_after ∈ Tk := tk_at 622 (by decide +kernel) rfl
theorem tw_687 : Cond.methodLink RX10 191 yX10_costOrNone ∈ Tk := tk_at 687 (by decide +kernel) rfl
theorem tw_683 : Cond.methodLink RX10 188 yX7_leastFrom ∈ Tk := tk_at 683 (by decide +kernel) rfl
theorem tw_627 : Cond.methodLink RX10 185 yX7_solve ∈ Tk := tk_at 627 (by decide +kernel) rfl
theorem tw_197 : Cond.fieldLink RX7 39 "SyntaxRepair$ScriptTable" "solved" "Z" ∈ Tk := tk_at 197 (by decide +kernel) rfl
theorem tw_644 : Cond.methodLink RX7 68 yX7_settleLevel ∈ Tk := tk_at 644 (by decide +kernel) rfl
theorem tw_92 : Cond.fieldLinkNest RX7 63 "SyntaxRepair$Tokens" "count" "I" "SyntaxRepair" ∈ Tk := tk_at 92 (by decide +kernel) rfl
theorem tw_110 : Cond.fieldLinkNest RX7 59 "SyntaxRepair$Situation" "tokens" "LSyntaxRepair$Tokens;" "SyntaxRepair" ∈ Tk := tk_at 110 (by decide +kernel) rfl
theorem tw_192 : Cond.fieldLink RX7 12 "SyntaxRepair$ScriptTable" "situation" "LSyntaxRepair$Situation;" ∈ Tk := tk_at 192 (by decide +kernel) rfl
theorem tw_632 : Cond.methodLink RX7 55 yX5_explore ∈ Tk := tk_at 632 (by decide +kernel) rfl
theorem tw_101 : Cond.fieldLinkNest RX7 51 "SyntaxRepair$Situation" "automaton" "LSyntaxRepair$Automaton;" "SyntaxRepair" ∈ Tk := tk_at 101 (by decide +kernel) rfl
theorem tw_193 : Cond.fieldLink RX7 21 "SyntaxRepair$ScriptTable" "reach" "LSyntaxRepair$Reach;" ∈ Tk := tk_at 193 (by decide +kernel) rfl
theorem tw_631 : Cond.methodLink RX7 47 yX8_copyFrom ∈ Tk := tk_at 631 (by decide +kernel) rfl
theorem tw_199 : Cond.fieldLink RX7 43 "SyntaxRepair$ScriptTable" "lookAhead" "I" ∈ Tk := tk_at 199 (by decide +kernel) rfl
theorem tw_658 : Cond.methodLink RX7 82 yX7_refresh ∈ Tk := tk_at 658 (by decide +kernel) rfl
theorem tw_654 : Cond.methodLink RX7 78 yX5_configurationAt ∈ Tk := tk_at 654 (by decide +kernel) rfl
theorem tw_182 : Cond.fieldLinkNest RX7 77 "SyntaxRepair$Reach" "count" "I" "SyntaxRepair" ∈ Tk := tk_at 182 (by decide +kernel) rfl
theorem tw_649 : Cond.methodLink RX7 73 yX7_store ∈ Tk := tk_at 649 (by decide +kernel) rfl
theorem tw_648 : Cond.constant RX7 72 (1000000 : Int32) ∈ Tk := tk_at 648 (by decide +kernel) rfl
theorem tw_641 : Cond.methodLinkNest RX5 33 yX10_at "SyntaxRepair" ∈ Tk := tk_at 641 (by decide +kernel) rfl
theorem tw_179 : Cond.fieldLink RX5 15 "SyntaxRepair$Reach" "reached" "[I" ∈ Tk := tk_at 179 (by decide +kernel) rfl
theorem tw_202 : Cond.fieldLink RX7 99 "SyntaxRepair$ScriptTable" "newWays" "I" ∈ Tk := tk_at 202 (by decide +kernel) rfl
theorem tw_201 : Cond.fieldLink RX7 96 "SyntaxRepair$ScriptTable" "newSecond" "I" ∈ Tk := tk_at 201 (by decide +kernel) rfl
theorem tw_200 : Cond.fieldLink RX7 93 "SyntaxRepair$ScriptTable" "newLeast" "I" ∈ Tk := tk_at 200 (by decide +kernel) rfl
theorem tw_682 : Cond.methodLinkNest RX7 35 yX10_at "SyntaxRepair" ∈ Tk := tk_at 682 (by decide +kernel) rfl
theorem tw_196 : Cond.fieldLink RX7 32 "SyntaxRepair$ScriptTable" "ways" "[I" ∈ Tk := tk_at 196 (by decide +kernel) rfl
theorem tw_195 : Cond.fieldLink RX7 29 "SyntaxRepair$ScriptTable" "second" "[I" ∈ Tk := tk_at 195 (by decide +kernel) rfl
theorem tw_194 : Cond.fieldLink RX7 25 "SyntaxRepair$ScriptTable" "least" "[I" ∈ Tk := tk_at 194 (by decide +kernel) rfl
theorem tw_678 : Cond.methodLink RX7 122 yX7_offer ∈ Tk := tk_at 678 (by decide +kernel) rfl
theorem tw_677 : Cond.methodLink RX7 117 yX1_of ∈ Tk := tk_at 677 (by decide +kernel) rfl
theorem tw_105 : Cond.fieldLinkNest RX7 113 "SyntaxRepair$Situation" "costs" "LSyntaxRepair$Costs;" "SyntaxRepair" ∈ Tk := tk_at 105 (by decide +kernel) rfl
theorem tw_668 : Cond.methodLink RX7 110 yX9_kindAt ∈ Tk := tk_at 668 (by decide +kernel) rfl
theorem tw_673 : Cond.methodLink RX7 106 yX7_offerConsumption ∈ Tk := tk_at 673 (by decide +kernel) rfl
theorem tw_669 : Cond.methodLink RX7 102 yX5_after ∈ Tk := tk_at 669 (by decide +kernel) rfl
theorem tw_662 : Cond.methodLink RX7 90 yX7_isEnd ∈ Tk := tk_at 662 (by decide +kernel) rfl
theorem tw_653 : Cond.methodLinkNest RX7 86 yX10_put "SyntaxRepair" ∈ Tk := tk_at 653 (by decide +kernel) rfl
theorem tw_667 : Cond.methodLink RX7 126 Lib.Math.min.name ∈ Tk := tk_at 667 (by decide +kernel) rfl
theorem tw_178 : Cond.fieldLink RX5 9 "SyntaxRepair$Reach" "next" "[I" ∈ Tk := tk_at 178 (by decide +kernel) rfl
theorem tw_666 : Cond.methodLink RX7 131 yX0_isFinal ∈ Tk := tk_at 666 (by decide +kernel) rfl
theorem tw_637 : Cond.methodLink RX5 29 yX5_add ∈ Tk := tk_at 637 (by decide +kernel) rfl
theorem tw_642 : Cond.methodLinkNest RX5 43 yX10_put "SyntaxRepair" ∈ Tk := tk_at 642 (by decide +kernel) rfl
theorem tw_643 : Cond.methodLink RX5 37 yX0_after ∈ Tk := tk_at 643 (by decide +kernel) rfl
theorem tw_181 : Cond.fieldLink RX5 25 "SyntaxRepair$Reach" "count" "I" ∈ Tk := tk_at 181 (by decide +kernel) rfl
theorem tw_636 : Cond.methodLinkNest RX5 21 yX10_fill "SyntaxRepair" ∈ Tk := tk_at 636 (by decide +kernel) rfl
theorem tw_180 : Cond.fieldLink RX5 18 "SyntaxRepair$Reach" "seen" "[I" ∈ Tk := tk_at 180 (by decide +kernel) rfl
theorem tw_690 : Cond.constant RX10 219 (1000000 : Int32) ∈ Tk := tk_at 690 (by decide +kernel) rfl
theorem tw_695 : Cond.methodLink RX10 194 yX7_waysFrom ∈ Tk := tk_at 695 (by decide +kernel) rfl
theorem tw_703 : Cond.methodLink RX10 197 yX7_secondFrom ∈ Tk := tk_at 703 (by decide +kernel) rfl
theorem tw_238 : Cond.fieldLinkNest RX10 203 "SyntaxRepair$Script" "length" "I" "SyntaxRepair" ∈ Tk := tk_at 238 (by decide +kernel) rfl
theorem tw_273 : Cond.fieldLink RX10 43 "SyntaxRepair" "script" "LSyntaxRepair$Script;" ∈ Tk := tk_at 273 (by decide +kernel) rfl
theorem tw_711 : Cond.methodLink RX10 200 yX10_traceBest ∈ Tk := tk_at 711 (by decide +kernel) rfl
theorem tw_715 : Cond.methodLink RX10 215 yX7_trace ∈ Tk := tk_at 715 (by decide +kernel) rfl
theorem tw_256 : Cond.fieldLinkNest RX7 159 "SyntaxRepair$Cursor" "configuration" "I" "SyntaxRepair" ∈ Tk := tk_at 256 (by decide +kernel) rfl
theorem tw_253 : Cond.fieldLinkNest RX7 154 "SyntaxRepair$Cursor" "position" "I" "SyntaxRepair" ∈ Tk := tk_at 253 (by decide +kernel) rfl
theorem tw_728 : Cond.methodLink RX7 168 yX7_targetOf ∈ Tk := tk_at 728 (by decide +kernel) rfl
theorem tw_743 : Cond.methodLink RX7 165 yX6_add ∈ Tk := tk_at 743 (by decide +kernel) rfl
theorem tw_734 : Cond.methodLink RX7 140 yX7_kindOf ∈ Tk := tk_at 734 (by decide +kernel) rfl
theorem tw_732 : Cond.fieldLinkNest RX7 137 "SyntaxRepair" "MOVE_OPERATIONS" "[I" "SyntaxRepair" ∈ Tk := tk_at 732 (by decide +kernel) rfl
theorem tw_719 : Cond.methodLink RX7 162 yX7_pickMove ∈ Tk := tk_at 719 (by decide +kernel) rfl
theorem tw_203 : Cond.fieldLink RX7 151 "SyntaxRepair$ScriptTable" "rankLeft" "I" ∈ Tk := tk_at 203 (by decide +kernel) rfl
theorem tw_237 : Cond.fieldLinkNest RX7 146 "SyntaxRepair$Script" "length" "I" "SyntaxRepair" ∈ Tk := tk_at 237 (by decide +kernel) rfl
theorem tw_739 : Cond.methodLink RX7 179 yX7_priceOf ∈ Tk := tk_at 739 (by decide +kernel) rfl
theorem tw_724 : Cond.methodLink RX7 175 yX7_firstMove ∈ Tk := tk_at 724 (by decide +kernel) rfl
theorem tw_723 : Cond.methodLink RX7 172 yX7_leastFrom ∈ Tk := tk_at 723 (by decide +kernel) rfl
theorem tw_737 : Cond.fieldLinkNest RX7 143 "SyntaxRepair" "MOVE_KINDS" "[I" "SyntaxRepair" ∈ Tk := tk_at 737 (by decide +kernel) rfl
theorem tw_235 : Cond.fieldLink RX6 18 "SyntaxRepair$Script" "length" "I" ∈ Tk := tk_at 235 (by decide +kernel) rfl
theorem tw_747 : Cond.methodLinkNest RX6 22 yX10_put "SyntaxRepair" ∈ Tk := tk_at 747 (by decide +kernel) rfl
theorem tw_234 : Cond.fieldLink RX6 15 "SyntaxRepair$Script" "kinds" "[I" ∈ Tk := tk_at 234 (by decide +kernel) rfl
theorem tw_233 : Cond.fieldLink RX6 9 "SyntaxRepair$Script" "operations" "[I" ∈ Tk := tk_at 233 (by decide +kernel) rfl
theorem tw_752 : Cond.methodLink RX10 204 yX6_operationAt ∈ Tk := tk_at 752 (by decide +kernel) rfl
theorem tw_756 : Cond.methodLinkNest RX6 26 yX10_at "SyntaxRepair" ∈ Tk := tk_at 756 (by decide +kernel) rfl
theorem tw_761 : Cond.methodLink RX10 207 yX6_kindAt ∈ Tk := tk_at 761 (by decide +kernel) rfl
theorem tw_774 : Cond.methodLink RX10 211 yX9_takeConsumed ∈ Tk := tk_at 774 (by decide +kernel) rfl
theorem tw_769 : Cond.methodLink RX10 208 yX6_countConsumed ∈ Tk := tk_at 769 (by decide +kernel) rfl
theorem tw_773 : Cond.methodLink RX6 30 yX6_operationAt ∈ Tk := tk_at 773 (by decide +kernel) rfl
theorem tw_780 : Cond.methodLink RX9 44 yX9_add ∈ Tk := tk_at 780 (by decide +kernel) rfl
theorem tw_779 : Cond.methodLink RX9 43 yX6_kindAt ∈ Tk := tk_at 779 (by decide +kernel) rfl
theorem tw_778 : Cond.methodLink RX9 40 yX6_operationAt ∈ Tk := tk_at 778 (by decide +kernel) rfl
theorem tw_236 : Cond.fieldLinkNest RX9 35 "SyntaxRepair$Script" "length" "I" "SyntaxRepair" ∈ Tk := tk_at 236 (by decide +kernel) rfl
theorem tw_785 : Cond.methodLink RX10 220 yX10_solveLocal ∈ Tk := tk_at 785 (by decide +kernel) rfl
theorem tw_789 : Cond.methodLink RX10 223 yX10_isLookAhead ∈ Tk := tk_at 789 (by decide +kernel) rfl
theorem tw_820 : Cond.fieldLink RX11 44 "SyntaxRepairModel" "undoable" "I" ∈ Tk := tk_at 820 (by decide +kernel) rfl
theorem tw_958 : Cond.methodLink RX11 48 yX11_copyData ∈ Tk := tk_at 958 (by decide +kernel) rfl
theorem tw_819 : Cond.fieldLink RX11 16 "SyntaxRepairModel" "history" "[I" ∈ Tk := tk_at 819 (by decide +kernel) rfl
theorem tw_817 : Cond.fieldLink RX11 7 "SyntaxRepairModel" "now" "[I" ∈ Tk := tk_at 817 (by decide +kernel) rfl
theorem tw_894 : Cond.methodLink RX11 58 yX11_in ∈ Tk := tk_at 894 (by decide +kernel) rfl
theorem tw_823 : Cond.fieldLink RX11 52 "SyntaxRepairModel" "at" "I" ∈ Tk := tk_at 823 (by decide +kernel) rfl
theorem tw_821 : Cond.fieldLink RX11 19 "SyntaxRepairModel" "text" "[I" ∈ Tk := tk_at 821 (by decide +kernel) rfl
theorem tw_822 : Cond.fieldLink RX11 55 "SyntaxRepairModel" "length" "I" ∈ Tk := tk_at 822 (by decide +kernel) rfl
theorem tw_826 : Cond.fieldLink RX11 65 "SyntaxRepairModel" "word" "J" ∈ Tk := tk_at 826 (by decide +kernel) rfl
theorem tw_918 : Cond.constantLong RX11 78 (97 : Int64) ∈ Tk := tk_at 918 (by decide +kernel) rfl
theorem tw_917 : Cond.constantLong RX11 76 (32 : Int64) ∈ Tk := tk_at 917 (by decide +kernel) rfl
theorem tw_825 : Cond.fieldLink RX11 62 "SyntaxRepairModel" "lexemeAt" "I" ∈ Tk := tk_at 825 (by decide +kernel) rfl
theorem tw_913 : Cond.methodLink RX11 72 yX11_isLetter ∈ Tk := tk_at 913 (by decide +kernel) rfl
theorem tw_824 : Cond.fieldLink RX11 69 "SyntaxRepairModel" "lexeme" "I" ∈ Tk := tk_at 824 (by decide +kernel) rfl
theorem tw_827 : Cond.fieldLink RX11 83 "SyntaxRepairModel" "digit" "I" ∈ Tk := tk_at 827 (by decide +kernel) rfl
theorem tw_909 : Cond.methodLink RX11 80 yX11_next ∈ Tk := tk_at 909 (by decide +kernel) rfl
theorem tw_924 : Cond.methodLink RX11 86 yX11_readDigit ∈ Tk := tk_at 924 (by decide +kernel) rfl
theorem tw_818 : Cond.fieldLink RX11 13 "SyntaxRepairModel" "read" "[I" ∈ Tk := tk_at 818 (by decide +kernel) rfl
theorem tw_946 : Cond.constantLong RX11 90 (6 : Int64) ∈ Tk := tk_at 946 (by decide +kernel) rfl
theorem tw_933 : Cond.methodLink RX11 92 yX11_readState ∈ Tk := tk_at 933 (by decide +kernel) rfl
theorem tw_942 : Cond.methodLink RX11 95 yX11_readKind ∈ Tk := tk_at 942 (by decide +kernel) rfl
theorem tw_950 : Cond.methodLink RX11 116 yX11_readRule ∈ Tk := tk_at 950 (by decide +kernel) rfl
theorem tw_949 : Cond.constantLong RX11 114 (16880 : Int64) ∈ Tk := tk_at 949 (by decide +kernel) rfl
theorem tw_948 : Cond.constantLong RX11 112 (282288 : Int64) ∈ Tk := tk_at 948 (by decide +kernel) rfl
theorem tw_947 : Cond.constantLong RX11 110 (21177619 : Int64) ∈ Tk := tk_at 947 (by decide +kernel) rfl
theorem tw_938 : Cond.methodLink RX11 107 yX11_readCost ∈ Tk := tk_at 938 (by decide +kernel) rfl
theorem tw_937 : Cond.constantLong RX11 105 (675299 : Int64) ∈ Tk := tk_at 937 (by decide +kernel) rfl
theorem tw_929 : Cond.methodLink RX11 102 yX11_readAccept ∈ Tk := tk_at 929 (by decide +kernel) rfl
theorem tw_928 : Cond.constantLong RX11 100 (688032865 : Int64) ∈ Tk := tk_at 928 (by decide +kernel) rfl
theorem tw_923 : Cond.constantLong RX11 98 (643434131 : Int64) ∈ Tk := tk_at 923 (by decide +kernel) rfl
theorem tw_828 : Cond.fieldLink RX11 120 "SyntaxRepairModel" "statements" "I" ∈ Tk := tk_at 828 (by decide +kernel) rfl
theorem tw_919 : Cond.methodLink RX11 123 yX11_readStatement ∈ Tk := tk_at 919 (by decide +kernel) rfl
theorem tw_814 : Cond.methodLink RX11 40 yX11_clearData ∈ Tk := tk_at 814 (by decide +kernel) rfl
theorem tw_954 : Cond.methodLink RX11 131 yX11_save ∈ Tk := tk_at 954 (by decide +kernel) rfl
theorem tw_905 : Cond.methodLink RX11 127 yX11_parse ∈ Tk := tk_at 905 (by decide +kernel) rfl
theorem tw_965 : Cond.methodLink RX11 134 yX11_insertToken ∈ Tk := tk_at 965 (by decide +kernel) rfl
theorem tw_969 : Cond.methodLink RX11 138 yX11_isKind ∈ Tk := tk_at 969 (by decide +kernel) rfl
theorem tw_977 : Cond.methodLink RX11 141 yX11_isToken ∈ Tk := tk_at 977 (by decide +kernel) rfl
theorem tw_989 : Cond.methodLink RX11 144 yX11_setCost ∈ Tk := tk_at 989 (by decide +kernel) rfl
theorem tw_829 : Cond.fieldLink RX11 148 "SyntaxRepairModel" "reached" "I" ∈ Tk := tk_at 829 (by decide +kernel) rfl
theorem tw_1037 : Cond.methodLink RX11 151 yX11_consume ∈ Tk := tk_at 1037 (by decide +kernel) rfl
theorem tw_1041 : Cond.methodLink RX11 157 yX11_isFinal ∈ Tk := tk_at 1041 (by decide +kernel) rfl
theorem tw_1033 : Cond.methodLink RX11 154 yX11_run ∈ Tk := tk_at 1033 (by decide +kernel) rfl
theorem tw_1029 : Cond.methodLink RX11 160 yX11_findError ∈ Tk := tk_at 1029 (by decide +kernel) rfl
theorem tw_1049 : Cond.methodLink RX11 163 yX11_runTokens ∈ Tk := tk_at 1049 (by decide +kernel) rfl
theorem tw_1057 : Cond.methodLink RX11 167 yX11_depth ∈ Tk := tk_at 1057 (by decide +kernel) rfl
theorem tw_834 : Cond.fieldLink RX11 173 "SyntaxRepairModel" "greater" "I" ∈ Tk := tk_at 834 (by decide +kernel) rfl
theorem tw_833 : Cond.fieldLink RX11 170 "SyntaxRepairModel" "least" "I" ∈ Tk := tk_at 833 (by decide +kernel) rfl
theorem tw_1080 : Cond.methodLink RX11 176 yX11_offer ∈ Tk := tk_at 1080 (by decide +kernel) rfl
theorem tw_831 : Cond.fieldLink RX11 25 "SyntaxRepairModel" "second" "[I" ∈ Tk := tk_at 831 (by decide +kernel) rfl
theorem tw_830 : Cond.fieldLink RX11 22 "SyntaxRepairModel" "first" "[I" ∈ Tk := tk_at 830 (by decide +kernel) rfl
theorem tw_835 : Cond.fieldLink RX11 180 "SyntaxRepairModel" "edgeCost" "I" ∈ Tk := tk_at 835 (by decide +kernel) rfl
theorem tw_1088 : Cond.methodLink RX11 187 yX11_offerNode ∈ Tk := tk_at 1088 (by decide +kernel) rfl
theorem tw_1084 : Cond.methodLink RX11 184 yX11_edge ∈ Tk := tk_at 1084 (by decide +kernel) rfl
theorem tw_1072 : Cond.constant RX11 183 (1000000 : Int32) ∈ Tk := tk_at 1072 (by decide +kernel) rfl
theorem tw_1076 : Cond.methodLink RX11 194 yX11_improve ∈ Tk := tk_at 1076 (by decide +kernel) rfl
theorem tw_1073 : Cond.methodLink RX11 191 yX11_isConfig ∈ Tk := tk_at 1073 (by decide +kernel) rfl
theorem tw_832 : Cond.fieldLink RX11 28 "SyntaxRepairModel" "paths" "[I" ∈ Tk := tk_at 832 (by decide +kernel) rfl
theorem tw_1104 : Cond.methodLink RX11 197 yX11_pathsBy ∈ Tk := tk_at 1104 (by decide +kernel) rfl
theorem tw_1100 : Cond.methodLink RX11 203 yX11_countPaths ∈ Tk := tk_at 1100 (by decide +kernel) rfl
theorem tw_1068 : Cond.methodLink RX11 200 yX11_findCosts ∈ Tk := tk_at 1068 (by decide +kernel) rfl
theorem tw_1096 : Cond.methodLink RX11 206 yX11_findPaths ∈ Tk := tk_at 1096 (by decide +kernel) rfl
theorem tw_838 : Cond.fieldLink RX11 209 "SyntaxRepairModel" "scriptLength" "I" ∈ Tk := tk_at 838 (by decide +kernel) rfl
theorem tw_837 : Cond.fieldLink RX11 34 "SyntaxRepairModel" "kinds" "[I" ∈ Tk := tk_at 837 (by decide +kernel) rfl
theorem tw_836 : Cond.fieldLink RX11 31 "SyntaxRepairModel" "operations" "[I" ∈ Tk := tk_at 836 (by decide +kernel) rfl
theorem tw_839 : Cond.fieldLink RX11 212 "SyntaxRepairModel" "left" "I" ∈ Tk := tk_at 839 (by decide +kernel) rfl
theorem tw_1124 : Cond.methodLink RX11 215 yX11_append ∈ Tk := tk_at 1124 (by decide +kernel) rfl
theorem tw_1120 : Cond.methodLink RX11 218 yX11_follow ∈ Tk := tk_at 1120 (by decide +kernel) rfl
theorem tw_1116 : Cond.methodLink RX11 221 yX11_findScript ∈ Tk := tk_at 1116 (by decide +kernel) rfl
theorem tw_1136 : Cond.methodLink RX11 224 yX11_scriptEntry ∈ Tk := tk_at 1136 (by decide +kernel) rfl
theorem tw_1132 : Cond.methodLink RX11 228 yX11_repairEntry ∈ Tk := tk_at 1132 (by decide +kernel) rfl
theorem tw_840 : Cond.fieldLink RX11 37 "SyntaxRepairModel" "local" "[I" ∈ Tk := tk_at 840 (by decide +kernel) rfl
theorem tw_1168 : Cond.methodLink RX11 232 yX11_localBy ∈ Tk := tk_at 1168 (by decide +kernel) rfl
theorem tw_1164 : Cond.methodLink RX11 238 yX11_improveLocal ∈ Tk := tk_at 1164 (by decide +kernel) rfl
theorem tw_1160 : Cond.methodLink RX11 235 yX11_passes ∈ Tk := tk_at 1160 (by decide +kernel) rfl
theorem tw_1176 : Cond.methodLink RX11 241 yX11_followLocal ∈ Tk := tk_at 1176 (by decide +kernel) rfl
theorem tw_1172 : Cond.methodLink RX11 247 yX11_repairLocally ∈ Tk := tk_at 1172 (by decide +kernel) rfl
theorem tw_1156 : Cond.methodLink RX11 244 yX11_findLocalCosts ∈ Tk := tk_at 1156 (by decide +kernel) rfl
theorem tw_1152 : Cond.methodLink RX11 250 yX11_findLocal ∈ Tk := tk_at 1152 (by decide +kernel) rfl
theorem tw_1184 : Cond.methodLink RX11 253 yX11_localEntry ∈ Tk := tk_at 1184 (by decide +kernel) rfl
end
section
/-! String.length() and String.charAt(int) of the String constants, over the JDK's own bytecode -/
section STRS
variable {X : CX} {g : GX} {w : WX} {cc : ByteArray} {nL k ns d : Nat} {own : String} {ret : Option FieldType} {Q : State → Prop} {pc : Nat} {vs : List (Option Value)} {st : List Value} {M : Mm}
theorem V_nret {ty : FieldType} (hC : Cx X g cc nL own (some ty) d) {post : Int32 → Mm → Prop} {r : Int32} (hn : narrow ty (.int r) = .int r) (h : post r M) (hd : decode cc pc = .ok (.ireturn, 1)) : V X g w nL k ns (QI X g w post k ns) pc vs [.int r] M :=
  fun H locs ls hL hz hP hS => W.zret hC.1 hC.2.1 hC.2.2.2.1 hn (fun t ht hW => ⟨⟨r, M, rfl, h, wb_of hC hz hP hS ht hW⟩, hS.F ht⟩) hS.2.2 hd hC.2.2.2.2.2.1
theorem V_pop (hC : Cx X g cc nL own ret d) {v : Value} (hv : v.category = 1) (hd : decode cc pc = .ok (.pop, 1)) (kk : V X g w nL k ns Q (pc + 1) vs st M) : V X g w nL k ns Q pc vs (v :: st) M :=
  fun H locs ls hL hz hP hS => lv_pop hC.1 hC.2.1 hd hv (kk H locs ls hL hz hP hS)
theorem V_i2c (hC : Cx X g cc nL own ret d) {x v : Int32} (hv : (x.toUInt32 % 65536).toInt32 = v) (hd : decode cc pc = .ok (.i2c, 1)) (kk : V X g w nL k ns Q (pc + 1) vs (.int v :: st) M) : V X g w nL k ns Q pc vs (.int x :: st) M :=
  fun H locs ls hL hz hP hS => lv_i2c hC.1 hC.2.1 hd hv (kk H locs ls hL hz hP hS)
theorem V_gcs (hC : Cx X g cc nL own ret d) {index : Nat} (hw : Cond.fieldLink own index "java/lang/String" "COMPACT_STRINGS" "Z" ∈ Tk) (hd : decode cc pc = .ok (.getstatic index, 3)) (kk : V X g w nL k ns Q (pc + 3) vs (.int 1 :: st) M) : V X g w nL k ns Q pc vs st M :=
  fun H locs ls hL hz hP hS => va_gets hC.1 hC.2.1 hC.2.2.2.2.2.2.2.2.1.2.2.2.1 hS hC.2.2.1 (hC.2.2.2.2.2.2.1.hts _ hw) (fun _ h => h) hd (kk H locs ls hL hz hP hS)
theorem V_gfm (hC : Cx X g cc nL own ret d) {index : Nat} (hw : Cond.fieldLink own index "jdk/internal/util/Preconditions" "SIOOBE_FORMATTER" "Ljava/util/function/BiFunction;" ∈ Tk) (hd : decode cc pc = .ok (.getstatic index, 3)) (kk : ∀ v : Value, v.category = 1 → V X g w nL k ns Q (pc + 3) vs (v :: st) M) : V X g w nL k ns Q pc vs st M := by
  rcases hC.2.2.2.2.2.2.2.2.1.2.2.2.2 with h | ⟨t, h⟩
  · exact fun H locs ls hL hz hP hS => va_gets hC.1 hC.2.1 h hS hC.2.2.1 (hC.2.2.2.2.2.2.1.hts _ hw) (fun _ h => h) hd (kk _ rfl H locs ls hL hz hP hS)
  · exact fun H locs ls hL hz hP hS => va_gets hC.1 hC.2.1 h hS hC.2.2.1 (hC.2.2.2.2.2.2.1.hts _ hw) (fun _ h => h) hd (kk _ rfl H locs ls hL hz hP hS)
theorem V_gsc (hC : Cx X g cc nL own ret d) {i : Nat} (hi : i < 7) {index : Nat} (hw : Cond.fieldLink own index "java/lang/String" "coder" "B" ∈ Tk) (hd : decode cc pc = .ok (.getfield index, 3)) (kk : V X g w nL k ns Q (pc + 3) vs (.int 0 :: st) M) : V X g w nL k ns Q pc vs (.ref (g.2.2.2.2.1 i) :: st) M :=
  fun H locs ls hL hz hP hS => vk_getf hC.1 hC.2.1 (hC.2.2.2.2.2.2.2.2.1.1.1 i hi).2.1 hS hC.2.2.1 (hC.2.2.2.2.2.2.1.hts _ hw) (fun _ h => h) hd (kk H locs ls hL hz hP hS)
theorem V_gsv (hC : Cx X g cc nL own ret d) {i : Nat} (hi : i < 7) {index : Nat} (hw : Cond.fieldLink own index "java/lang/String" "value" "[B" ∈ Tk) (hd : decode cc pc = .ok (.getfield index, 3)) (kk : V X g w nL k ns Q (pc + 3) vs (.ref (g.2.2.2.2.2.1 i) :: st) M) : V X g w nL k ns Q pc vs (.ref (g.2.2.2.2.1 i) :: st) M :=
  fun H locs ls hL hz hP hS => vk_getf hC.1 hC.2.1 (hC.2.2.2.2.2.2.2.2.1.1.1 i hi).2.2.1 hS hC.2.2.1 (hC.2.2.2.2.2.2.1.hts _ hw) (fun _ h => h) hd (kk H locs ls hL hz hP hS)
theorem V_svl (hC : Cx X g cc nL own ret d) {i : Nat} (hi : i < 7) (hd : decode cc pc = .ok (.arraylength, 1)) (kk : V X g w nL k ns Q (pc + 1) vs (.int (nI (lenS.getD i 0)) :: st) M) : V X g w nL k ns Q pc vs (.ref (g.2.2.2.2.2.1 i) :: st) M :=
  fun H locs ls hL hz hP hS => va_tlen hC.1 hC.2.1 (hC.2.2.2.2.2.2.2.2.1.1.1 i hi).2.2.2 hS rfl hd (kk H locs ls hL hz hP hS)
theorem V_svb (hC : Cx X g cc nL own ret d) {i : Nat} (hi : i < 7) {x : Int32} (hx : vp_in x (lenS.getD i 0)) (hd : decode cc pc = .ok (.baload, 1)) (kk : V X g w nL k ns Q (pc + 1) vs (.int ((bytS.getD i []).getD x.toNatClampNeg 0) :: st) M) : V X g w nL k ns Q pc vs (.int x :: .ref (g.2.2.2.2.2.1 i) :: st) M :=
  fun H locs ls hL hz hP hS => va_tb hC.1 hC.2.1 (hC.2.2.2.2.2.2.2.2.1.1.1 i hi).2.2.2 hS hx rfl hd (kk H locs ls hL hz hP hS)
theorem V_callS (hC : Cx X g cc nL own ret d) {post : Int32 → Mm → Prop} {i : Nat} (hi : i < 7) {y : MethodName} {bytes : ByteArray} {maxL n d2 index : Nat} {ret2 : Option FieldType} {As : List Value} (hM : Met X.2.1 y [Cond.code y bytes maxL ret2] (rmC d2 0 0) (va_Pc (.ref (g.2.2.2.2.1 i) :: As) (Wb g w M)) (va_Qi post (Wb g w) (Af g)) 0 0 (Af g)) (hm : MI y bytes maxL ret2 n) (hy : y.cls = "java/lang/String") (hd2 : d2 < d) (hw : Cond.methodLink own index y ∈ Tk) (hn : As.length = n) {stk : List Value} (hstk : stk = As.reverse ++ .ref (g.2.2.2.2.1 i) :: st) (hcat : (st.map fun v => v.category).sum ≤ 8) (hr : k ≤ X.2.2.2.1.cells ∧ ns ≤ X.2.2.2.1.slots) (hd : decode cc pc = .ok (.invokevirtual index, 3)) (kk : ∀ r M', post r M' → V X g w nL k ns Q (pc + 3) vs (.int r :: st) M') : V X g w nL k ns Q pc vs stk M :=
  fun H locs ls hL hz hP hS => by
    have hts : ∀ c ∈ Tk, c.before X.2.2.2.2.2.2.1 X.2.2.2.2.1 = true := hC.2.2.2.2.2.2.1.hts
    exact behind_i hL hS (va_runV (C := y.cls) (b := g.2.2.2.2.1 i) (As := As) (rest := st) (fix_of hC) hM ⟨cbB hC hm.1 hd2 hw, hts _ hm.2.1, hts _ hm.2.2⟩ ⟨wb_blind, by rw [hy]; exact vk_recv hC.2.2.2.2.2.2.2.2.1.1 hi hS, fun U hU hW => ⟨rfl, wb_of hC hz hP hS hU hW⟩⟩ rfl hn hL.size hstk (lv_room hcat) hd hr) kk
theorem V_icmp_ltT (hC : Cx X g cc nL own ret d) {x y : Int32} (h : x < y) {off : Int} {tgt : Nat} (hd : decode cc pc = .ok (.if_icmp .lt off, 3)) (ht : (pc : Int) + off = (tgt : Int)) (kt : V X g w nL k ns Q tgt vs st M) : V X g w nL k ns Q pc vs (.int y :: .int x :: st) M := V_icmp_lt hC hd ht (fun _ => kt) (fun q => absurd h q)
end STRS
theorem mw_J0_length : MI yJ0_length_8abf5 cJ0_length_8abf5 1 (some .int) 0 := ⟨⟨tk_at 333 (by decide +kernel) rfl, tk_at 13 (by decide +kernel) rfl, ⟨by decide +kernel, by decide +kernel⟩, by decide +kernel, by decide⟩, tk_at 331 (by decide +kernel) rfl, tk_at 332 (by decide +kernel) rfl⟩
theorem mw_J0_coder : MI yJ0_coder_7d493 cJ0_coder_7d493 1 (some .byte) 0 := ⟨⟨tk_at 337 (by decide +kernel) rfl, tk_at 13 (by decide +kernel) rfl, ⟨by decide +kernel, by decide +kernel⟩, by decide +kernel, by decide⟩, tk_at 335 (by decide +kernel) rfl, tk_at 336 (by decide +kernel) rfl⟩
theorem mw_J0_charAt : MI yJ0_charAt_5068e cJ0_charAt_5068e 2 (some .char) 1 := ⟨⟨tk_at 343 (by decide +kernel) rfl, tk_at 13 (by decide +kernel) rfl, ⟨by decide +kernel, by decide +kernel⟩, by decide +kernel, by decide⟩, tk_at 341 (by decide +kernel) rfl, tk_at 342 (by decide +kernel) rfl⟩
theorem mw_J0_isLatin1 : MI yJ0_isLatin1_aae02 cJ0_isLatin1_aae02 1 (some .boolean) 0 := ⟨⟨tk_at 347 (by decide +kernel) rfl, tk_at 13 (by decide +kernel) rfl, ⟨by decide +kernel, by decide +kernel⟩, by decide +kernel, by decide⟩, tk_at 345 (by decide +kernel) rfl, tk_at 346 (by decide +kernel) rfl⟩
theorem mw_J1_charAt : MS yJ1_charAt_3b067 cJ1_charAt_3b067 2 (some .char) 2 := ⟨⟨tk_at 350 (by decide +kernel) rfl, tk_at 14 (by decide +kernel) rfl, ⟨by decide +kernel, by decide +kernel⟩, by decide +kernel, by decide⟩, tk_at 349 (by decide +kernel) rfl⟩
theorem mw_J0_checkIndex : MS yJ0_checkIndex_df160 cJ0_checkIndex_df160 2 none 2 := ⟨⟨tk_at 353 (by decide +kernel) rfl, tk_at 13 (by decide +kernel) rfl, ⟨by decide +kernel, by decide +kernel⟩, by decide +kernel, by decide⟩, tk_at 352 (by decide +kernel) rfl⟩
theorem mw_J3_checkIndex : MS yJ3_checkIndex_8e157 cJ3_checkIndex_8e157 3 (some .int) 3 := ⟨⟨tk_at 358 (by decide +kernel) rfl, tk_at 15 (by decide +kernel) rfl, ⟨by decide +kernel, by decide +kernel⟩, by decide +kernel, by decide⟩, tk_at 357 (by decide +kernel) rfl⟩
theorem tw_334 : Cond.methodLink RJ0 335 yJ0_coder_7d493 ∈ Tk := tk_at 334 (by decide +kernel) rfl
theorem tw_338 : Cond.fieldLink RJ0 38 "java/lang/String" "COMPACT_STRINGS" "Z" ∈ Tk := tk_at 338 (by decide +kernel) rfl
theorem tw_344 : Cond.methodLink RJ0 492 yJ0_isLatin1_aae02 ∈ Tk := tk_at 344 (by decide +kernel) rfl
theorem tw_348 : Cond.methodLink RJ0 495 yJ1_charAt_3b067 ∈ Tk := tk_at 348 (by decide +kernel) rfl
theorem tw_351 : Cond.methodLink RJ1 9 yJ0_checkIndex_df160 ∈ Tk := tk_at 351 (by decide +kernel) rfl
theorem tw_354 : Cond.fieldLink RJ0 1053 "jdk/internal/util/Preconditions" "SIOOBE_FORMATTER" "Ljava/util/function/BiFunction;" ∈ Tk := tk_at 354 (by decide +kernel) rfl
theorem tw_356 : Cond.methodLink RJ0 1059 yJ3_checkIndex_8e157 ∈ Tk := tk_at 356 (by decide +kernel) rfl
theorem tw_1200 : Cond.fieldLink RJ0 9 "java/lang/String" "value" "[B" ∈ Tk := tk_at 1200 (by decide +kernel) rfl
theorem tw_1201 : Cond.fieldLink RJ0 15 "java/lang/String" "coder" "B" ∈ Tk := tk_at 1201 (by decide +kernel) rfl
theorem cat3 {a b c : Value} (ha : a.category = 1) (hb : b.category = 1) (hc : c.category = 1) : ∀ v ∈ [a, b, c], v.category = 1 := fun v hv => by
  simp only [List.mem_cons, List.not_mem_nil, or_false] at hv
  rcases hv with rfl | rfl | rfl <;> assumption
theorem c_J3_checkIndex (l : Launch) (g : GX) (w : WX) (M : Mm) {x L : Int32} {fv : Value} (hfv : fv.category = 1) (h0 : ¬ x < 0) (h1 : x < L) : Met l yJ3_checkIndex_8e157 [Cond.code yJ3_checkIndex_8e157 cJ3_checkIndex_8e157 3 (some .int)] (rmC 0 0 0) (va_Pc [.int x, .int L, fv] (Wb g w M)) (va_Qi (fun r M' => r = x ∧ M' = M) (Wb g w) (Af g)) 0 0 (Af g) := by
  refine Ct_i (by decide) rfl (cat3 rfl rfl hfv) (by simp only [lg_sl, List.flatMap_cons, List.flatMap_nil, hfv]; exact Nat.le_of_ble_eq_true rfl) (Nat.le_refl _) ?_
  intro X hX _ hC
  refine V_sub (us := [some (.int x), some (.int L), none]) ⟨rfl, rfl, trivial⟩ ?_
  refine V_iload_n hC rfl dJ3_checkIndex_8e157_0 ?_
  refine V_if_lt (tgt := 9) hC dJ3_checkIndex_8e157_1 (by decide) (fun q => absurd q h0) (fun _ => ?_)
  refine V_iload_n hC rfl dJ3_checkIndex_8e157_4 ?_
  refine V_iload_n hC rfl dJ3_checkIndex_8e157_5 ?_
  refine V_icmp_ltT (tgt := 16) hC h1 dJ3_checkIndex_8e157_6 (by decide) ?_
  refine V_iload_n hC rfl dJ3_checkIndex_8e157_16 ?_
  exact V_iret hC ⟨rfl, rfl⟩ dJ3_checkIndex_8e157_17
theorem c_J0_checkIndex (l : Launch) (g : GX) (w : WX) (M : Mm) {x L : Int32} (h0 : ¬ x < 0) (h1 : x < L) : Met l yJ0_checkIndex_df160 [Cond.code yJ0_checkIndex_df160 cJ0_checkIndex_df160 2 none] (rmC 1 0 0) (va_Pc [.int x, .int L] (Wb g w M)) (va_Qv (fun M' => M' = M) (Wb g w) (Af g)) 0 0 (Af g) := by
  refine Ct_v (by decide) rfl (fun v hv => by simp only [List.mem_cons, List.not_mem_nil, or_false] at hv; rcases hv with rfl | rfl <;> rfl) (Nat.le_of_ble_eq_true rfl) (Nat.le_refl _) ?_
  intro X hX _ hC
  refine V_sub (us := [some (.int x), some (.int L)]) ⟨rfl, rfl, trivial⟩ ?_
  refine V_iload_n hC rfl dJ0_checkIndex_df160_0 ?_
  refine V_iload_n hC rfl dJ0_checkIndex_df160_1 ?_
  refine V_gfm hC tw_354 dJ0_checkIndex_df160_2 (fun v hv => ?_)
  refine V_scalli (As := [.int x, .int L, v]) hC (c_J3_checkIndex X.2.1 g w M hv h0 h1) mw_J3_checkIndex (by decide) tw_356 rfl rfl (Nat.le_of_ble_eq_true rfl) ⟨Nat.zero_le _, Nat.zero_le _⟩ dJ0_checkIndex_df160_5 (fun r M' hp => ?_)
  obtain ⟨rfl, rfl⟩ := hp
  refine V_pop hC rfl dJ0_checkIndex_df160_8 ?_
  exact V_vret hC rfl dJ0_checkIndex_df160_9
theorem sch_255 : ∀ i, i < 7 → ∀ j, j < lenS.getD i 0 → sch i j &&& 255 = sch i j := by decide +kernel
theorem lenS_lt : ∀ i, i < 7 → lenS.getD i 0 < 100 := by decide +kernel
theorem in_len {x : Int32} {n : Nat} (h : vp_in x n) (hn : n < 100) : ¬ x < 0 ∧ x < nI n := by
  obtain ⟨j, hj, rfl⟩ := vp_in_of h (by omega)
  exact ⟨nI_pos (by omega), nI_lt hj (by omega)⟩
theorem c_J1_charAt (l : Launch) (g : GX) (w : WX) (M : Mm) {i : Nat} (hi : i < 7) {x : Int32} (hx : vp_in x (lenS.getD i 0)) : Met l yJ1_charAt_3b067 [Cond.code yJ1_charAt_3b067 cJ1_charAt_3b067 2 (some .char)] (rmC 2 0 0) (va_Pc [.ref (g.2.2.2.2.2.1 i), .int x] (Wb g w M)) (va_Qi (fun r M' => r = sch i x.toNatClampNeg ∧ M' = M) (Wb g w) (Af g)) 0 0 (Af g) := by
  refine Ct_i (by decide) rfl (fun v hv => by simp only [List.mem_cons, List.not_mem_nil, or_false] at hv; rcases hv with rfl | rfl <;> rfl) (Nat.le_of_ble_eq_true rfl) (Nat.le_refl _) ?_
  intro X hX _ hC
  have hb := in_len hx (lenS_lt i hi)
  have hlt : x.toNatClampNeg < lenS.getD i 0 := Nat.not_le.mp fun q => hx (Or.inr q)
  refine V_sub (us := [some (.ref (g.2.2.2.2.2.1 i)), some (.int x)]) ⟨rfl, rfl, trivial⟩ ?_
  refine V_iload_n hC rfl dJ1_charAt_3b067_0 ?_
  refine V_aload_n hC rfl dJ1_charAt_3b067_1 ?_
  refine V_svl hC hi dJ1_charAt_3b067_2 ?_
  refine V_scallv (As := [.int x, .int (nI (lenS.getD i 0))]) hC (c_J0_checkIndex X.2.1 g w M hb.1 hb.2) mw_J0_checkIndex (by decide) tw_351 rfl rfl (Nat.le_of_ble_eq_true rfl) ⟨Nat.zero_le _, Nat.zero_le _⟩ dJ1_charAt_3b067_3 (fun M' hp => ?_)
  subst hp
  refine V_aload_n hC rfl dJ1_charAt_3b067_6 ?_
  refine V_iload_n hC rfl dJ1_charAt_3b067_7 ?_
  refine V_svb hC hi hx dJ1_charAt_3b067_8 ?_
  refine V_sipush (v := 255) hC (by decide) dJ1_charAt_3b067_9 ?_
  refine V_iand hC dJ1_charAt_3b067_12 ?_
  refine V_i2c hC (sc_c2 _) dJ1_charAt_3b067_13 ?_
  exact V_nret hC (sc_nar _) ⟨sch_255 i hi _ hlt, rfl⟩ dJ1_charAt_3b067_14
theorem c_J0_coder (l : Launch) (g : GX) (w : WX) (M : Mm) {i : Nat} (hi : i < 7) : Met l yJ0_coder_7d493 [Cond.code yJ0_coder_7d493 cJ0_coder_7d493 1 (some .byte)] (rmC 0 0 0) (va_Pc [.ref (g.2.2.2.2.1 i)] (Wb g w M)) (va_Qi (fun r M' => r = 0 ∧ M' = M) (Wb g w) (Af g)) 0 0 (Af g) := by
  refine Ct_i (by decide) rfl (fun v hv => by simp only [List.mem_cons, List.not_mem_nil, or_false] at hv; rcases hv with rfl <;> rfl) (Nat.le_of_ble_eq_true rfl) (Nat.le_refl _) ?_
  intro X hX _ hC
  refine V_sub (us := [some (.ref (g.2.2.2.2.1 i))]) ⟨rfl, trivial⟩ ?_
  refine V_gcs hC tw_338 dJ0_coder_7d493_0 ?_
  refine V_if_eq (tgt := 13) hC dJ0_coder_7d493_3 (by decide) (fun q => absurd q (by decide)) (fun _ => ?_)
  refine V_aload_n hC rfl dJ0_coder_7d493_6 ?_
  refine V_gsc hC hi tw_1201 dJ0_coder_7d493_7 ?_
  refine V_goto (tgt := 14) hC (by decide) dJ0_coder_7d493_10 ?_
  exact V_nret hC rfl ⟨rfl, rfl⟩ dJ0_coder_7d493_14
theorem c_J0_isLatin1 (l : Launch) (g : GX) (w : WX) (M : Mm) {i : Nat} (hi : i < 7) : Met l yJ0_isLatin1_aae02 [Cond.code yJ0_isLatin1_aae02 cJ0_isLatin1_aae02 1 (some .boolean)] (rmC 0 0 0) (va_Pc [.ref (g.2.2.2.2.1 i)] (Wb g w M)) (va_Qi (fun r M' => r = 1 ∧ M' = M) (Wb g w) (Af g)) 0 0 (Af g) := by
  refine Ct_i (by decide) rfl (fun v hv => by simp only [List.mem_cons, List.not_mem_nil, or_false] at hv; rcases hv with rfl <;> rfl) (Nat.le_of_ble_eq_true rfl) (Nat.le_refl _) ?_
  intro X hX _ hC
  refine V_sub (us := [some (.ref (g.2.2.2.2.1 i))]) ⟨rfl, trivial⟩ ?_
  refine V_gcs hC tw_338 dJ0_isLatin1_aae02_0 ?_
  refine V_if_eq (tgt := 17) hC dJ0_isLatin1_aae02_3 (by decide) (fun q => absurd q (by decide)) (fun _ => ?_)
  refine V_aload_n hC rfl dJ0_isLatin1_aae02_6 ?_
  refine V_gsc hC hi tw_1201 dJ0_isLatin1_aae02_7 ?_
  refine V_if_ne (tgt := 17) hC dJ0_isLatin1_aae02_10 (by decide) (fun q => absurd rfl q) (fun _ => ?_)
  refine V_iconst (v := 1) hC (by decide) dJ0_isLatin1_aae02_13 ?_
  refine V_goto (tgt := 18) hC (by decide) dJ0_isLatin1_aae02_14 ?_
  exact V_nret hC rfl ⟨rfl, rfl⟩ dJ0_isLatin1_aae02_18
theorem c_J0_length (l : Launch) (g : GX) (w : WX) (M : Mm) {i : Nat} (hi : i < 7) : Met l yJ0_length_8abf5 [Cond.code yJ0_length_8abf5 cJ0_length_8abf5 1 (some .int)] (rmC 1 0 0) (va_Pc [.ref (g.2.2.2.2.1 i)] (Wb g w M)) (va_Qi (fun r M' => r = nI (lenS.getD i 0) ∧ M' = M) (Wb g w) (Af g)) 0 0 (Af g) := by
  refine Ct_i (by decide) rfl (fun v hv => by simp only [List.mem_cons, List.not_mem_nil, or_false] at hv; rcases hv with rfl <;> rfl) (Nat.le_of_ble_eq_true rfl) (Nat.le_refl _) ?_
  intro X hX _ hC
  refine V_sub (us := [some (.ref (g.2.2.2.2.1 i))]) ⟨rfl, trivial⟩ ?_
  refine V_aload_n hC rfl dJ0_length_8abf5_0 ?_
  refine V_gsv hC hi tw_1200 dJ0_length_8abf5_1 ?_
  refine V_svl hC hi dJ0_length_8abf5_4 ?_
  refine V_aload_n hC rfl dJ0_length_8abf5_5 ?_
  refine V_callS (As := []) hC hi (c_J0_coder X.2.1 g w M hi) mw_J0_coder rfl (by decide) tw_334 rfl rfl (Nat.le_of_ble_eq_true rfl) ⟨Nat.zero_le _, Nat.zero_le _⟩ dJ0_length_8abf5_6 (fun r M' hp => ?_)
  obtain ⟨rfl, rfl⟩ := hp
  refine V_ishr hC dJ0_length_8abf5_9 ?_
  have := lenS_lt i hi
  exact V_iret hC ⟨sc_shr0 (by omega), rfl⟩ dJ0_length_8abf5_10
theorem c_J0_charAt (l : Launch) (g : GX) (w : WX) (M : Mm) {i : Nat} (hi : i < 7) {x : Int32} (hx : vp_in x (lenS.getD i 0)) : Met l yJ0_charAt_5068e [Cond.code yJ0_charAt_5068e cJ0_charAt_5068e 2 (some .char)] (rmC 3 0 0) (va_Pc [.ref (g.2.2.2.2.1 i), .int x] (Wb g w M)) (va_Qi (fun r M' => r = sch i x.toNatClampNeg ∧ M' = M) (Wb g w) (Af g)) 0 0 (Af g) := by
  refine Ct_i (by decide) rfl (fun v hv => by simp only [List.mem_cons, List.not_mem_nil, or_false] at hv; rcases hv with rfl | rfl <;> rfl) (Nat.le_of_ble_eq_true rfl) (Nat.le_refl _) ?_
  intro X hX _ hC
  have hlt : x.toNatClampNeg < lenS.getD i 0 := Nat.not_le.mp fun q => hx (Or.inr q)
  refine V_sub (us := [some (.ref (g.2.2.2.2.1 i)), some (.int x)]) ⟨rfl, rfl, trivial⟩ ?_
  refine V_aload_n hC rfl dJ0_charAt_5068e_0 ?_
  refine V_callS (As := []) hC hi (c_J0_isLatin1 X.2.1 g w M hi) mw_J0_isLatin1 rfl (by decide) tw_344 rfl rfl (Nat.le_of_ble_eq_true rfl) ⟨Nat.zero_le _, Nat.zero_le _⟩ dJ0_charAt_5068e_1 (fun r M' hp => ?_)
  obtain ⟨rfl, rfl⟩ := hp
  refine V_if_eq (tgt := 16) hC dJ0_charAt_5068e_4 (by decide) (fun q => absurd q (by decide)) (fun _ => ?_)
  refine V_aload_n hC rfl dJ0_charAt_5068e_7 ?_
  refine V_gsv hC hi tw_1200 dJ0_charAt_5068e_8 ?_
  refine V_iload_n hC rfl dJ0_charAt_5068e_11 ?_
  refine V_scalli (As := [.ref (g.2.2.2.2.2.1 i), .int x]) hC (c_J1_charAt X.2.1 g w M' hi hx) mw_J1_charAt (by decide) tw_348 rfl rfl (Nat.le_of_ble_eq_true rfl) ⟨Nat.zero_le _, Nat.zero_le _⟩ dJ0_charAt_5068e_12 (fun r M2 hp => ?_)
  obtain ⟨rfl, rfl⟩ := hp
  have h255 := sch_255 i hi _ hlt
  exact V_nret hC (by rw [← h255]; exact sc_nar _) ⟨rfl, rfl⟩ dJ0_charAt_5068e_15
section STR2
variable {X : CX} {g : GX} {w : WX} {cc : ByteArray} {nL k ns d : Nat} {own : String} {ret : Option FieldType} {Q : State → Prop} {pc : Nat} {vs : List (Option Value)} {st : List Value} {M : Mm}
theorem V_slen (hC : Cx X g cc nL own ret d) {i : Nat} (hi : i < 7) {index : Nat} (hw : Cond.methodLink own index yJ0_length_8abf5 ∈ Tk) (hd2 : 2 ≤ d) (hcat : (st.map fun v => v.category).sum ≤ 8) (hr : k ≤ X.2.2.2.1.cells ∧ ns ≤ X.2.2.2.1.slots) (hd : decode cc pc = .ok (.invokevirtual index, 3)) (kk : V X g w nL k ns Q (pc + 3) vs (.int (nI (lenS.getD i 0)) :: st) M) : V X g w nL k ns Q pc vs (.ref (g.2.2.2.2.1 i) :: st) M :=
  V_callS (As := []) hC hi (c_J0_length X.2.1 g w M hi) mw_J0_length rfl hd2 hw rfl rfl hcat hr hd (fun r M' hp => by obtain ⟨rfl, rfl⟩ := hp; exact kk)
theorem V_scha (hC : Cx X g cc nL own ret d) {i : Nat} (hi : i < 7) {x : Int32} (hx : vp_in x (lenS.getD i 0)) {index : Nat} (hw : Cond.methodLink own index yJ0_charAt_5068e ∈ Tk) (hd2 : 4 ≤ d) (hcat : (st.map fun v => v.category).sum ≤ 8) (hr : k ≤ X.2.2.2.1.cells ∧ ns ≤ X.2.2.2.1.slots) (hd : decode cc pc = .ok (.invokevirtual index, 3)) (kk : V X g w nL k ns Q (pc + 3) vs (.int (sch i x.toNatClampNeg) :: st) M) : V X g w nL k ns Q pc vs (.int x :: .ref (g.2.2.2.2.1 i) :: st) M :=
  V_callS (As := [.int x]) hC hi (c_J0_charAt X.2.1 g w M hi hx) mw_J0_charAt rfl hd2 hw rfl rfl hcat hr hd (fun r M' hp => by obtain ⟨rfl, rfl⟩ := hp; exact kk)
end STR2
end
