section
-- ===== PART A: goes FIRST, ahead of the names: the tables' words, and 'selects' of the private methods out of them =====
/-- a private method of a class that the tables say can be made, by its rows of tables_1 -/
def lw_okq (q : MethodName × Nat) : Prop := (q.1.cls ≠ "java/lang/invoke/MethodHandle" ∧ q.1.cls ≠ "java/lang/invoke/VarHandle") ∧ Cond.instantiable q.1.cls q.2 ∈ tables_1 ∧ Cond.privateMethod q.1 ∈ tables_1 ∧ Cond.instanceMethod q.1 ∈ tables_1
theorem lw_p0 : lw_okq (⟨"SmudgeTally", "recordIfDone", "(I)I"⟩, 6) := ⟨⟨by decide +kernel, by decide +kernel⟩, List.mem_of_getElem? (i := 18) (by decide +kernel), List.mem_of_getElem? (i := 332) (by decide +kernel), List.mem_of_getElem? (i := 333) (by decide +kernel)⟩
theorem lw_p1 : lw_okq (⟨"SmudgeTally$Sight", "previousOf", "(I)I"⟩, 15) := ⟨⟨by decide +kernel, by decide +kernel⟩, List.mem_of_getElem? (i := 32) (by decide +kernel), List.mem_of_getElem? (i := 376) (by decide +kernel), List.mem_of_getElem? (i := 377) (by decide +kernel)⟩
theorem lw_p2 : lw_okq (⟨"SmudgeTally$Sight", "readDigits", "(I)V"⟩, 15) := ⟨⟨by decide +kernel, by decide +kernel⟩, List.mem_of_getElem? (i := 32) (by decide +kernel), List.mem_of_getElem? (i := 380) (by decide +kernel), List.mem_of_getElem? (i := 381) (by decide +kernel)⟩
theorem lw_p3 : lw_okq (⟨"SmudgeTally$Sight", "growRuns", "(I)V"⟩, 15) := ⟨⟨by decide +kernel, by decide +kernel⟩, List.mem_of_getElem? (i := 32) (by decide +kernel), List.mem_of_getElem? (i := 387) (by decide +kernel), List.mem_of_getElem? (i := 388) (by decide +kernel)⟩
theorem lw_p4 : lw_okq (⟨"SmudgeTally$Sight", "ownDirt", "(II)I"⟩, 15) := ⟨⟨by decide +kernel, by decide +kernel⟩, List.mem_of_getElem? (i := 32) (by decide +kernel), List.mem_of_getElem? (i := 391) (by decide +kernel), List.mem_of_getElem? (i := 392) (by decide +kernel)⟩
theorem lw_p5 : lw_okq (⟨"SmudgeTally$Sight", "closeRuns", "(I)V"⟩, 15) := ⟨⟨by decide +kernel, by decide +kernel⟩, List.mem_of_getElem? (i := 32) (by decide +kernel), List.mem_of_getElem? (i := 401) (by decide +kernel), List.mem_of_getElem? (i := 402) (by decide +kernel)⟩
theorem lw_p6 : lw_okq (⟨"SmudgeTally$Sight", "judgeWith", "(I)V"⟩, 15) := ⟨⟨by decide +kernel, by decide +kernel⟩, List.mem_of_getElem? (i := 32) (by decide +kernel), List.mem_of_getElem? (i := 405) (by decide +kernel), List.mem_of_getElem? (i := 406) (by decide +kernel)⟩
theorem lw_p7 : lw_okq (⟨"SmudgeTally$Sight", "markOf", "(IZ)I"⟩, 15) := ⟨⟨by decide +kernel, by decide +kernel⟩, List.mem_of_getElem? (i := 32) (by decide +kernel), List.mem_of_getElem? (i := 409) (by decide +kernel), List.mem_of_getElem? (i := 410) (by decide +kernel)⟩
theorem lw_p8 : lw_okq (⟨"SmudgeTally$Sight", "judgedOutcome", "(II)I"⟩, 15) := ⟨⟨by decide +kernel, by decide +kernel⟩, List.mem_of_getElem? (i := 32) (by decide +kernel), List.mem_of_getElem? (i := 413) (by decide +kernel), List.mem_of_getElem? (i := 414) (by decide +kernel)⟩
theorem lw_p9 : lw_okq (⟨"SmudgeTally$Sight", "compareWithLast", "()V"⟩, 15) := ⟨⟨by decide +kernel, by decide +kernel⟩, List.mem_of_getElem? (i := 32) (by decide +kernel), List.mem_of_getElem? (i := 417) (by decide +kernel), List.mem_of_getElem? (i := 418) (by decide +kernel)⟩
theorem lw_p10 : lw_okq (⟨"SmudgeTally$Program", "wordHere", "()I"⟩, 7) := ⟨⟨by decide +kernel, by decide +kernel⟩, List.mem_of_getElem? (i := 220) (by decide +kernel), List.mem_of_getElem? (i := 558) (by decide +kernel), List.mem_of_getElem? (i := 559) (by decide +kernel)⟩
theorem lw_p11 : lw_okq (⟨"SmudgeTally$Program", "readNumbers", "(I)Z"⟩, 7) := ⟨⟨by decide +kernel, by decide +kernel⟩, List.mem_of_getElem? (i := 220) (by decide +kernel), List.mem_of_getElem? (i := 619) (by decide +kernel), List.mem_of_getElem? (i := 620) (by decide +kernel)⟩
theorem lw_p12 : lw_okq (⟨"SmudgeTally$Program", "readSemicolon", "()Z"⟩, 7) := ⟨⟨by decide +kernel, by decide +kernel⟩, List.mem_of_getElem? (i := 220) (by decide +kernel), List.mem_of_getElem? (i := 637) (by decide +kernel), List.mem_of_getElem? (i := 638) (by decide +kernel)⟩
theorem lw_p13 : lw_okq (⟨"SmudgeTally$Program", "fail", "(IIII)I"⟩, 7) := ⟨⟨by decide +kernel, by decide +kernel⟩, List.mem_of_getElem? (i := 220) (by decide +kernel), List.mem_of_getElem? (i := 645) (by decide +kernel), List.mem_of_getElem? (i := 646) (by decide +kernel)⟩
theorem lw_p14 : lw_okq (⟨"SmudgeTallyModel", "keeps", "()V"⟩, 17) := ⟨⟨by decide +kernel, by decide +kernel⟩, List.mem_of_getElem? (i := 793) (by decide +kernel), List.mem_of_getElem? (i := 858) (by decide +kernel), List.mem_of_getElem? (i := 859) (by decide +kernel)⟩
theorem lw_p15 : lw_okq (⟨"SmudgeTallyModel", "scans", "(JJ)I"⟩, 17) := ⟨⟨by decide +kernel, by decide +kernel⟩, List.mem_of_getElem? (i := 793) (by decide +kernel), List.mem_of_getElem? (i := 862) (by decide +kernel), List.mem_of_getElem? (i := 863) (by decide +kernel)⟩
def lw_privs_1 : List (MethodName × Nat) := [(⟨"SmudgeTally", "recordIfDone", "(I)I"⟩, 6), (⟨"SmudgeTally$Sight", "previousOf", "(I)I"⟩, 15), (⟨"SmudgeTally$Sight", "readDigits", "(I)V"⟩, 15), (⟨"SmudgeTally$Sight", "growRuns", "(I)V"⟩, 15), (⟨"SmudgeTally$Sight", "ownDirt", "(II)I"⟩, 15), (⟨"SmudgeTally$Sight", "closeRuns", "(I)V"⟩, 15), (⟨"SmudgeTally$Sight", "judgeWith", "(I)V"⟩, 15), (⟨"SmudgeTally$Sight", "markOf", "(IZ)I"⟩, 15), (⟨"SmudgeTally$Sight", "judgedOutcome", "(II)I"⟩, 15), (⟨"SmudgeTally$Sight", "compareWithLast", "()V"⟩, 15), (⟨"SmudgeTally$Program", "wordHere", "()I"⟩, 7), (⟨"SmudgeTally$Program", "readNumbers", "(I)Z"⟩, 7), (⟨"SmudgeTally$Program", "readSemicolon", "()Z"⟩, 7), (⟨"SmudgeTally$Program", "fail", "(IIII)I"⟩, 7), (⟨"SmudgeTallyModel", "keeps", "()V"⟩, 17), (⟨"SmudgeTallyModel", "scans", "(JJ)I"⟩, 17)]
theorem lw_r1 : ∀ q ∈ lw_privs_1, lw_okq q := List.forall_mem_cons.mpr ⟨lw_p0, List.forall_mem_cons.mpr ⟨lw_p1, List.forall_mem_cons.mpr ⟨lw_p2, List.forall_mem_cons.mpr ⟨lw_p3, List.forall_mem_cons.mpr ⟨lw_p4, List.forall_mem_cons.mpr ⟨lw_p5, List.forall_mem_cons.mpr ⟨lw_p6, List.forall_mem_cons.mpr ⟨lw_p7, List.forall_mem_cons.mpr ⟨lw_p8, List.forall_mem_cons.mpr ⟨lw_p9, List.forall_mem_cons.mpr ⟨lw_p10, List.forall_mem_cons.mpr ⟨lw_p11, List.forall_mem_cons.mpr ⟨lw_p12, List.forall_mem_cons.mpr ⟨lw_p13, List.forall_mem_cons.mpr ⟨lw_p14, List.forall_mem_cons.mpr ⟨lw_p15, fun _ h => absurd h List.not_mem_nil⟩⟩⟩⟩⟩⟩⟩⟩⟩⟩⟩⟩⟩⟩⟩⟩
theorem lw_p16 : lw_okq (⟨"SmudgeTallyModel", "acted", "(I)I"⟩, 17) := ⟨⟨by decide +kernel, by decide +kernel⟩, List.mem_of_getElem? (i := 793) (by decide +kernel), List.mem_of_getElem? (i := 878) (by decide +kernel), List.mem_of_getElem? (i := 879) (by decide +kernel)⟩
theorem lw_p17 : lw_okq (⟨"SmudgeTallyModel", "cleans", "(J)I"⟩, 17) := ⟨⟨by decide +kernel, by decide +kernel⟩, List.mem_of_getElem? (i := 793) (by decide +kernel), List.mem_of_getElem? (i := 888) (by decide +kernel), List.mem_of_getElem? (i := 889) (by decide +kernel)⟩
theorem lw_p18 : lw_okq (⟨"SmudgeTallyModel", "ofMachine", "(I)I"⟩, 17) := ⟨⟨by decide +kernel, by decide +kernel⟩, List.mem_of_getElem? (i := 793) (by decide +kernel), List.mem_of_getElem? (i := 892) (by decide +kernel), List.mem_of_getElem? (i := 893) (by decide +kernel)⟩
theorem lw_p19 : lw_okq (⟨"SmudgeTallyModel", "publishes", "()I"⟩, 17) := ⟨⟨by decide +kernel, by decide +kernel⟩, List.mem_of_getElem? (i := 793) (by decide +kernel), List.mem_of_getElem? (i := 909) (by decide +kernel), List.mem_of_getElem? (i := 910) (by decide +kernel)⟩
theorem lw_p20 : lw_okq (⟨"SmudgeTallyModel", "changing", "(Z)I"⟩, 17) := ⟨⟨by decide +kernel, by decide +kernel⟩, List.mem_of_getElem? (i := 793) (by decide +kernel), List.mem_of_getElem? (i := 913) (by decide +kernel), List.mem_of_getElem? (i := 914) (by decide +kernel)⟩
theorem lw_p21 : lw_okq (⟨"SmudgeTallyModel", "changes", "(I)I"⟩, 17) := ⟨⟨by decide +kernel, by decide +kernel⟩, List.mem_of_getElem? (i := 793) (by decide +kernel), List.mem_of_getElem? (i := 917) (by decide +kernel), List.mem_of_getElem? (i := 918) (by decide +kernel)⟩
theorem lw_p22 : lw_okq (⟨"SmudgeTallyModel", "length", "()I"⟩, 17) := ⟨⟨by decide +kernel, by decide +kernel⟩, List.mem_of_getElem? (i := 793) (by decide +kernel), List.mem_of_getElem? (i := 924) (by decide +kernel), List.mem_of_getElem? (i := 925) (by decide +kernel)⟩
theorem lw_p23 : lw_okq (⟨"SmudgeTallyModel", "outcomes", "(II)J"⟩, 17) := ⟨⟨by decide +kernel, by decide +kernel⟩, List.mem_of_getElem? (i := 793) (by decide +kernel), List.mem_of_getElem? (i := 928) (by decide +kernel), List.mem_of_getElem? (i := 929) (by decide +kernel)⟩
theorem lw_p24 : lw_okq (⟨"SmudgeTallyModel", "outcomeBy", "(III)I"⟩, 17) := ⟨⟨by decide +kernel, by decide +kernel⟩, List.mem_of_getElem? (i := 793) (by decide +kernel), List.mem_of_getElem? (i := 933) (by decide +kernel), List.mem_of_getElem? (i := 934) (by decide +kernel)⟩
theorem lw_p25 : lw_okq (⟨"SmudgeTallyModel", "mark", "(III)I"⟩, 17) := ⟨⟨by decide +kernel, by decide +kernel⟩, List.mem_of_getElem? (i := 793) (by decide +kernel), List.mem_of_getElem? (i := 937) (by decide +kernel), List.mem_of_getElem? (i := 938) (by decide +kernel)⟩
theorem lw_p26 : lw_okq (⟨"SmudgeTallyModel", "clear", "(III)I"⟩, 17) := ⟨⟨by decide +kernel, by decide +kernel⟩, List.mem_of_getElem? (i := 793) (by decide +kernel), List.mem_of_getElem? (i := 941) (by decide +kernel), List.mem_of_getElem? (i := 942) (by decide +kernel)⟩
theorem lw_p27 : lw_okq (⟨"SmudgeTallyModel", "isLooked", "(I)Z"⟩, 17) := ⟨⟨by decide +kernel, by decide +kernel⟩, List.mem_of_getElem? (i := 793) (by decide +kernel), List.mem_of_getElem? (i := 945) (by decide +kernel), List.mem_of_getElem? (i := 946) (by decide +kernel)⟩
theorem lw_p28 : lw_okq (⟨"SmudgeTallyModel", "read", "(II)I"⟩, 17) := ⟨⟨by decide +kernel, by decide +kernel⟩, List.mem_of_getElem? (i := 793) (by decide +kernel), List.mem_of_getElem? (i := 953) (by decide +kernel), List.mem_of_getElem? (i := 954) (by decide +kernel)⟩
theorem lw_p29 : lw_okq (⟨"SmudgeTallyModel", "dirt", "(III)I"⟩, 17) := ⟨⟨by decide +kernel, by decide +kernel⟩, List.mem_of_getElem? (i := 793) (by decide +kernel), List.mem_of_getElem? (i := 957) (by decide +kernel), List.mem_of_getElem? (i := 958) (by decide +kernel)⟩
theorem lw_p30 : lw_okq (⟨"SmudgeTallyModel", "end", "(III)I"⟩, 17) := ⟨⟨by decide +kernel, by decide +kernel⟩, List.mem_of_getElem? (i := 793) (by decide +kernel), List.mem_of_getElem? (i := 961) (by decide +kernel), List.mem_of_getElem? (i := 962) (by decide +kernel)⟩
theorem lw_p31 : lw_okq (⟨"SmudgeTallyModel", "beside", "(II)I"⟩, 17) := ⟨⟨by decide +kernel, by decide +kernel⟩, List.mem_of_getElem? (i := 793) (by decide +kernel), List.mem_of_getElem? (i := 965) (by decide +kernel), List.mem_of_getElem? (i := 966) (by decide +kernel)⟩
def lw_privs_2 : List (MethodName × Nat) := [(⟨"SmudgeTallyModel", "acted", "(I)I"⟩, 17), (⟨"SmudgeTallyModel", "cleans", "(J)I"⟩, 17), (⟨"SmudgeTallyModel", "ofMachine", "(I)I"⟩, 17), (⟨"SmudgeTallyModel", "publishes", "()I"⟩, 17), (⟨"SmudgeTallyModel", "changing", "(Z)I"⟩, 17), (⟨"SmudgeTallyModel", "changes", "(I)I"⟩, 17), (⟨"SmudgeTallyModel", "length", "()I"⟩, 17), (⟨"SmudgeTallyModel", "outcomes", "(II)J"⟩, 17), (⟨"SmudgeTallyModel", "outcomeBy", "(III)I"⟩, 17), (⟨"SmudgeTallyModel", "mark", "(III)I"⟩, 17), (⟨"SmudgeTallyModel", "clear", "(III)I"⟩, 17), (⟨"SmudgeTallyModel", "isLooked", "(I)Z"⟩, 17), (⟨"SmudgeTallyModel", "read", "(II)I"⟩, 17), (⟨"SmudgeTallyModel", "dirt", "(III)I"⟩, 17), (⟨"SmudgeTallyModel", "end", "(III)I"⟩, 17), (⟨"SmudgeTallyModel", "beside", "(II)I"⟩, 17)]
theorem lw_r2 : ∀ q ∈ lw_privs_2, lw_okq q := List.forall_mem_cons.mpr ⟨lw_p16, List.forall_mem_cons.mpr ⟨lw_p17, List.forall_mem_cons.mpr ⟨lw_p18, List.forall_mem_cons.mpr ⟨lw_p19, List.forall_mem_cons.mpr ⟨lw_p20, List.forall_mem_cons.mpr ⟨lw_p21, List.forall_mem_cons.mpr ⟨lw_p22, List.forall_mem_cons.mpr ⟨lw_p23, List.forall_mem_cons.mpr ⟨lw_p24, List.forall_mem_cons.mpr ⟨lw_p25, List.forall_mem_cons.mpr ⟨lw_p26, List.forall_mem_cons.mpr ⟨lw_p27, List.forall_mem_cons.mpr ⟨lw_p28, List.forall_mem_cons.mpr ⟨lw_p29, List.forall_mem_cons.mpr ⟨lw_p30, List.forall_mem_cons.mpr ⟨lw_p31, fun _ h => absurd h List.not_mem_nil⟩⟩⟩⟩⟩⟩⟩⟩⟩⟩⟩⟩⟩⟩⟩⟩
theorem lw_p32 : lw_okq (⟨"SmudgeTallyModel", "goesOn", "(III)Z"⟩, 17) := ⟨⟨by decide +kernel, by decide +kernel⟩, List.mem_of_getElem? (i := 793) (by decide +kernel), List.mem_of_getElem? (i := 969) (by decide +kernel), List.mem_of_getElem? (i := 970) (by decide +kernel)⟩
theorem lw_p33 : lw_okq (⟨"SmudgeTallyModel", "runFrom", "(II)I"⟩, 17) := ⟨⟨by decide +kernel, by decide +kernel⟩, List.mem_of_getElem? (i := 793) (by decide +kernel), List.mem_of_getElem? (i := 973) (by decide +kernel), List.mem_of_getElem? (i := 974) (by decide +kernel)⟩
theorem lw_p34 : lw_okq (⟨"SmudgeTallyModel", "dirtBy", "(II)I"⟩, 17) := ⟨⟨by decide +kernel, by decide +kernel⟩, List.mem_of_getElem? (i := 793) (by decide +kernel), List.mem_of_getElem? (i := 977) (by decide +kernel), List.mem_of_getElem? (i := 978) (by decide +kernel)⟩
theorem lw_p35 : lw_okq (⟨"SmudgeTallyModel", "least", "(II)I"⟩, 17) := ⟨⟨by decide +kernel, by decide +kernel⟩, List.mem_of_getElem? (i := 793) (by decide +kernel), List.mem_of_getElem? (i := 981) (by decide +kernel), List.mem_of_getElem? (i := 982) (by decide +kernel)⟩
theorem lw_p36 : lw_okq (⟨"SmudgeTallyModel", "draws", "(JJ)I"⟩, 17) := ⟨⟨by decide +kernel, by decide +kernel⟩, List.mem_of_getElem? (i := 793) (by decide +kernel), List.mem_of_getElem? (i := 996) (by decide +kernel), List.mem_of_getElem? (i := 997) (by decide +kernel)⟩
theorem lw_p37 : lw_okq (⟨"SmudgeTallyModel", "laysPool", "()I"⟩, 17) := ⟨⟨by decide +kernel, by decide +kernel⟩, List.mem_of_getElem? (i := 793) (by decide +kernel), List.mem_of_getElem? (i := 1001) (by decide +kernel), List.mem_of_getElem? (i := 1002) (by decide +kernel)⟩
theorem lw_p38 : lw_okq (⟨"SmudgeTallyModel", "isInPool", "(I)Z"⟩, 17) := ⟨⟨by decide +kernel, by decide +kernel⟩, List.mem_of_getElem? (i := 793) (by decide +kernel), List.mem_of_getElem? (i := 1005) (by decide +kernel), List.mem_of_getElem? (i := 1006) (by decide +kernel)⟩
theorem lw_p39 : lw_okq (⟨"SmudgeTallyModel", "doubtful", "(I)I"⟩, 17) := ⟨⟨by decide +kernel, by decide +kernel⟩, List.mem_of_getElem? (i := 793) (by decide +kernel), List.mem_of_getElem? (i := 1009) (by decide +kernel), List.mem_of_getElem? (i := 1010) (by decide +kernel)⟩
theorem lw_p40 : lw_okq (⟨"SmudgeTallyModel", "inState", "(I)I"⟩, 17) := ⟨⟨by decide +kernel, by decide +kernel⟩, List.mem_of_getElem? (i := 793) (by decide +kernel), List.mem_of_getElem? (i := 1016) (by decide +kernel), List.mem_of_getElem? (i := 1017) (by decide +kernel)⟩
theorem lw_p41 : lw_okq (⟨"SmudgeTallyModel", "looks", "(JJ)I"⟩, 17) := ⟨⟨by decide +kernel, by decide +kernel⟩, List.mem_of_getElem? (i := 793) (by decide +kernel), List.mem_of_getElem? (i := 1024) (by decide +kernel), List.mem_of_getElem? (i := 1025) (by decide +kernel)⟩
theorem lw_p42 : lw_okq (⟨"SmudgeTallyModel", "begins", "()V"⟩, 17) := ⟨⟨by decide +kernel, by decide +kernel⟩, List.mem_of_getElem? (i := 793) (by decide +kernel), List.mem_of_getElem? (i := 1056) (by decide +kernel), List.mem_of_getElem? (i := 1057) (by decide +kernel)⟩
theorem lw_p43 : lw_okq (⟨"SmudgeTallyModel", "next", "()I"⟩, 17) := ⟨⟨by decide +kernel, by decide +kernel⟩, List.mem_of_getElem? (i := 793) (by decide +kernel), List.mem_of_getElem? (i := 1060) (by decide +kernel), List.mem_of_getElem? (i := 1061) (by decide +kernel)⟩
theorem lw_p44 : lw_okq (⟨"SmudgeTallyModel", "readsCommand", "()J"⟩, 17) := ⟨⟨by decide +kernel, by decide +kernel⟩, List.mem_of_getElem? (i := 793) (by decide +kernel), List.mem_of_getElem? (i := 1064) (by decide +kernel), List.mem_of_getElem? (i := 1065) (by decide +kernel)⟩
theorem lw_p45 : lw_okq (⟨"SmudgeTallyModel", "wordNext", "()J"⟩, 17) := ⟨⟨by decide +kernel, by decide +kernel⟩, List.mem_of_getElem? (i := 793) (by decide +kernel), List.mem_of_getElem? (i := 1068) (by decide +kernel), List.mem_of_getElem? (i := 1069) (by decide +kernel)⟩
theorem lw_p46 : lw_okq (⟨"SmudgeTallyModel", "numberNext", "(Z)J"⟩, 17) := ⟨⟨by decide +kernel, by decide +kernel⟩, List.mem_of_getElem? (i := 793) (by decide +kernel), List.mem_of_getElem? (i := 1084) (by decide +kernel), List.mem_of_getElem? (i := 1085) (by decide +kernel)⟩
theorem lw_p47 : lw_okq (⟨"SmudgeTallyModel", "fails", "(IIII)I"⟩, 17) := ⟨⟨by decide +kernel, by decide +kernel⟩, List.mem_of_getElem? (i := 793) (by decide +kernel), List.mem_of_getElem? (i := 1093) (by decide +kernel), List.mem_of_getElem? (i := 1094) (by decide +kernel)⟩
def lw_privs_3 : List (MethodName × Nat) := [(⟨"SmudgeTallyModel", "goesOn", "(III)Z"⟩, 17), (⟨"SmudgeTallyModel", "runFrom", "(II)I"⟩, 17), (⟨"SmudgeTallyModel", "dirtBy", "(II)I"⟩, 17), (⟨"SmudgeTallyModel", "least", "(II)I"⟩, 17), (⟨"SmudgeTallyModel", "draws", "(JJ)I"⟩, 17), (⟨"SmudgeTallyModel", "laysPool", "()I"⟩, 17), (⟨"SmudgeTallyModel", "isInPool", "(I)Z"⟩, 17), (⟨"SmudgeTallyModel", "doubtful", "(I)I"⟩, 17), (⟨"SmudgeTallyModel", "inState", "(I)I"⟩, 17), (⟨"SmudgeTallyModel", "looks", "(JJ)I"⟩, 17), (⟨"SmudgeTallyModel", "begins", "()V"⟩, 17), (⟨"SmudgeTallyModel", "next", "()I"⟩, 17), (⟨"SmudgeTallyModel", "readsCommand", "()J"⟩, 17), (⟨"SmudgeTallyModel", "wordNext", "()J"⟩, 17), (⟨"SmudgeTallyModel", "numberNext", "(Z)J"⟩, 17), (⟨"SmudgeTallyModel", "fails", "(IIII)I"⟩, 17)]
theorem lw_r3 : ∀ q ∈ lw_privs_3, lw_okq q := List.forall_mem_cons.mpr ⟨lw_p32, List.forall_mem_cons.mpr ⟨lw_p33, List.forall_mem_cons.mpr ⟨lw_p34, List.forall_mem_cons.mpr ⟨lw_p35, List.forall_mem_cons.mpr ⟨lw_p36, List.forall_mem_cons.mpr ⟨lw_p37, List.forall_mem_cons.mpr ⟨lw_p38, List.forall_mem_cons.mpr ⟨lw_p39, List.forall_mem_cons.mpr ⟨lw_p40, List.forall_mem_cons.mpr ⟨lw_p41, List.forall_mem_cons.mpr ⟨lw_p42, List.forall_mem_cons.mpr ⟨lw_p43, List.forall_mem_cons.mpr ⟨lw_p44, List.forall_mem_cons.mpr ⟨lw_p45, List.forall_mem_cons.mpr ⟨lw_p46, List.forall_mem_cons.mpr ⟨lw_p47, fun _ h => absurd h List.not_mem_nil⟩⟩⟩⟩⟩⟩⟩⟩⟩⟩⟩⟩⟩⟩⟩⟩
theorem lw_p48 : lw_okq (⟨"SmudgeTallyModel", "does", "(J)I"⟩, 17) := ⟨⟨by decide +kernel, by decide +kernel⟩, List.mem_of_getElem? (i := 793) (by decide +kernel), List.mem_of_getElem? (i := 1097) (by decide +kernel), List.mem_of_getElem? (i := 1098) (by decide +kernel)⟩
theorem lw_p49 : lw_okq (⟨"SmudgeTallyModel", "streaks", "()I"⟩, 17) := ⟨⟨by decide +kernel, by decide +kernel⟩, List.mem_of_getElem? (i := 793) (by decide +kernel), List.mem_of_getElem? (i := 1110) (by decide +kernel), List.mem_of_getElem? (i := 1111) (by decide +kernel)⟩
theorem lw_p50 : lw_okq (⟨"SmudgeTallyModel", "isCard", "(I)Z"⟩, 17) := ⟨⟨by decide +kernel, by decide +kernel⟩, List.mem_of_getElem? (i := 793) (by decide +kernel), List.mem_of_getElem? (i := 1121) (by decide +kernel), List.mem_of_getElem? (i := 1122) (by decide +kernel)⟩
theorem lw_p51 : lw_okq (⟨"SmudgeTallyModel", "placeOf", "(I)I"⟩, 17) := ⟨⟨by decide +kernel, by decide +kernel⟩, List.mem_of_getElem? (i := 793) (by decide +kernel), List.mem_of_getElem? (i := 1125) (by decide +kernel), List.mem_of_getElem? (i := 1126) (by decide +kernel)⟩
theorem lw_p52 : lw_okq (⟨"SmudgeTallyModel", "isAsked", "(II)Z"⟩, 17) := ⟨⟨by decide +kernel, by decide +kernel⟩, List.mem_of_getElem? (i := 793) (by decide +kernel), List.mem_of_getElem? (i := 1144) (by decide +kernel), List.mem_of_getElem? (i := 1145) (by decide +kernel)⟩
theorem lw_p53 : lw_okq (⟨"SmudgeTallyModel", "isVersion", "(I)Z"⟩, 17) := ⟨⟨by decide +kernel, by decide +kernel⟩, List.mem_of_getElem? (i := 793) (by decide +kernel), List.mem_of_getElem? (i := 1148) (by decide +kernel), List.mem_of_getElem? (i := 1149) (by decide +kernel)⟩
theorem lw_p54 : lw_okq (⟨"SmudgeTallyModel", "outcomeOf", "(III)I"⟩, 17) := ⟨⟨by decide +kernel, by decide +kernel⟩, List.mem_of_getElem? (i := 793) (by decide +kernel), List.mem_of_getElem? (i := 1152) (by decide +kernel), List.mem_of_getElem? (i := 1153) (by decide +kernel)⟩
theorem lw_p55 : lw_okq (⟨"SmudgeTallyModel", "tallied", "(IIII)I"⟩, 17) := ⟨⟨by decide +kernel, by decide +kernel⟩, List.mem_of_getElem? (i := 793) (by decide +kernel), List.mem_of_getElem? (i := 1160) (by decide +kernel), List.mem_of_getElem? (i := 1161) (by decide +kernel)⟩
def lw_privs_4 : List (MethodName × Nat) := [(⟨"SmudgeTallyModel", "does", "(J)I"⟩, 17), (⟨"SmudgeTallyModel", "streaks", "()I"⟩, 17), (⟨"SmudgeTallyModel", "isCard", "(I)Z"⟩, 17), (⟨"SmudgeTallyModel", "placeOf", "(I)I"⟩, 17), (⟨"SmudgeTallyModel", "isAsked", "(II)Z"⟩, 17), (⟨"SmudgeTallyModel", "isVersion", "(I)Z"⟩, 17), (⟨"SmudgeTallyModel", "outcomeOf", "(III)I"⟩, 17), (⟨"SmudgeTallyModel", "tallied", "(IIII)I"⟩, 17)]
theorem lw_r4 : ∀ q ∈ lw_privs_4, lw_okq q := List.forall_mem_cons.mpr ⟨lw_p48, List.forall_mem_cons.mpr ⟨lw_p49, List.forall_mem_cons.mpr ⟨lw_p50, List.forall_mem_cons.mpr ⟨lw_p51, List.forall_mem_cons.mpr ⟨lw_p52, List.forall_mem_cons.mpr ⟨lw_p53, List.forall_mem_cons.mpr ⟨lw_p54, List.forall_mem_cons.mpr ⟨lw_p55, fun _ h => absurd h List.not_mem_nil⟩⟩⟩⟩⟩⟩⟩⟩
def lw_privs : List (MethodName × Nat) := lw_privs_1 ++ (lw_privs_2 ++ (lw_privs_3 ++ (lw_privs_4)))
def lw_tbl : List Cond := k2_sels lw_privs ++ tables_1
theorem lw_privs_ok : ∀ q ∈ lw_privs, lw_okq q := by
  show ∀ q ∈ lw_privs_1 ++ (lw_privs_2 ++ (lw_privs_3 ++ (lw_privs_4))), lw_okq q
  exact List.forall_mem_append.mpr ⟨lw_r1, List.forall_mem_append.mpr ⟨lw_r2, List.forall_mem_append.mpr ⟨lw_r3, lw_r4⟩⟩⟩
-- ===== end of PART A; then your names; then what follows =====
end
section
/-! ===== BEGIN words of one list among another's, by their places ===== -/
theorem goodIn_r {big : List Cond} (ws : List Cond) (ps : List Nat) (hp : ws = ps.filterMap (fun i => big[i]?)) (h : ws.all goodWord = true) : GoodIn big ws := by
  intro w hw
  have h1 := List.all_eq_true.mp h w hw
  rw [hp] at hw
  obtain ⟨i, -, hi⟩ := List.mem_filterMap.mp hw
  have hm : w ∈ big := by first | exact List.mem_of_getElem? hi | exact List.getElem?_mem hi
  exact ⟨hm, good_of_word h1⟩
theorem goodIn_app {big a b : List Cond} (ha : GoodIn big a) (hb : GoodIn big b) : GoodIn big (a ++ b) := fun w h => (List.mem_append.mp h).elim (ha w) (hb w)
theorem goodIn_ca {big a b : List Cond} {c : Cond} (ha : GoodIn big (c :: a)) (hb : GoodIn big b) : GoodIn big (c :: (a ++ b)) := fun w h => (List.mem_cons.mp h).elim (fun e => ha w (List.mem_cons.mpr (Or.inl e))) (fun h => (List.mem_append.mp h).elim (fun h => ha w (List.mem_cons.mpr (Or.inr h))) (hb w))
theorem goodIn_sub {big ws : List Cond} (hm : ∀ w ∈ ws, w ∈ big) (h : ws.all goodWord = true) : GoodIn big ws := fun w hw => ⟨hm w hw, good_of_word (List.all_eq_true.mp h w hw)⟩
/-! ===== END ===== -/

/-! ===== BEGIN printed: names, fields, word lists, decode rows ===== -/
def RX0 : String := "SmudgeTally$Books"
def TX0 : u_T := fun k => match k with
  | 0 => ("SmudgeTally$Books", "cards", "I", false)
  | 1 => ("SmudgeTally$Books", "versions", "I", false)
  | 2 => ("SmudgeTally$Books", "machines", "[I", true)
  | 3 => ("SmudgeTally$Books", "cleaningsBefore", "[I", true)
  | 4 => ("SmudgeTally$Books", "stages", "[I", true)
  | 5 => ("SmudgeTally$Books", "rows", "[J", true)
  | 6 => ("SmudgeTally$Books", "truths", "[J", true)
  | 7 => ("SmudgeTally$Books", "cleanings", "[I", true)
  | 8 => ("SmudgeTally$Books", "numbers", "[I", true)
  | 9 => ("SmudgeTally$Books", "versionCards", "[I", true)
  | _ => ("SmudgeTally$Books", "versionOutcomes", "[I", true)
def tyX0 : Nat → FieldType := fun k => match k with
  | 0 => .int
  | 1 => .int
  | 2 => .array .int
  | 3 => .array .int
  | 4 => .array .int
  | 5 => .array .long
  | 6 => .array .long
  | 7 => .array .int
  | 8 => .array .int
  | 9 => .array .int
  | _ => .array .int
abbrev wsX00 : List Cond := u_ws RX0 TX0 11
theorem nmX0 : ∀ a, a < 11 → ∀ b, b < 11 → a ≠ b → (TX0 a).2.1 ≠ (TX0 b).2.1 := by decide +kernel
theorem tyX0_ok : ∀ k, k < 11 → parseFieldDescriptor (TX0 k).2.2.1 = some (tyX0 k) := by decide +kernel
abbrev cX0_init : ByteArray := prog_2_method_1_code
def yX0_init : MethodName := ⟨RX0, "<init>", "()V"⟩
abbrev cX0_copyFrom : ByteArray := prog_2_method_2_code
def yX0_copyFrom : MethodName := ⟨RX0, "copyFrom", "(LSmudgeTally$Books;)V"⟩
abbrev cX0_hasCard : ByteArray := prog_2_method_3_code
def yX0_hasCard : MethodName := ⟨RX0, "hasCard", "(I)Z"⟩
abbrev cX0_hasVersion : ByteArray := prog_2_method_4_code
def yX0_hasVersion : MethodName := ⟨RX0, "hasVersion", "(I)Z"⟩
abbrev cX0_cardsInStage : ByteArray := prog_2_method_5_code
def yX0_cardsInStage : MethodName := ⟨RX0, "cardsInStage", "(I)I"⟩
abbrev cX0_cardsOf : ByteArray := prog_2_method_6_code
def yX0_cardsOf : MethodName := ⟨RX0, "cardsOf", "(II)I"⟩
abbrev cX0_cardsIn : ByteArray := prog_2_method_7_code
def yX0_cardsIn : MethodName := ⟨RX0, "cardsIn", "(I)I"⟩
abbrev cX0_outcomesIn : ByteArray := prog_2_method_8_code
def yX0_outcomesIn : MethodName := ⟨RX0, "outcomesIn", "(II)I"⟩
abbrev cX0_keepVersion : ByteArray := prog_2_method_9_code
def yX0_keepVersion : MethodName := ⟨RX0, "keepVersion", "([I)V"⟩
abbrev cX0_changesIn : ByteArray := prog_2_method_10_code
def yX0_changesIn : MethodName := ⟨RX0, "changesIn", "(II)I"⟩
abbrev cX0_changedCard : ByteArray := prog_2_method_11_code
def yX0_changedCard : MethodName := ⟨RX0, "changedCard", "(II)I"⟩
def RX1 : String := "SmudgeTally$Clerk"
def TX1 : u_T := fun k => match k with
  | 0 => ("SmudgeTally$Clerk", "sight", "LSmudgeTally$Sight;", true)
  | _ => ("SmudgeTally$Clerk", "books", "LSmudgeTally$Books;", true)
def tyX1 : Nat → FieldType := fun k => match k with
  | 0 => .object "SmudgeTally$Sight"
  | _ => .object "SmudgeTally$Books"
abbrev wsX10 : List Cond := u_ws RX1 TX1 2
theorem nmX1 : ∀ a, a < 2 → ∀ b, b < 2 → a ≠ b → (TX1 a).2.1 ≠ (TX1 b).2.1 := by decide +kernel
theorem tyX1_ok : ∀ k, k < 2 → parseFieldDescriptor (TX1 k).2.2.1 = some (tyX1 k) := by decide +kernel
abbrev cX1_init : ByteArray := prog_3_method_1_code
def yX1_init : MethodName := ⟨RX1, "<init>", "()V"⟩
abbrev cX1_obey : ByteArray := prog_3_method_2_code
def yX1_obey : MethodName := ⟨RX1, "obey", "(IJJ)I"⟩
abbrev cX1_addCard : ByteArray := prog_3_method_3_code
def yX1_addCard : MethodName := ⟨RX1, "addCard", "(IJ)I"⟩
abbrev cX1_cleanMachine : ByteArray := prog_3_method_4_code
def yX1_cleanMachine : MethodName := ⟨RX1, "cleanMachine", "(I)I"⟩
abbrev cX1_setNumber : ByteArray := prog_3_method_5_code
def yX1_setNumber : MethodName := ⟨RX1, "setNumber", "(II)I"⟩
abbrev cX1_publishVersion : ByteArray := prog_3_method_6_code
def yX1_publishVersion : MethodName := ⟨RX1, "publishVersion", "()I"⟩
abbrev cX1_drawCards : ByteArray := prog_3_method_7_code
def yX1_drawCards : MethodName := ⟨RX1, "drawCards", "(II)I"⟩
abbrev cX1_lookAt : ByteArray := prog_3_method_8_code
def yX1_lookAt : MethodName := ⟨RX1, "lookAt", "(IJ)I"⟩
def RX2 : String := "SmudgeTally$History"
def TX2 : u_T := fun k => match k with
  | 0 => ("SmudgeTally$History", "size", "I", false)
  | _ => ("SmudgeTally$History", "states", "[LSmudgeTally$State;", true)
def tyX2 : Nat → FieldType := fun k => match k with
  | 0 => .int
  | _ => .array (.object "SmudgeTally$State")
abbrev wsX20 : List Cond := u_ws RX2 TX2 2
theorem nmX2 : ∀ a, a < 2 → ∀ b, b < 2 → a ≠ b → (TX2 a).2.1 ≠ (TX2 b).2.1 := by decide +kernel
theorem tyX2_ok : ∀ k, k < 2 → parseFieldDescriptor (TX2 k).2.2.1 = some (tyX2 k) := by decide +kernel
abbrev cX2_init : ByteArray := prog_4_method_1_code
def yX2_init : MethodName := ⟨RX2, "<init>", "()V"⟩
abbrev cX2_prepare : ByteArray := prog_4_method_2_code
def yX2_prepare : MethodName := ⟨RX2, "prepare", "(LSmudgeTally$Books;LSmudgeTally$Slots;)V"⟩
abbrev cX2_giveBackPrepared : ByteArray := prog_4_method_3_code
def yX2_giveBackPrepared : MethodName := ⟨RX2, "giveBackPrepared", "(LSmudgeTally$Books;LSmudgeTally$Slots;)V"⟩
abbrev cX2_record : ByteArray := prog_4_method_4_code
def yX2_record : MethodName := ⟨RX2, "record", "()V"⟩
abbrev cX2_goBack : ByteArray := prog_4_method_5_code
def yX2_goBack : MethodName := ⟨RX2, "goBack", "(LSmudgeTally$Books;LSmudgeTally$Slots;)V"⟩
def RX3 : String := "SmudgeTally$Program"
def TX3 : u_T := fun k => match k with
  | 0 => ("SmudgeTally$Program", "text", "LSmudgeTally$Text;", true)
  | 1 => ("SmudgeTally$Program", "failKind", "I", false)
  | 2 => ("SmudgeTally$Program", "failPlace", "I", false)
  | 3 => ("SmudgeTally$Program", "failCommands", "I", false)
  | 4 => ("SmudgeTally$Program", "failCode", "I", false)
  | 5 => ("SmudgeTally$Program", "first", "J", false)
  | _ => ("SmudgeTally$Program", "second", "J", false)
def tyX3 : Nat → FieldType := fun k => match k with
  | 0 => .object "SmudgeTally$Text"
  | 1 => .int
  | 2 => .int
  | 3 => .int
  | 4 => .int
  | 5 => .long
  | _ => .long
abbrev wsX30 : List Cond := u_ws RX3 TX3 7
theorem nmX3 : ∀ a, a < 7 → ∀ b, b < 7 → a ≠ b → (TX3 a).2.1 ≠ (TX3 b).2.1 := by decide +kernel
theorem tyX3_ok : ∀ k, k < 7 → parseFieldDescriptor (TX3 k).2.2.1 = some (tyX3 k) := by decide +kernel
abbrev cX3_init : ByteArray := prog_5_method_1_code
def yX3_init : MethodName := ⟨RX3, "<init>", "()V"⟩
abbrev cX3_runWith : ByteArray := prog_5_method_2_code
def yX3_runWith : MethodName := ⟨RX3, "runWith", "(LSmudgeTally$Clerk;)I"⟩
abbrev cX3_wordHere : ByteArray := prog_5_method_3_code
def yX3_wordHere : MethodName := ⟨RX3, "wordHere", "()I"⟩
abbrev cX3_readNumbers : ByteArray := prog_5_method_4_code
def yX3_readNumbers : MethodName := ⟨RX3, "readNumbers", "(I)Z"⟩
abbrev cX3_readSemicolon : ByteArray := prog_5_method_5_code
def yX3_readSemicolon : MethodName := ⟨RX3, "readSemicolon", "()Z"⟩
abbrev cX3_fail : ByteArray := prog_5_method_6_code
def yX3_fail : MethodName := ⟨RX3, "fail", "(IIII)I"⟩
def RX4 : String := "SmudgeTally$Sight"
def TX4 : u_T := fun k => match k with
  | 0 => ("SmudgeTally$Sight", "books", "LSmudgeTally$Books;", true)
  | 1 => ("SmudgeTally$Sight", "previous", "[I", true)
  | 2 => ("SmudgeTally$Sight", "read", "[I", true)
  | 3 => ("SmudgeTally$Sight", "truth", "[I", true)
  | 4 => ("SmudgeTally$Sight", "runFirst", "[I", true)
  | 5 => ("SmudgeTally$Sight", "runLast", "[I", true)
  | 6 => ("SmudgeTally$Sight", "runLength", "[I", true)
  | 7 => ("SmudgeTally$Sight", "runDirt", "[I", true)
  | 8 => ("SmudgeTally$Sight", "dirt", "[I", true)
  | 9 => ("SmudgeTally$Sight", "clear", "[I", true)
  | 10 => ("SmudgeTally$Sight", "mark", "[I", true)
  | 11 => ("SmudgeTally$Sight", "outcomes", "[I", true)
  | 12 => ("SmudgeTally$Sight", "doubtful", "[I", true)
  | 13 => ("SmudgeTally$Sight", "changing", "[Z", true)
  | _ => ("SmudgeTally$Sight", "outcomesBefore", "[I", true)
def tyX4 : Nat → FieldType := fun k => match k with
  | 0 => .object "SmudgeTally$Books"
  | 1 => .array .int
  | 2 => .array .int
  | 3 => .array .int
  | 4 => .array .int
  | 5 => .array .int
  | 6 => .array .int
  | 7 => .array .int
  | 8 => .array .int
  | 9 => .array .int
  | 10 => .array .int
  | 11 => .array .int
  | 12 => .array .int
  | 13 => .array .boolean
  | _ => .array .int
abbrev wsX40 : List Cond := u_ws RX4 TX4 15
theorem nmX4 : ∀ a, a < 15 → ∀ b, b < 15 → a ≠ b → (TX4 a).2.1 ≠ (TX4 b).2.1 := by decide +kernel
theorem tyX4_ok : ∀ k, k < 15 → parseFieldDescriptor (TX4 k).2.2.1 = some (tyX4 k) := by decide +kernel
abbrev cX4_init : ByteArray := prog_6_method_1_code
def yX4_init : MethodName := ⟨RX4, "<init>", "()V"⟩
abbrev cX4_workOut : ByteArray := prog_6_method_2_code
def yX4_workOut : MethodName := ⟨RX4, "workOut", "()V"⟩
abbrev cX4_previousOf : ByteArray := prog_6_method_3_code
def yX4_previousOf : MethodName := ⟨RX4, "previousOf", "(I)I"⟩
abbrev cX4_readDigits : ByteArray := prog_6_method_4_code
def yX4_readDigits : MethodName := ⟨RX4, "readDigits", "(I)V"⟩
abbrev cX4_growRuns : ByteArray := prog_6_method_5_code
def yX4_growRuns : MethodName := ⟨RX4, "growRuns", "(I)V"⟩
abbrev cX4_closeRuns : ByteArray := prog_6_method_6_code
def yX4_closeRuns : MethodName := ⟨RX4, "closeRuns", "(I)V"⟩
abbrev cX4_ownDirt : ByteArray := prog_6_method_7_code
def yX4_ownDirt : MethodName := ⟨RX4, "ownDirt", "(II)I"⟩
abbrev cX4_judgeWith : ByteArray := prog_6_method_8_code
def yX4_judgeWith : MethodName := ⟨RX4, "judgeWith", "(I)V"⟩
abbrev cX4_markOf : ByteArray := prog_6_method_9_code
def yX4_markOf : MethodName := ⟨RX4, "markOf", "(IZ)I"⟩
abbrev cX4_judgedOutcome : ByteArray := prog_6_method_10_code
def yX4_judgedOutcome : MethodName := ⟨RX4, "judgedOutcome", "(II)I"⟩
abbrev cX4_compareWithLast : ByteArray := prog_6_method_11_code
def yX4_compareWithLast : MethodName := ⟨RX4, "compareWithLast", "()V"⟩
abbrev cX4_streaks : ByteArray := prog_6_method_12_code
def yX4_streaks : MethodName := ⟨RX4, "streaks", "()I"⟩
abbrev cX4_outcomesIn : ByteArray := prog_6_method_13_code
def yX4_outcomesIn : MethodName := ⟨RX4, "outcomesIn", "(II)I"⟩
abbrev cX4_cardsWith : ByteArray := prog_6_method_14_code
def yX4_cardsWith : MethodName := ⟨RX4, "cardsWith", "(IIII)I"⟩
abbrev cX4_cardsChanging : ByteArray := prog_6_method_15_code
def yX4_cardsChanging : MethodName := ⟨RX4, "cardsChanging", "()I"⟩
abbrev cX4_unseenChanging : ByteArray := prog_6_method_16_code
def yX4_unseenChanging : MethodName := ⟨RX4, "unseenChanging", "()I"⟩
abbrev cX4_inPool : ByteArray := prog_6_method_17_code
def yX4_inPool : MethodName := ⟨RX4, "inPool", "(I)Z"⟩
abbrev cX4_placeInPool : ByteArray := prog_6_method_18_code
def yX4_placeInPool : MethodName := ⟨RX4, "placeInPool", "(I)I"⟩
abbrev cX4_poolSize : ByteArray := prog_6_method_19_code
def yX4_poolSize : MethodName := ⟨RX4, "poolSize", "()I"⟩
abbrev cX4_poolCard : ByteArray := prog_6_method_20_code
def yX4_poolCard : MethodName := ⟨RX4, "poolCard", "(I)I"⟩
abbrev cX4_leadingChoice : ByteArray := prog_6_method_21_code
def yX4_leadingChoice : MethodName := ⟨RX4, "leadingChoice", "(I)I"⟩
abbrev cX4_leadOf : ByteArray := prog_6_method_22_code
def yX4_leadOf : MethodName := ⟨RX4, "leadOf", "(II)I"⟩
abbrev cX4_errorOf : ByteArray := prog_6_method_23_code
def yX4_errorOf : MethodName := ⟨RX4, "errorOf", "(II)I"⟩
abbrev cX4_otherWith : ByteArray := prog_6_method_24_code
def yX4_otherWith : MethodName := ⟨RX4, "otherWith", "(I)I"⟩
def RX5 : String := "SmudgeTally$Slots"
def TX5 : u_T := fun k => match k with
  | 0 => ("SmudgeTally$Slots", "kept", "[LSmudgeTally$Books;", true)
  | _ => ("SmudgeTally$Slots", "full", "[Z", true)
def tyX5 : Nat → FieldType := fun k => match k with
  | 0 => .array (.object "SmudgeTally$Books")
  | _ => .array .boolean
abbrev wsX50 : List Cond := u_ws RX5 TX5 2
theorem nmX5 : ∀ a, a < 2 → ∀ b, b < 2 → a ≠ b → (TX5 a).2.1 ≠ (TX5 b).2.1 := by decide +kernel
theorem tyX5_ok : ∀ k, k < 2 → parseFieldDescriptor (TX5 k).2.2.1 = some (tyX5 k) := by decide +kernel
abbrev cX5_init : ByteArray := prog_7_method_1_code
def yX5_init : MethodName := ⟨RX5, "<init>", "()V"⟩
abbrev cX5_copyFrom : ByteArray := prog_7_method_2_code
def yX5_copyFrom : MethodName := ⟨RX5, "copyFrom", "(LSmudgeTally$Slots;)V"⟩
abbrev cX5_isFull : ByteArray := prog_7_method_3_code
def yX5_isFull : MethodName := ⟨RX5, "isFull", "(I)Z"⟩
abbrev cX5_keep : ByteArray := prog_7_method_4_code
def yX5_keep : MethodName := ⟨RX5, "keep", "(ILSmudgeTally$Books;)V"⟩
abbrev cX5_giveBack : ByteArray := prog_7_method_5_code
def yX5_giveBack : MethodName := ⟨RX5, "giveBack", "(ILSmudgeTally$Books;)V"⟩
abbrev cX5_snapshots : ByteArray := prog_7_method_6_code
def yX5_snapshots : MethodName := ⟨RX5, "snapshots", "()I"⟩
def RX6 : String := "SmudgeTally$State"
def TX6 : u_T := fun k => match k with
  | 0 => ("SmudgeTally$State", "books", "LSmudgeTally$Books;", true)
  | _ => ("SmudgeTally$State", "slots", "LSmudgeTally$Slots;", true)
def tyX6 : Nat → FieldType := fun k => match k with
  | 0 => .object "SmudgeTally$Books"
  | _ => .object "SmudgeTally$Slots"
abbrev wsX60 : List Cond := u_ws RX6 TX6 2
theorem nmX6 : ∀ a, a < 2 → ∀ b, b < 2 → a ≠ b → (TX6 a).2.1 ≠ (TX6 b).2.1 := by decide +kernel
theorem tyX6_ok : ∀ k, k < 2 → parseFieldDescriptor (TX6 k).2.2.1 = some (tyX6 k) := by decide +kernel
abbrev cX6_init : ByteArray := prog_8_method_1_code
def yX6_init : MethodName := ⟨RX6, "<init>", "()V"⟩
abbrev cX6_keep : ByteArray := prog_8_method_2_code
def yX6_keep : MethodName := ⟨RX6, "keep", "(LSmudgeTally$Books;LSmudgeTally$Slots;)V"⟩
abbrev cX6_giveBack : ByteArray := prog_8_method_3_code
def yX6_giveBack : MethodName := ⟨RX6, "giveBack", "(LSmudgeTally$Books;LSmudgeTally$Slots;)V"⟩
def RX7 : String := "SmudgeTally$Text"
def TX7 : u_T := fun k => match k with
  | 0 => ("SmudgeTally$Text", "length", "I", false)
  | 1 => ("SmudgeTally$Text", "kind", "I", false)
  | 2 => ("SmudgeTally$Text", "start", "I", false)
  | 3 => ("SmudgeTally$Text", "end", "I", false)
  | _ => ("SmudgeTally$Text", "signs", "[I", true)
def tyX7 : Nat → FieldType := fun k => match k with
  | 0 => .int
  | 1 => .int
  | 2 => .int
  | 3 => .int
  | _ => .array .int
abbrev wsX70 : List Cond := u_ws RX7 TX7 5
theorem nmX7 : ∀ a, a < 5 → ∀ b, b < 5 → a ≠ b → (TX7 a).2.1 ≠ (TX7 b).2.1 := by decide +kernel
theorem tyX7_ok : ∀ k, k < 5 → parseFieldDescriptor (TX7 k).2.2.1 = some (tyX7 k) := by decide +kernel
abbrev cX7_init : ByteArray := prog_9_method_1_code
def yX7_init : MethodName := ⟨RX7, "<init>", "()V"⟩
abbrev cX7_add : ByteArray := prog_9_method_2_code
def yX7_add : MethodName := ⟨RX7, "add", "(I)I"⟩
abbrev cX7_empty : ByteArray := prog_9_method_3_code
def yX7_empty : MethodName := ⟨RX7, "empty", "()I"⟩
abbrev cX7_rewind : ByteArray := prog_9_method_4_code
def yX7_rewind : MethodName := ⟨RX7, "rewind", "()V"⟩
abbrev cX7_readToken : ByteArray := prog_9_method_5_code
def yX7_readToken : MethodName := ⟨RX7, "readToken", "()V"⟩
abbrev cX7_kindOf : ByteArray := prog_9_method_6_code
def yX7_kindOf : MethodName := ⟨RX7, "kindOf", "(I)I"⟩
abbrev cX7_isWord : ByteArray := prog_9_method_7_code
def yX7_isWord : MethodName := ⟨RX7, "isWord", "(Ljava/lang/String;)Z"⟩
abbrev cX7_isNumber : ByteArray := prog_9_method_8_code
def yX7_isNumber : MethodName := ⟨RX7, "isNumber", "()Z"⟩
abbrev cX7_isWholeRow : ByteArray := prog_9_method_9_code
def yX7_isWholeRow : MethodName := ⟨RX7, "isWholeRow", "()Z"⟩
abbrev cX7_isSemicolon : ByteArray := prog_9_method_10_code
def yX7_isSemicolon : MethodName := ⟨RX7, "isSemicolon", "()Z"⟩
abbrev cX7_value : ByteArray := prog_9_method_11_code
def yX7_value : MethodName := ⟨RX7, "value", "()J"⟩
def RX8 : String := "SmudgeTally"
def TX8 : u_T := fun k => match k with
  | 0 => ("SmudgeTally", "clerk", "LSmudgeTally$Clerk;", true)
  | 1 => ("SmudgeTally", "sight", "LSmudgeTally$Sight;", true)
  | 2 => ("SmudgeTally", "books", "LSmudgeTally$Books;", true)
  | 3 => ("SmudgeTally", "slots", "LSmudgeTally$Slots;", true)
  | 4 => ("SmudgeTally", "history", "LSmudgeTally$History;", true)
  | _ => ("SmudgeTally", "program", "LSmudgeTally$Program;", true)
def tyX8 : Nat → FieldType := fun k => match k with
  | 0 => .object "SmudgeTally$Clerk"
  | 1 => .object "SmudgeTally$Sight"
  | 2 => .object "SmudgeTally$Books"
  | 3 => .object "SmudgeTally$Slots"
  | 4 => .object "SmudgeTally$History"
  | _ => .object "SmudgeTally$Program"
abbrev wsX80 : List Cond := u_ws RX8 TX8 6
theorem nmX8 : ∀ a, a < 6 → ∀ b, b < 6 → a ≠ b → (TX8 a).2.1 ≠ (TX8 b).2.1 := by decide +kernel
theorem tyX8_ok : ∀ k, k < 6 → parseFieldDescriptor (TX8 k).2.2.1 = some (tyX8 k) := by decide +kernel
abbrev cX8_init : ByteArray := prog_1_method_1_code
def yX8_init : MethodName := ⟨RX8, "<init>", "()V"⟩
abbrev cX8_scan : ByteArray := prog_1_method_2_code
def yX8_scan : MethodName := ⟨RX8, "scan", "(IJ)I"⟩
abbrev cX8_clean : ByteArray := prog_1_method_3_code
def yX8_clean : MethodName := ⟨RX8, "clean", "(I)I"⟩
abbrev cX8_set : ByteArray := prog_1_method_4_code
def yX8_set : MethodName := ⟨RX8, "set", "(II)I"⟩
abbrev cX8_publish : ByteArray := prog_1_method_5_code
def yX8_publish : MethodName := ⟨RX8, "publish", "()I"⟩
abbrev cX8_draw : ByteArray := prog_1_method_6_code
def yX8_draw : MethodName := ⟨RX8, "draw", "(II)I"⟩
abbrev cX8_look : ByteArray := prog_1_method_7_code
def yX8_look : MethodName := ⟨RX8, "look", "(IJ)I"⟩
abbrev cX8_take : ByteArray := prog_1_method_8_code
def yX8_take : MethodName := ⟨RX8, "take", "(I)I"⟩
abbrev cX8_restore : ByteArray := prog_1_method_9_code
def yX8_restore : MethodName := ⟨RX8, "restore", "(I)I"⟩
abbrev cX8_undo : ByteArray := prog_1_method_10_code
def yX8_undo : MethodName := ⟨RX8, "undo", "()I"⟩
abbrev cX8_append : ByteArray := prog_1_method_11_code
def yX8_append : MethodName := ⟨RX8, "append", "(I)I"⟩
abbrev cX8_clearText : ByteArray := prog_1_method_12_code
def yX8_clearText : MethodName := ⟨RX8, "clearText", "()I"⟩
abbrev cX8_run : ByteArray := prog_1_method_13_code
def yX8_run : MethodName := ⟨RX8, "run", "()I"⟩
abbrev cX8_failure : ByteArray := prog_1_method_14_code
def yX8_failure : MethodName := ⟨RX8, "failure", "(I)I"⟩
abbrev cX8_count : ByteArray := prog_1_method_15_code
def yX8_count : MethodName := ⟨RX8, "count", "(I)I"⟩
abbrev cX8_card : ByteArray := prog_1_method_16_code
def yX8_card : MethodName := ⟨RX8, "card", "(II)I"⟩
abbrev cX8_place : ByteArray := prog_1_method_17_code
def yX8_place : MethodName := ⟨RX8, "place", "(III)I"⟩
abbrev cX8_runAt : ByteArray := prog_1_method_18_code
def yX8_runAt : MethodName := ⟨RX8, "runAt", "(III)I"⟩
abbrev cX8_outcome : ByteArray := prog_1_method_19_code
def yX8_outcome : MethodName := ⟨RX8, "outcome", "(III)I"⟩
abbrev cX8_tally : ByteArray := prog_1_method_20_code
def yX8_tally : MethodName := ⟨RX8, "tally", "(IIII)I"⟩
abbrev cX8_changed : ByteArray := prog_1_method_21_code
def yX8_changed : MethodName := ⟨RX8, "changed", "(III)I"⟩
abbrev cX8_leader : ByteArray := prog_1_method_22_code
def yX8_leader : MethodName := ⟨RX8, "leader", "(II)I"⟩
abbrev cX8_error : ByteArray := prog_1_method_23_code
def yX8_error : MethodName := ⟨RX8, "error", "(II)I"⟩
abbrev cX8_byLength : ByteArray := prog_1_method_24_code
def yX8_byLength : MethodName := ⟨RX8, "byLength", "(I)I"⟩
abbrev cX8_drawn : ByteArray := prog_1_method_25_code
def yX8_drawn : MethodName := ⟨RX8, "drawn", "(I)I"⟩
abbrev cX8_seedFor : ByteArray := prog_1_method_26_code
def yX8_seedFor : MethodName := ⟨RX8, "seedFor", "(I)I"⟩
abbrev cX8_recordIfDone : ByteArray := prog_1_method_27_code
def yX8_recordIfDone : MethodName := ⟨RX8, "recordIfDone", "(I)I"⟩
abbrev cX8_within : ByteArray := prog_1_method_28_code
def yX8_within : MethodName := ⟨RX8, "within", "(III)Z"⟩
abbrev cX8_isRow : ByteArray := prog_1_method_29_code
def yX8_isRow : MethodName := ⟨RX8, "isRow", "(J)Z"⟩
abbrev cX8_nextLot : ByteArray := prog_1_method_30_code
def yX8_nextLot : MethodName := ⟨RX8, "nextLot", "(I)I"⟩
abbrev cX8_outcomeOf : ByteArray := prog_1_method_31_code
def yX8_outcomeOf : MethodName := ⟨RX8, "outcomeOf", "(II)I"⟩
abbrev cX8_differingContests : ByteArray := prog_1_method_32_code
def yX8_differingContests : MethodName := ⟨RX8, "differingContests", "(II)I"⟩
def RX9 : String := "SmudgeTallyModel"
def TX9 : u_T := fun k => match k with
  | 0 => ("SmudgeTallyModel", "now", "[J", true)
  | 1 => ("SmudgeTallyModel", "before", "[J", true)
  | 2 => ("SmudgeTallyModel", "past", "[J", true)
  | 3 => ("SmudgeTallyModel", "states", "I", false)
  | 4 => ("SmudgeTallyModel", "pool", "[I", true)
  | 5 => ("SmudgeTallyModel", "text", "[I", true)
  | 6 => ("SmudgeTallyModel", "letters", "I", false)
  | 7 => ("SmudgeTallyModel", "kind", "I", false)
  | 8 => ("SmudgeTallyModel", "failedAt", "I", false)
  | 9 => ("SmudgeTallyModel", "failedBehind", "I", false)
  | 10 => ("SmudgeTallyModel", "failedBy", "I", false)
  | 11 => ("SmudgeTallyModel", "at", "I", false)
  | 12 => ("SmudgeTallyModel", "from", "I", false)
  | 13 => ("SmudgeTallyModel", "wrong", "Z", false)
  | 14 => ("SmudgeTallyModel", "word", "I", false)
  | 15 => ("SmudgeTallyModel", "first", "J", false)
  | _ => ("SmudgeTallyModel", "second", "J", false)
def tyX9 : Nat → FieldType := fun k => match k with
  | 0 => .array .long
  | 1 => .array .long
  | 2 => .array .long
  | 3 => .int
  | 4 => .array .int
  | 5 => .array .int
  | 6 => .int
  | 7 => .int
  | 8 => .int
  | 9 => .int
  | 10 => .int
  | 11 => .int
  | 12 => .int
  | 13 => .boolean
  | 14 => .int
  | 15 => .long
  | _ => .long
abbrev wsX90 : List Cond := u_ws RX9 TX9 17
theorem nmX9 : ∀ a, a < 17 → ∀ b, b < 17 → a ≠ b → (TX9 a).2.1 ≠ (TX9 b).2.1 := by decide +kernel
theorem tyX9_ok : ∀ k, k < 17 → parseFieldDescriptor (TX9 k).2.2.1 = some (tyX9 k) := by decide +kernel
abbrev cX9_init : ByteArray := prog_11_method_1_code
def yX9_init : MethodName := ⟨RX9, "<init>", "()V"⟩
abbrev cX9_in : ByteArray := prog_11_method_2_code
def yX9_in : MethodName := ⟨RX9, "in", "(JJJ)Z"⟩
abbrev cX9_c : ByteArray := prog_11_method_3_code
def yX9_c : MethodName := ⟨RX9, "c", "(II)I"⟩
abbrev cX9_isCard : ByteArray := prog_11_method_4_code
def yX9_isCard : MethodName := ⟨RX9, "isCard", "(I)Z"⟩
abbrev cX9_isRow : ByteArray := prog_11_method_5_code
def yX9_isRow : MethodName := ⟨RX9, "isRow", "(J)Z"⟩
abbrev cX9_digit : ByteArray := prog_11_method_6_code
def yX9_digit : MethodName := ⟨RX9, "digit", "(JI)I"⟩
abbrev cX9_read : ByteArray := prog_11_method_7_code
def yX9_read : MethodName := ⟨RX9, "read", "(II)I"⟩
abbrev cX9_isLooked : ByteArray := prog_11_method_8_code
def yX9_isLooked : MethodName := ⟨RX9, "isLooked", "(I)Z"⟩
abbrev cX9_keeps : ByteArray := prog_11_method_9_code
def yX9_keeps : MethodName := ⟨RX9, "keeps", "()V"⟩
abbrev cX9_acted : ByteArray := prog_11_method_10_code
def yX9_acted : MethodName := ⟨RX9, "acted", "(I)I"⟩
abbrev cX9_goesOn : ByteArray := prog_11_method_11_code
def yX9_goesOn : MethodName := ⟨RX9, "goesOn", "(III)Z"⟩
abbrev cX9_beside : ByteArray := prog_11_method_12_code
def yX9_beside : MethodName := ⟨RX9, "beside", "(II)I"⟩
abbrev cX9_end : ByteArray := prog_11_method_13_code
def yX9_end : MethodName := ⟨RX9, "end", "(III)I"⟩
abbrev cX9_runFrom : ByteArray := prog_11_method_14_code
def yX9_runFrom : MethodName := ⟨RX9, "runFrom", "(II)I"⟩
abbrev cX9_least : ByteArray := prog_11_method_15_code
def yX9_least : MethodName := ⟨RX9, "least", "(II)I"⟩
abbrev cX9_dirtBy : ByteArray := prog_11_method_16_code
def yX9_dirtBy : MethodName := ⟨RX9, "dirtBy", "(II)I"⟩
abbrev cX9_dirt : ByteArray := prog_11_method_17_code
def yX9_dirt : MethodName := ⟨RX9, "dirt", "(III)I"⟩
abbrev cX9_clear : ByteArray := prog_11_method_18_code
def yX9_clear : MethodName := ⟨RX9, "clear", "(III)I"⟩
abbrev cX9_mark : ByteArray := prog_11_method_19_code
def yX9_mark : MethodName := ⟨RX9, "mark", "(III)I"⟩
abbrev cX9_outcomeBy : ByteArray := prog_11_method_20_code
def yX9_outcomeBy : MethodName := ⟨RX9, "outcomeBy", "(III)I"⟩
abbrev cX9_length : ByteArray := prog_11_method_21_code
def yX9_length : MethodName := ⟨RX9, "length", "()I"⟩
abbrev cX9_outcomes : ByteArray := prog_11_method_22_code
def yX9_outcomes : MethodName := ⟨RX9, "outcomes", "(II)J"⟩
abbrev cX9_outcomeIn : ByteArray := prog_11_method_23_code
def yX9_outcomeIn : MethodName := ⟨RX9, "outcomeIn", "(JI)I"⟩
abbrev cX9_differences : ByteArray := prog_11_method_24_code
def yX9_differences : MethodName := ⟨RX9, "differences", "(JJ)I"⟩
abbrev cX9_v : ByteArray := prog_11_method_25_code
def yX9_v : MethodName := ⟨RX9, "v", "(II)I"⟩
abbrev cX9_isVersion : ByteArray := prog_11_method_26_code
def yX9_isVersion : MethodName := ⟨RX9, "isVersion", "(I)Z"⟩
abbrev cX9_changes : ByteArray := prog_11_method_27_code
def yX9_changes : MethodName := ⟨RX9, "changes", "(I)I"⟩
abbrev cX9_doubtful : ByteArray := prog_11_method_28_code
def yX9_doubtful : MethodName := ⟨RX9, "doubtful", "(I)I"⟩
abbrev cX9_isInPool : ByteArray := prog_11_method_29_code
def yX9_isInPool : MethodName := ⟨RX9, "isInPool", "(I)Z"⟩
abbrev cX9_laysPool : ByteArray := prog_11_method_30_code
def yX9_laysPool : MethodName := ⟨RX9, "laysPool", "()I"⟩
abbrev cX9_changing : ByteArray := prog_11_method_31_code
def yX9_changing : MethodName := ⟨RX9, "changing", "(Z)I"⟩
abbrev cX9_inState : ByteArray := prog_11_method_32_code
def yX9_inState : MethodName := ⟨RX9, "inState", "(I)I"⟩
abbrev cX9_ofMachine : ByteArray := prog_11_method_33_code
def yX9_ofMachine : MethodName := ⟨RX9, "ofMachine", "(I)I"⟩
abbrev cX9_scans : ByteArray := prog_11_method_34_code
def yX9_scans : MethodName := ⟨RX9, "scans", "(JJ)I"⟩
abbrev cX9_cleans : ByteArray := prog_11_method_35_code
def yX9_cleans : MethodName := ⟨RX9, "cleans", "(J)I"⟩
abbrev cX9_publishes : ByteArray := prog_11_method_36_code
def yX9_publishes : MethodName := ⟨RX9, "publishes", "()I"⟩
abbrev cX9_draws : ByteArray := prog_11_method_37_code
def yX9_draws : MethodName := ⟨RX9, "draws", "(JJ)I"⟩
abbrev cX9_looks : ByteArray := prog_11_method_38_code
def yX9_looks : MethodName := ⟨RX9, "looks", "(JJ)I"⟩
abbrev cX9_scan : ByteArray := prog_11_method_39_code
def yX9_scan : MethodName := ⟨RX9, "scan", "(IJ)I"⟩
abbrev cX9_clean : ByteArray := prog_11_method_40_code
def yX9_clean : MethodName := ⟨RX9, "clean", "(I)I"⟩
abbrev cX9_isSetting : ByteArray := prog_11_method_41_code
def yX9_isSetting : MethodName := ⟨RX9, "isSetting", "(II)Z"⟩
abbrev cX9_set : ByteArray := prog_11_method_42_code
def yX9_set : MethodName := ⟨RX9, "set", "(II)I"⟩
abbrev cX9_publish : ByteArray := prog_11_method_43_code
def yX9_publish : MethodName := ⟨RX9, "publish", "()I"⟩
abbrev cX9_draw : ByteArray := prog_11_method_44_code
def yX9_draw : MethodName := ⟨RX9, "draw", "(II)I"⟩
abbrev cX9_look : ByteArray := prog_11_method_45_code
def yX9_look : MethodName := ⟨RX9, "look", "(IJ)I"⟩
abbrev cX9_slotAt : ByteArray := prog_11_method_46_code
def yX9_slotAt : MethodName := ⟨RX9, "slotAt", "(I)I"⟩
abbrev cX9_take : ByteArray := prog_11_method_47_code
def yX9_take : MethodName := ⟨RX9, "take", "(I)I"⟩
abbrev cX9_restore : ByteArray := prog_11_method_48_code
def yX9_restore : MethodName := ⟨RX9, "restore", "(I)I"⟩
abbrev cX9_undo : ByteArray := prog_11_method_49_code
def yX9_undo : MethodName := ⟨RX9, "undo", "()I"⟩
abbrev cX9_append : ByteArray := prog_11_method_50_code
def yX9_append : MethodName := ⟨RX9, "append", "(I)I"⟩
abbrev cX9_clearText : ByteArray := prog_11_method_51_code
def yX9_clearText : MethodName := ⟨RX9, "clearText", "()I"⟩
abbrev cX9_next : ByteArray := prog_11_method_52_code
def yX9_next : MethodName := ⟨RX9, "next", "()I"⟩
abbrev cX9_isLetter : ByteArray := prog_11_method_53_code
def yX9_isLetter : MethodName := ⟨RX9, "isLetter", "(I)Z"⟩
abbrev cX9_isDigit : ByteArray := prog_11_method_54_code
def yX9_isDigit : MethodName := ⟨RX9, "isDigit", "(I)Z"⟩
abbrev cX9_begins : ByteArray := prog_11_method_55_code
def yX9_begins : MethodName := ⟨RX9, "begins", "()V"⟩
abbrev cX9_wordNext : ByteArray := prog_11_method_56_code
def yX9_wordNext : MethodName := ⟨RX9, "wordNext", "()J"⟩
abbrev cX9_numberNext : ByteArray := prog_11_method_57_code
def yX9_numberNext : MethodName := ⟨RX9, "numberNext", "(Z)J"⟩
abbrev cX9_readsCommand : ByteArray := prog_11_method_58_code
def yX9_readsCommand : MethodName := ⟨RX9, "readsCommand", "()J"⟩
abbrev cX9_does : ByteArray := prog_11_method_59_code
def yX9_does : MethodName := ⟨RX9, "does", "(J)I"⟩
abbrev cX9_fails : ByteArray := prog_11_method_60_code
def yX9_fails : MethodName := ⟨RX9, "fails", "(IIII)I"⟩
abbrev cX9_run : ByteArray := prog_11_method_61_code
def yX9_run : MethodName := ⟨RX9, "run", "()I"⟩
abbrev cX9_failure : ByteArray := prog_11_method_62_code
def yX9_failure : MethodName := ⟨RX9, "failure", "(I)I"⟩
abbrev cX9_streaks : ByteArray := prog_11_method_63_code
def yX9_streaks : MethodName := ⟨RX9, "streaks", "()I"⟩
abbrev cX9_count : ByteArray := prog_11_method_64_code
def yX9_count : MethodName := ⟨RX9, "count", "(I)I"⟩
abbrev cX9_placeOf : ByteArray := prog_11_method_65_code
def yX9_placeOf : MethodName := ⟨RX9, "placeOf", "(I)I"⟩
abbrev cX9_card : ByteArray := prog_11_method_66_code
def yX9_card : MethodName := ⟨RX9, "card", "(II)I"⟩
abbrev cX9_isPlace : ByteArray := prog_11_method_67_code
def yX9_isPlace : MethodName := ⟨RX9, "isPlace", "(I)Z"⟩
abbrev cX9_place : ByteArray := prog_11_method_68_code
def yX9_place : MethodName := ⟨RX9, "place", "(III)I"⟩
abbrev cX9_runAt : ByteArray := prog_11_method_69_code
def yX9_runAt : MethodName := ⟨RX9, "runAt", "(III)I"⟩
abbrev cX9_outcomeOf : ByteArray := prog_11_method_70_code
def yX9_outcomeOf : MethodName := ⟨RX9, "outcomeOf", "(III)I"⟩
abbrev cX9_isAsked : ByteArray := prog_11_method_71_code
def yX9_isAsked : MethodName := ⟨RX9, "isAsked", "(II)Z"⟩
abbrev cX9_outcome : ByteArray := prog_11_method_72_code
def yX9_outcome : MethodName := ⟨RX9, "outcome", "(III)I"⟩
abbrev cX9_tallied : ByteArray := prog_11_method_73_code
def yX9_tallied : MethodName := ⟨RX9, "tallied", "(IIII)I"⟩
abbrev cX9_tally : ByteArray := prog_11_method_74_code
def yX9_tally : MethodName := ⟨RX9, "tally", "(IIII)I"⟩
abbrev cX9_changed : ByteArray := prog_11_method_75_code
def yX9_changed : MethodName := ⟨RX9, "changed", "(III)I"⟩
abbrev cX9_leader : ByteArray := prog_11_method_76_code
def yX9_leader : MethodName := ⟨RX9, "leader", "(II)I"⟩
abbrev cX9_size : ByteArray := prog_11_method_77_code
def yX9_size : MethodName := ⟨RX9, "size", "(I)I"⟩
abbrev cX9_error : ByteArray := prog_11_method_78_code
def yX9_error : MethodName := ⟨RX9, "error", "(II)I"⟩
abbrev cX9_byLength : ByteArray := prog_11_method_79_code
def yX9_byLength : MethodName := ⟨RX9, "byLength", "(I)I"⟩
abbrev cX9_drawn : ByteArray := prog_11_method_80_code
def yX9_drawn : MethodName := ⟨RX9, "drawn", "(I)I"⟩
abbrev cX9_seedFor : ByteArray := prog_11_method_81_code
def yX9_seedFor : MethodName := ⟨RX9, "seedFor", "(I)I"⟩
def RJ9 : String := "java/lang/Math"
def TJ9 : u_T := fun k => match k with
  | _ => ("", "", "", false)
def tyJ9 : Nat → FieldType := fun k => match k with
  | _ => .int
abbrev wsJ90 : List Cond := u_ws RJ9 TJ9 0
theorem nmJ9 : ∀ a, a < 0 → ∀ b, b < 0 → a ≠ b → (TJ9 a).2.1 ≠ (TJ9 b).2.1 := by decide +kernel
theorem tyJ9_ok : ∀ k, k < 0 → parseFieldDescriptor (TJ9 k).2.2.1 = some (tyJ9 k) := by decide +kernel
abbrev cJ9_abs_0f7a4 : ByteArray := prog_12_method_59_code
def yJ9_abs_0f7a4 : MethodName := ⟨RJ9, "abs", "(I)I"⟩
abbrev cJ9_max_7cf53 : ByteArray := prog_12_method_65_code
def yJ9_max_7cf53 : MethodName := ⟨RJ9, "max", "(II)I"⟩
abbrev cJ9_min_7cf53 : ByteArray := prog_12_method_69_code
def yJ9_min_7cf53 : MethodName := ⟨RJ9, "min", "(II)I"⟩
def RJ0 : String := "java/lang/String"
def TJ0 : u_T := fun k => match k with
  | _ => ("", "", "", false)
def tyJ0 : Nat → FieldType := fun k => match k with
  | _ => .int
abbrev wsJ00 : List Cond := u_ws RJ0 TJ0 0
theorem nmJ0 : ∀ a, a < 0 → ∀ b, b < 0 → a ≠ b → (TJ0 a).2.1 ≠ (TJ0 b).2.1 := by decide +kernel
theorem tyJ0_ok : ∀ k, k < 0 → parseFieldDescriptor (TJ0 k).2.2.1 = some (tyJ0 k) := by decide +kernel
abbrev cJ0_length_8abf5 : ByteArray := prog_13_method_54_code
def yJ0_length_8abf5 : MethodName := ⟨RJ0, "length", "()I"⟩
abbrev cJ0_charAt_5068e : ByteArray := prog_13_method_56_code
def yJ0_charAt_5068e : MethodName := ⟨RJ0, "charAt", "(I)C"⟩
abbrev cJ0_coder_7d493 : ByteArray := prog_13_method_152_code
def yJ0_coder_7d493 : MethodName := ⟨RJ0, "coder", "()B"⟩
abbrev cJ0_isLatin1_aae02 : ByteArray := prog_13_method_154_code
def yJ0_isLatin1_aae02 : MethodName := ⟨RJ0, "isLatin1", "()Z"⟩
abbrev cJ0_checkIndex_df160 : ByteArray := prog_13_method_155_code
def yJ0_checkIndex_df160 : MethodName := ⟨RJ0, "checkIndex", "(II)V"⟩
def RJ1 : String := "java/lang/StringLatin1"
def TJ1 : u_T := fun k => match k with
  | _ => ("", "", "", false)
def tyJ1 : Nat → FieldType := fun k => match k with
  | _ => .int
abbrev wsJ10 : List Cond := u_ws RJ1 TJ1 0
theorem nmJ1 : ∀ a, a < 0 → ∀ b, b < 0 → a ≠ b → (TJ1 a).2.1 ≠ (TJ1 b).2.1 := by decide +kernel
theorem tyJ1_ok : ∀ k, k < 0 → parseFieldDescriptor (TJ1 k).2.2.1 = some (tyJ1 k) := by decide +kernel
abbrev cJ1_charAt_3b067 : ByteArray := prog_14_method_2_code
def yJ1_charAt_3b067 : MethodName := ⟨RJ1, "charAt", "([BI)C"⟩
def RJ2 : String := "java/lang/StringUTF16"
def TJ2 : u_T := fun k => match k with
  | _ => ("", "", "", false)
def tyJ2 : Nat → FieldType := fun k => match k with
  | _ => .int
abbrev wsJ20 : List Cond := u_ws RJ2 TJ2 0
theorem nmJ2 : ∀ a, a < 0 → ∀ b, b < 0 → a ≠ b → (TJ2 a).2.1 ≠ (TJ2 b).2.1 := by decide +kernel
theorem tyJ2_ok : ∀ k, k < 0 → parseFieldDescriptor (TJ2 k).2.2.1 = some (tyJ2 k) := by decide +kernel
abbrev cJ2_getChar_3b067 : ByteArray := prog_15_method_5_code
def yJ2_getChar_3b067 : MethodName := ⟨RJ2, "getChar", "([BI)C"⟩
abbrev cJ2_length_9d52b : ByteArray := prog_15_method_6_code
def yJ2_length_9d52b : MethodName := ⟨RJ2, "length", "([B)I"⟩
abbrev cJ2_charAt_3b067 : ByteArray := prog_15_method_83_code
def yJ2_charAt_3b067 : MethodName := ⟨RJ2, "charAt", "([BI)C"⟩
abbrev cJ2_checkIndex_2214a : ByteArray := prog_15_method_91_code
def yJ2_checkIndex_2214a : MethodName := ⟨RJ2, "checkIndex", "(I[B)V"⟩
def RJ10 : String := "java/lang/System"
def TJ10 : u_T := fun k => match k with
  | _ => ("", "", "", false)
def tyJ10 : Nat → FieldType := fun k => match k with
  | _ => .int
abbrev wsJ100 : List Cond := u_ws RJ10 TJ10 0
theorem nmJ10 : ∀ a, a < 0 → ∀ b, b < 0 → a ≠ b → (TJ10 a).2.1 ≠ (TJ10 b).2.1 := by decide +kernel
theorem tyJ10_ok : ∀ k, k < 0 → parseFieldDescriptor (TJ10 k).2.2.1 = some (tyJ10 k) := by decide +kernel
def RJ3 : String := "jdk/internal/util/Preconditions"
def TJ3 : u_T := fun k => match k with
  | _ => ("", "", "", false)
def tyJ3 : Nat → FieldType := fun k => match k with
  | _ => .int
abbrev wsJ30 : List Cond := u_ws RJ3 TJ3 0
theorem nmJ3 : ∀ a, a < 0 → ∀ b, b < 0 → a ≠ b → (TJ3 a).2.1 ≠ (TJ3 b).2.1 := by decide +kernel
theorem tyJ3_ok : ∀ k, k < 0 → parseFieldDescriptor (TJ3 k).2.2.1 = some (tyJ3 k) := by decide +kernel
abbrev cJ3_checkIndex_8e157 : ByteArray := prog_17_method_11_code
def yJ3_checkIndex_8e157 : MethodName := ⟨RJ3, "checkIndex", "(IILjava/util/function/BiFunction;)I"⟩
def RL : String := "SmudgeTallyLaw"
abbrev cL_law : ByteArray := code
def yL_law : MethodName := ⟨RL, "law", "([I)Z"⟩
def wsJ0_coder_7d493 : List Cond := .code yJ0_coder_7d493 cJ0_coder_7d493 1 (some .byte) :: ([.fieldLink RJ0 38 "java/lang/String" "COMPACT_STRINGS" "Z", .fieldLink RJ0 15 "java/lang/String" "coder" "B"])
def wsJ0_length_8abf5 : List Cond := .code yJ0_length_8abf5 cJ0_length_8abf5 1 (some .int) :: ([.fieldLink RJ0 9 "java/lang/String" "value" "[B", .methodLink RJ0 335 yJ0_coder_7d493, .instanceMethod yJ0_coder_7d493, .selects RJ0 yJ0_coder_7d493 yJ0_coder_7d493, .initialized RJ0, .code yJ0_coder_7d493 cJ0_coder_7d493 1 (some .byte), .fieldLink RJ0 38 "java/lang/String" "COMPACT_STRINGS" "Z", .fieldLink RJ0 15 "java/lang/String" "coder" "B"])
def wsJ0_isLatin1_aae02 : List Cond := .code yJ0_isLatin1_aae02 cJ0_isLatin1_aae02 1 (some .boolean) :: ([.fieldLink RJ0 38 "java/lang/String" "COMPACT_STRINGS" "Z", .fieldLink RJ0 15 "java/lang/String" "coder" "B"])
def wsJ3_checkIndex_8e157 : List Cond := .code yJ3_checkIndex_8e157 cJ3_checkIndex_8e157 3 (some .int) :: ([])
def wsJ0_checkIndex_df160 : List Cond := .code yJ0_checkIndex_df160 cJ0_checkIndex_df160 2 none :: ([.fieldLink RJ0 1053 "jdk/internal/util/Preconditions" "SIOOBE_FORMATTER" "Ljava/util/function/BiFunction;", .methodLink RJ0 1059 yJ3_checkIndex_8e157, .static yJ3_checkIndex_8e157, .initialized RJ3, .code yJ3_checkIndex_8e157 cJ3_checkIndex_8e157 3 (some .int)])
def wsJ1_charAt_3b067 : List Cond := .code yJ1_charAt_3b067 cJ1_charAt_3b067 2 (some .char) :: ([.methodLink RJ1 9 yJ0_checkIndex_df160, .static yJ0_checkIndex_df160, .initialized RJ0, .code yJ0_checkIndex_df160 cJ0_checkIndex_df160 2 none, .fieldLink RJ0 1053 "jdk/internal/util/Preconditions" "SIOOBE_FORMATTER" "Ljava/util/function/BiFunction;", .methodLink RJ0 1059 yJ3_checkIndex_8e157, .static yJ3_checkIndex_8e157, .initialized RJ3, .code yJ3_checkIndex_8e157 cJ3_checkIndex_8e157 3 (some .int)])
def wsJ2_length_9d52b : List Cond := .code yJ2_length_9d52b cJ2_length_9d52b 1 (some .int) :: ([])
def wsJ2_checkIndex_2214a : List Cond := .code yJ2_checkIndex_2214a cJ2_checkIndex_2214a 2 none :: ([.methodLink RJ2 48 yJ2_length_9d52b, .static yJ2_length_9d52b, .initialized RJ2, .code yJ2_length_9d52b cJ2_length_9d52b 1 (some .int), .methodLink RJ2 414 yJ0_checkIndex_df160, .static yJ0_checkIndex_df160, .initialized RJ0, .code yJ0_checkIndex_df160 cJ0_checkIndex_df160 2 none, .fieldLink RJ0 1053 "jdk/internal/util/Preconditions" "SIOOBE_FORMATTER" "Ljava/util/function/BiFunction;", .methodLink RJ0 1059 yJ3_checkIndex_8e157, .static yJ3_checkIndex_8e157, .initialized RJ3, .code yJ3_checkIndex_8e157 cJ3_checkIndex_8e157 3 (some .int)])
def wsJ2_getChar_3b067 : List Cond := .code yJ2_getChar_3b067 cJ2_getChar_3b067 2 (some .char) :: ([.fieldLink RJ2 44 "java/lang/StringUTF16" "$assertionsDisabled" "Z", .fieldLink RJ2 59 "java/lang/StringUTF16" "HI_BYTE_SHIFT" "I", .fieldLink RJ2 63 "java/lang/StringUTF16" "LO_BYTE_SHIFT" "I", .methodLink RJ2 48 yJ2_length_9d52b, .static yJ2_length_9d52b, .initialized RJ2, .code yJ2_length_9d52b cJ2_length_9d52b 1 (some .int)])
def wsJ2_charAt_3b067 : List Cond := .code yJ2_charAt_3b067 cJ2_charAt_3b067 2 (some .char) :: ([.methodLink RJ2 67 yJ2_checkIndex_2214a, .static yJ2_checkIndex_2214a, .initialized RJ2, .code yJ2_checkIndex_2214a cJ2_checkIndex_2214a 2 none, .methodLink RJ2 48 yJ2_length_9d52b, .static yJ2_length_9d52b, .code yJ2_length_9d52b cJ2_length_9d52b 1 (some .int), .methodLink RJ2 414 yJ0_checkIndex_df160, .static yJ0_checkIndex_df160, .initialized RJ0, .code yJ0_checkIndex_df160 cJ0_checkIndex_df160 2 none, .fieldLink RJ0 1053 "jdk/internal/util/Preconditions" "SIOOBE_FORMATTER" "Ljava/util/function/BiFunction;", .methodLink RJ0 1059 yJ3_checkIndex_8e157, .static yJ3_checkIndex_8e157, .initialized RJ3, .code yJ3_checkIndex_8e157 cJ3_checkIndex_8e157 3 (some .int), .methodLink RJ2 71 yJ2_getChar_3b067, .static yJ2_getChar_3b067, .code yJ2_getChar_3b067 cJ2_getChar_3b067 2 (some .char), .fieldLink RJ2 44 "java/lang/StringUTF16" "$assertionsDisabled" "Z", .fieldLink RJ2 59 "java/lang/StringUTF16" "HI_BYTE_SHIFT" "I", .fieldLink RJ2 63 "java/lang/StringUTF16" "LO_BYTE_SHIFT" "I"])
def wsJ0_charAt_5068e_r1 : List Cond := [Cond.fieldLink RJ0 9 "java/lang/String" "value" "[B", Cond.methodLink RJ0 492 yJ0_isLatin1_aae02, Cond.instanceMethod yJ0_isLatin1_aae02, Cond.selects RJ0 yJ0_isLatin1_aae02 yJ0_isLatin1_aae02, Cond.initialized RJ0, Cond.code yJ0_isLatin1_aae02 cJ0_isLatin1_aae02 1 (some .boolean), Cond.fieldLink RJ0 38 "java/lang/String" "COMPACT_STRINGS" "Z", Cond.fieldLink RJ0 15 "java/lang/String" "coder" "B", Cond.methodLink RJ0 495 yJ1_charAt_3b067, Cond.static yJ1_charAt_3b067, Cond.initialized RJ1, Cond.code yJ1_charAt_3b067 cJ1_charAt_3b067 2 (some .char), Cond.methodLink RJ1 9 yJ0_checkIndex_df160, Cond.static yJ0_checkIndex_df160, Cond.code yJ0_checkIndex_df160 cJ0_checkIndex_df160 2 none, Cond.fieldLink RJ0 1053 "jdk/internal/util/Preconditions" "SIOOBE_FORMATTER" "Ljava/util/function/BiFunction;", Cond.methodLink RJ0 1059 yJ3_checkIndex_8e157, Cond.static yJ3_checkIndex_8e157, Cond.initialized RJ3, Cond.code yJ3_checkIndex_8e157 cJ3_checkIndex_8e157 3 (some .int), Cond.methodLink RJ0 498 yJ2_charAt_3b067, Cond.static yJ2_charAt_3b067, Cond.initialized RJ2, Cond.code yJ2_charAt_3b067 cJ2_charAt_3b067 2 (some .char)]
def wsJ0_charAt_5068e_r2 : List Cond := [Cond.methodLink RJ2 67 yJ2_checkIndex_2214a, Cond.static yJ2_checkIndex_2214a, Cond.code yJ2_checkIndex_2214a cJ2_checkIndex_2214a 2 none, Cond.methodLink RJ2 48 yJ2_length_9d52b, Cond.static yJ2_length_9d52b, Cond.code yJ2_length_9d52b cJ2_length_9d52b 1 (some .int), Cond.methodLink RJ2 414 yJ0_checkIndex_df160, Cond.methodLink RJ2 71 yJ2_getChar_3b067, Cond.static yJ2_getChar_3b067, Cond.code yJ2_getChar_3b067 cJ2_getChar_3b067 2 (some .char), Cond.fieldLink RJ2 44 "java/lang/StringUTF16" "$assertionsDisabled" "Z", Cond.fieldLink RJ2 59 "java/lang/StringUTF16" "HI_BYTE_SHIFT" "I", Cond.fieldLink RJ2 63 "java/lang/StringUTF16" "LO_BYTE_SHIFT" "I"]
def wsJ0_charAt_5068e : List Cond := .code yJ0_charAt_5068e cJ0_charAt_5068e 2 (some .char) :: ((wsJ0_charAt_5068e_r1 ++ wsJ0_charAt_5068e_r2))
def wsJ9_abs_0f7a4 : List Cond := .code yJ9_abs_0f7a4 cJ9_abs_0f7a4 1 (some .int) :: ([])
def wsJ9_max_7cf53 : List Cond := .code yJ9_max_7cf53 cJ9_max_7cf53 2 (some .int) :: ([])
def wsJ9_min_7cf53 : List Cond := .code yJ9_min_7cf53 cJ9_min_7cf53 2 (some .int) :: ([])
abbrev vwCl : List vw_C := [(RX0, TX0, 11), (RX1, TX1, 2), (RX2, TX2, 2), (RX3, TX3, 7), (RX4, TX4, 15), (RX5, TX5, 2), (RX6, TX6, 2), (RX7, TX7, 5), (RX8, TX8, 6), (RX9, TX9, 17)]
end
section
theorem dX0_init_0 : decode cX0_init 0 = .ok (.aload_n 0, 1) := by decide +kernel
theorem dX0_init_1 : decode cX0_init 1 = .ok (.invokespecial 3, 3) := by decide +kernel
theorem dX0_init_4 : decode cX0_init 4 = .ok (.aload_n 0, 1) := by decide +kernel
theorem dX0_init_5 : decode cX0_init 5 = .ok (.bipush 40, 2) := by decide +kernel
theorem dX0_init_7 : decode cX0_init 7 = .ok (.newarray .int, 2) := by decide +kernel
theorem dX0_init_9 : decode cX0_init 9 = .ok (.putfield 9, 3) := by decide +kernel
theorem dX0_init_12 : decode cX0_init 12 = .ok (.aload_n 0, 1) := by decide +kernel
theorem dX0_init_13 : decode cX0_init 13 = .ok (.bipush 40, 2) := by decide +kernel
theorem dX0_init_15 : decode cX0_init 15 = .ok (.newarray .int, 2) := by decide +kernel
theorem dX0_init_17 : decode cX0_init 17 = .ok (.putfield 15, 3) := by decide +kernel
theorem dX0_init_20 : decode cX0_init 20 = .ok (.aload_n 0, 1) := by decide +kernel
theorem dX0_init_21 : decode cX0_init 21 = .ok (.bipush 40, 2) := by decide +kernel
theorem dX0_init_23 : decode cX0_init 23 = .ok (.newarray .int, 2) := by decide +kernel
theorem dX0_init_25 : decode cX0_init 25 = .ok (.putfield 18, 3) := by decide +kernel
theorem dX0_init_28 : decode cX0_init 28 = .ok (.aload_n 0, 1) := by decide +kernel
theorem dX0_init_29 : decode cX0_init 29 = .ok (.bipush 40, 2) := by decide +kernel
theorem dX0_init_31 : decode cX0_init 31 = .ok (.newarray .long, 2) := by decide +kernel
theorem dX0_init_33 : decode cX0_init 33 = .ok (.putfield 21, 3) := by decide +kernel
theorem dX0_init_36 : decode cX0_init 36 = .ok (.aload_n 0, 1) := by decide +kernel
theorem dX0_init_37 : decode cX0_init 37 = .ok (.bipush 40, 2) := by decide +kernel
theorem dX0_init_39 : decode cX0_init 39 = .ok (.newarray .long, 2) := by decide +kernel
theorem dX0_init_41 : decode cX0_init 41 = .ok (.putfield 25, 3) := by decide +kernel
theorem dX0_init_44 : decode cX0_init 44 = .ok (.aload_n 0, 1) := by decide +kernel
theorem dX0_init_45 : decode cX0_init 45 = .ok (.iconst 3, 1) := by decide +kernel
theorem dX0_init_46 : decode cX0_init 46 = .ok (.newarray .int, 2) := by decide +kernel
theorem dX0_init_48 : decode cX0_init 48 = .ok (.putfield 28, 3) := by decide +kernel
theorem dX0_init_51 : decode cX0_init 51 = .ok (.aload_n 0, 1) := by decide +kernel
theorem dX0_init_52 : decode cX0_init 52 = .ok (.iconst 4, 1) := by decide +kernel
theorem dX0_init_53 : decode cX0_init 53 = .ok (.newarray .int, 2) := by decide +kernel
theorem dX0_init_55 : decode cX0_init 55 = .ok (.dup, 1) := by decide +kernel
theorem dX0_init_56 : decode cX0_init 56 = .ok (.iconst 0, 1) := by decide +kernel
theorem dX0_init_57 : decode cX0_init 57 = .ok (.iconst 4, 1) := by decide +kernel
theorem dX0_init_58 : decode cX0_init 58 = .ok (.iastore, 1) := by decide +kernel
theorem dX0_init_59 : decode cX0_init 59 = .ok (.dup, 1) := by decide +kernel
theorem dX0_init_60 : decode cX0_init 60 = .ok (.iconst 1, 1) := by decide +kernel
theorem dX0_init_61 : decode cX0_init 61 = .ok (.bipush 6, 2) := by decide +kernel
theorem dX0_init_63 : decode cX0_init 63 = .ok (.iastore, 1) := by decide +kernel
theorem dX0_init_64 : decode cX0_init 64 = .ok (.dup, 1) := by decide +kernel
theorem dX0_init_65 : decode cX0_init 65 = .ok (.iconst 2, 1) := by decide +kernel
theorem dX0_init_66 : decode cX0_init 66 = .ok (.iconst 4, 1) := by decide +kernel
theorem dX0_init_67 : decode cX0_init 67 = .ok (.iastore, 1) := by decide +kernel
theorem dX0_init_68 : decode cX0_init 68 = .ok (.dup, 1) := by decide +kernel
theorem dX0_init_69 : decode cX0_init 69 = .ok (.iconst 3, 1) := by decide +kernel
theorem dX0_init_70 : decode cX0_init 70 = .ok (.iconst 5, 1) := by decide +kernel
theorem dX0_init_71 : decode cX0_init 71 = .ok (.iastore, 1) := by decide +kernel
theorem dX0_init_72 : decode cX0_init 72 = .ok (.putfield 31, 3) := by decide +kernel
theorem dX0_init_75 : decode cX0_init 75 = .ok (.aload_n 0, 1) := by decide +kernel
theorem dX0_init_76 : decode cX0_init 76 = .ok (.bipush 6, 2) := by decide +kernel
theorem dX0_init_78 : decode cX0_init 78 = .ok (.newarray .int, 2) := by decide +kernel
theorem dX0_init_80 : decode cX0_init 80 = .ok (.putfield 34, 3) := by decide +kernel
theorem dX0_init_83 : decode cX0_init 83 = .ok (.aload_n 0, 1) := by decide +kernel
theorem dX0_init_84 : decode cX0_init 84 = .ok (.sipush 240, 3) := by decide +kernel
theorem dX0_init_87 : decode cX0_init 87 = .ok (.newarray .int, 2) := by decide +kernel
theorem dX0_init_89 : decode cX0_init 89 = .ok (.putfield 37, 3) := by decide +kernel
theorem dX0_init_92 : decode cX0_init 92 = .ok (.return_, 1) := by decide +kernel
theorem dX0_copyFrom_0 : decode cX0_copyFrom 0 = .ok (.aload_n 0, 1) := by decide +kernel
theorem dX0_copyFrom_1 : decode cX0_copyFrom 1 = .ok (.aload_n 1, 1) := by decide +kernel
theorem dX0_copyFrom_2 : decode cX0_copyFrom 2 = .ok (.getfield 40, 3) := by decide +kernel
theorem dX0_copyFrom_5 : decode cX0_copyFrom 5 = .ok (.putfield 40, 3) := by decide +kernel
theorem dX0_copyFrom_8 : decode cX0_copyFrom 8 = .ok (.aload_n 0, 1) := by decide +kernel
theorem dX0_copyFrom_9 : decode cX0_copyFrom 9 = .ok (.aload_n 1, 1) := by decide +kernel
theorem dX0_copyFrom_10 : decode cX0_copyFrom 10 = .ok (.getfield 44, 3) := by decide +kernel
theorem dX0_copyFrom_13 : decode cX0_copyFrom 13 = .ok (.putfield 44, 3) := by decide +kernel
theorem dX0_copyFrom_16 : decode cX0_copyFrom 16 = .ok (.aload_n 1, 1) := by decide +kernel
theorem dX0_copyFrom_17 : decode cX0_copyFrom 17 = .ok (.getfield 9, 3) := by decide +kernel
theorem dX0_copyFrom_20 : decode cX0_copyFrom 20 = .ok (.iconst 0, 1) := by decide +kernel
theorem dX0_copyFrom_21 : decode cX0_copyFrom 21 = .ok (.aload_n 0, 1) := by decide +kernel
theorem dX0_copyFrom_22 : decode cX0_copyFrom 22 = .ok (.getfield 9, 3) := by decide +kernel
theorem dX0_copyFrom_25 : decode cX0_copyFrom 25 = .ok (.iconst 0, 1) := by decide +kernel
theorem dX0_copyFrom_26 : decode cX0_copyFrom 26 = .ok (.bipush 40, 2) := by decide +kernel
theorem dX0_copyFrom_28 : decode cX0_copyFrom 28 = .ok (.invokestatic 47, 3) := by decide +kernel
theorem dX0_copyFrom_31 : decode cX0_copyFrom 31 = .ok (.aload_n 1, 1) := by decide +kernel
theorem dX0_copyFrom_32 : decode cX0_copyFrom 32 = .ok (.getfield 15, 3) := by decide +kernel
theorem dX0_copyFrom_35 : decode cX0_copyFrom 35 = .ok (.iconst 0, 1) := by decide +kernel
theorem dX0_copyFrom_36 : decode cX0_copyFrom 36 = .ok (.aload_n 0, 1) := by decide +kernel
theorem dX0_copyFrom_37 : decode cX0_copyFrom 37 = .ok (.getfield 15, 3) := by decide +kernel
theorem dX0_copyFrom_40 : decode cX0_copyFrom 40 = .ok (.iconst 0, 1) := by decide +kernel
theorem dX0_copyFrom_41 : decode cX0_copyFrom 41 = .ok (.bipush 40, 2) := by decide +kernel
theorem dX0_copyFrom_43 : decode cX0_copyFrom 43 = .ok (.invokestatic 47, 3) := by decide +kernel
theorem dX0_copyFrom_46 : decode cX0_copyFrom 46 = .ok (.aload_n 1, 1) := by decide +kernel
theorem dX0_copyFrom_47 : decode cX0_copyFrom 47 = .ok (.getfield 18, 3) := by decide +kernel
theorem dX0_copyFrom_50 : decode cX0_copyFrom 50 = .ok (.iconst 0, 1) := by decide +kernel
theorem dX0_copyFrom_51 : decode cX0_copyFrom 51 = .ok (.aload_n 0, 1) := by decide +kernel
theorem dX0_copyFrom_52 : decode cX0_copyFrom 52 = .ok (.getfield 18, 3) := by decide +kernel
theorem dX0_copyFrom_55 : decode cX0_copyFrom 55 = .ok (.iconst 0, 1) := by decide +kernel
theorem dX0_copyFrom_56 : decode cX0_copyFrom 56 = .ok (.bipush 40, 2) := by decide +kernel
theorem dX0_copyFrom_58 : decode cX0_copyFrom 58 = .ok (.invokestatic 47, 3) := by decide +kernel
theorem dX0_copyFrom_61 : decode cX0_copyFrom 61 = .ok (.aload_n 1, 1) := by decide +kernel
theorem dX0_copyFrom_62 : decode cX0_copyFrom 62 = .ok (.getfield 21, 3) := by decide +kernel
theorem dX0_copyFrom_65 : decode cX0_copyFrom 65 = .ok (.iconst 0, 1) := by decide +kernel
theorem dX0_copyFrom_66 : decode cX0_copyFrom 66 = .ok (.aload_n 0, 1) := by decide +kernel
theorem dX0_copyFrom_67 : decode cX0_copyFrom 67 = .ok (.getfield 21, 3) := by decide +kernel
theorem dX0_copyFrom_70 : decode cX0_copyFrom 70 = .ok (.iconst 0, 1) := by decide +kernel
theorem dX0_copyFrom_71 : decode cX0_copyFrom 71 = .ok (.bipush 40, 2) := by decide +kernel
theorem dX0_copyFrom_73 : decode cX0_copyFrom 73 = .ok (.invokestatic 47, 3) := by decide +kernel
theorem dX0_copyFrom_76 : decode cX0_copyFrom 76 = .ok (.aload_n 1, 1) := by decide +kernel
theorem dX0_copyFrom_77 : decode cX0_copyFrom 77 = .ok (.getfield 25, 3) := by decide +kernel
theorem dX0_copyFrom_80 : decode cX0_copyFrom 80 = .ok (.iconst 0, 1) := by decide +kernel
theorem dX0_copyFrom_81 : decode cX0_copyFrom 81 = .ok (.aload_n 0, 1) := by decide +kernel
theorem dX0_copyFrom_82 : decode cX0_copyFrom 82 = .ok (.getfield 25, 3) := by decide +kernel
theorem dX0_copyFrom_85 : decode cX0_copyFrom 85 = .ok (.iconst 0, 1) := by decide +kernel
theorem dX0_copyFrom_86 : decode cX0_copyFrom 86 = .ok (.bipush 40, 2) := by decide +kernel
theorem dX0_copyFrom_88 : decode cX0_copyFrom 88 = .ok (.invokestatic 47, 3) := by decide +kernel
theorem dX0_copyFrom_91 : decode cX0_copyFrom 91 = .ok (.aload_n 1, 1) := by decide +kernel
theorem dX0_copyFrom_92 : decode cX0_copyFrom 92 = .ok (.getfield 28, 3) := by decide +kernel
theorem dX0_copyFrom_95 : decode cX0_copyFrom 95 = .ok (.iconst 0, 1) := by decide +kernel
theorem dX0_copyFrom_96 : decode cX0_copyFrom 96 = .ok (.aload_n 0, 1) := by decide +kernel
theorem dX0_copyFrom_97 : decode cX0_copyFrom 97 = .ok (.getfield 28, 3) := by decide +kernel
theorem dX0_copyFrom_100 : decode cX0_copyFrom 100 = .ok (.iconst 0, 1) := by decide +kernel
theorem dX0_copyFrom_101 : decode cX0_copyFrom 101 = .ok (.iconst 3, 1) := by decide +kernel
theorem dX0_copyFrom_102 : decode cX0_copyFrom 102 = .ok (.invokestatic 47, 3) := by decide +kernel
theorem dX0_copyFrom_105 : decode cX0_copyFrom 105 = .ok (.aload_n 1, 1) := by decide +kernel
theorem dX0_copyFrom_106 : decode cX0_copyFrom 106 = .ok (.getfield 31, 3) := by decide +kernel
theorem dX0_copyFrom_109 : decode cX0_copyFrom 109 = .ok (.iconst 0, 1) := by decide +kernel
theorem dX0_copyFrom_110 : decode cX0_copyFrom 110 = .ok (.aload_n 0, 1) := by decide +kernel
theorem dX0_copyFrom_111 : decode cX0_copyFrom 111 = .ok (.getfield 31, 3) := by decide +kernel
theorem dX0_copyFrom_114 : decode cX0_copyFrom 114 = .ok (.iconst 0, 1) := by decide +kernel
theorem dX0_copyFrom_115 : decode cX0_copyFrom 115 = .ok (.iconst 4, 1) := by decide +kernel
theorem dX0_copyFrom_116 : decode cX0_copyFrom 116 = .ok (.invokestatic 47, 3) := by decide +kernel
theorem dX0_copyFrom_119 : decode cX0_copyFrom 119 = .ok (.aload_n 1, 1) := by decide +kernel
theorem dX0_copyFrom_120 : decode cX0_copyFrom 120 = .ok (.getfield 34, 3) := by decide +kernel
theorem dX0_copyFrom_123 : decode cX0_copyFrom 123 = .ok (.iconst 0, 1) := by decide +kernel
theorem dX0_copyFrom_124 : decode cX0_copyFrom 124 = .ok (.aload_n 0, 1) := by decide +kernel
theorem dX0_copyFrom_125 : decode cX0_copyFrom 125 = .ok (.getfield 34, 3) := by decide +kernel
theorem dX0_copyFrom_128 : decode cX0_copyFrom 128 = .ok (.iconst 0, 1) := by decide +kernel
theorem dX0_copyFrom_129 : decode cX0_copyFrom 129 = .ok (.bipush 6, 2) := by decide +kernel
theorem dX0_copyFrom_131 : decode cX0_copyFrom 131 = .ok (.invokestatic 47, 3) := by decide +kernel
theorem dX0_copyFrom_134 : decode cX0_copyFrom 134 = .ok (.aload_n 1, 1) := by decide +kernel
theorem dX0_copyFrom_135 : decode cX0_copyFrom 135 = .ok (.getfield 37, 3) := by decide +kernel
theorem dX0_copyFrom_138 : decode cX0_copyFrom 138 = .ok (.iconst 0, 1) := by decide +kernel
theorem dX0_copyFrom_139 : decode cX0_copyFrom 139 = .ok (.aload_n 0, 1) := by decide +kernel
theorem dX0_copyFrom_140 : decode cX0_copyFrom 140 = .ok (.getfield 37, 3) := by decide +kernel
theorem dX0_copyFrom_143 : decode cX0_copyFrom 143 = .ok (.iconst 0, 1) := by decide +kernel
theorem dX0_copyFrom_144 : decode cX0_copyFrom 144 = .ok (.sipush 240, 3) := by decide +kernel
theorem dX0_copyFrom_147 : decode cX0_copyFrom 147 = .ok (.invokestatic 47, 3) := by decide +kernel
theorem dX0_copyFrom_150 : decode cX0_copyFrom 150 = .ok (.return_, 1) := by decide +kernel
theorem dX0_hasCard_0 : decode cX0_hasCard 0 = .ok (.iload_n 1, 1) := by decide +kernel
theorem dX0_hasCard_1 : decode cX0_hasCard 1 = .ok (.ifCond .lt 15, 3) := by decide +kernel
theorem dX0_hasCard_4 : decode cX0_hasCard 4 = .ok (.iload_n 1, 1) := by decide +kernel
theorem dX0_hasCard_5 : decode cX0_hasCard 5 = .ok (.aload_n 0, 1) := by decide +kernel
theorem dX0_hasCard_6 : decode cX0_hasCard 6 = .ok (.getfield 40, 3) := by decide +kernel
theorem dX0_hasCard_9 : decode cX0_hasCard 9 = .ok (.if_icmp .ge 7, 3) := by decide +kernel
theorem dX0_hasCard_12 : decode cX0_hasCard 12 = .ok (.iconst 1, 1) := by decide +kernel
theorem dX0_hasCard_13 : decode cX0_hasCard 13 = .ok (.goto 4, 3) := by decide +kernel
theorem dX0_hasCard_16 : decode cX0_hasCard 16 = .ok (.iconst 0, 1) := by decide +kernel
theorem dX0_hasCard_17 : decode cX0_hasCard 17 = .ok (.ireturn, 1) := by decide +kernel
theorem dX0_hasVersion_0 : decode cX0_hasVersion 0 = .ok (.iload_n 1, 1) := by decide +kernel
theorem dX0_hasVersion_1 : decode cX0_hasVersion 1 = .ok (.ifCond .lt 15, 3) := by decide +kernel
theorem dX0_hasVersion_4 : decode cX0_hasVersion 4 = .ok (.iload_n 1, 1) := by decide +kernel
theorem dX0_hasVersion_5 : decode cX0_hasVersion 5 = .ok (.aload_n 0, 1) := by decide +kernel
theorem dX0_hasVersion_6 : decode cX0_hasVersion 6 = .ok (.getfield 44, 3) := by decide +kernel
theorem dX0_hasVersion_9 : decode cX0_hasVersion 9 = .ok (.if_icmp .ge 7, 3) := by decide +kernel
theorem dX0_hasVersion_12 : decode cX0_hasVersion 12 = .ok (.iconst 1, 1) := by decide +kernel
theorem dX0_hasVersion_13 : decode cX0_hasVersion 13 = .ok (.goto 4, 3) := by decide +kernel
theorem dX0_hasVersion_16 : decode cX0_hasVersion 16 = .ok (.iconst 0, 1) := by decide +kernel
theorem dX0_hasVersion_17 : decode cX0_hasVersion 17 = .ok (.ireturn, 1) := by decide +kernel
theorem dX0_cardsInStage_0 : decode cX0_cardsInStage 0 = .ok (.iconst 0, 1) := by decide +kernel
theorem dX0_cardsInStage_1 : decode cX0_cardsInStage 1 = .ok (.istore_n 2, 1) := by decide +kernel
theorem dX0_cardsInStage_2 : decode cX0_cardsInStage 2 = .ok (.iconst 0, 1) := by decide +kernel
theorem dX0_cardsInStage_3 : decode cX0_cardsInStage 3 = .ok (.istore_n 3, 1) := by decide +kernel
theorem dX0_cardsInStage_4 : decode cX0_cardsInStage 4 = .ok (.iload_n 3, 1) := by decide +kernel
theorem dX0_cardsInStage_5 : decode cX0_cardsInStage 5 = .ok (.aload_n 0, 1) := by decide +kernel
theorem dX0_cardsInStage_6 : decode cX0_cardsInStage 6 = .ok (.getfield 40, 3) := by decide +kernel
theorem dX0_cardsInStage_9 : decode cX0_cardsInStage 9 = .ok (.if_icmp .ge 22, 3) := by decide +kernel
theorem dX0_cardsInStage_12 : decode cX0_cardsInStage 12 = .ok (.aload_n 0, 1) := by decide +kernel
theorem dX0_cardsInStage_13 : decode cX0_cardsInStage 13 = .ok (.getfield 18, 3) := by decide +kernel
theorem dX0_cardsInStage_16 : decode cX0_cardsInStage 16 = .ok (.iload_n 3, 1) := by decide +kernel
theorem dX0_cardsInStage_17 : decode cX0_cardsInStage 17 = .ok (.iaload, 1) := by decide +kernel
theorem dX0_cardsInStage_18 : decode cX0_cardsInStage 18 = .ok (.iload_n 1, 1) := by decide +kernel
theorem dX0_cardsInStage_19 : decode cX0_cardsInStage 19 = .ok (.if_icmp .ne 6, 3) := by decide +kernel
theorem dX0_cardsInStage_22 : decode cX0_cardsInStage 22 = .ok (.iinc 2 1, 3) := by decide +kernel
theorem dX0_cardsInStage_25 : decode cX0_cardsInStage 25 = .ok (.iinc 3 1, 3) := by decide +kernel
theorem dX0_cardsInStage_28 : decode cX0_cardsInStage 28 = .ok (.goto (-24), 3) := by decide +kernel
theorem dX0_cardsInStage_31 : decode cX0_cardsInStage 31 = .ok (.iload_n 2, 1) := by decide +kernel
theorem dX0_cardsInStage_32 : decode cX0_cardsInStage 32 = .ok (.ireturn, 1) := by decide +kernel
theorem dX0_cardsOf_0 : decode cX0_cardsOf 0 = .ok (.iconst 0, 1) := by decide +kernel
theorem dX0_cardsOf_1 : decode cX0_cardsOf 1 = .ok (.istore_n 3, 1) := by decide +kernel
theorem dX0_cardsOf_2 : decode cX0_cardsOf 2 = .ok (.iconst 0, 1) := by decide +kernel
theorem dX0_cardsOf_3 : decode cX0_cardsOf 3 = .ok (.istore 4, 2) := by decide +kernel
theorem dX0_cardsOf_5 : decode cX0_cardsOf 5 = .ok (.iload 4, 2) := by decide +kernel
theorem dX0_cardsOf_7 : decode cX0_cardsOf 7 = .ok (.iload_n 2, 1) := by decide +kernel
theorem dX0_cardsOf_8 : decode cX0_cardsOf 8 = .ok (.if_icmp .ge 32, 3) := by decide +kernel
theorem dX0_cardsOf_11 : decode cX0_cardsOf 11 = .ok (.iload 4, 2) := by decide +kernel
theorem dX0_cardsOf_13 : decode cX0_cardsOf 13 = .ok (.aload_n 0, 1) := by decide +kernel
theorem dX0_cardsOf_14 : decode cX0_cardsOf 14 = .ok (.getfield 40, 3) := by decide +kernel
theorem dX0_cardsOf_17 : decode cX0_cardsOf 17 = .ok (.if_icmp .ge 23, 3) := by decide +kernel
theorem dX0_cardsOf_20 : decode cX0_cardsOf 20 = .ok (.aload_n 0, 1) := by decide +kernel
theorem dX0_cardsOf_21 : decode cX0_cardsOf 21 = .ok (.getfield 9, 3) := by decide +kernel
theorem dX0_cardsOf_24 : decode cX0_cardsOf 24 = .ok (.iload 4, 2) := by decide +kernel
theorem dX0_cardsOf_26 : decode cX0_cardsOf 26 = .ok (.iaload, 1) := by decide +kernel
theorem dX0_cardsOf_27 : decode cX0_cardsOf 27 = .ok (.iload_n 1, 1) := by decide +kernel
theorem dX0_cardsOf_28 : decode cX0_cardsOf 28 = .ok (.if_icmp .ne 6, 3) := by decide +kernel
theorem dX0_cardsOf_31 : decode cX0_cardsOf 31 = .ok (.iinc 3 1, 3) := by decide +kernel
theorem dX0_cardsOf_34 : decode cX0_cardsOf 34 = .ok (.iinc 4 1, 3) := by decide +kernel
theorem dX0_cardsOf_37 : decode cX0_cardsOf 37 = .ok (.goto (-32), 3) := by decide +kernel
theorem dX0_cardsOf_40 : decode cX0_cardsOf 40 = .ok (.iload_n 3, 1) := by decide +kernel
theorem dX0_cardsOf_41 : decode cX0_cardsOf 41 = .ok (.ireturn, 1) := by decide +kernel
theorem dX0_cardsIn_0 : decode cX0_cardsIn 0 = .ok (.aload_n 0, 1) := by decide +kernel
theorem dX0_cardsIn_1 : decode cX0_cardsIn 1 = .ok (.iload_n 1, 1) := by decide +kernel
theorem dX0_cardsIn_2 : decode cX0_cardsIn 2 = .ok (.invokevirtual 53, 3) := by decide +kernel
theorem dX0_cardsIn_5 : decode cX0_cardsIn 5 = .ok (.ifCond .eq 12, 3) := by decide +kernel
theorem dX0_cardsIn_8 : decode cX0_cardsIn 8 = .ok (.aload_n 0, 1) := by decide +kernel
theorem dX0_cardsIn_9 : decode cX0_cardsIn 9 = .ok (.getfield 34, 3) := by decide +kernel
theorem dX0_cardsIn_12 : decode cX0_cardsIn 12 = .ok (.iload_n 1, 1) := by decide +kernel
theorem dX0_cardsIn_13 : decode cX0_cardsIn 13 = .ok (.iaload, 1) := by decide +kernel
theorem dX0_cardsIn_14 : decode cX0_cardsIn 14 = .ok (.goto 7, 3) := by decide +kernel
theorem dX0_cardsIn_17 : decode cX0_cardsIn 17 = .ok (.aload_n 0, 1) := by decide +kernel
theorem dX0_cardsIn_18 : decode cX0_cardsIn 18 = .ok (.getfield 40, 3) := by decide +kernel
theorem dX0_cardsIn_21 : decode cX0_cardsIn 21 = .ok (.ireturn, 1) := by decide +kernel
theorem dX0_outcomesIn_0 : decode cX0_outcomesIn 0 = .ok (.aload_n 0, 1) := by decide +kernel
theorem dX0_outcomesIn_1 : decode cX0_outcomesIn 1 = .ok (.iload_n 1, 1) := by decide +kernel
theorem dX0_outcomesIn_2 : decode cX0_outcomesIn 2 = .ok (.invokevirtual 53, 3) := by decide +kernel
theorem dX0_outcomesIn_5 : decode cX0_outcomesIn 5 = .ok (.ifCond .eq 25, 3) := by decide +kernel
theorem dX0_outcomesIn_8 : decode cX0_outcomesIn 8 = .ok (.aload_n 0, 1) := by decide +kernel
theorem dX0_outcomesIn_9 : decode cX0_outcomesIn 9 = .ok (.iload_n 2, 1) := by decide +kernel
theorem dX0_outcomesIn_10 : decode cX0_outcomesIn 10 = .ok (.invokevirtual 57, 3) := by decide +kernel
theorem dX0_outcomesIn_13 : decode cX0_outcomesIn 13 = .ok (.ifCond .eq 17, 3) := by decide +kernel
theorem dX0_outcomesIn_16 : decode cX0_outcomesIn 16 = .ok (.aload_n 0, 1) := by decide +kernel
theorem dX0_outcomesIn_17 : decode cX0_outcomesIn 17 = .ok (.getfield 37, 3) := by decide +kernel
theorem dX0_outcomesIn_20 : decode cX0_outcomesIn 20 = .ok (.iload_n 1, 1) := by decide +kernel
theorem dX0_outcomesIn_21 : decode cX0_outcomesIn 21 = .ok (.bipush 40, 2) := by decide +kernel
theorem dX0_outcomesIn_23 : decode cX0_outcomesIn 23 = .ok (.imul, 1) := by decide +kernel
theorem dX0_outcomesIn_24 : decode cX0_outcomesIn 24 = .ok (.iload_n 2, 1) := by decide +kernel
theorem dX0_outcomesIn_25 : decode cX0_outcomesIn 25 = .ok (.iadd, 1) := by decide +kernel
theorem dX0_outcomesIn_26 : decode cX0_outcomesIn 26 = .ok (.iaload, 1) := by decide +kernel
theorem dX0_outcomesIn_27 : decode cX0_outcomesIn 27 = .ok (.goto 4, 3) := by decide +kernel
theorem dX0_outcomesIn_30 : decode cX0_outcomesIn 30 = .ok (.iconst 0, 1) := by decide +kernel
theorem dX0_outcomesIn_31 : decode cX0_outcomesIn 31 = .ok (.ireturn, 1) := by decide +kernel
theorem dX0_keepVersion_0 : decode cX0_keepVersion 0 = .ok (.aload_n 0, 1) := by decide +kernel
theorem dX0_keepVersion_1 : decode cX0_keepVersion 1 = .ok (.getfield 44, 3) := by decide +kernel
theorem dX0_keepVersion_4 : decode cX0_keepVersion 4 = .ok (.bipush 6, 2) := by decide +kernel
theorem dX0_keepVersion_6 : decode cX0_keepVersion 6 = .ok (.if_icmp .ge 12, 3) := by decide +kernel
theorem dX0_keepVersion_9 : decode cX0_keepVersion 9 = .ok (.aload_n 1, 1) := by decide +kernel
theorem dX0_keepVersion_10 : decode cX0_keepVersion 10 = .ok (.arraylength, 1) := by decide +kernel
theorem dX0_keepVersion_11 : decode cX0_keepVersion 11 = .ok (.aload_n 0, 1) := by decide +kernel
theorem dX0_keepVersion_12 : decode cX0_keepVersion 12 = .ok (.getfield 40, 3) := by decide +kernel
theorem dX0_keepVersion_15 : decode cX0_keepVersion 15 = .ok (.if_icmp .ge 4, 3) := by decide +kernel
theorem dX0_keepVersion_18 : decode cX0_keepVersion 18 = .ok (.return_, 1) := by decide +kernel
theorem dX0_keepVersion_19 : decode cX0_keepVersion 19 = .ok (.aload_n 1, 1) := by decide +kernel
theorem dX0_keepVersion_20 : decode cX0_keepVersion 20 = .ok (.iconst 0, 1) := by decide +kernel
theorem dX0_keepVersion_21 : decode cX0_keepVersion 21 = .ok (.aload_n 0, 1) := by decide +kernel
theorem dX0_keepVersion_22 : decode cX0_keepVersion 22 = .ok (.getfield 37, 3) := by decide +kernel
theorem dX0_keepVersion_25 : decode cX0_keepVersion 25 = .ok (.aload_n 0, 1) := by decide +kernel
theorem dX0_keepVersion_26 : decode cX0_keepVersion 26 = .ok (.getfield 44, 3) := by decide +kernel
theorem dX0_keepVersion_29 : decode cX0_keepVersion 29 = .ok (.bipush 40, 2) := by decide +kernel
theorem dX0_keepVersion_31 : decode cX0_keepVersion 31 = .ok (.imul, 1) := by decide +kernel
theorem dX0_keepVersion_32 : decode cX0_keepVersion 32 = .ok (.aload_n 0, 1) := by decide +kernel
theorem dX0_keepVersion_33 : decode cX0_keepVersion 33 = .ok (.getfield 40, 3) := by decide +kernel
theorem dX0_keepVersion_36 : decode cX0_keepVersion 36 = .ok (.invokestatic 47, 3) := by decide +kernel
theorem dX0_keepVersion_39 : decode cX0_keepVersion 39 = .ok (.aload_n 0, 1) := by decide +kernel
theorem dX0_keepVersion_40 : decode cX0_keepVersion 40 = .ok (.getfield 34, 3) := by decide +kernel
theorem dX0_keepVersion_43 : decode cX0_keepVersion 43 = .ok (.aload_n 0, 1) := by decide +kernel
theorem dX0_keepVersion_44 : decode cX0_keepVersion 44 = .ok (.getfield 44, 3) := by decide +kernel
theorem dX0_keepVersion_47 : decode cX0_keepVersion 47 = .ok (.aload_n 0, 1) := by decide +kernel
theorem dX0_keepVersion_48 : decode cX0_keepVersion 48 = .ok (.getfield 40, 3) := by decide +kernel
theorem dX0_keepVersion_51 : decode cX0_keepVersion 51 = .ok (.iastore, 1) := by decide +kernel
theorem dX0_keepVersion_52 : decode cX0_keepVersion 52 = .ok (.aload_n 0, 1) := by decide +kernel
theorem dX0_keepVersion_53 : decode cX0_keepVersion 53 = .ok (.dup, 1) := by decide +kernel
theorem dX0_keepVersion_54 : decode cX0_keepVersion 54 = .ok (.getfield 44, 3) := by decide +kernel
theorem dX0_keepVersion_57 : decode cX0_keepVersion 57 = .ok (.iconst 1, 1) := by decide +kernel
theorem dX0_keepVersion_58 : decode cX0_keepVersion 58 = .ok (.iadd, 1) := by decide +kernel
theorem dX0_keepVersion_59 : decode cX0_keepVersion 59 = .ok (.putfield 44, 3) := by decide +kernel
theorem dX0_keepVersion_62 : decode cX0_keepVersion 62 = .ok (.return_, 1) := by decide +kernel
theorem dX0_changesIn_0 : decode cX0_changesIn 0 = .ok (.iload_n 1, 1) := by decide +kernel
theorem dX0_changesIn_1 : decode cX0_changesIn 1 = .ok (.iconst 1, 1) := by decide +kernel
theorem dX0_changesIn_2 : decode cX0_changesIn 2 = .ok (.if_icmp .lt 14, 3) := by decide +kernel
theorem dX0_changesIn_5 : decode cX0_changesIn 5 = .ok (.iload_n 2, 1) := by decide +kernel
theorem dX0_changesIn_6 : decode cX0_changesIn 6 = .ok (.aload_n 0, 1) := by decide +kernel
theorem dX0_changesIn_7 : decode cX0_changesIn 7 = .ok (.iload_n 1, 1) := by decide +kernel
theorem dX0_changesIn_8 : decode cX0_changesIn 8 = .ok (.iconst 1, 1) := by decide +kernel
theorem dX0_changesIn_9 : decode cX0_changesIn 9 = .ok (.isub, 1) := by decide +kernel
theorem dX0_changesIn_10 : decode cX0_changesIn 10 = .ok (.invokevirtual 60, 3) := by decide +kernel
theorem dX0_changesIn_13 : decode cX0_changesIn 13 = .ok (.if_icmp .lt 5, 3) := by decide +kernel
theorem dX0_changesIn_16 : decode cX0_changesIn 16 = .ok (.iconst 0, 1) := by decide +kernel
theorem dX0_changesIn_17 : decode cX0_changesIn 17 = .ok (.ireturn, 1) := by decide +kernel
theorem dX0_changesIn_18 : decode cX0_changesIn 18 = .ok (.aload_n 0, 1) := by decide +kernel
theorem dX0_changesIn_19 : decode cX0_changesIn 19 = .ok (.iload_n 1, 1) := by decide +kernel
theorem dX0_changesIn_20 : decode cX0_changesIn 20 = .ok (.iconst 1, 1) := by decide +kernel
theorem dX0_changesIn_21 : decode cX0_changesIn 21 = .ok (.isub, 1) := by decide +kernel
theorem dX0_changesIn_22 : decode cX0_changesIn 22 = .ok (.iload_n 2, 1) := by decide +kernel
theorem dX0_changesIn_23 : decode cX0_changesIn 23 = .ok (.invokevirtual 64, 3) := by decide +kernel
theorem dX0_changesIn_26 : decode cX0_changesIn 26 = .ok (.aload_n 0, 1) := by decide +kernel
theorem dX0_changesIn_27 : decode cX0_changesIn 27 = .ok (.iload_n 1, 1) := by decide +kernel
theorem dX0_changesIn_28 : decode cX0_changesIn 28 = .ok (.iload_n 2, 1) := by decide +kernel
theorem dX0_changesIn_29 : decode cX0_changesIn 29 = .ok (.invokevirtual 64, 3) := by decide +kernel
theorem dX0_changesIn_32 : decode cX0_changesIn 32 = .ok (.invokestatic 68, 3) := by decide +kernel
theorem dX0_changesIn_35 : decode cX0_changesIn 35 = .ok (.ireturn, 1) := by decide +kernel
theorem dX0_changedCard_0 : decode cX0_changedCard 0 = .ok (.iconst 0, 1) := by decide +kernel
theorem dX0_changedCard_1 : decode cX0_changedCard 1 = .ok (.istore_n 3, 1) := by decide +kernel
theorem dX0_changedCard_2 : decode cX0_changedCard 2 = .ok (.iconst 0, 1) := by decide +kernel
theorem dX0_changedCard_3 : decode cX0_changedCard 3 = .ok (.istore 4, 2) := by decide +kernel
theorem dX0_changedCard_5 : decode cX0_changedCard 5 = .ok (.iload 4, 2) := by decide +kernel
theorem dX0_changedCard_7 : decode cX0_changedCard 7 = .ok (.aload_n 0, 1) := by decide +kernel
theorem dX0_changedCard_8 : decode cX0_changedCard 8 = .ok (.getfield 40, 3) := by decide +kernel
theorem dX0_changedCard_11 : decode cX0_changedCard 11 = .ok (.if_icmp .ge 33, 3) := by decide +kernel
theorem dX0_changedCard_14 : decode cX0_changedCard 14 = .ok (.aload_n 0, 1) := by decide +kernel
theorem dX0_changedCard_15 : decode cX0_changedCard 15 = .ok (.iload_n 1, 1) := by decide +kernel
theorem dX0_changedCard_16 : decode cX0_changedCard 16 = .ok (.iload 4, 2) := by decide +kernel
theorem dX0_changedCard_18 : decode cX0_changedCard 18 = .ok (.invokevirtual 71, 3) := by decide +kernel
theorem dX0_changedCard_21 : decode cX0_changedCard 21 = .ok (.ifCond .ne 6, 3) := by decide +kernel
theorem dX0_changedCard_24 : decode cX0_changedCard 24 = .ok (.goto 14, 3) := by decide +kernel
theorem dX0_changedCard_27 : decode cX0_changedCard 27 = .ok (.iload_n 3, 1) := by decide +kernel
theorem dX0_changedCard_28 : decode cX0_changedCard 28 = .ok (.iload_n 2, 1) := by decide +kernel
theorem dX0_changedCard_29 : decode cX0_changedCard 29 = .ok (.if_icmp .ne 6, 3) := by decide +kernel
theorem dX0_changedCard_32 : decode cX0_changedCard 32 = .ok (.iload 4, 2) := by decide +kernel
theorem dX0_changedCard_34 : decode cX0_changedCard 34 = .ok (.ireturn, 1) := by decide +kernel
theorem dX0_changedCard_35 : decode cX0_changedCard 35 = .ok (.iinc 3 1, 3) := by decide +kernel
theorem dX0_changedCard_38 : decode cX0_changedCard 38 = .ok (.iinc 4 1, 3) := by decide +kernel
theorem dX0_changedCard_41 : decode cX0_changedCard 41 = .ok (.goto (-36), 3) := by decide +kernel
theorem dX0_changedCard_44 : decode cX0_changedCard 44 = .ok (.bipush (-9), 2) := by decide +kernel
theorem dX0_changedCard_46 : decode cX0_changedCard 46 = .ok (.ireturn, 1) := by decide +kernel
theorem dX1_init_0 : decode cX1_init 0 = .ok (.aload_n 0, 1) := by decide +kernel
theorem dX1_init_1 : decode cX1_init 1 = .ok (.invokespecial 3, 3) := by decide +kernel
theorem dX1_init_4 : decode cX1_init 4 = .ok (.aload_n 0, 1) := by decide +kernel
theorem dX1_init_5 : decode cX1_init 5 = .ok (.new 9, 3) := by decide +kernel
theorem dX1_init_8 : decode cX1_init 8 = .ok (.dup, 1) := by decide +kernel
theorem dX1_init_9 : decode cX1_init 9 = .ok (.invokespecial 11, 3) := by decide +kernel
theorem dX1_init_12 : decode cX1_init 12 = .ok (.putfield 12, 3) := by decide +kernel
theorem dX1_init_15 : decode cX1_init 15 = .ok (.aload_n 0, 1) := by decide +kernel
theorem dX1_init_16 : decode cX1_init 16 = .ok (.aload_n 0, 1) := by decide +kernel
theorem dX1_init_17 : decode cX1_init 17 = .ok (.getfield 12, 3) := by decide +kernel
theorem dX1_init_20 : decode cX1_init 20 = .ok (.getfield 18, 3) := by decide +kernel
theorem dX1_init_23 : decode cX1_init 23 = .ok (.putfield 22, 3) := by decide +kernel
theorem dX1_init_26 : decode cX1_init 26 = .ok (.return_, 1) := by decide +kernel
theorem dX1_obey_0 : decode cX1_obey 0 = .ok (.iload_n 1, 1) := by decide +kernel
theorem dX1_obey_1 : decode cX1_obey 1 = .ok (.tableswitch 66 0 3 #[31, 40, 47, 57], 31) := by decide +kernel
theorem dX1_obey_32 : decode cX1_obey 32 = .ok (.aload_n 0, 1) := by decide +kernel
theorem dX1_obey_33 : decode cX1_obey 33 = .ok (.lload_n 2, 1) := by decide +kernel
theorem dX1_obey_34 : decode cX1_obey 34 = .ok (.l2i, 1) := by decide +kernel
theorem dX1_obey_35 : decode cX1_obey 35 = .ok (.lload 4, 2) := by decide +kernel
theorem dX1_obey_37 : decode cX1_obey 37 = .ok (.invokevirtual 23, 3) := by decide +kernel
theorem dX1_obey_40 : decode cX1_obey 40 = .ok (.ireturn, 1) := by decide +kernel
theorem dX1_obey_41 : decode cX1_obey 41 = .ok (.aload_n 0, 1) := by decide +kernel
theorem dX1_obey_42 : decode cX1_obey 42 = .ok (.lload_n 2, 1) := by decide +kernel
theorem dX1_obey_43 : decode cX1_obey 43 = .ok (.l2i, 1) := by decide +kernel
theorem dX1_obey_44 : decode cX1_obey 44 = .ok (.invokevirtual 27, 3) := by decide +kernel
theorem dX1_obey_47 : decode cX1_obey 47 = .ok (.ireturn, 1) := by decide +kernel
theorem dX1_obey_48 : decode cX1_obey 48 = .ok (.aload_n 0, 1) := by decide +kernel
theorem dX1_obey_49 : decode cX1_obey 49 = .ok (.lload_n 2, 1) := by decide +kernel
theorem dX1_obey_50 : decode cX1_obey 50 = .ok (.l2i, 1) := by decide +kernel
theorem dX1_obey_51 : decode cX1_obey 51 = .ok (.lload 4, 2) := by decide +kernel
theorem dX1_obey_53 : decode cX1_obey 53 = .ok (.l2i, 1) := by decide +kernel
theorem dX1_obey_54 : decode cX1_obey 54 = .ok (.invokevirtual 31, 3) := by decide +kernel
theorem dX1_obey_57 : decode cX1_obey 57 = .ok (.ireturn, 1) := by decide +kernel
theorem dX1_obey_58 : decode cX1_obey 58 = .ok (.aload_n 0, 1) := by decide +kernel
theorem dX1_obey_59 : decode cX1_obey 59 = .ok (.lload_n 2, 1) := by decide +kernel
theorem dX1_obey_60 : decode cX1_obey 60 = .ok (.l2i, 1) := by decide +kernel
theorem dX1_obey_61 : decode cX1_obey 61 = .ok (.lload 4, 2) := by decide +kernel
theorem dX1_obey_63 : decode cX1_obey 63 = .ok (.invokevirtual 35, 3) := by decide +kernel
theorem dX1_obey_66 : decode cX1_obey 66 = .ok (.ireturn, 1) := by decide +kernel
theorem dX1_obey_67 : decode cX1_obey 67 = .ok (.aload_n 0, 1) := by decide +kernel
theorem dX1_obey_68 : decode cX1_obey 68 = .ok (.invokevirtual 38, 3) := by decide +kernel
theorem dX1_obey_71 : decode cX1_obey 71 = .ok (.ireturn, 1) := by decide +kernel
theorem dX1_addCard_0 : decode cX1_addCard 0 = .ok (.iload_n 1, 1) := by decide +kernel
theorem dX1_addCard_1 : decode cX1_addCard 1 = .ok (.iconst 0, 1) := by decide +kernel
theorem dX1_addCard_2 : decode cX1_addCard 2 = .ok (.iconst 2, 1) := by decide +kernel
theorem dX1_addCard_3 : decode cX1_addCard 3 = .ok (.invokestatic 42, 3) := by decide +kernel
theorem dX1_addCard_6 : decode cX1_addCard 6 = .ok (.ifCond .eq 10, 3) := by decide +kernel
theorem dX1_addCard_9 : decode cX1_addCard 9 = .ok (.lload_n 2, 1) := by decide +kernel
theorem dX1_addCard_10 : decode cX1_addCard 10 = .ok (.invokestatic 46, 3) := by decide +kernel
theorem dX1_addCard_13 : decode cX1_addCard 13 = .ok (.ifCond .ne 5, 3) := by decide +kernel
theorem dX1_addCard_16 : decode cX1_addCard 16 = .ok (.iconst (-1), 1) := by decide +kernel
theorem dX1_addCard_17 : decode cX1_addCard 17 = .ok (.ireturn, 1) := by decide +kernel
theorem dX1_addCard_18 : decode cX1_addCard 18 = .ok (.aload_n 0, 1) := by decide +kernel
theorem dX1_addCard_19 : decode cX1_addCard 19 = .ok (.getfield 22, 3) := by decide +kernel
theorem dX1_addCard_22 : decode cX1_addCard 22 = .ok (.getfield 50, 3) := by decide +kernel
theorem dX1_addCard_25 : decode cX1_addCard 25 = .ok (.istore 4, 2) := by decide +kernel
theorem dX1_addCard_27 : decode cX1_addCard 27 = .ok (.iload 4, 2) := by decide +kernel
theorem dX1_addCard_29 : decode cX1_addCard 29 = .ok (.bipush 40, 2) := by decide +kernel
theorem dX1_addCard_31 : decode cX1_addCard 31 = .ok (.if_icmp .lt 6, 3) := by decide +kernel
theorem dX1_addCard_34 : decode cX1_addCard 34 = .ok (.bipush (-3), 2) := by decide +kernel
theorem dX1_addCard_36 : decode cX1_addCard 36 = .ok (.ireturn, 1) := by decide +kernel
theorem dX1_addCard_37 : decode cX1_addCard 37 = .ok (.aload_n 0, 1) := by decide +kernel
theorem dX1_addCard_38 : decode cX1_addCard 38 = .ok (.getfield 22, 3) := by decide +kernel
theorem dX1_addCard_41 : decode cX1_addCard 41 = .ok (.getfield 56, 3) := by decide +kernel
theorem dX1_addCard_44 : decode cX1_addCard 44 = .ok (.iload 4, 2) := by decide +kernel
theorem dX1_addCard_46 : decode cX1_addCard 46 = .ok (.iload_n 1, 1) := by decide +kernel
theorem dX1_addCard_47 : decode cX1_addCard 47 = .ok (.iastore, 1) := by decide +kernel
theorem dX1_addCard_48 : decode cX1_addCard 48 = .ok (.aload_n 0, 1) := by decide +kernel
theorem dX1_addCard_49 : decode cX1_addCard 49 = .ok (.getfield 22, 3) := by decide +kernel
theorem dX1_addCard_52 : decode cX1_addCard 52 = .ok (.getfield 60, 3) := by decide +kernel
theorem dX1_addCard_55 : decode cX1_addCard 55 = .ok (.iload 4, 2) := by decide +kernel
theorem dX1_addCard_57 : decode cX1_addCard 57 = .ok (.lload_n 2, 1) := by decide +kernel
theorem dX1_addCard_58 : decode cX1_addCard 58 = .ok (.lastore, 1) := by decide +kernel
theorem dX1_addCard_59 : decode cX1_addCard 59 = .ok (.aload_n 0, 1) := by decide +kernel
theorem dX1_addCard_60 : decode cX1_addCard 60 = .ok (.getfield 22, 3) := by decide +kernel
theorem dX1_addCard_63 : decode cX1_addCard 63 = .ok (.getfield 64, 3) := by decide +kernel
theorem dX1_addCard_66 : decode cX1_addCard 66 = .ok (.iload 4, 2) := by decide +kernel
theorem dX1_addCard_68 : decode cX1_addCard 68 = .ok (.lconst 0, 1) := by decide +kernel
theorem dX1_addCard_69 : decode cX1_addCard 69 = .ok (.lastore, 1) := by decide +kernel
theorem dX1_addCard_70 : decode cX1_addCard 70 = .ok (.aload_n 0, 1) := by decide +kernel
theorem dX1_addCard_71 : decode cX1_addCard 71 = .ok (.getfield 22, 3) := by decide +kernel
theorem dX1_addCard_74 : decode cX1_addCard 74 = .ok (.getfield 67, 3) := by decide +kernel
theorem dX1_addCard_77 : decode cX1_addCard 77 = .ok (.iload 4, 2) := by decide +kernel
theorem dX1_addCard_79 : decode cX1_addCard 79 = .ok (.iconst 0, 1) := by decide +kernel
theorem dX1_addCard_80 : decode cX1_addCard 80 = .ok (.iastore, 1) := by decide +kernel
theorem dX1_addCard_81 : decode cX1_addCard 81 = .ok (.aload_n 0, 1) := by decide +kernel
theorem dX1_addCard_82 : decode cX1_addCard 82 = .ok (.getfield 22, 3) := by decide +kernel
theorem dX1_addCard_85 : decode cX1_addCard 85 = .ok (.getfield 70, 3) := by decide +kernel
theorem dX1_addCard_88 : decode cX1_addCard 88 = .ok (.iload 4, 2) := by decide +kernel
theorem dX1_addCard_90 : decode cX1_addCard 90 = .ok (.aload_n 0, 1) := by decide +kernel
theorem dX1_addCard_91 : decode cX1_addCard 91 = .ok (.getfield 22, 3) := by decide +kernel
theorem dX1_addCard_94 : decode cX1_addCard 94 = .ok (.getfield 73, 3) := by decide +kernel
theorem dX1_addCard_97 : decode cX1_addCard 97 = .ok (.iload_n 1, 1) := by decide +kernel
theorem dX1_addCard_98 : decode cX1_addCard 98 = .ok (.iaload, 1) := by decide +kernel
theorem dX1_addCard_99 : decode cX1_addCard 99 = .ok (.iastore, 1) := by decide +kernel
theorem dX1_addCard_100 : decode cX1_addCard 100 = .ok (.aload_n 0, 1) := by decide +kernel
theorem dX1_addCard_101 : decode cX1_addCard 101 = .ok (.getfield 22, 3) := by decide +kernel
theorem dX1_addCard_104 : decode cX1_addCard 104 = .ok (.iload 4, 2) := by decide +kernel
theorem dX1_addCard_106 : decode cX1_addCard 106 = .ok (.iconst 1, 1) := by decide +kernel
theorem dX1_addCard_107 : decode cX1_addCard 107 = .ok (.iadd, 1) := by decide +kernel
theorem dX1_addCard_108 : decode cX1_addCard 108 = .ok (.putfield 50, 3) := by decide +kernel
theorem dX1_addCard_111 : decode cX1_addCard 111 = .ok (.iload 4, 2) := by decide +kernel
theorem dX1_addCard_113 : decode cX1_addCard 113 = .ok (.ireturn, 1) := by decide +kernel
theorem dX1_cleanMachine_0 : decode cX1_cleanMachine 0 = .ok (.iload_n 1, 1) := by decide +kernel
theorem dX1_cleanMachine_1 : decode cX1_cleanMachine 1 = .ok (.iconst 0, 1) := by decide +kernel
theorem dX1_cleanMachine_2 : decode cX1_cleanMachine 2 = .ok (.iconst 2, 1) := by decide +kernel
theorem dX1_cleanMachine_3 : decode cX1_cleanMachine 3 = .ok (.invokestatic 42, 3) := by decide +kernel
theorem dX1_cleanMachine_6 : decode cX1_cleanMachine 6 = .ok (.ifCond .ne 5, 3) := by decide +kernel
theorem dX1_cleanMachine_9 : decode cX1_cleanMachine 9 = .ok (.iconst (-1), 1) := by decide +kernel
theorem dX1_cleanMachine_10 : decode cX1_cleanMachine 10 = .ok (.ireturn, 1) := by decide +kernel
theorem dX1_cleanMachine_11 : decode cX1_cleanMachine 11 = .ok (.aload_n 0, 1) := by decide +kernel
theorem dX1_cleanMachine_12 : decode cX1_cleanMachine 12 = .ok (.getfield 22, 3) := by decide +kernel
theorem dX1_cleanMachine_15 : decode cX1_cleanMachine 15 = .ok (.getfield 73, 3) := by decide +kernel
theorem dX1_cleanMachine_18 : decode cX1_cleanMachine 18 = .ok (.iload_n 1, 1) := by decide +kernel
theorem dX1_cleanMachine_19 : decode cX1_cleanMachine 19 = .ok (.dup2, 1) := by decide +kernel
theorem dX1_cleanMachine_20 : decode cX1_cleanMachine 20 = .ok (.iaload, 1) := by decide +kernel
theorem dX1_cleanMachine_21 : decode cX1_cleanMachine 21 = .ok (.iconst 1, 1) := by decide +kernel
theorem dX1_cleanMachine_22 : decode cX1_cleanMachine 22 = .ok (.iadd, 1) := by decide +kernel
theorem dX1_cleanMachine_23 : decode cX1_cleanMachine 23 = .ok (.iastore, 1) := by decide +kernel
theorem dX1_cleanMachine_24 : decode cX1_cleanMachine 24 = .ok (.aload_n 0, 1) := by decide +kernel
theorem dX1_cleanMachine_25 : decode cX1_cleanMachine 25 = .ok (.getfield 22, 3) := by decide +kernel
theorem dX1_cleanMachine_28 : decode cX1_cleanMachine 28 = .ok (.iload_n 1, 1) := by decide +kernel
theorem dX1_cleanMachine_29 : decode cX1_cleanMachine 29 = .ok (.aload_n 0, 1) := by decide +kernel
theorem dX1_cleanMachine_30 : decode cX1_cleanMachine 30 = .ok (.getfield 22, 3) := by decide +kernel
theorem dX1_cleanMachine_33 : decode cX1_cleanMachine 33 = .ok (.getfield 50, 3) := by decide +kernel
theorem dX1_cleanMachine_36 : decode cX1_cleanMachine 36 = .ok (.invokevirtual 76, 3) := by decide +kernel
theorem dX1_cleanMachine_39 : decode cX1_cleanMachine 39 = .ok (.ireturn, 1) := by decide +kernel
theorem dX1_setNumber_0 : decode cX1_setNumber 0 = .ok (.iload_n 1, 1) := by decide +kernel
theorem dX1_setNumber_1 : decode cX1_setNumber 1 = .ok (.iconst 0, 1) := by decide +kernel
theorem dX1_setNumber_2 : decode cX1_setNumber 2 = .ok (.iconst 3, 1) := by decide +kernel
theorem dX1_setNumber_3 : decode cX1_setNumber 3 = .ok (.invokestatic 42, 3) := by decide +kernel
theorem dX1_setNumber_6 : decode cX1_setNumber 6 = .ok (.ifCond .eq 20, 3) := by decide +kernel
theorem dX1_setNumber_9 : decode cX1_setNumber 9 = .ok (.iload_n 2, 1) := by decide +kernel
theorem dX1_setNumber_10 : decode cX1_setNumber 10 = .ok (.getstatic 79, 3) := by decide +kernel
theorem dX1_setNumber_13 : decode cX1_setNumber 13 = .ok (.iload_n 1, 1) := by decide +kernel
theorem dX1_setNumber_14 : decode cX1_setNumber 14 = .ok (.iaload, 1) := by decide +kernel
theorem dX1_setNumber_15 : decode cX1_setNumber 15 = .ok (.getstatic 82, 3) := by decide +kernel
theorem dX1_setNumber_18 : decode cX1_setNumber 18 = .ok (.iload_n 1, 1) := by decide +kernel
theorem dX1_setNumber_19 : decode cX1_setNumber 19 = .ok (.iaload, 1) := by decide +kernel
theorem dX1_setNumber_20 : decode cX1_setNumber 20 = .ok (.invokestatic 42, 3) := by decide +kernel
theorem dX1_setNumber_23 : decode cX1_setNumber 23 = .ok (.ifCond .ne 5, 3) := by decide +kernel
theorem dX1_setNumber_26 : decode cX1_setNumber 26 = .ok (.iconst (-1), 1) := by decide +kernel
theorem dX1_setNumber_27 : decode cX1_setNumber 27 = .ok (.ireturn, 1) := by decide +kernel
theorem dX1_setNumber_28 : decode cX1_setNumber 28 = .ok (.aload_n 0, 1) := by decide +kernel
theorem dX1_setNumber_29 : decode cX1_setNumber 29 = .ok (.getfield 22, 3) := by decide +kernel
theorem dX1_setNumber_32 : decode cX1_setNumber 32 = .ok (.getfield 85, 3) := by decide +kernel
theorem dX1_setNumber_35 : decode cX1_setNumber 35 = .ok (.iload_n 1, 1) := by decide +kernel
theorem dX1_setNumber_36 : decode cX1_setNumber 36 = .ok (.iaload, 1) := by decide +kernel
theorem dX1_setNumber_37 : decode cX1_setNumber 37 = .ok (.istore_n 3, 1) := by decide +kernel
theorem dX1_setNumber_38 : decode cX1_setNumber 38 = .ok (.aload_n 0, 1) := by decide +kernel
theorem dX1_setNumber_39 : decode cX1_setNumber 39 = .ok (.getfield 22, 3) := by decide +kernel
theorem dX1_setNumber_42 : decode cX1_setNumber 42 = .ok (.getfield 85, 3) := by decide +kernel
theorem dX1_setNumber_45 : decode cX1_setNumber 45 = .ok (.iload_n 1, 1) := by decide +kernel
theorem dX1_setNumber_46 : decode cX1_setNumber 46 = .ok (.iload_n 2, 1) := by decide +kernel
theorem dX1_setNumber_47 : decode cX1_setNumber 47 = .ok (.iastore, 1) := by decide +kernel
theorem dX1_setNumber_48 : decode cX1_setNumber 48 = .ok (.iload_n 3, 1) := by decide +kernel
theorem dX1_setNumber_49 : decode cX1_setNumber 49 = .ok (.ireturn, 1) := by decide +kernel
theorem dX1_publishVersion_0 : decode cX1_publishVersion 0 = .ok (.aload_n 0, 1) := by decide +kernel
theorem dX1_publishVersion_1 : decode cX1_publishVersion 1 = .ok (.getfield 12, 3) := by decide +kernel
theorem dX1_publishVersion_4 : decode cX1_publishVersion 4 = .ok (.invokevirtual 88, 3) := by decide +kernel
theorem dX1_publishVersion_7 : decode cX1_publishVersion 7 = .ok (.aload_n 0, 1) := by decide +kernel
theorem dX1_publishVersion_8 : decode cX1_publishVersion 8 = .ok (.getfield 22, 3) := by decide +kernel
theorem dX1_publishVersion_11 : decode cX1_publishVersion 11 = .ok (.getfield 50, 3) := by decide +kernel
theorem dX1_publishVersion_14 : decode cX1_publishVersion 14 = .ok (.ifCond .eq 22, 3) := by decide +kernel
theorem dX1_publishVersion_17 : decode cX1_publishVersion 17 = .ok (.aload_n 0, 1) := by decide +kernel
theorem dX1_publishVersion_18 : decode cX1_publishVersion 18 = .ok (.getfield 12, 3) := by decide +kernel
theorem dX1_publishVersion_21 : decode cX1_publishVersion 21 = .ok (.invokevirtual 91, 3) := by decide +kernel
theorem dX1_publishVersion_24 : decode cX1_publishVersion 24 = .ok (.aload_n 0, 1) := by decide +kernel
theorem dX1_publishVersion_25 : decode cX1_publishVersion 25 = .ok (.getfield 22, 3) := by decide +kernel
theorem dX1_publishVersion_28 : decode cX1_publishVersion 28 = .ok (.getfield 85, 3) := by decide +kernel
theorem dX1_publishVersion_31 : decode cX1_publishVersion 31 = .ok (.iconst 3, 1) := by decide +kernel
theorem dX1_publishVersion_32 : decode cX1_publishVersion 32 = .ok (.iaload, 1) := by decide +kernel
theorem dX1_publishVersion_33 : decode cX1_publishVersion 33 = .ok (.if_icmp .le 6, 3) := by decide +kernel
theorem dX1_publishVersion_36 : decode cX1_publishVersion 36 = .ok (.bipush (-2), 2) := by decide +kernel
theorem dX1_publishVersion_38 : decode cX1_publishVersion 38 = .ok (.ireturn, 1) := by decide +kernel
theorem dX1_publishVersion_39 : decode cX1_publishVersion 39 = .ok (.aload_n 0, 1) := by decide +kernel
theorem dX1_publishVersion_40 : decode cX1_publishVersion 40 = .ok (.getfield 22, 3) := by decide +kernel
theorem dX1_publishVersion_43 : decode cX1_publishVersion 43 = .ok (.getfield 94, 3) := by decide +kernel
theorem dX1_publishVersion_46 : decode cX1_publishVersion 46 = .ok (.bipush 6, 2) := by decide +kernel
theorem dX1_publishVersion_48 : decode cX1_publishVersion 48 = .ok (.if_icmp .lt 6, 3) := by decide +kernel
theorem dX1_publishVersion_51 : decode cX1_publishVersion 51 = .ok (.bipush (-3), 2) := by decide +kernel
theorem dX1_publishVersion_53 : decode cX1_publishVersion 53 = .ok (.ireturn, 1) := by decide +kernel
theorem dX1_publishVersion_54 : decode cX1_publishVersion 54 = .ok (.aload_n 0, 1) := by decide +kernel
theorem dX1_publishVersion_55 : decode cX1_publishVersion 55 = .ok (.getfield 12, 3) := by decide +kernel
theorem dX1_publishVersion_58 : decode cX1_publishVersion 58 = .ok (.invokevirtual 97, 3) := by decide +kernel
theorem dX1_publishVersion_61 : decode cX1_publishVersion 61 = .ok (.istore_n 1, 1) := by decide +kernel
theorem dX1_publishVersion_62 : decode cX1_publishVersion 62 = .ok (.aload_n 0, 1) := by decide +kernel
theorem dX1_publishVersion_63 : decode cX1_publishVersion 63 = .ok (.getfield 22, 3) := by decide +kernel
theorem dX1_publishVersion_66 : decode cX1_publishVersion 66 = .ok (.aload_n 0, 1) := by decide +kernel
theorem dX1_publishVersion_67 : decode cX1_publishVersion 67 = .ok (.getfield 12, 3) := by decide +kernel
theorem dX1_publishVersion_70 : decode cX1_publishVersion 70 = .ok (.getfield 100, 3) := by decide +kernel
theorem dX1_publishVersion_73 : decode cX1_publishVersion 73 = .ok (.invokevirtual 103, 3) := by decide +kernel
theorem dX1_publishVersion_76 : decode cX1_publishVersion 76 = .ok (.iload_n 1, 1) := by decide +kernel
theorem dX1_publishVersion_77 : decode cX1_publishVersion 77 = .ok (.ireturn, 1) := by decide +kernel
theorem dX1_drawCards_0 : decode cX1_drawCards 0 = .ok (.iload_n 1, 1) := by decide +kernel
theorem dX1_drawCards_1 : decode cX1_drawCards 1 = .ok (.iconst 0, 1) := by decide +kernel
theorem dX1_drawCards_2 : decode cX1_drawCards 2 = .ok (.ldc 107, 2) := by decide +kernel
theorem dX1_drawCards_4 : decode cX1_drawCards 4 = .ok (.invokestatic 42, 3) := by decide +kernel
theorem dX1_drawCards_7 : decode cX1_drawCards 7 = .ok (.ifCond .eq 13, 3) := by decide +kernel
theorem dX1_drawCards_10 : decode cX1_drawCards 10 = .ok (.iload_n 2, 1) := by decide +kernel
theorem dX1_drawCards_11 : decode cX1_drawCards 11 = .ok (.iconst 1, 1) := by decide +kernel
theorem dX1_drawCards_12 : decode cX1_drawCards 12 = .ok (.bipush 40, 2) := by decide +kernel
theorem dX1_drawCards_14 : decode cX1_drawCards 14 = .ok (.invokestatic 42, 3) := by decide +kernel
theorem dX1_drawCards_17 : decode cX1_drawCards 17 = .ok (.ifCond .ne 5, 3) := by decide +kernel
theorem dX1_drawCards_20 : decode cX1_drawCards 20 = .ok (.iconst (-1), 1) := by decide +kernel
theorem dX1_drawCards_21 : decode cX1_drawCards 21 = .ok (.ireturn, 1) := by decide +kernel
theorem dX1_drawCards_22 : decode cX1_drawCards 22 = .ok (.aload_n 0, 1) := by decide +kernel
theorem dX1_drawCards_23 : decode cX1_drawCards 23 = .ok (.getfield 12, 3) := by decide +kernel
theorem dX1_drawCards_26 : decode cX1_drawCards 26 = .ok (.invokevirtual 88, 3) := by decide +kernel
theorem dX1_drawCards_29 : decode cX1_drawCards 29 = .ok (.aload_n 0, 1) := by decide +kernel
theorem dX1_drawCards_30 : decode cX1_drawCards 30 = .ok (.getfield 12, 3) := by decide +kernel
theorem dX1_drawCards_33 : decode cX1_drawCards 33 = .ok (.invokevirtual 108, 3) := by decide +kernel
theorem dX1_drawCards_36 : decode cX1_drawCards 36 = .ok (.istore_n 3, 1) := by decide +kernel
theorem dX1_drawCards_37 : decode cX1_drawCards 37 = .ok (.iload_n 3, 1) := by decide +kernel
theorem dX1_drawCards_38 : decode cX1_drawCards 38 = .ok (.iload_n 2, 1) := by decide +kernel
theorem dX1_drawCards_39 : decode cX1_drawCards 39 = .ok (.if_icmp .ge 6, 3) := by decide +kernel
theorem dX1_drawCards_42 : decode cX1_drawCards 42 = .ok (.bipush (-2), 2) := by decide +kernel
theorem dX1_drawCards_44 : decode cX1_drawCards 44 = .ok (.ireturn, 1) := by decide +kernel
theorem dX1_drawCards_45 : decode cX1_drawCards 45 = .ok (.iload_n 1, 1) := by decide +kernel
theorem dX1_drawCards_46 : decode cX1_drawCards 46 = .ok (.istore 4, 2) := by decide +kernel
theorem dX1_drawCards_48 : decode cX1_drawCards 48 = .ok (.iload_n 3, 1) := by decide +kernel
theorem dX1_drawCards_49 : decode cX1_drawCards 49 = .ok (.istore 5, 2) := by decide +kernel
theorem dX1_drawCards_51 : decode cX1_drawCards 51 = .ok (.iload 5, 2) := by decide +kernel
theorem dX1_drawCards_53 : decode cX1_drawCards 53 = .ok (.ifCond .le 61, 3) := by decide +kernel
theorem dX1_drawCards_56 : decode cX1_drawCards 56 = .ok (.iload 5, 2) := by decide +kernel
theorem dX1_drawCards_58 : decode cX1_drawCards 58 = .ok (.iload_n 3, 1) := by decide +kernel
theorem dX1_drawCards_59 : decode cX1_drawCards 59 = .ok (.iload_n 2, 1) := by decide +kernel
theorem dX1_drawCards_60 : decode cX1_drawCards 60 = .ok (.isub, 1) := by decide +kernel
theorem dX1_drawCards_61 : decode cX1_drawCards 61 = .ok (.if_icmp .le 53, 3) := by decide +kernel
theorem dX1_drawCards_64 : decode cX1_drawCards 64 = .ok (.iload 4, 2) := by decide +kernel
theorem dX1_drawCards_66 : decode cX1_drawCards 66 = .ok (.invokestatic 111, 3) := by decide +kernel
theorem dX1_drawCards_69 : decode cX1_drawCards 69 = .ok (.istore 4, 2) := by decide +kernel
theorem dX1_drawCards_71 : decode cX1_drawCards 71 = .ok (.aload_n 0, 1) := by decide +kernel
theorem dX1_drawCards_72 : decode cX1_drawCards 72 = .ok (.getfield 12, 3) := by decide +kernel
theorem dX1_drawCards_75 : decode cX1_drawCards 75 = .ok (.iload 4, 2) := by decide +kernel
theorem dX1_drawCards_77 : decode cX1_drawCards 77 = .ok (.iload 5, 2) := by decide +kernel
theorem dX1_drawCards_79 : decode cX1_drawCards 79 = .ok (.irem, 1) := by decide +kernel
theorem dX1_drawCards_80 : decode cX1_drawCards 80 = .ok (.invokevirtual 114, 3) := by decide +kernel
theorem dX1_drawCards_83 : decode cX1_drawCards 83 = .ok (.istore 6, 2) := by decide +kernel
theorem dX1_drawCards_85 : decode cX1_drawCards 85 = .ok (.aload_n 0, 1) := by decide +kernel
theorem dX1_drawCards_86 : decode cX1_drawCards 86 = .ok (.getfield 22, 3) := by decide +kernel
theorem dX1_drawCards_89 : decode cX1_drawCards 89 = .ok (.iload 6, 2) := by decide +kernel
theorem dX1_drawCards_91 : decode cX1_drawCards 91 = .ok (.invokevirtual 117, 3) := by decide +kernel
theorem dX1_drawCards_94 : decode cX1_drawCards 94 = .ok (.ifCond .eq 14, 3) := by decide +kernel
theorem dX1_drawCards_97 : decode cX1_drawCards 97 = .ok (.aload_n 0, 1) := by decide +kernel
theorem dX1_drawCards_98 : decode cX1_drawCards 98 = .ok (.getfield 22, 3) := by decide +kernel
theorem dX1_drawCards_101 : decode cX1_drawCards 101 = .ok (.getfield 67, 3) := by decide +kernel
theorem dX1_drawCards_104 : decode cX1_drawCards 104 = .ok (.iload 6, 2) := by decide +kernel
theorem dX1_drawCards_106 : decode cX1_drawCards 106 = .ok (.iconst 1, 1) := by decide +kernel
theorem dX1_drawCards_107 : decode cX1_drawCards 107 = .ok (.iastore, 1) := by decide +kernel
theorem dX1_drawCards_108 : decode cX1_drawCards 108 = .ok (.iinc 5 (-1), 3) := by decide +kernel
theorem dX1_drawCards_111 : decode cX1_drawCards 111 = .ok (.goto (-60), 3) := by decide +kernel
theorem dX1_drawCards_114 : decode cX1_drawCards 114 = .ok (.aload_n 0, 1) := by decide +kernel
theorem dX1_drawCards_115 : decode cX1_drawCards 115 = .ok (.getfield 22, 3) := by decide +kernel
theorem dX1_drawCards_118 : decode cX1_drawCards 118 = .ok (.iconst 1, 1) := by decide +kernel
theorem dX1_drawCards_119 : decode cX1_drawCards 119 = .ok (.invokevirtual 121, 3) := by decide +kernel
theorem dX1_drawCards_122 : decode cX1_drawCards 122 = .ok (.ireturn, 1) := by decide +kernel
theorem dX1_lookAt_0 : decode cX1_lookAt 0 = .ok (.aload_n 0, 1) := by decide +kernel
theorem dX1_lookAt_1 : decode cX1_lookAt 1 = .ok (.getfield 22, 3) := by decide +kernel
theorem dX1_lookAt_4 : decode cX1_lookAt 4 = .ok (.iload_n 1, 1) := by decide +kernel
theorem dX1_lookAt_5 : decode cX1_lookAt 5 = .ok (.invokevirtual 117, 3) := by decide +kernel
theorem dX1_lookAt_8 : decode cX1_lookAt 8 = .ok (.ifCond .eq 10, 3) := by decide +kernel
theorem dX1_lookAt_11 : decode cX1_lookAt 11 = .ok (.lload_n 2, 1) := by decide +kernel
theorem dX1_lookAt_12 : decode cX1_lookAt 12 = .ok (.invokestatic 46, 3) := by decide +kernel
theorem dX1_lookAt_15 : decode cX1_lookAt 15 = .ok (.ifCond .ne 5, 3) := by decide +kernel
theorem dX1_lookAt_18 : decode cX1_lookAt 18 = .ok (.iconst (-1), 1) := by decide +kernel
theorem dX1_lookAt_19 : decode cX1_lookAt 19 = .ok (.ireturn, 1) := by decide +kernel
theorem dX1_lookAt_20 : decode cX1_lookAt 20 = .ok (.aload_n 0, 1) := by decide +kernel
theorem dX1_lookAt_21 : decode cX1_lookAt 21 = .ok (.getfield 22, 3) := by decide +kernel
theorem dX1_lookAt_24 : decode cX1_lookAt 24 = .ok (.getfield 67, 3) := by decide +kernel
theorem dX1_lookAt_27 : decode cX1_lookAt 27 = .ok (.iload_n 1, 1) := by decide +kernel
theorem dX1_lookAt_28 : decode cX1_lookAt 28 = .ok (.iaload, 1) := by decide +kernel
theorem dX1_lookAt_29 : decode cX1_lookAt 29 = .ok (.iconst 1, 1) := by decide +kernel
theorem dX1_lookAt_30 : decode cX1_lookAt 30 = .ok (.if_icmp .eq 6, 3) := by decide +kernel
theorem dX1_lookAt_33 : decode cX1_lookAt 33 = .ok (.bipush (-2), 2) := by decide +kernel
theorem dX1_lookAt_35 : decode cX1_lookAt 35 = .ok (.ireturn, 1) := by decide +kernel
theorem dX1_lookAt_36 : decode cX1_lookAt 36 = .ok (.aload_n 0, 1) := by decide +kernel
theorem dX1_lookAt_37 : decode cX1_lookAt 37 = .ok (.getfield 12, 3) := by decide +kernel
theorem dX1_lookAt_40 : decode cX1_lookAt 40 = .ok (.invokevirtual 88, 3) := by decide +kernel
theorem dX1_lookAt_43 : decode cX1_lookAt 43 = .ok (.aload_n 0, 1) := by decide +kernel
theorem dX1_lookAt_44 : decode cX1_lookAt 44 = .ok (.getfield 12, 3) := by decide +kernel
theorem dX1_lookAt_47 : decode cX1_lookAt 47 = .ok (.getfield 100, 3) := by decide +kernel
theorem dX1_lookAt_50 : decode cX1_lookAt 50 = .ok (.iload_n 1, 1) := by decide +kernel
theorem dX1_lookAt_51 : decode cX1_lookAt 51 = .ok (.iaload, 1) := by decide +kernel
theorem dX1_lookAt_52 : decode cX1_lookAt 52 = .ok (.istore 4, 2) := by decide +kernel
theorem dX1_lookAt_54 : decode cX1_lookAt 54 = .ok (.aload_n 0, 1) := by decide +kernel
theorem dX1_lookAt_55 : decode cX1_lookAt 55 = .ok (.getfield 22, 3) := by decide +kernel
theorem dX1_lookAt_58 : decode cX1_lookAt 58 = .ok (.getfield 67, 3) := by decide +kernel
theorem dX1_lookAt_61 : decode cX1_lookAt 61 = .ok (.iload_n 1, 1) := by decide +kernel
theorem dX1_lookAt_62 : decode cX1_lookAt 62 = .ok (.iconst 2, 1) := by decide +kernel
theorem dX1_lookAt_63 : decode cX1_lookAt 63 = .ok (.iastore, 1) := by decide +kernel
theorem dX1_lookAt_64 : decode cX1_lookAt 64 = .ok (.aload_n 0, 1) := by decide +kernel
theorem dX1_lookAt_65 : decode cX1_lookAt 65 = .ok (.getfield 22, 3) := by decide +kernel
theorem dX1_lookAt_68 : decode cX1_lookAt 68 = .ok (.getfield 64, 3) := by decide +kernel
theorem dX1_lookAt_71 : decode cX1_lookAt 71 = .ok (.iload_n 1, 1) := by decide +kernel
theorem dX1_lookAt_72 : decode cX1_lookAt 72 = .ok (.lload_n 2, 1) := by decide +kernel
theorem dX1_lookAt_73 : decode cX1_lookAt 73 = .ok (.lastore, 1) := by decide +kernel
theorem dX1_lookAt_74 : decode cX1_lookAt 74 = .ok (.aload_n 0, 1) := by decide +kernel
theorem dX1_lookAt_75 : decode cX1_lookAt 75 = .ok (.getfield 12, 3) := by decide +kernel
theorem dX1_lookAt_78 : decode cX1_lookAt 78 = .ok (.invokevirtual 88, 3) := by decide +kernel
theorem dX1_lookAt_81 : decode cX1_lookAt 81 = .ok (.iload 4, 2) := by decide +kernel
theorem dX1_lookAt_83 : decode cX1_lookAt 83 = .ok (.aload_n 0, 1) := by decide +kernel
theorem dX1_lookAt_84 : decode cX1_lookAt 84 = .ok (.getfield 12, 3) := by decide +kernel
theorem dX1_lookAt_87 : decode cX1_lookAt 87 = .ok (.getfield 100, 3) := by decide +kernel
theorem dX1_lookAt_90 : decode cX1_lookAt 90 = .ok (.iload_n 1, 1) := by decide +kernel
theorem dX1_lookAt_91 : decode cX1_lookAt 91 = .ok (.iaload, 1) := by decide +kernel
theorem dX1_lookAt_92 : decode cX1_lookAt 92 = .ok (.invokestatic 124, 3) := by decide +kernel
theorem dX1_lookAt_95 : decode cX1_lookAt 95 = .ok (.ireturn, 1) := by decide +kernel
theorem dX2_init_0 : decode cX2_init 0 = .ok (.aload_n 0, 1) := by decide +kernel
theorem dX2_init_1 : decode cX2_init 1 = .ok (.invokespecial 3, 3) := by decide +kernel
theorem dX2_init_4 : decode cX2_init 4 = .ok (.aload_n 0, 1) := by decide +kernel
theorem dX2_init_5 : decode cX2_init 5 = .ok (.bipush 6, 2) := by decide +kernel
theorem dX2_init_7 : decode cX2_init 7 = .ok (.anewarray 9, 3) := by decide +kernel
theorem dX2_init_10 : decode cX2_init 10 = .ok (.dup, 1) := by decide +kernel
theorem dX2_init_11 : decode cX2_init 11 = .ok (.iconst 0, 1) := by decide +kernel
theorem dX2_init_12 : decode cX2_init 12 = .ok (.new 9, 3) := by decide +kernel
theorem dX2_init_15 : decode cX2_init 15 = .ok (.dup, 1) := by decide +kernel
theorem dX2_init_16 : decode cX2_init 16 = .ok (.invokespecial 11, 3) := by decide +kernel
theorem dX2_init_19 : decode cX2_init 19 = .ok (.aastore, 1) := by decide +kernel
theorem dX2_init_20 : decode cX2_init 20 = .ok (.dup, 1) := by decide +kernel
theorem dX2_init_21 : decode cX2_init 21 = .ok (.iconst 1, 1) := by decide +kernel
theorem dX2_init_22 : decode cX2_init 22 = .ok (.new 9, 3) := by decide +kernel
theorem dX2_init_25 : decode cX2_init 25 = .ok (.dup, 1) := by decide +kernel
theorem dX2_init_26 : decode cX2_init 26 = .ok (.invokespecial 11, 3) := by decide +kernel
theorem dX2_init_29 : decode cX2_init 29 = .ok (.aastore, 1) := by decide +kernel
theorem dX2_init_30 : decode cX2_init 30 = .ok (.dup, 1) := by decide +kernel
theorem dX2_init_31 : decode cX2_init 31 = .ok (.iconst 2, 1) := by decide +kernel
theorem dX2_init_32 : decode cX2_init 32 = .ok (.new 9, 3) := by decide +kernel
theorem dX2_init_35 : decode cX2_init 35 = .ok (.dup, 1) := by decide +kernel
theorem dX2_init_36 : decode cX2_init 36 = .ok (.invokespecial 11, 3) := by decide +kernel
theorem dX2_init_39 : decode cX2_init 39 = .ok (.aastore, 1) := by decide +kernel
theorem dX2_init_40 : decode cX2_init 40 = .ok (.dup, 1) := by decide +kernel
theorem dX2_init_41 : decode cX2_init 41 = .ok (.iconst 3, 1) := by decide +kernel
theorem dX2_init_42 : decode cX2_init 42 = .ok (.new 9, 3) := by decide +kernel
theorem dX2_init_45 : decode cX2_init 45 = .ok (.dup, 1) := by decide +kernel
theorem dX2_init_46 : decode cX2_init 46 = .ok (.invokespecial 11, 3) := by decide +kernel
theorem dX2_init_49 : decode cX2_init 49 = .ok (.aastore, 1) := by decide +kernel
theorem dX2_init_50 : decode cX2_init 50 = .ok (.dup, 1) := by decide +kernel
theorem dX2_init_51 : decode cX2_init 51 = .ok (.iconst 4, 1) := by decide +kernel
theorem dX2_init_52 : decode cX2_init 52 = .ok (.new 9, 3) := by decide +kernel
theorem dX2_init_55 : decode cX2_init 55 = .ok (.dup, 1) := by decide +kernel
theorem dX2_init_56 : decode cX2_init 56 = .ok (.invokespecial 11, 3) := by decide +kernel
theorem dX2_init_59 : decode cX2_init 59 = .ok (.aastore, 1) := by decide +kernel
theorem dX2_init_60 : decode cX2_init 60 = .ok (.dup, 1) := by decide +kernel
theorem dX2_init_61 : decode cX2_init 61 = .ok (.iconst 5, 1) := by decide +kernel
theorem dX2_init_62 : decode cX2_init 62 = .ok (.new 9, 3) := by decide +kernel
theorem dX2_init_65 : decode cX2_init 65 = .ok (.dup, 1) := by decide +kernel
theorem dX2_init_66 : decode cX2_init 66 = .ok (.invokespecial 11, 3) := by decide +kernel
theorem dX2_init_69 : decode cX2_init 69 = .ok (.aastore, 1) := by decide +kernel
theorem dX2_init_70 : decode cX2_init 70 = .ok (.putfield 12, 3) := by decide +kernel
theorem dX2_init_73 : decode cX2_init 73 = .ok (.return_, 1) := by decide +kernel
theorem dX2_prepare_0 : decode cX2_prepare 0 = .ok (.aload_n 0, 1) := by decide +kernel
theorem dX2_prepare_1 : decode cX2_prepare 1 = .ok (.getfield 18, 3) := by decide +kernel
theorem dX2_prepare_4 : decode cX2_prepare 4 = .ok (.aload_n 0, 1) := by decide +kernel
theorem dX2_prepare_5 : decode cX2_prepare 5 = .ok (.getfield 12, 3) := by decide +kernel
theorem dX2_prepare_8 : decode cX2_prepare 8 = .ok (.arraylength, 1) := by decide +kernel
theorem dX2_prepare_9 : decode cX2_prepare 9 = .ok (.if_icmp .ge 17, 3) := by decide +kernel
theorem dX2_prepare_12 : decode cX2_prepare 12 = .ok (.aload_n 0, 1) := by decide +kernel
theorem dX2_prepare_13 : decode cX2_prepare 13 = .ok (.getfield 12, 3) := by decide +kernel
theorem dX2_prepare_16 : decode cX2_prepare 16 = .ok (.aload_n 0, 1) := by decide +kernel
theorem dX2_prepare_17 : decode cX2_prepare 17 = .ok (.getfield 18, 3) := by decide +kernel
theorem dX2_prepare_20 : decode cX2_prepare 20 = .ok (.aaload, 1) := by decide +kernel
theorem dX2_prepare_21 : decode cX2_prepare 21 = .ok (.aload_n 1, 1) := by decide +kernel
theorem dX2_prepare_22 : decode cX2_prepare 22 = .ok (.aload_n 2, 1) := by decide +kernel
theorem dX2_prepare_23 : decode cX2_prepare 23 = .ok (.invokevirtual 22, 3) := by decide +kernel
theorem dX2_prepare_26 : decode cX2_prepare 26 = .ok (.return_, 1) := by decide +kernel
theorem dX2_giveBackPrepared_0 : decode cX2_giveBackPrepared 0 = .ok (.aload_n 0, 1) := by decide +kernel
theorem dX2_giveBackPrepared_1 : decode cX2_giveBackPrepared 1 = .ok (.getfield 18, 3) := by decide +kernel
theorem dX2_giveBackPrepared_4 : decode cX2_giveBackPrepared 4 = .ok (.aload_n 0, 1) := by decide +kernel
theorem dX2_giveBackPrepared_5 : decode cX2_giveBackPrepared 5 = .ok (.getfield 12, 3) := by decide +kernel
theorem dX2_giveBackPrepared_8 : decode cX2_giveBackPrepared 8 = .ok (.arraylength, 1) := by decide +kernel
theorem dX2_giveBackPrepared_9 : decode cX2_giveBackPrepared 9 = .ok (.if_icmp .ge 17, 3) := by decide +kernel
theorem dX2_giveBackPrepared_12 : decode cX2_giveBackPrepared 12 = .ok (.aload_n 0, 1) := by decide +kernel
theorem dX2_giveBackPrepared_13 : decode cX2_giveBackPrepared 13 = .ok (.getfield 12, 3) := by decide +kernel
theorem dX2_giveBackPrepared_16 : decode cX2_giveBackPrepared 16 = .ok (.aload_n 0, 1) := by decide +kernel
theorem dX2_giveBackPrepared_17 : decode cX2_giveBackPrepared 17 = .ok (.getfield 18, 3) := by decide +kernel
theorem dX2_giveBackPrepared_20 : decode cX2_giveBackPrepared 20 = .ok (.aaload, 1) := by decide +kernel
theorem dX2_giveBackPrepared_21 : decode cX2_giveBackPrepared 21 = .ok (.aload_n 1, 1) := by decide +kernel
theorem dX2_giveBackPrepared_22 : decode cX2_giveBackPrepared 22 = .ok (.aload_n 2, 1) := by decide +kernel
theorem dX2_giveBackPrepared_23 : decode cX2_giveBackPrepared 23 = .ok (.invokevirtual 26, 3) := by decide +kernel
theorem dX2_giveBackPrepared_26 : decode cX2_giveBackPrepared 26 = .ok (.return_, 1) := by decide +kernel
theorem dX2_record_0 : decode cX2_record 0 = .ok (.aload_n 0, 1) := by decide +kernel
theorem dX2_record_1 : decode cX2_record 1 = .ok (.getfield 18, 3) := by decide +kernel
theorem dX2_record_4 : decode cX2_record 4 = .ok (.iconst 5, 1) := by decide +kernel
theorem dX2_record_5 : decode cX2_record 5 = .ok (.if_icmp .ge 14, 3) := by decide +kernel
theorem dX2_record_8 : decode cX2_record 8 = .ok (.aload_n 0, 1) := by decide +kernel
theorem dX2_record_9 : decode cX2_record 9 = .ok (.dup, 1) := by decide +kernel
theorem dX2_record_10 : decode cX2_record 10 = .ok (.getfield 18, 3) := by decide +kernel
theorem dX2_record_13 : decode cX2_record 13 = .ok (.iconst 1, 1) := by decide +kernel
theorem dX2_record_14 : decode cX2_record 14 = .ok (.iadd, 1) := by decide +kernel
theorem dX2_record_15 : decode cX2_record 15 = .ok (.putfield 18, 3) := by decide +kernel
theorem dX2_record_18 : decode cX2_record 18 = .ok (.return_, 1) := by decide +kernel
theorem dX2_record_19 : decode cX2_record 19 = .ok (.aload_n 0, 1) := by decide +kernel
theorem dX2_record_20 : decode cX2_record 20 = .ok (.getfield 12, 3) := by decide +kernel
theorem dX2_record_23 : decode cX2_record 23 = .ok (.iconst 0, 1) := by decide +kernel
theorem dX2_record_24 : decode cX2_record 24 = .ok (.aaload, 1) := by decide +kernel
theorem dX2_record_25 : decode cX2_record 25 = .ok (.astore_n 1, 1) := by decide +kernel
theorem dX2_record_26 : decode cX2_record 26 = .ok (.iconst 0, 1) := by decide +kernel
theorem dX2_record_27 : decode cX2_record 27 = .ok (.istore_n 2, 1) := by decide +kernel
theorem dX2_record_28 : decode cX2_record 28 = .ok (.iload_n 2, 1) := by decide +kernel
theorem dX2_record_29 : decode cX2_record 29 = .ok (.iconst 5, 1) := by decide +kernel
theorem dX2_record_30 : decode cX2_record 30 = .ok (.if_icmp .ge 23, 3) := by decide +kernel
theorem dX2_record_33 : decode cX2_record 33 = .ok (.aload_n 0, 1) := by decide +kernel
theorem dX2_record_34 : decode cX2_record 34 = .ok (.getfield 12, 3) := by decide +kernel
theorem dX2_record_37 : decode cX2_record 37 = .ok (.iload_n 2, 1) := by decide +kernel
theorem dX2_record_38 : decode cX2_record 38 = .ok (.aload_n 0, 1) := by decide +kernel
theorem dX2_record_39 : decode cX2_record 39 = .ok (.getfield 12, 3) := by decide +kernel
theorem dX2_record_42 : decode cX2_record 42 = .ok (.iload_n 2, 1) := by decide +kernel
theorem dX2_record_43 : decode cX2_record 43 = .ok (.iconst 1, 1) := by decide +kernel
theorem dX2_record_44 : decode cX2_record 44 = .ok (.iadd, 1) := by decide +kernel
theorem dX2_record_45 : decode cX2_record 45 = .ok (.aaload, 1) := by decide +kernel
theorem dX2_record_46 : decode cX2_record 46 = .ok (.aastore, 1) := by decide +kernel
theorem dX2_record_47 : decode cX2_record 47 = .ok (.iinc 2 1, 3) := by decide +kernel
theorem dX2_record_50 : decode cX2_record 50 = .ok (.goto (-22), 3) := by decide +kernel
theorem dX2_record_53 : decode cX2_record 53 = .ok (.aload_n 0, 1) := by decide +kernel
theorem dX2_record_54 : decode cX2_record 54 = .ok (.getfield 12, 3) := by decide +kernel
theorem dX2_record_57 : decode cX2_record 57 = .ok (.iconst 5, 1) := by decide +kernel
theorem dX2_record_58 : decode cX2_record 58 = .ok (.aload_n 1, 1) := by decide +kernel
theorem dX2_record_59 : decode cX2_record 59 = .ok (.aastore, 1) := by decide +kernel
theorem dX2_record_60 : decode cX2_record 60 = .ok (.return_, 1) := by decide +kernel
theorem dX2_goBack_0 : decode cX2_goBack 0 = .ok (.aload_n 0, 1) := by decide +kernel
theorem dX2_goBack_1 : decode cX2_goBack 1 = .ok (.getfield 18, 3) := by decide +kernel
theorem dX2_goBack_4 : decode cX2_goBack 4 = .ok (.ifCond .le 27, 3) := by decide +kernel
theorem dX2_goBack_7 : decode cX2_goBack 7 = .ok (.aload_n 0, 1) := by decide +kernel
theorem dX2_goBack_8 : decode cX2_goBack 8 = .ok (.dup, 1) := by decide +kernel
theorem dX2_goBack_9 : decode cX2_goBack 9 = .ok (.getfield 18, 3) := by decide +kernel
theorem dX2_goBack_12 : decode cX2_goBack 12 = .ok (.iconst 1, 1) := by decide +kernel
theorem dX2_goBack_13 : decode cX2_goBack 13 = .ok (.isub, 1) := by decide +kernel
theorem dX2_goBack_14 : decode cX2_goBack 14 = .ok (.putfield 18, 3) := by decide +kernel
theorem dX2_goBack_17 : decode cX2_goBack 17 = .ok (.aload_n 0, 1) := by decide +kernel
theorem dX2_goBack_18 : decode cX2_goBack 18 = .ok (.getfield 12, 3) := by decide +kernel
theorem dX2_goBack_21 : decode cX2_goBack 21 = .ok (.aload_n 0, 1) := by decide +kernel
theorem dX2_goBack_22 : decode cX2_goBack 22 = .ok (.getfield 18, 3) := by decide +kernel
theorem dX2_goBack_25 : decode cX2_goBack 25 = .ok (.aaload, 1) := by decide +kernel
theorem dX2_goBack_26 : decode cX2_goBack 26 = .ok (.aload_n 1, 1) := by decide +kernel
theorem dX2_goBack_27 : decode cX2_goBack 27 = .ok (.aload_n 2, 1) := by decide +kernel
theorem dX2_goBack_28 : decode cX2_goBack 28 = .ok (.invokevirtual 26, 3) := by decide +kernel
theorem dX2_goBack_31 : decode cX2_goBack 31 = .ok (.return_, 1) := by decide +kernel
theorem dX3_init_0 : decode cX3_init 0 = .ok (.aload_n 0, 1) := by decide +kernel
theorem dX3_init_1 : decode cX3_init 1 = .ok (.invokespecial 3, 3) := by decide +kernel
theorem dX3_init_4 : decode cX3_init 4 = .ok (.aload_n 0, 1) := by decide +kernel
theorem dX3_init_5 : decode cX3_init 5 = .ok (.new 9, 3) := by decide +kernel
theorem dX3_init_8 : decode cX3_init 8 = .ok (.dup, 1) := by decide +kernel
theorem dX3_init_9 : decode cX3_init 9 = .ok (.invokespecial 11, 3) := by decide +kernel
theorem dX3_init_12 : decode cX3_init 12 = .ok (.putfield 12, 3) := by decide +kernel
theorem dX3_init_15 : decode cX3_init 15 = .ok (.aload_n 0, 1) := by decide +kernel
theorem dX3_init_16 : decode cX3_init 16 = .ok (.iconst 0, 1) := by decide +kernel
theorem dX3_init_17 : decode cX3_init 17 = .ok (.putfield 18, 3) := by decide +kernel
theorem dX3_init_20 : decode cX3_init 20 = .ok (.return_, 1) := by decide +kernel
theorem dX3_runWith_0 : decode cX3_runWith 0 = .ok (.aload_n 0, 1) := by decide +kernel
theorem dX3_runWith_1 : decode cX3_runWith 1 = .ok (.getfield 12, 3) := by decide +kernel
theorem dX3_runWith_4 : decode cX3_runWith 4 = .ok (.invokevirtual 22, 3) := by decide +kernel
theorem dX3_runWith_7 : decode cX3_runWith 7 = .ok (.iconst 0, 1) := by decide +kernel
theorem dX3_runWith_8 : decode cX3_runWith 8 = .ok (.istore_n 2, 1) := by decide +kernel
theorem dX3_runWith_9 : decode cX3_runWith 9 = .ok (.iload_n 2, 1) := by decide +kernel
theorem dX3_runWith_10 : decode cX3_runWith 10 = .ok (.sipush 140, 3) := by decide +kernel
theorem dX3_runWith_13 : decode cX3_runWith 13 = .ok (.if_icmp .gt 111, 3) := by decide +kernel
theorem dX3_runWith_16 : decode cX3_runWith 16 = .ok (.aload_n 0, 1) := by decide +kernel
theorem dX3_runWith_17 : decode cX3_runWith 17 = .ok (.getfield 12, 3) := by decide +kernel
theorem dX3_runWith_20 : decode cX3_runWith 20 = .ok (.invokevirtual 25, 3) := by decide +kernel
theorem dX3_runWith_23 : decode cX3_runWith 23 = .ok (.aload_n 0, 1) := by decide +kernel
theorem dX3_runWith_24 : decode cX3_runWith 24 = .ok (.getfield 12, 3) := by decide +kernel
theorem dX3_runWith_27 : decode cX3_runWith 27 = .ok (.getfield 28, 3) := by decide +kernel
theorem dX3_runWith_30 : decode cX3_runWith 30 = .ok (.ifCond .ne 5, 3) := by decide +kernel
theorem dX3_runWith_33 : decode cX3_runWith 33 = .ok (.iload_n 2, 1) := by decide +kernel
theorem dX3_runWith_34 : decode cX3_runWith 34 = .ok (.ireturn, 1) := by decide +kernel
theorem dX3_runWith_35 : decode cX3_runWith 35 = .ok (.aload_n 0, 1) := by decide +kernel
theorem dX3_runWith_36 : decode cX3_runWith 36 = .ok (.getfield 12, 3) := by decide +kernel
theorem dX3_runWith_39 : decode cX3_runWith 39 = .ok (.getfield 31, 3) := by decide +kernel
theorem dX3_runWith_42 : decode cX3_runWith 42 = .ok (.istore_n 3, 1) := by decide +kernel
theorem dX3_runWith_43 : decode cX3_runWith 43 = .ok (.aload_n 0, 1) := by decide +kernel
theorem dX3_runWith_44 : decode cX3_runWith 44 = .ok (.invokevirtual 34, 3) := by decide +kernel
theorem dX3_runWith_47 : decode cX3_runWith 47 = .ok (.istore 4, 2) := by decide +kernel
theorem dX3_runWith_49 : decode cX3_runWith 49 = .ok (.iload 4, 2) := by decide +kernel
theorem dX3_runWith_51 : decode cX3_runWith 51 = .ok (.iconst (-1), 1) := by decide +kernel
theorem dX3_runWith_52 : decode cX3_runWith 52 = .ok (.if_icmp .eq 19, 3) := by decide +kernel
theorem dX3_runWith_55 : decode cX3_runWith 55 = .ok (.aload_n 0, 1) := by decide +kernel
theorem dX3_runWith_56 : decode cX3_runWith 56 = .ok (.iload 4, 2) := by decide +kernel
theorem dX3_runWith_58 : decode cX3_runWith 58 = .ok (.invokevirtual 38, 3) := by decide +kernel
theorem dX3_runWith_61 : decode cX3_runWith 61 = .ok (.ifCond .eq 10, 3) := by decide +kernel
theorem dX3_runWith_64 : decode cX3_runWith 64 = .ok (.aload_n 0, 1) := by decide +kernel
theorem dX3_runWith_65 : decode cX3_runWith 65 = .ok (.invokevirtual 42, 3) := by decide +kernel
theorem dX3_runWith_68 : decode cX3_runWith 68 = .ok (.ifCond .ne 19, 3) := by decide +kernel
theorem dX3_runWith_71 : decode cX3_runWith 71 = .ok (.aload_n 0, 1) := by decide +kernel
theorem dX3_runWith_72 : decode cX3_runWith 72 = .ok (.iconst 1, 1) := by decide +kernel
theorem dX3_runWith_73 : decode cX3_runWith 73 = .ok (.aload_n 0, 1) := by decide +kernel
theorem dX3_runWith_74 : decode cX3_runWith 74 = .ok (.getfield 12, 3) := by decide +kernel
theorem dX3_runWith_77 : decode cX3_runWith 77 = .ok (.getfield 31, 3) := by decide +kernel
theorem dX3_runWith_80 : decode cX3_runWith 80 = .ok (.iload_n 2, 1) := by decide +kernel
theorem dX3_runWith_81 : decode cX3_runWith 81 = .ok (.bipush (-9), 2) := by decide +kernel
theorem dX3_runWith_83 : decode cX3_runWith 83 = .ok (.invokevirtual 46, 3) := by decide +kernel
theorem dX3_runWith_86 : decode cX3_runWith 86 = .ok (.ireturn, 1) := by decide +kernel
theorem dX3_runWith_87 : decode cX3_runWith 87 = .ok (.aload_n 1, 1) := by decide +kernel
theorem dX3_runWith_88 : decode cX3_runWith 88 = .ok (.iload 4, 2) := by decide +kernel
theorem dX3_runWith_90 : decode cX3_runWith 90 = .ok (.aload_n 0, 1) := by decide +kernel
theorem dX3_runWith_91 : decode cX3_runWith 91 = .ok (.getfield 50, 3) := by decide +kernel
theorem dX3_runWith_94 : decode cX3_runWith 94 = .ok (.aload_n 0, 1) := by decide +kernel
theorem dX3_runWith_95 : decode cX3_runWith 95 = .ok (.getfield 54, 3) := by decide +kernel
theorem dX3_runWith_98 : decode cX3_runWith 98 = .ok (.invokevirtual 57, 3) := by decide +kernel
theorem dX3_runWith_101 : decode cX3_runWith 101 = .ok (.istore 5, 2) := by decide +kernel
theorem dX3_runWith_103 : decode cX3_runWith 103 = .ok (.iload 5, 2) := by decide +kernel
theorem dX3_runWith_105 : decode cX3_runWith 105 = .ok (.ifCond .ge 13, 3) := by decide +kernel
theorem dX3_runWith_108 : decode cX3_runWith 108 = .ok (.aload_n 0, 1) := by decide +kernel
theorem dX3_runWith_109 : decode cX3_runWith 109 = .ok (.iconst 2, 1) := by decide +kernel
theorem dX3_runWith_110 : decode cX3_runWith 110 = .ok (.iload_n 3, 1) := by decide +kernel
theorem dX3_runWith_111 : decode cX3_runWith 111 = .ok (.iload_n 2, 1) := by decide +kernel
theorem dX3_runWith_112 : decode cX3_runWith 112 = .ok (.iload 5, 2) := by decide +kernel
theorem dX3_runWith_114 : decode cX3_runWith 114 = .ok (.invokevirtual 46, 3) := by decide +kernel
theorem dX3_runWith_117 : decode cX3_runWith 117 = .ok (.ireturn, 1) := by decide +kernel
theorem dX3_runWith_118 : decode cX3_runWith 118 = .ok (.iinc 2 1, 3) := by decide +kernel
theorem dX3_runWith_121 : decode cX3_runWith 121 = .ok (.goto (-112), 3) := by decide +kernel
theorem dX3_runWith_124 : decode cX3_runWith 124 = .ok (.sipush 140, 3) := by decide +kernel
theorem dX3_runWith_127 : decode cX3_runWith 127 = .ok (.ireturn, 1) := by decide +kernel
theorem dX3_wordHere_0 : decode cX3_wordHere 0 = .ok (.aload_n 0, 1) := by decide +kernel
theorem dX3_wordHere_1 : decode cX3_wordHere 1 = .ok (.getfield 12, 3) := by decide +kernel
theorem dX3_wordHere_4 : decode cX3_wordHere 4 = .ok (.ldc 63, 2) := by decide +kernel
theorem dX3_wordHere_6 : decode cX3_wordHere 6 = .ok (.invokevirtual 65, 3) := by decide +kernel
theorem dX3_wordHere_9 : decode cX3_wordHere 9 = .ok (.ifCond .eq 5, 3) := by decide +kernel
theorem dX3_wordHere_12 : decode cX3_wordHere 12 = .ok (.iconst 0, 1) := by decide +kernel
theorem dX3_wordHere_13 : decode cX3_wordHere 13 = .ok (.ireturn, 1) := by decide +kernel
theorem dX3_wordHere_14 : decode cX3_wordHere 14 = .ok (.aload_n 0, 1) := by decide +kernel
theorem dX3_wordHere_15 : decode cX3_wordHere 15 = .ok (.getfield 12, 3) := by decide +kernel
theorem dX3_wordHere_18 : decode cX3_wordHere 18 = .ok (.ldc 69, 2) := by decide +kernel
theorem dX3_wordHere_20 : decode cX3_wordHere 20 = .ok (.invokevirtual 65, 3) := by decide +kernel
theorem dX3_wordHere_23 : decode cX3_wordHere 23 = .ok (.ifCond .eq 5, 3) := by decide +kernel
theorem dX3_wordHere_26 : decode cX3_wordHere 26 = .ok (.iconst 1, 1) := by decide +kernel
theorem dX3_wordHere_27 : decode cX3_wordHere 27 = .ok (.ireturn, 1) := by decide +kernel
theorem dX3_wordHere_28 : decode cX3_wordHere 28 = .ok (.aload_n 0, 1) := by decide +kernel
theorem dX3_wordHere_29 : decode cX3_wordHere 29 = .ok (.getfield 12, 3) := by decide +kernel
theorem dX3_wordHere_32 : decode cX3_wordHere 32 = .ok (.ldc 71, 2) := by decide +kernel
theorem dX3_wordHere_34 : decode cX3_wordHere 34 = .ok (.invokevirtual 65, 3) := by decide +kernel
theorem dX3_wordHere_37 : decode cX3_wordHere 37 = .ok (.ifCond .eq 5, 3) := by decide +kernel
theorem dX3_wordHere_40 : decode cX3_wordHere 40 = .ok (.iconst 2, 1) := by decide +kernel
theorem dX3_wordHere_41 : decode cX3_wordHere 41 = .ok (.ireturn, 1) := by decide +kernel
theorem dX3_wordHere_42 : decode cX3_wordHere 42 = .ok (.aload_n 0, 1) := by decide +kernel
theorem dX3_wordHere_43 : decode cX3_wordHere 43 = .ok (.getfield 12, 3) := by decide +kernel
theorem dX3_wordHere_46 : decode cX3_wordHere 46 = .ok (.ldc 73, 2) := by decide +kernel
theorem dX3_wordHere_48 : decode cX3_wordHere 48 = .ok (.invokevirtual 65, 3) := by decide +kernel
theorem dX3_wordHere_51 : decode cX3_wordHere 51 = .ok (.ifCond .eq 5, 3) := by decide +kernel
theorem dX3_wordHere_54 : decode cX3_wordHere 54 = .ok (.iconst 3, 1) := by decide +kernel
theorem dX3_wordHere_55 : decode cX3_wordHere 55 = .ok (.ireturn, 1) := by decide +kernel
theorem dX3_wordHere_56 : decode cX3_wordHere 56 = .ok (.aload_n 0, 1) := by decide +kernel
theorem dX3_wordHere_57 : decode cX3_wordHere 57 = .ok (.getfield 12, 3) := by decide +kernel
theorem dX3_wordHere_60 : decode cX3_wordHere 60 = .ok (.ldc 75, 2) := by decide +kernel
theorem dX3_wordHere_62 : decode cX3_wordHere 62 = .ok (.invokevirtual 65, 3) := by decide +kernel
theorem dX3_wordHere_65 : decode cX3_wordHere 65 = .ok (.ifCond .eq 7, 3) := by decide +kernel
theorem dX3_wordHere_68 : decode cX3_wordHere 68 = .ok (.iconst 4, 1) := by decide +kernel
theorem dX3_wordHere_69 : decode cX3_wordHere 69 = .ok (.goto 4, 3) := by decide +kernel
theorem dX3_wordHere_72 : decode cX3_wordHere 72 = .ok (.iconst (-1), 1) := by decide +kernel
theorem dX3_wordHere_73 : decode cX3_wordHere 73 = .ok (.ireturn, 1) := by decide +kernel
theorem dX3_readNumbers_0 : decode cX3_readNumbers 0 = .ok (.iload_n 1, 1) := by decide +kernel
theorem dX3_readNumbers_1 : decode cX3_readNumbers 1 = .ok (.iconst 4, 1) := by decide +kernel
theorem dX3_readNumbers_2 : decode cX3_readNumbers 2 = .ok (.if_icmp .ne 5, 3) := by decide +kernel
theorem dX3_readNumbers_5 : decode cX3_readNumbers 5 = .ok (.iconst 1, 1) := by decide +kernel
theorem dX3_readNumbers_6 : decode cX3_readNumbers 6 = .ok (.ireturn, 1) := by decide +kernel
theorem dX3_readNumbers_7 : decode cX3_readNumbers 7 = .ok (.aload_n 0, 1) := by decide +kernel
theorem dX3_readNumbers_8 : decode cX3_readNumbers 8 = .ok (.getfield 12, 3) := by decide +kernel
theorem dX3_readNumbers_11 : decode cX3_readNumbers 11 = .ok (.invokevirtual 25, 3) := by decide +kernel
theorem dX3_readNumbers_14 : decode cX3_readNumbers 14 = .ok (.aload_n 0, 1) := by decide +kernel
theorem dX3_readNumbers_15 : decode cX3_readNumbers 15 = .ok (.getfield 12, 3) := by decide +kernel
theorem dX3_readNumbers_18 : decode cX3_readNumbers 18 = .ok (.invokevirtual 77, 3) := by decide +kernel
theorem dX3_readNumbers_21 : decode cX3_readNumbers 21 = .ok (.ifCond .ne 5, 3) := by decide +kernel
theorem dX3_readNumbers_24 : decode cX3_readNumbers 24 = .ok (.iconst 0, 1) := by decide +kernel
theorem dX3_readNumbers_25 : decode cX3_readNumbers 25 = .ok (.ireturn, 1) := by decide +kernel
theorem dX3_readNumbers_26 : decode cX3_readNumbers 26 = .ok (.aload_n 0, 1) := by decide +kernel
theorem dX3_readNumbers_27 : decode cX3_readNumbers 27 = .ok (.aload_n 0, 1) := by decide +kernel
theorem dX3_readNumbers_28 : decode cX3_readNumbers 28 = .ok (.getfield 12, 3) := by decide +kernel
theorem dX3_readNumbers_31 : decode cX3_readNumbers 31 = .ok (.invokevirtual 80, 3) := by decide +kernel
theorem dX3_readNumbers_34 : decode cX3_readNumbers 34 = .ok (.putfield 50, 3) := by decide +kernel
theorem dX3_readNumbers_37 : decode cX3_readNumbers 37 = .ok (.iload_n 1, 1) := by decide +kernel
theorem dX3_readNumbers_38 : decode cX3_readNumbers 38 = .ok (.iconst 1, 1) := by decide +kernel
theorem dX3_readNumbers_39 : decode cX3_readNumbers 39 = .ok (.if_icmp .ne 5, 3) := by decide +kernel
theorem dX3_readNumbers_42 : decode cX3_readNumbers 42 = .ok (.iconst 1, 1) := by decide +kernel
theorem dX3_readNumbers_43 : decode cX3_readNumbers 43 = .ok (.ireturn, 1) := by decide +kernel
theorem dX3_readNumbers_44 : decode cX3_readNumbers 44 = .ok (.aload_n 0, 1) := by decide +kernel
theorem dX3_readNumbers_45 : decode cX3_readNumbers 45 = .ok (.getfield 12, 3) := by decide +kernel
theorem dX3_readNumbers_48 : decode cX3_readNumbers 48 = .ok (.invokevirtual 25, 3) := by decide +kernel
theorem dX3_readNumbers_51 : decode cX3_readNumbers 51 = .ok (.iload_n 1, 1) := by decide +kernel
theorem dX3_readNumbers_52 : decode cX3_readNumbers 52 = .ok (.iconst 2, 1) := by decide +kernel
theorem dX3_readNumbers_53 : decode cX3_readNumbers 53 = .ok (.if_icmp .ne 16, 3) := by decide +kernel
theorem dX3_readNumbers_56 : decode cX3_readNumbers 56 = .ok (.aload_n 0, 1) := by decide +kernel
theorem dX3_readNumbers_57 : decode cX3_readNumbers 57 = .ok (.getfield 12, 3) := by decide +kernel
theorem dX3_readNumbers_60 : decode cX3_readNumbers 60 = .ok (.invokevirtual 77, 3) := by decide +kernel
theorem dX3_readNumbers_63 : decode cX3_readNumbers 63 = .ok (.ifCond .ne 18, 3) := by decide +kernel
theorem dX3_readNumbers_66 : decode cX3_readNumbers 66 = .ok (.goto 13, 3) := by decide +kernel
theorem dX3_readNumbers_69 : decode cX3_readNumbers 69 = .ok (.aload_n 0, 1) := by decide +kernel
theorem dX3_readNumbers_70 : decode cX3_readNumbers 70 = .ok (.getfield 12, 3) := by decide +kernel
theorem dX3_readNumbers_73 : decode cX3_readNumbers 73 = .ok (.invokevirtual 84, 3) := by decide +kernel
theorem dX3_readNumbers_76 : decode cX3_readNumbers 76 = .ok (.ifCond .ne 5, 3) := by decide +kernel
theorem dX3_readNumbers_79 : decode cX3_readNumbers 79 = .ok (.iconst 0, 1) := by decide +kernel
theorem dX3_readNumbers_80 : decode cX3_readNumbers 80 = .ok (.ireturn, 1) := by decide +kernel
theorem dX3_readNumbers_81 : decode cX3_readNumbers 81 = .ok (.aload_n 0, 1) := by decide +kernel
theorem dX3_readNumbers_82 : decode cX3_readNumbers 82 = .ok (.aload_n 0, 1) := by decide +kernel
theorem dX3_readNumbers_83 : decode cX3_readNumbers 83 = .ok (.getfield 12, 3) := by decide +kernel
theorem dX3_readNumbers_86 : decode cX3_readNumbers 86 = .ok (.invokevirtual 80, 3) := by decide +kernel
theorem dX3_readNumbers_89 : decode cX3_readNumbers 89 = .ok (.putfield 54, 3) := by decide +kernel
theorem dX3_readNumbers_92 : decode cX3_readNumbers 92 = .ok (.iconst 1, 1) := by decide +kernel
theorem dX3_readNumbers_93 : decode cX3_readNumbers 93 = .ok (.ireturn, 1) := by decide +kernel
theorem dX3_readSemicolon_0 : decode cX3_readSemicolon 0 = .ok (.aload_n 0, 1) := by decide +kernel
theorem dX3_readSemicolon_1 : decode cX3_readSemicolon 1 = .ok (.getfield 12, 3) := by decide +kernel
theorem dX3_readSemicolon_4 : decode cX3_readSemicolon 4 = .ok (.invokevirtual 25, 3) := by decide +kernel
theorem dX3_readSemicolon_7 : decode cX3_readSemicolon 7 = .ok (.aload_n 0, 1) := by decide +kernel
theorem dX3_readSemicolon_8 : decode cX3_readSemicolon 8 = .ok (.getfield 12, 3) := by decide +kernel
theorem dX3_readSemicolon_11 : decode cX3_readSemicolon 11 = .ok (.invokevirtual 87, 3) := by decide +kernel
theorem dX3_readSemicolon_14 : decode cX3_readSemicolon 14 = .ok (.ireturn, 1) := by decide +kernel
theorem dX3_fail_0 : decode cX3_fail 0 = .ok (.aload_n 0, 1) := by decide +kernel
theorem dX3_fail_1 : decode cX3_fail 1 = .ok (.iload_n 1, 1) := by decide +kernel
theorem dX3_fail_2 : decode cX3_fail 2 = .ok (.putfield 18, 3) := by decide +kernel
theorem dX3_fail_5 : decode cX3_fail 5 = .ok (.aload_n 0, 1) := by decide +kernel
theorem dX3_fail_6 : decode cX3_fail 6 = .ok (.iload_n 2, 1) := by decide +kernel
theorem dX3_fail_7 : decode cX3_fail 7 = .ok (.putfield 90, 3) := by decide +kernel
theorem dX3_fail_10 : decode cX3_fail 10 = .ok (.aload_n 0, 1) := by decide +kernel
theorem dX3_fail_11 : decode cX3_fail 11 = .ok (.iload_n 3, 1) := by decide +kernel
theorem dX3_fail_12 : decode cX3_fail 12 = .ok (.putfield 93, 3) := by decide +kernel
theorem dX3_fail_15 : decode cX3_fail 15 = .ok (.aload_n 0, 1) := by decide +kernel
theorem dX3_fail_16 : decode cX3_fail 16 = .ok (.iload 4, 2) := by decide +kernel
theorem dX3_fail_18 : decode cX3_fail 18 = .ok (.putfield 96, 3) := by decide +kernel
theorem dX3_fail_21 : decode cX3_fail 21 = .ok (.bipush (-9), 2) := by decide +kernel
theorem dX3_fail_23 : decode cX3_fail 23 = .ok (.ireturn, 1) := by decide +kernel
theorem dX4_init_0 : decode cX4_init 0 = .ok (.aload_n 0, 1) := by decide +kernel
theorem dX4_init_1 : decode cX4_init 1 = .ok (.invokespecial 3, 3) := by decide +kernel
theorem dX4_init_4 : decode cX4_init 4 = .ok (.aload_n 0, 1) := by decide +kernel
theorem dX4_init_5 : decode cX4_init 5 = .ok (.new 9, 3) := by decide +kernel
theorem dX4_init_8 : decode cX4_init 8 = .ok (.dup, 1) := by decide +kernel
theorem dX4_init_9 : decode cX4_init 9 = .ok (.invokespecial 11, 3) := by decide +kernel
theorem dX4_init_12 : decode cX4_init 12 = .ok (.putfield 12, 3) := by decide +kernel
theorem dX4_init_15 : decode cX4_init 15 = .ok (.aload_n 0, 1) := by decide +kernel
theorem dX4_init_16 : decode cX4_init 16 = .ok (.bipush 40, 2) := by decide +kernel
theorem dX4_init_18 : decode cX4_init 18 = .ok (.newarray .int, 2) := by decide +kernel
theorem dX4_init_20 : decode cX4_init 20 = .ok (.putfield 18, 3) := by decide +kernel
theorem dX4_init_23 : decode cX4_init 23 = .ok (.aload_n 0, 1) := by decide +kernel
theorem dX4_init_24 : decode cX4_init 24 = .ok (.sipush 480, 3) := by decide +kernel
theorem dX4_init_27 : decode cX4_init 27 = .ok (.newarray .int, 2) := by decide +kernel
theorem dX4_init_29 : decode cX4_init 29 = .ok (.putfield 22, 3) := by decide +kernel
theorem dX4_init_32 : decode cX4_init 32 = .ok (.aload_n 0, 1) := by decide +kernel
theorem dX4_init_33 : decode cX4_init 33 = .ok (.sipush 480, 3) := by decide +kernel
theorem dX4_init_36 : decode cX4_init 36 = .ok (.newarray .int, 2) := by decide +kernel
theorem dX4_init_38 : decode cX4_init 38 = .ok (.putfield 25, 3) := by decide +kernel
theorem dX4_init_41 : decode cX4_init 41 = .ok (.aload_n 0, 1) := by decide +kernel
theorem dX4_init_42 : decode cX4_init 42 = .ok (.sipush 480, 3) := by decide +kernel
theorem dX4_init_45 : decode cX4_init 45 = .ok (.newarray .int, 2) := by decide +kernel
theorem dX4_init_47 : decode cX4_init 47 = .ok (.putfield 28, 3) := by decide +kernel
theorem dX4_init_50 : decode cX4_init 50 = .ok (.aload_n 0, 1) := by decide +kernel
theorem dX4_init_51 : decode cX4_init 51 = .ok (.sipush 480, 3) := by decide +kernel
theorem dX4_init_54 : decode cX4_init 54 = .ok (.newarray .int, 2) := by decide +kernel
theorem dX4_init_56 : decode cX4_init 56 = .ok (.putfield 31, 3) := by decide +kernel
theorem dX4_init_59 : decode cX4_init 59 = .ok (.aload_n 0, 1) := by decide +kernel
theorem dX4_init_60 : decode cX4_init 60 = .ok (.sipush 480, 3) := by decide +kernel
theorem dX4_init_63 : decode cX4_init 63 = .ok (.newarray .int, 2) := by decide +kernel
theorem dX4_init_65 : decode cX4_init 65 = .ok (.putfield 34, 3) := by decide +kernel
theorem dX4_init_68 : decode cX4_init 68 = .ok (.aload_n 0, 1) := by decide +kernel
theorem dX4_init_69 : decode cX4_init 69 = .ok (.sipush 480, 3) := by decide +kernel
theorem dX4_init_72 : decode cX4_init 72 = .ok (.newarray .int, 2) := by decide +kernel
theorem dX4_init_74 : decode cX4_init 74 = .ok (.putfield 37, 3) := by decide +kernel
theorem dX4_init_77 : decode cX4_init 77 = .ok (.aload_n 0, 1) := by decide +kernel
theorem dX4_init_78 : decode cX4_init 78 = .ok (.sipush 480, 3) := by decide +kernel
theorem dX4_init_81 : decode cX4_init 81 = .ok (.newarray .int, 2) := by decide +kernel
theorem dX4_init_83 : decode cX4_init 83 = .ok (.putfield 40, 3) := by decide +kernel
theorem dX4_init_86 : decode cX4_init 86 = .ok (.aload_n 0, 1) := by decide +kernel
theorem dX4_init_87 : decode cX4_init 87 = .ok (.sipush 480, 3) := by decide +kernel
theorem dX4_init_90 : decode cX4_init 90 = .ok (.newarray .int, 2) := by decide +kernel
theorem dX4_init_92 : decode cX4_init 92 = .ok (.putfield 43, 3) := by decide +kernel
theorem dX4_init_95 : decode cX4_init 95 = .ok (.aload_n 0, 1) := by decide +kernel
theorem dX4_init_96 : decode cX4_init 96 = .ok (.sipush 480, 3) := by decide +kernel
theorem dX4_init_99 : decode cX4_init 99 = .ok (.newarray .int, 2) := by decide +kernel
theorem dX4_init_101 : decode cX4_init 101 = .ok (.putfield 46, 3) := by decide +kernel
theorem dX4_init_104 : decode cX4_init 104 = .ok (.aload_n 0, 1) := by decide +kernel
theorem dX4_init_105 : decode cX4_init 105 = .ok (.bipush 40, 2) := by decide +kernel
theorem dX4_init_107 : decode cX4_init 107 = .ok (.newarray .int, 2) := by decide +kernel
theorem dX4_init_109 : decode cX4_init 109 = .ok (.putfield 49, 3) := by decide +kernel
theorem dX4_init_112 : decode cX4_init 112 = .ok (.aload_n 0, 1) := by decide +kernel
theorem dX4_init_113 : decode cX4_init 113 = .ok (.bipush 40, 2) := by decide +kernel
theorem dX4_init_115 : decode cX4_init 115 = .ok (.newarray .int, 2) := by decide +kernel
theorem dX4_init_117 : decode cX4_init 117 = .ok (.putfield 52, 3) := by decide +kernel
theorem dX4_init_120 : decode cX4_init 120 = .ok (.aload_n 0, 1) := by decide +kernel
theorem dX4_init_121 : decode cX4_init 121 = .ok (.bipush 40, 2) := by decide +kernel
theorem dX4_init_123 : decode cX4_init 123 = .ok (.newarray .boolean, 2) := by decide +kernel
theorem dX4_init_125 : decode cX4_init 125 = .ok (.putfield 55, 3) := by decide +kernel
theorem dX4_init_128 : decode cX4_init 128 = .ok (.aload_n 0, 1) := by decide +kernel
theorem dX4_init_129 : decode cX4_init 129 = .ok (.bipush 40, 2) := by decide +kernel
theorem dX4_init_131 : decode cX4_init 131 = .ok (.newarray .int, 2) := by decide +kernel
theorem dX4_init_133 : decode cX4_init 133 = .ok (.putfield 59, 3) := by decide +kernel
theorem dX4_init_136 : decode cX4_init 136 = .ok (.return_, 1) := by decide +kernel
theorem dX4_workOut_0 : decode cX4_workOut 0 = .ok (.iconst 0, 1) := by decide +kernel
theorem dX4_workOut_1 : decode cX4_workOut 1 = .ok (.istore_n 1, 1) := by decide +kernel
theorem dX4_workOut_2 : decode cX4_workOut 2 = .ok (.iload_n 1, 1) := by decide +kernel
theorem dX4_workOut_3 : decode cX4_workOut 3 = .ok (.aload_n 0, 1) := by decide +kernel
theorem dX4_workOut_4 : decode cX4_workOut 4 = .ok (.getfield 12, 3) := by decide +kernel
theorem dX4_workOut_7 : decode cX4_workOut 7 = .ok (.getfield 62, 3) := by decide +kernel
theorem dX4_workOut_10 : decode cX4_workOut 10 = .ok (.if_icmp .ge 25, 3) := by decide +kernel
theorem dX4_workOut_13 : decode cX4_workOut 13 = .ok (.aload_n 0, 1) := by decide +kernel
theorem dX4_workOut_14 : decode cX4_workOut 14 = .ok (.getfield 18, 3) := by decide +kernel
theorem dX4_workOut_17 : decode cX4_workOut 17 = .ok (.iload_n 1, 1) := by decide +kernel
theorem dX4_workOut_18 : decode cX4_workOut 18 = .ok (.aload_n 0, 1) := by decide +kernel
theorem dX4_workOut_19 : decode cX4_workOut 19 = .ok (.iload_n 1, 1) := by decide +kernel
theorem dX4_workOut_20 : decode cX4_workOut 20 = .ok (.invokevirtual 66, 3) := by decide +kernel
theorem dX4_workOut_23 : decode cX4_workOut 23 = .ok (.iastore, 1) := by decide +kernel
theorem dX4_workOut_24 : decode cX4_workOut 24 = .ok (.aload_n 0, 1) := by decide +kernel
theorem dX4_workOut_25 : decode cX4_workOut 25 = .ok (.iload_n 1, 1) := by decide +kernel
theorem dX4_workOut_26 : decode cX4_workOut 26 = .ok (.invokevirtual 70, 3) := by decide +kernel
theorem dX4_workOut_29 : decode cX4_workOut 29 = .ok (.iinc 1 1, 3) := by decide +kernel
theorem dX4_workOut_32 : decode cX4_workOut 32 = .ok (.goto (-30), 3) := by decide +kernel
theorem dX4_workOut_35 : decode cX4_workOut 35 = .ok (.iconst 0, 1) := by decide +kernel
theorem dX4_workOut_36 : decode cX4_workOut 36 = .ok (.istore_n 1, 1) := by decide +kernel
theorem dX4_workOut_37 : decode cX4_workOut 37 = .ok (.iload_n 1, 1) := by decide +kernel
theorem dX4_workOut_38 : decode cX4_workOut 38 = .ok (.bipush 12, 2) := by decide +kernel
theorem dX4_workOut_40 : decode cX4_workOut 40 = .ok (.if_icmp .ge 19, 3) := by decide +kernel
theorem dX4_workOut_43 : decode cX4_workOut 43 = .ok (.aload_n 0, 1) := by decide +kernel
theorem dX4_workOut_44 : decode cX4_workOut 44 = .ok (.iload_n 1, 1) := by decide +kernel
theorem dX4_workOut_45 : decode cX4_workOut 45 = .ok (.invokevirtual 74, 3) := by decide +kernel
theorem dX4_workOut_48 : decode cX4_workOut 48 = .ok (.aload_n 0, 1) := by decide +kernel
theorem dX4_workOut_49 : decode cX4_workOut 49 = .ok (.iload_n 1, 1) := by decide +kernel
theorem dX4_workOut_50 : decode cX4_workOut 50 = .ok (.invokevirtual 77, 3) := by decide +kernel
theorem dX4_workOut_53 : decode cX4_workOut 53 = .ok (.iinc 1 1, 3) := by decide +kernel
theorem dX4_workOut_56 : decode cX4_workOut 56 = .ok (.goto (-19), 3) := by decide +kernel
theorem dX4_workOut_59 : decode cX4_workOut 59 = .ok (.aload_n 0, 1) := by decide +kernel
theorem dX4_workOut_60 : decode cX4_workOut 60 = .ok (.aload_n 0, 1) := by decide +kernel
theorem dX4_workOut_61 : decode cX4_workOut 61 = .ok (.getfield 12, 3) := by decide +kernel
theorem dX4_workOut_64 : decode cX4_workOut 64 = .ok (.getfield 80, 3) := by decide +kernel
theorem dX4_workOut_67 : decode cX4_workOut 67 = .ok (.iconst 0, 1) := by decide +kernel
theorem dX4_workOut_68 : decode cX4_workOut 68 = .ok (.iaload, 1) := by decide +kernel
theorem dX4_workOut_69 : decode cX4_workOut 69 = .ok (.invokevirtual 83, 3) := by decide +kernel
theorem dX4_workOut_72 : decode cX4_workOut 72 = .ok (.aload_n 0, 1) := by decide +kernel
theorem dX4_workOut_73 : decode cX4_workOut 73 = .ok (.invokevirtual 86, 3) := by decide +kernel
theorem dX4_workOut_76 : decode cX4_workOut 76 = .ok (.return_, 1) := by decide +kernel
theorem dX4_previousOf_0 : decode cX4_previousOf 0 = .ok (.iload_n 1, 1) := by decide +kernel
theorem dX4_previousOf_1 : decode cX4_previousOf 1 = .ok (.iconst 1, 1) := by decide +kernel
theorem dX4_previousOf_2 : decode cX4_previousOf 2 = .ok (.isub, 1) := by decide +kernel
theorem dX4_previousOf_3 : decode cX4_previousOf 3 = .ok (.istore_n 2, 1) := by decide +kernel
theorem dX4_previousOf_4 : decode cX4_previousOf 4 = .ok (.iload_n 2, 1) := by decide +kernel
theorem dX4_previousOf_5 : decode cX4_previousOf 5 = .ok (.ifCond .lt 57, 3) := by decide +kernel
theorem dX4_previousOf_8 : decode cX4_previousOf 8 = .ok (.aload_n 0, 1) := by decide +kernel
theorem dX4_previousOf_9 : decode cX4_previousOf 9 = .ok (.getfield 12, 3) := by decide +kernel
theorem dX4_previousOf_12 : decode cX4_previousOf 12 = .ok (.getfield 89, 3) := by decide +kernel
theorem dX4_previousOf_15 : decode cX4_previousOf 15 = .ok (.iload_n 2, 1) := by decide +kernel
theorem dX4_previousOf_16 : decode cX4_previousOf 16 = .ok (.iaload, 1) := by decide +kernel
theorem dX4_previousOf_17 : decode cX4_previousOf 17 = .ok (.aload_n 0, 1) := by decide +kernel
theorem dX4_previousOf_18 : decode cX4_previousOf 18 = .ok (.getfield 12, 3) := by decide +kernel
theorem dX4_previousOf_21 : decode cX4_previousOf 21 = .ok (.getfield 89, 3) := by decide +kernel
theorem dX4_previousOf_24 : decode cX4_previousOf 24 = .ok (.iload_n 1, 1) := by decide +kernel
theorem dX4_previousOf_25 : decode cX4_previousOf 25 = .ok (.iaload, 1) := by decide +kernel
theorem dX4_previousOf_26 : decode cX4_previousOf 26 = .ok (.if_icmp .ne 30, 3) := by decide +kernel
theorem dX4_previousOf_29 : decode cX4_previousOf 29 = .ok (.aload_n 0, 1) := by decide +kernel
theorem dX4_previousOf_30 : decode cX4_previousOf 30 = .ok (.getfield 12, 3) := by decide +kernel
theorem dX4_previousOf_33 : decode cX4_previousOf 33 = .ok (.getfield 92, 3) := by decide +kernel
theorem dX4_previousOf_36 : decode cX4_previousOf 36 = .ok (.iload_n 2, 1) := by decide +kernel
theorem dX4_previousOf_37 : decode cX4_previousOf 37 = .ok (.iaload, 1) := by decide +kernel
theorem dX4_previousOf_38 : decode cX4_previousOf 38 = .ok (.aload_n 0, 1) := by decide +kernel
theorem dX4_previousOf_39 : decode cX4_previousOf 39 = .ok (.getfield 12, 3) := by decide +kernel
theorem dX4_previousOf_42 : decode cX4_previousOf 42 = .ok (.getfield 92, 3) := by decide +kernel
theorem dX4_previousOf_45 : decode cX4_previousOf 45 = .ok (.iload_n 1, 1) := by decide +kernel
theorem dX4_previousOf_46 : decode cX4_previousOf 46 = .ok (.iaload, 1) := by decide +kernel
theorem dX4_previousOf_47 : decode cX4_previousOf 47 = .ok (.if_icmp .ne 7, 3) := by decide +kernel
theorem dX4_previousOf_50 : decode cX4_previousOf 50 = .ok (.iload_n 2, 1) := by decide +kernel
theorem dX4_previousOf_51 : decode cX4_previousOf 51 = .ok (.goto 4, 3) := by decide +kernel
theorem dX4_previousOf_54 : decode cX4_previousOf 54 = .ok (.iconst (-1), 1) := by decide +kernel
theorem dX4_previousOf_55 : decode cX4_previousOf 55 = .ok (.ireturn, 1) := by decide +kernel
theorem dX4_previousOf_56 : decode cX4_previousOf 56 = .ok (.iinc 2 (-1), 3) := by decide +kernel
theorem dX4_previousOf_59 : decode cX4_previousOf 59 = .ok (.goto (-55), 3) := by decide +kernel
theorem dX4_previousOf_62 : decode cX4_previousOf 62 = .ok (.iconst (-1), 1) := by decide +kernel
theorem dX4_previousOf_63 : decode cX4_previousOf 63 = .ok (.ireturn, 1) := by decide +kernel
theorem dX4_readDigits_0 : decode cX4_readDigits 0 = .ok (.iconst 0, 1) := by decide +kernel
theorem dX4_readDigits_1 : decode cX4_readDigits 1 = .ok (.istore_n 2, 1) := by decide +kernel
theorem dX4_readDigits_2 : decode cX4_readDigits 2 = .ok (.iload_n 2, 1) := by decide +kernel
theorem dX4_readDigits_3 : decode cX4_readDigits 3 = .ok (.bipush 12, 2) := by decide +kernel
theorem dX4_readDigits_5 : decode cX4_readDigits 5 = .ok (.if_icmp .ge 68, 3) := by decide +kernel
theorem dX4_readDigits_8 : decode cX4_readDigits 8 = .ok (.iload_n 1, 1) := by decide +kernel
theorem dX4_readDigits_9 : decode cX4_readDigits 9 = .ok (.bipush 12, 2) := by decide +kernel
theorem dX4_readDigits_11 : decode cX4_readDigits 11 = .ok (.imul, 1) := by decide +kernel
theorem dX4_readDigits_12 : decode cX4_readDigits 12 = .ok (.iload_n 2, 1) := by decide +kernel
theorem dX4_readDigits_13 : decode cX4_readDigits 13 = .ok (.iadd, 1) := by decide +kernel
theorem dX4_readDigits_14 : decode cX4_readDigits 14 = .ok (.istore_n 3, 1) := by decide +kernel
theorem dX4_readDigits_15 : decode cX4_readDigits 15 = .ok (.aload_n 0, 1) := by decide +kernel
theorem dX4_readDigits_16 : decode cX4_readDigits 16 = .ok (.getfield 22, 3) := by decide +kernel
theorem dX4_readDigits_19 : decode cX4_readDigits 19 = .ok (.iload_n 3, 1) := by decide +kernel
theorem dX4_readDigits_20 : decode cX4_readDigits 20 = .ok (.aload_n 0, 1) := by decide +kernel
theorem dX4_readDigits_21 : decode cX4_readDigits 21 = .ok (.getfield 12, 3) := by decide +kernel
theorem dX4_readDigits_24 : decode cX4_readDigits 24 = .ok (.getfield 95, 3) := by decide +kernel
theorem dX4_readDigits_27 : decode cX4_readDigits 27 = .ok (.iload_n 1, 1) := by decide +kernel
theorem dX4_readDigits_28 : decode cX4_readDigits 28 = .ok (.laload, 1) := by decide +kernel
theorem dX4_readDigits_29 : decode cX4_readDigits 29 = .ok (.getstatic 99, 3) := by decide +kernel
theorem dX4_readDigits_32 : decode cX4_readDigits 32 = .ok (.iload_n 2, 1) := by decide +kernel
theorem dX4_readDigits_33 : decode cX4_readDigits 33 = .ok (.laload, 1) := by decide +kernel
theorem dX4_readDigits_34 : decode cX4_readDigits 34 = .ok (.ldiv, 1) := by decide +kernel
theorem dX4_readDigits_35 : decode cX4_readDigits 35 = .ok (.ldc2_w 102, 3) := by decide +kernel
theorem dX4_readDigits_38 : decode cX4_readDigits 38 = .ok (.lrem, 1) := by decide +kernel
theorem dX4_readDigits_39 : decode cX4_readDigits 39 = .ok (.l2i, 1) := by decide +kernel
theorem dX4_readDigits_40 : decode cX4_readDigits 40 = .ok (.iastore, 1) := by decide +kernel
theorem dX4_readDigits_41 : decode cX4_readDigits 41 = .ok (.aload_n 0, 1) := by decide +kernel
theorem dX4_readDigits_42 : decode cX4_readDigits 42 = .ok (.getfield 25, 3) := by decide +kernel
theorem dX4_readDigits_45 : decode cX4_readDigits 45 = .ok (.iload_n 3, 1) := by decide +kernel
theorem dX4_readDigits_46 : decode cX4_readDigits 46 = .ok (.aload_n 0, 1) := by decide +kernel
theorem dX4_readDigits_47 : decode cX4_readDigits 47 = .ok (.getfield 12, 3) := by decide +kernel
theorem dX4_readDigits_50 : decode cX4_readDigits 50 = .ok (.getfield 104, 3) := by decide +kernel
theorem dX4_readDigits_53 : decode cX4_readDigits 53 = .ok (.iload_n 1, 1) := by decide +kernel
theorem dX4_readDigits_54 : decode cX4_readDigits 54 = .ok (.laload, 1) := by decide +kernel
theorem dX4_readDigits_55 : decode cX4_readDigits 55 = .ok (.getstatic 99, 3) := by decide +kernel
theorem dX4_readDigits_58 : decode cX4_readDigits 58 = .ok (.iload_n 2, 1) := by decide +kernel
theorem dX4_readDigits_59 : decode cX4_readDigits 59 = .ok (.laload, 1) := by decide +kernel
theorem dX4_readDigits_60 : decode cX4_readDigits 60 = .ok (.ldiv, 1) := by decide +kernel
theorem dX4_readDigits_61 : decode cX4_readDigits 61 = .ok (.ldc2_w 102, 3) := by decide +kernel
theorem dX4_readDigits_64 : decode cX4_readDigits 64 = .ok (.lrem, 1) := by decide +kernel
theorem dX4_readDigits_65 : decode cX4_readDigits 65 = .ok (.l2i, 1) := by decide +kernel
theorem dX4_readDigits_66 : decode cX4_readDigits 66 = .ok (.iastore, 1) := by decide +kernel
theorem dX4_readDigits_67 : decode cX4_readDigits 67 = .ok (.iinc 2 1, 3) := by decide +kernel
theorem dX4_readDigits_70 : decode cX4_readDigits 70 = .ok (.goto (-68), 3) := by decide +kernel
theorem dX4_readDigits_73 : decode cX4_readDigits 73 = .ok (.return_, 1) := by decide +kernel
theorem dX4_growRuns_0 : decode cX4_growRuns 0 = .ok (.iconst 0, 1) := by decide +kernel
theorem dX4_growRuns_1 : decode cX4_growRuns 1 = .ok (.istore_n 2, 1) := by decide +kernel
theorem dX4_growRuns_2 : decode cX4_growRuns 2 = .ok (.iload_n 2, 1) := by decide +kernel
theorem dX4_growRuns_3 : decode cX4_growRuns 3 = .ok (.aload_n 0, 1) := by decide +kernel
theorem dX4_growRuns_4 : decode cX4_growRuns 4 = .ok (.getfield 12, 3) := by decide +kernel
theorem dX4_growRuns_7 : decode cX4_growRuns 7 = .ok (.getfield 62, 3) := by decide +kernel
theorem dX4_growRuns_10 : decode cX4_growRuns 10 = .ok (.if_icmp .ge 153, 3) := by decide +kernel
theorem dX4_growRuns_13 : decode cX4_growRuns 13 = .ok (.iload_n 2, 1) := by decide +kernel
theorem dX4_growRuns_14 : decode cX4_growRuns 14 = .ok (.bipush 12, 2) := by decide +kernel
theorem dX4_growRuns_16 : decode cX4_growRuns 16 = .ok (.imul, 1) := by decide +kernel
theorem dX4_growRuns_17 : decode cX4_growRuns 17 = .ok (.iload_n 1, 1) := by decide +kernel
theorem dX4_growRuns_18 : decode cX4_growRuns 18 = .ok (.iadd, 1) := by decide +kernel
theorem dX4_growRuns_19 : decode cX4_growRuns 19 = .ok (.istore_n 3, 1) := by decide +kernel
theorem dX4_growRuns_20 : decode cX4_growRuns 20 = .ok (.aload_n 0, 1) := by decide +kernel
theorem dX4_growRuns_21 : decode cX4_growRuns 21 = .ok (.getfield 28, 3) := by decide +kernel
theorem dX4_growRuns_24 : decode cX4_growRuns 24 = .ok (.iload_n 3, 1) := by decide +kernel
theorem dX4_growRuns_25 : decode cX4_growRuns 25 = .ok (.iload_n 2, 1) := by decide +kernel
theorem dX4_growRuns_26 : decode cX4_growRuns 26 = .ok (.iastore, 1) := by decide +kernel
theorem dX4_growRuns_27 : decode cX4_growRuns 27 = .ok (.aload_n 0, 1) := by decide +kernel
theorem dX4_growRuns_28 : decode cX4_growRuns 28 = .ok (.getfield 31, 3) := by decide +kernel
theorem dX4_growRuns_31 : decode cX4_growRuns 31 = .ok (.iload_n 3, 1) := by decide +kernel
theorem dX4_growRuns_32 : decode cX4_growRuns 32 = .ok (.iload_n 2, 1) := by decide +kernel
theorem dX4_growRuns_33 : decode cX4_growRuns 33 = .ok (.iastore, 1) := by decide +kernel
theorem dX4_growRuns_34 : decode cX4_growRuns 34 = .ok (.aload_n 0, 1) := by decide +kernel
theorem dX4_growRuns_35 : decode cX4_growRuns 35 = .ok (.getfield 34, 3) := by decide +kernel
theorem dX4_growRuns_38 : decode cX4_growRuns 38 = .ok (.iload_n 3, 1) := by decide +kernel
theorem dX4_growRuns_39 : decode cX4_growRuns 39 = .ok (.aload_n 0, 1) := by decide +kernel
theorem dX4_growRuns_40 : decode cX4_growRuns 40 = .ok (.getfield 22, 3) := by decide +kernel
theorem dX4_growRuns_43 : decode cX4_growRuns 43 = .ok (.iload_n 3, 1) := by decide +kernel
theorem dX4_growRuns_44 : decode cX4_growRuns 44 = .ok (.iaload, 1) := by decide +kernel
theorem dX4_growRuns_45 : decode cX4_growRuns 45 = .ok (.ifCond .le 7, 3) := by decide +kernel
theorem dX4_growRuns_48 : decode cX4_growRuns 48 = .ok (.iconst 1, 1) := by decide +kernel
theorem dX4_growRuns_49 : decode cX4_growRuns 49 = .ok (.goto 4, 3) := by decide +kernel
theorem dX4_growRuns_52 : decode cX4_growRuns 52 = .ok (.iconst 0, 1) := by decide +kernel
theorem dX4_growRuns_53 : decode cX4_growRuns 53 = .ok (.iastore, 1) := by decide +kernel
theorem dX4_growRuns_54 : decode cX4_growRuns 54 = .ok (.aload_n 0, 1) := by decide +kernel
theorem dX4_growRuns_55 : decode cX4_growRuns 55 = .ok (.getfield 37, 3) := by decide +kernel
theorem dX4_growRuns_58 : decode cX4_growRuns 58 = .ok (.iload_n 3, 1) := by decide +kernel
theorem dX4_growRuns_59 : decode cX4_growRuns 59 = .ok (.aload_n 0, 1) := by decide +kernel
theorem dX4_growRuns_60 : decode cX4_growRuns 60 = .ok (.iload_n 2, 1) := by decide +kernel
theorem dX4_growRuns_61 : decode cX4_growRuns 61 = .ok (.iload_n 3, 1) := by decide +kernel
theorem dX4_growRuns_62 : decode cX4_growRuns 62 = .ok (.invokevirtual 107, 3) := by decide +kernel
theorem dX4_growRuns_65 : decode cX4_growRuns 65 = .ok (.iastore, 1) := by decide +kernel
theorem dX4_growRuns_66 : decode cX4_growRuns 66 = .ok (.aload_n 0, 1) := by decide +kernel
theorem dX4_growRuns_67 : decode cX4_growRuns 67 = .ok (.getfield 18, 3) := by decide +kernel
theorem dX4_growRuns_70 : decode cX4_growRuns 70 = .ok (.iload_n 2, 1) := by decide +kernel
theorem dX4_growRuns_71 : decode cX4_growRuns 71 = .ok (.iaload, 1) := by decide +kernel
theorem dX4_growRuns_72 : decode cX4_growRuns 72 = .ok (.bipush 12, 2) := by decide +kernel
theorem dX4_growRuns_74 : decode cX4_growRuns 74 = .ok (.imul, 1) := by decide +kernel
theorem dX4_growRuns_75 : decode cX4_growRuns 75 = .ok (.iload_n 1, 1) := by decide +kernel
theorem dX4_growRuns_76 : decode cX4_growRuns 76 = .ok (.iadd, 1) := by decide +kernel
theorem dX4_growRuns_77 : decode cX4_growRuns 77 = .ok (.istore 4, 2) := by decide +kernel
theorem dX4_growRuns_79 : decode cX4_growRuns 79 = .ok (.aload_n 0, 1) := by decide +kernel
theorem dX4_growRuns_80 : decode cX4_growRuns 80 = .ok (.getfield 18, 3) := by decide +kernel
theorem dX4_growRuns_83 : decode cX4_growRuns 83 = .ok (.iload_n 2, 1) := by decide +kernel
theorem dX4_growRuns_84 : decode cX4_growRuns 84 = .ok (.iaload, 1) := by decide +kernel
theorem dX4_growRuns_85 : decode cX4_growRuns 85 = .ok (.ifCond .lt 72, 3) := by decide +kernel
theorem dX4_growRuns_88 : decode cX4_growRuns 88 = .ok (.aload_n 0, 1) := by decide +kernel
theorem dX4_growRuns_89 : decode cX4_growRuns 89 = .ok (.getfield 22, 3) := by decide +kernel
theorem dX4_growRuns_92 : decode cX4_growRuns 92 = .ok (.iload 4, 2) := by decide +kernel
theorem dX4_growRuns_94 : decode cX4_growRuns 94 = .ok (.iaload, 1) := by decide +kernel
theorem dX4_growRuns_95 : decode cX4_growRuns 95 = .ok (.ifCond .le 62, 3) := by decide +kernel
theorem dX4_growRuns_98 : decode cX4_growRuns 98 = .ok (.aload_n 0, 1) := by decide +kernel
theorem dX4_growRuns_99 : decode cX4_growRuns 99 = .ok (.getfield 22, 3) := by decide +kernel
theorem dX4_growRuns_102 : decode cX4_growRuns 102 = .ok (.iload_n 3, 1) := by decide +kernel
theorem dX4_growRuns_103 : decode cX4_growRuns 103 = .ok (.iaload, 1) := by decide +kernel
theorem dX4_growRuns_104 : decode cX4_growRuns 104 = .ok (.ifCond .le 53, 3) := by decide +kernel
theorem dX4_growRuns_107 : decode cX4_growRuns 107 = .ok (.aload_n 0, 1) := by decide +kernel
theorem dX4_growRuns_108 : decode cX4_growRuns 108 = .ok (.getfield 28, 3) := by decide +kernel
theorem dX4_growRuns_111 : decode cX4_growRuns 111 = .ok (.iload_n 3, 1) := by decide +kernel
theorem dX4_growRuns_112 : decode cX4_growRuns 112 = .ok (.aload_n 0, 1) := by decide +kernel
theorem dX4_growRuns_113 : decode cX4_growRuns 113 = .ok (.getfield 28, 3) := by decide +kernel
theorem dX4_growRuns_116 : decode cX4_growRuns 116 = .ok (.iload 4, 2) := by decide +kernel
theorem dX4_growRuns_118 : decode cX4_growRuns 118 = .ok (.iaload, 1) := by decide +kernel
theorem dX4_growRuns_119 : decode cX4_growRuns 119 = .ok (.iastore, 1) := by decide +kernel
theorem dX4_growRuns_120 : decode cX4_growRuns 120 = .ok (.aload_n 0, 1) := by decide +kernel
theorem dX4_growRuns_121 : decode cX4_growRuns 121 = .ok (.getfield 34, 3) := by decide +kernel
theorem dX4_growRuns_124 : decode cX4_growRuns 124 = .ok (.iload_n 3, 1) := by decide +kernel
theorem dX4_growRuns_125 : decode cX4_growRuns 125 = .ok (.aload_n 0, 1) := by decide +kernel
theorem dX4_growRuns_126 : decode cX4_growRuns 126 = .ok (.getfield 34, 3) := by decide +kernel
theorem dX4_growRuns_129 : decode cX4_growRuns 129 = .ok (.iload 4, 2) := by decide +kernel
theorem dX4_growRuns_131 : decode cX4_growRuns 131 = .ok (.iaload, 1) := by decide +kernel
theorem dX4_growRuns_132 : decode cX4_growRuns 132 = .ok (.iconst 1, 1) := by decide +kernel
theorem dX4_growRuns_133 : decode cX4_growRuns 133 = .ok (.iadd, 1) := by decide +kernel
theorem dX4_growRuns_134 : decode cX4_growRuns 134 = .ok (.iastore, 1) := by decide +kernel
theorem dX4_growRuns_135 : decode cX4_growRuns 135 = .ok (.aload_n 0, 1) := by decide +kernel
theorem dX4_growRuns_136 : decode cX4_growRuns 136 = .ok (.getfield 37, 3) := by decide +kernel
theorem dX4_growRuns_139 : decode cX4_growRuns 139 = .ok (.iload_n 3, 1) := by decide +kernel
theorem dX4_growRuns_140 : decode cX4_growRuns 140 = .ok (.aload_n 0, 1) := by decide +kernel
theorem dX4_growRuns_141 : decode cX4_growRuns 141 = .ok (.getfield 37, 3) := by decide +kernel
theorem dX4_growRuns_144 : decode cX4_growRuns 144 = .ok (.iload 4, 2) := by decide +kernel
theorem dX4_growRuns_146 : decode cX4_growRuns 146 = .ok (.iaload, 1) := by decide +kernel
theorem dX4_growRuns_147 : decode cX4_growRuns 147 = .ok (.aload_n 0, 1) := by decide +kernel
theorem dX4_growRuns_148 : decode cX4_growRuns 148 = .ok (.getfield 37, 3) := by decide +kernel
theorem dX4_growRuns_151 : decode cX4_growRuns 151 = .ok (.iload_n 3, 1) := by decide +kernel
theorem dX4_growRuns_152 : decode cX4_growRuns 152 = .ok (.iaload, 1) := by decide +kernel
theorem dX4_growRuns_153 : decode cX4_growRuns 153 = .ok (.invokestatic 111, 3) := by decide +kernel
theorem dX4_growRuns_156 : decode cX4_growRuns 156 = .ok (.iastore, 1) := by decide +kernel
theorem dX4_growRuns_157 : decode cX4_growRuns 157 = .ok (.iinc 2 1, 3) := by decide +kernel
theorem dX4_growRuns_160 : decode cX4_growRuns 160 = .ok (.goto (-158), 3) := by decide +kernel
theorem dX4_growRuns_163 : decode cX4_growRuns 163 = .ok (.return_, 1) := by decide +kernel
theorem dX4_closeRuns_0 : decode cX4_closeRuns 0 = .ok (.aload_n 0, 1) := by decide +kernel
theorem dX4_closeRuns_1 : decode cX4_closeRuns 1 = .ok (.getfield 12, 3) := by decide +kernel
theorem dX4_closeRuns_4 : decode cX4_closeRuns 4 = .ok (.getfield 62, 3) := by decide +kernel
theorem dX4_closeRuns_7 : decode cX4_closeRuns 7 = .ok (.iconst 1, 1) := by decide +kernel
theorem dX4_closeRuns_8 : decode cX4_closeRuns 8 = .ok (.isub, 1) := by decide +kernel
theorem dX4_closeRuns_9 : decode cX4_closeRuns 9 = .ok (.istore_n 2, 1) := by decide +kernel
theorem dX4_closeRuns_10 : decode cX4_closeRuns 10 = .ok (.iload_n 2, 1) := by decide +kernel
theorem dX4_closeRuns_11 : decode cX4_closeRuns 11 = .ok (.ifCond .lt 96, 3) := by decide +kernel
theorem dX4_closeRuns_14 : decode cX4_closeRuns 14 = .ok (.iload_n 2, 1) := by decide +kernel
theorem dX4_closeRuns_15 : decode cX4_closeRuns 15 = .ok (.bipush 12, 2) := by decide +kernel
theorem dX4_closeRuns_17 : decode cX4_closeRuns 17 = .ok (.imul, 1) := by decide +kernel
theorem dX4_closeRuns_18 : decode cX4_closeRuns 18 = .ok (.iload_n 1, 1) := by decide +kernel
theorem dX4_closeRuns_19 : decode cX4_closeRuns 19 = .ok (.iadd, 1) := by decide +kernel
theorem dX4_closeRuns_20 : decode cX4_closeRuns 20 = .ok (.istore_n 3, 1) := by decide +kernel
theorem dX4_closeRuns_21 : decode cX4_closeRuns 21 = .ok (.aload_n 0, 1) := by decide +kernel
theorem dX4_closeRuns_22 : decode cX4_closeRuns 22 = .ok (.getfield 18, 3) := by decide +kernel
theorem dX4_closeRuns_25 : decode cX4_closeRuns 25 = .ok (.iload_n 2, 1) := by decide +kernel
theorem dX4_closeRuns_26 : decode cX4_closeRuns 26 = .ok (.iaload, 1) := by decide +kernel
theorem dX4_closeRuns_27 : decode cX4_closeRuns 27 = .ok (.bipush 12, 2) := by decide +kernel
theorem dX4_closeRuns_29 : decode cX4_closeRuns 29 = .ok (.imul, 1) := by decide +kernel
theorem dX4_closeRuns_30 : decode cX4_closeRuns 30 = .ok (.iload_n 1, 1) := by decide +kernel
theorem dX4_closeRuns_31 : decode cX4_closeRuns 31 = .ok (.iadd, 1) := by decide +kernel
theorem dX4_closeRuns_32 : decode cX4_closeRuns 32 = .ok (.istore 4, 2) := by decide +kernel
theorem dX4_closeRuns_34 : decode cX4_closeRuns 34 = .ok (.aload_n 0, 1) := by decide +kernel
theorem dX4_closeRuns_35 : decode cX4_closeRuns 35 = .ok (.getfield 18, 3) := by decide +kernel
theorem dX4_closeRuns_38 : decode cX4_closeRuns 38 = .ok (.iload_n 2, 1) := by decide +kernel
theorem dX4_closeRuns_39 : decode cX4_closeRuns 39 = .ok (.iaload, 1) := by decide +kernel
theorem dX4_closeRuns_40 : decode cX4_closeRuns 40 = .ok (.ifCond .lt 61, 3) := by decide +kernel
theorem dX4_closeRuns_43 : decode cX4_closeRuns 43 = .ok (.aload_n 0, 1) := by decide +kernel
theorem dX4_closeRuns_44 : decode cX4_closeRuns 44 = .ok (.getfield 22, 3) := by decide +kernel
theorem dX4_closeRuns_47 : decode cX4_closeRuns 47 = .ok (.iload 4, 2) := by decide +kernel
theorem dX4_closeRuns_49 : decode cX4_closeRuns 49 = .ok (.iaload, 1) := by decide +kernel
theorem dX4_closeRuns_50 : decode cX4_closeRuns 50 = .ok (.ifCond .le 51, 3) := by decide +kernel
theorem dX4_closeRuns_53 : decode cX4_closeRuns 53 = .ok (.aload_n 0, 1) := by decide +kernel
theorem dX4_closeRuns_54 : decode cX4_closeRuns 54 = .ok (.getfield 22, 3) := by decide +kernel
theorem dX4_closeRuns_57 : decode cX4_closeRuns 57 = .ok (.iload_n 3, 1) := by decide +kernel
theorem dX4_closeRuns_58 : decode cX4_closeRuns 58 = .ok (.iaload, 1) := by decide +kernel
theorem dX4_closeRuns_59 : decode cX4_closeRuns 59 = .ok (.ifCond .le 42, 3) := by decide +kernel
theorem dX4_closeRuns_62 : decode cX4_closeRuns 62 = .ok (.aload_n 0, 1) := by decide +kernel
theorem dX4_closeRuns_63 : decode cX4_closeRuns 63 = .ok (.getfield 31, 3) := by decide +kernel
theorem dX4_closeRuns_66 : decode cX4_closeRuns 66 = .ok (.iload 4, 2) := by decide +kernel
theorem dX4_closeRuns_68 : decode cX4_closeRuns 68 = .ok (.aload_n 0, 1) := by decide +kernel
theorem dX4_closeRuns_69 : decode cX4_closeRuns 69 = .ok (.getfield 31, 3) := by decide +kernel
theorem dX4_closeRuns_72 : decode cX4_closeRuns 72 = .ok (.iload_n 3, 1) := by decide +kernel
theorem dX4_closeRuns_73 : decode cX4_closeRuns 73 = .ok (.iaload, 1) := by decide +kernel
theorem dX4_closeRuns_74 : decode cX4_closeRuns 74 = .ok (.iastore, 1) := by decide +kernel
theorem dX4_closeRuns_75 : decode cX4_closeRuns 75 = .ok (.aload_n 0, 1) := by decide +kernel
theorem dX4_closeRuns_76 : decode cX4_closeRuns 76 = .ok (.getfield 34, 3) := by decide +kernel
theorem dX4_closeRuns_79 : decode cX4_closeRuns 79 = .ok (.iload 4, 2) := by decide +kernel
theorem dX4_closeRuns_81 : decode cX4_closeRuns 81 = .ok (.aload_n 0, 1) := by decide +kernel
theorem dX4_closeRuns_82 : decode cX4_closeRuns 82 = .ok (.getfield 34, 3) := by decide +kernel
theorem dX4_closeRuns_85 : decode cX4_closeRuns 85 = .ok (.iload_n 3, 1) := by decide +kernel
theorem dX4_closeRuns_86 : decode cX4_closeRuns 86 = .ok (.iaload, 1) := by decide +kernel
theorem dX4_closeRuns_87 : decode cX4_closeRuns 87 = .ok (.iastore, 1) := by decide +kernel
theorem dX4_closeRuns_88 : decode cX4_closeRuns 88 = .ok (.aload_n 0, 1) := by decide +kernel
theorem dX4_closeRuns_89 : decode cX4_closeRuns 89 = .ok (.getfield 37, 3) := by decide +kernel
theorem dX4_closeRuns_92 : decode cX4_closeRuns 92 = .ok (.iload 4, 2) := by decide +kernel
theorem dX4_closeRuns_94 : decode cX4_closeRuns 94 = .ok (.aload_n 0, 1) := by decide +kernel
theorem dX4_closeRuns_95 : decode cX4_closeRuns 95 = .ok (.getfield 37, 3) := by decide +kernel
theorem dX4_closeRuns_98 : decode cX4_closeRuns 98 = .ok (.iload_n 3, 1) := by decide +kernel
theorem dX4_closeRuns_99 : decode cX4_closeRuns 99 = .ok (.iaload, 1) := by decide +kernel
theorem dX4_closeRuns_100 : decode cX4_closeRuns 100 = .ok (.iastore, 1) := by decide +kernel
theorem dX4_closeRuns_101 : decode cX4_closeRuns 101 = .ok (.iinc 2 (-1), 3) := by decide +kernel
theorem dX4_closeRuns_104 : decode cX4_closeRuns 104 = .ok (.goto (-94), 3) := by decide +kernel
theorem dX4_closeRuns_107 : decode cX4_closeRuns 107 = .ok (.return_, 1) := by decide +kernel
theorem dX4_ownDirt_0 : decode cX4_ownDirt 0 = .ok (.aload_n 0, 1) := by decide +kernel
theorem dX4_ownDirt_1 : decode cX4_ownDirt 1 = .ok (.getfield 12, 3) := by decide +kernel
theorem dX4_ownDirt_4 : decode cX4_ownDirt 4 = .ok (.getfield 116, 3) := by decide +kernel
theorem dX4_ownDirt_7 : decode cX4_ownDirt 7 = .ok (.iload_n 1, 1) := by decide +kernel
theorem dX4_ownDirt_8 : decode cX4_ownDirt 8 = .ok (.iaload, 1) := by decide +kernel
theorem dX4_ownDirt_9 : decode cX4_ownDirt 9 = .ok (.iconst 2, 1) := by decide +kernel
theorem dX4_ownDirt_10 : decode cX4_ownDirt 10 = .ok (.if_icmp .eq 10, 3) := by decide +kernel
theorem dX4_ownDirt_13 : decode cX4_ownDirt 13 = .ok (.aload_n 0, 1) := by decide +kernel
theorem dX4_ownDirt_14 : decode cX4_ownDirt 14 = .ok (.getfield 22, 3) := by decide +kernel
theorem dX4_ownDirt_17 : decode cX4_ownDirt 17 = .ok (.iload_n 2, 1) := by decide +kernel
theorem dX4_ownDirt_18 : decode cX4_ownDirt 18 = .ok (.iaload, 1) := by decide +kernel
theorem dX4_ownDirt_19 : decode cX4_ownDirt 19 = .ok (.ireturn, 1) := by decide +kernel
theorem dX4_ownDirt_20 : decode cX4_ownDirt 20 = .ok (.iconst 0, 1) := by decide +kernel
theorem dX4_ownDirt_21 : decode cX4_ownDirt 21 = .ok (.aload_n 0, 1) := by decide +kernel
theorem dX4_ownDirt_22 : decode cX4_ownDirt 22 = .ok (.getfield 22, 3) := by decide +kernel
theorem dX4_ownDirt_25 : decode cX4_ownDirt 25 = .ok (.iload_n 2, 1) := by decide +kernel
theorem dX4_ownDirt_26 : decode cX4_ownDirt 26 = .ok (.iaload, 1) := by decide +kernel
theorem dX4_ownDirt_27 : decode cX4_ownDirt 27 = .ok (.aload_n 0, 1) := by decide +kernel
theorem dX4_ownDirt_28 : decode cX4_ownDirt 28 = .ok (.getfield 25, 3) := by decide +kernel
theorem dX4_ownDirt_31 : decode cX4_ownDirt 31 = .ok (.iload_n 2, 1) := by decide +kernel
theorem dX4_ownDirt_32 : decode cX4_ownDirt 32 = .ok (.iaload, 1) := by decide +kernel
theorem dX4_ownDirt_33 : decode cX4_ownDirt 33 = .ok (.isub, 1) := by decide +kernel
theorem dX4_ownDirt_34 : decode cX4_ownDirt 34 = .ok (.invokestatic 119, 3) := by decide +kernel
theorem dX4_ownDirt_37 : decode cX4_ownDirt 37 = .ok (.ireturn, 1) := by decide +kernel
theorem dX4_judgeWith_0 : decode cX4_judgeWith 0 = .ok (.iconst 0, 1) := by decide +kernel
theorem dX4_judgeWith_1 : decode cX4_judgeWith 1 = .ok (.istore_n 2, 1) := by decide +kernel
theorem dX4_judgeWith_2 : decode cX4_judgeWith 2 = .ok (.iload_n 2, 1) := by decide +kernel
theorem dX4_judgeWith_3 : decode cX4_judgeWith 3 = .ok (.aload_n 0, 1) := by decide +kernel
theorem dX4_judgeWith_4 : decode cX4_judgeWith 4 = .ok (.getfield 12, 3) := by decide +kernel
theorem dX4_judgeWith_7 : decode cX4_judgeWith 7 = .ok (.getfield 62, 3) := by decide +kernel
theorem dX4_judgeWith_10 : decode cX4_judgeWith 10 = .ok (.if_icmp .ge 214, 3) := by decide +kernel
theorem dX4_judgeWith_13 : decode cX4_judgeWith 13 = .ok (.aload_n 0, 1) := by decide +kernel
theorem dX4_judgeWith_14 : decode cX4_judgeWith 14 = .ok (.getfield 12, 3) := by decide +kernel
theorem dX4_judgeWith_17 : decode cX4_judgeWith 17 = .ok (.getfield 116, 3) := by decide +kernel
theorem dX4_judgeWith_20 : decode cX4_judgeWith 20 = .ok (.iload_n 2, 1) := by decide +kernel
theorem dX4_judgeWith_21 : decode cX4_judgeWith 21 = .ok (.iaload, 1) := by decide +kernel
theorem dX4_judgeWith_22 : decode cX4_judgeWith 22 = .ok (.iconst 2, 1) := by decide +kernel
theorem dX4_judgeWith_23 : decode cX4_judgeWith 23 = .ok (.if_icmp .ne 7, 3) := by decide +kernel
theorem dX4_judgeWith_26 : decode cX4_judgeWith 26 = .ok (.iconst 1, 1) := by decide +kernel
theorem dX4_judgeWith_27 : decode cX4_judgeWith 27 = .ok (.goto 4, 3) := by decide +kernel
theorem dX4_judgeWith_30 : decode cX4_judgeWith 30 = .ok (.iconst 0, 1) := by decide +kernel
theorem dX4_judgeWith_31 : decode cX4_judgeWith 31 = .ok (.istore_n 3, 1) := by decide +kernel
theorem dX4_judgeWith_32 : decode cX4_judgeWith 32 = .ok (.iconst 0, 1) := by decide +kernel
theorem dX4_judgeWith_33 : decode cX4_judgeWith 33 = .ok (.istore 4, 2) := by decide +kernel
theorem dX4_judgeWith_35 : decode cX4_judgeWith 35 = .ok (.iload 4, 2) := by decide +kernel
theorem dX4_judgeWith_37 : decode cX4_judgeWith 37 = .ok (.bipush 12, 2) := by decide +kernel
theorem dX4_judgeWith_39 : decode cX4_judgeWith 39 = .ok (.if_icmp .ge 102, 3) := by decide +kernel
theorem dX4_judgeWith_42 : decode cX4_judgeWith 42 = .ok (.iload_n 2, 1) := by decide +kernel
theorem dX4_judgeWith_43 : decode cX4_judgeWith 43 = .ok (.bipush 12, 2) := by decide +kernel
theorem dX4_judgeWith_45 : decode cX4_judgeWith 45 = .ok (.imul, 1) := by decide +kernel
theorem dX4_judgeWith_46 : decode cX4_judgeWith 46 = .ok (.iload 4, 2) := by decide +kernel
theorem dX4_judgeWith_48 : decode cX4_judgeWith 48 = .ok (.iadd, 1) := by decide +kernel
theorem dX4_judgeWith_49 : decode cX4_judgeWith 49 = .ok (.istore 5, 2) := by decide +kernel
theorem dX4_judgeWith_51 : decode cX4_judgeWith 51 = .ok (.aload_n 0, 1) := by decide +kernel
theorem dX4_judgeWith_52 : decode cX4_judgeWith 52 = .ok (.getfield 40, 3) := by decide +kernel
theorem dX4_judgeWith_55 : decode cX4_judgeWith 55 = .ok (.iload 5, 2) := by decide +kernel
theorem dX4_judgeWith_57 : decode cX4_judgeWith 57 = .ok (.aload_n 0, 1) := by decide +kernel
theorem dX4_judgeWith_58 : decode cX4_judgeWith 58 = .ok (.getfield 34, 3) := by decide +kernel
theorem dX4_judgeWith_61 : decode cX4_judgeWith 61 = .ok (.iload 5, 2) := by decide +kernel
theorem dX4_judgeWith_63 : decode cX4_judgeWith 63 = .ok (.iaload, 1) := by decide +kernel
theorem dX4_judgeWith_64 : decode cX4_judgeWith 64 = .ok (.iload_n 1, 1) := by decide +kernel
theorem dX4_judgeWith_65 : decode cX4_judgeWith 65 = .ok (.if_icmp .lt 13, 3) := by decide +kernel
theorem dX4_judgeWith_68 : decode cX4_judgeWith 68 = .ok (.aload_n 0, 1) := by decide +kernel
theorem dX4_judgeWith_69 : decode cX4_judgeWith 69 = .ok (.getfield 37, 3) := by decide +kernel
theorem dX4_judgeWith_72 : decode cX4_judgeWith 72 = .ok (.iload 5, 2) := by decide +kernel
theorem dX4_judgeWith_74 : decode cX4_judgeWith 74 = .ok (.iaload, 1) := by decide +kernel
theorem dX4_judgeWith_75 : decode cX4_judgeWith 75 = .ok (.goto 4, 3) := by decide +kernel
theorem dX4_judgeWith_78 : decode cX4_judgeWith 78 = .ok (.iconst 0, 1) := by decide +kernel
theorem dX4_judgeWith_79 : decode cX4_judgeWith 79 = .ok (.iastore, 1) := by decide +kernel
theorem dX4_judgeWith_80 : decode cX4_judgeWith 80 = .ok (.aload_n 0, 1) := by decide +kernel
theorem dX4_judgeWith_81 : decode cX4_judgeWith 81 = .ok (.getfield 43, 3) := by decide +kernel
theorem dX4_judgeWith_84 : decode cX4_judgeWith 84 = .ok (.iload 5, 2) := by decide +kernel
theorem dX4_judgeWith_86 : decode cX4_judgeWith 86 = .ok (.iload_n 3, 1) := by decide +kernel
theorem dX4_judgeWith_87 : decode cX4_judgeWith 87 = .ok (.ifCond .eq 13, 3) := by decide +kernel
theorem dX4_judgeWith_90 : decode cX4_judgeWith 90 = .ok (.aload_n 0, 1) := by decide +kernel
theorem dX4_judgeWith_91 : decode cX4_judgeWith 91 = .ok (.getfield 25, 3) := by decide +kernel
theorem dX4_judgeWith_94 : decode cX4_judgeWith 94 = .ok (.iload 5, 2) := by decide +kernel
theorem dX4_judgeWith_96 : decode cX4_judgeWith 96 = .ok (.iaload, 1) := by decide +kernel
theorem dX4_judgeWith_97 : decode cX4_judgeWith 97 = .ok (.goto 18, 3) := by decide +kernel
theorem dX4_judgeWith_100 : decode cX4_judgeWith 100 = .ok (.aload_n 0, 1) := by decide +kernel
theorem dX4_judgeWith_101 : decode cX4_judgeWith 101 = .ok (.getfield 22, 3) := by decide +kernel
theorem dX4_judgeWith_104 : decode cX4_judgeWith 104 = .ok (.iload 5, 2) := by decide +kernel
theorem dX4_judgeWith_106 : decode cX4_judgeWith 106 = .ok (.iaload, 1) := by decide +kernel
theorem dX4_judgeWith_107 : decode cX4_judgeWith 107 = .ok (.aload_n 0, 1) := by decide +kernel
theorem dX4_judgeWith_108 : decode cX4_judgeWith 108 = .ok (.getfield 40, 3) := by decide +kernel
theorem dX4_judgeWith_111 : decode cX4_judgeWith 111 = .ok (.iload 5, 2) := by decide +kernel
theorem dX4_judgeWith_113 : decode cX4_judgeWith 113 = .ok (.iaload, 1) := by decide +kernel
theorem dX4_judgeWith_114 : decode cX4_judgeWith 114 = .ok (.isub, 1) := by decide +kernel
theorem dX4_judgeWith_115 : decode cX4_judgeWith 115 = .ok (.iastore, 1) := by decide +kernel
theorem dX4_judgeWith_116 : decode cX4_judgeWith 116 = .ok (.aload_n 0, 1) := by decide +kernel
theorem dX4_judgeWith_117 : decode cX4_judgeWith 117 = .ok (.getfield 46, 3) := by decide +kernel
theorem dX4_judgeWith_120 : decode cX4_judgeWith 120 = .ok (.iload 5, 2) := by decide +kernel
theorem dX4_judgeWith_122 : decode cX4_judgeWith 122 = .ok (.aload_n 0, 1) := by decide +kernel
theorem dX4_judgeWith_123 : decode cX4_judgeWith 123 = .ok (.aload_n 0, 1) := by decide +kernel
theorem dX4_judgeWith_124 : decode cX4_judgeWith 124 = .ok (.getfield 43, 3) := by decide +kernel
theorem dX4_judgeWith_127 : decode cX4_judgeWith 127 = .ok (.iload 5, 2) := by decide +kernel
theorem dX4_judgeWith_129 : decode cX4_judgeWith 129 = .ok (.iaload, 1) := by decide +kernel
theorem dX4_judgeWith_130 : decode cX4_judgeWith 130 = .ok (.iload_n 3, 1) := by decide +kernel
theorem dX4_judgeWith_131 : decode cX4_judgeWith 131 = .ok (.invokevirtual 122, 3) := by decide +kernel
theorem dX4_judgeWith_134 : decode cX4_judgeWith 134 = .ok (.iastore, 1) := by decide +kernel
theorem dX4_judgeWith_135 : decode cX4_judgeWith 135 = .ok (.iinc 4 1, 3) := by decide +kernel
theorem dX4_judgeWith_138 : decode cX4_judgeWith 138 = .ok (.goto (-103), 3) := by decide +kernel
theorem dX4_judgeWith_141 : decode cX4_judgeWith 141 = .ok (.aload_n 0, 1) := by decide +kernel
theorem dX4_judgeWith_142 : decode cX4_judgeWith 142 = .ok (.getfield 49, 3) := by decide +kernel
theorem dX4_judgeWith_145 : decode cX4_judgeWith 145 = .ok (.iload_n 2, 1) := by decide +kernel
theorem dX4_judgeWith_146 : decode cX4_judgeWith 146 = .ok (.iconst 0, 1) := by decide +kernel
theorem dX4_judgeWith_147 : decode cX4_judgeWith 147 = .ok (.iastore, 1) := by decide +kernel
theorem dX4_judgeWith_148 : decode cX4_judgeWith 148 = .ok (.aload_n 0, 1) := by decide +kernel
theorem dX4_judgeWith_149 : decode cX4_judgeWith 149 = .ok (.getfield 52, 3) := by decide +kernel
theorem dX4_judgeWith_152 : decode cX4_judgeWith 152 = .ok (.iload_n 2, 1) := by decide +kernel
theorem dX4_judgeWith_153 : decode cX4_judgeWith 153 = .ok (.iconst 0, 1) := by decide +kernel
theorem dX4_judgeWith_154 : decode cX4_judgeWith 154 = .ok (.iastore, 1) := by decide +kernel
theorem dX4_judgeWith_155 : decode cX4_judgeWith 155 = .ok (.iconst 0, 1) := by decide +kernel
theorem dX4_judgeWith_156 : decode cX4_judgeWith 156 = .ok (.istore 4, 2) := by decide +kernel
theorem dX4_judgeWith_158 : decode cX4_judgeWith 158 = .ok (.iload 4, 2) := by decide +kernel
theorem dX4_judgeWith_160 : decode cX4_judgeWith 160 = .ok (.iconst 4, 1) := by decide +kernel
theorem dX4_judgeWith_161 : decode cX4_judgeWith 161 = .ok (.if_icmp .ge 57, 3) := by decide +kernel
theorem dX4_judgeWith_164 : decode cX4_judgeWith 164 = .ok (.aload_n 0, 1) := by decide +kernel
theorem dX4_judgeWith_165 : decode cX4_judgeWith 165 = .ok (.iload_n 2, 1) := by decide +kernel
theorem dX4_judgeWith_166 : decode cX4_judgeWith 166 = .ok (.iload 4, 2) := by decide +kernel
theorem dX4_judgeWith_168 : decode cX4_judgeWith 168 = .ok (.invokevirtual 126, 3) := by decide +kernel
theorem dX4_judgeWith_171 : decode cX4_judgeWith 171 = .ok (.istore 5, 2) := by decide +kernel
theorem dX4_judgeWith_173 : decode cX4_judgeWith 173 = .ok (.aload_n 0, 1) := by decide +kernel
theorem dX4_judgeWith_174 : decode cX4_judgeWith 174 = .ok (.getfield 49, 3) := by decide +kernel
theorem dX4_judgeWith_177 : decode cX4_judgeWith 177 = .ok (.iload_n 2, 1) := by decide +kernel
theorem dX4_judgeWith_178 : decode cX4_judgeWith 178 = .ok (.dup2, 1) := by decide +kernel
theorem dX4_judgeWith_179 : decode cX4_judgeWith 179 = .ok (.iaload, 1) := by decide +kernel
theorem dX4_judgeWith_180 : decode cX4_judgeWith 180 = .ok (.iload 5, 2) := by decide +kernel
theorem dX4_judgeWith_182 : decode cX4_judgeWith 182 = .ok (.iconst 3, 1) := by decide +kernel
theorem dX4_judgeWith_183 : decode cX4_judgeWith 183 = .ok (.iload 4, 2) := by decide +kernel
theorem dX4_judgeWith_185 : decode cX4_judgeWith 185 = .ok (.imul, 1) := by decide +kernel
theorem dX4_judgeWith_186 : decode cX4_judgeWith 186 = .ok (.ishl, 1) := by decide +kernel
theorem dX4_judgeWith_187 : decode cX4_judgeWith 187 = .ok (.ior, 1) := by decide +kernel
theorem dX4_judgeWith_188 : decode cX4_judgeWith 188 = .ok (.iastore, 1) := by decide +kernel
theorem dX4_judgeWith_189 : decode cX4_judgeWith 189 = .ok (.aload_n 0, 1) := by decide +kernel
theorem dX4_judgeWith_190 : decode cX4_judgeWith 190 = .ok (.getfield 52, 3) := by decide +kernel
theorem dX4_judgeWith_193 : decode cX4_judgeWith 193 = .ok (.iload_n 2, 1) := by decide +kernel
theorem dX4_judgeWith_194 : decode cX4_judgeWith 194 = .ok (.dup2, 1) := by decide +kernel
theorem dX4_judgeWith_195 : decode cX4_judgeWith 195 = .ok (.iaload, 1) := by decide +kernel
theorem dX4_judgeWith_196 : decode cX4_judgeWith 196 = .ok (.iload 5, 2) := by decide +kernel
theorem dX4_judgeWith_198 : decode cX4_judgeWith 198 = .ok (.iconst 5, 1) := by decide +kernel
theorem dX4_judgeWith_199 : decode cX4_judgeWith 199 = .ok (.if_icmp .ne 10, 3) := by decide +kernel
theorem dX4_judgeWith_202 : decode cX4_judgeWith 202 = .ok (.iconst 1, 1) := by decide +kernel
theorem dX4_judgeWith_203 : decode cX4_judgeWith 203 = .ok (.iload 4, 2) := by decide +kernel
theorem dX4_judgeWith_205 : decode cX4_judgeWith 205 = .ok (.ishl, 1) := by decide +kernel
theorem dX4_judgeWith_206 : decode cX4_judgeWith 206 = .ok (.goto 4, 3) := by decide +kernel
theorem dX4_judgeWith_209 : decode cX4_judgeWith 209 = .ok (.iconst 0, 1) := by decide +kernel
theorem dX4_judgeWith_210 : decode cX4_judgeWith 210 = .ok (.ior, 1) := by decide +kernel
theorem dX4_judgeWith_211 : decode cX4_judgeWith 211 = .ok (.iastore, 1) := by decide +kernel
theorem dX4_judgeWith_212 : decode cX4_judgeWith 212 = .ok (.iinc 4 1, 3) := by decide +kernel
theorem dX4_judgeWith_215 : decode cX4_judgeWith 215 = .ok (.goto (-57), 3) := by decide +kernel
theorem dX4_judgeWith_218 : decode cX4_judgeWith 218 = .ok (.iinc 2 1, 3) := by decide +kernel
theorem dX4_judgeWith_221 : decode cX4_judgeWith 221 = .ok (.goto (-219), 3) := by decide +kernel
theorem dX4_judgeWith_224 : decode cX4_judgeWith 224 = .ok (.return_, 1) := by decide +kernel
theorem dX4_markOf_0 : decode cX4_markOf 0 = .ok (.iload_n 1, 1) := by decide +kernel
theorem dX4_markOf_1 : decode cX4_markOf 1 = .ok (.aload_n 0, 1) := by decide +kernel
theorem dX4_markOf_2 : decode cX4_markOf 2 = .ok (.getfield 12, 3) := by decide +kernel
theorem dX4_markOf_5 : decode cX4_markOf 5 = .ok (.getfield 80, 3) := by decide +kernel
theorem dX4_markOf_8 : decode cX4_markOf 8 = .ok (.iconst 1, 1) := by decide +kernel
theorem dX4_markOf_9 : decode cX4_markOf 9 = .ok (.iaload, 1) := by decide +kernel
theorem dX4_markOf_10 : decode cX4_markOf 10 = .ok (.if_icmp .lt 5, 3) := by decide +kernel
theorem dX4_markOf_13 : decode cX4_markOf 13 = .ok (.iconst 2, 1) := by decide +kernel
theorem dX4_markOf_14 : decode cX4_markOf 14 = .ok (.ireturn, 1) := by decide +kernel
theorem dX4_markOf_15 : decode cX4_markOf 15 = .ok (.iload_n 2, 1) := by decide +kernel
theorem dX4_markOf_16 : decode cX4_markOf 16 = .ok (.ifCond .ne 20, 3) := by decide +kernel
theorem dX4_markOf_19 : decode cX4_markOf 19 = .ok (.iload_n 1, 1) := by decide +kernel
theorem dX4_markOf_20 : decode cX4_markOf 20 = .ok (.aload_n 0, 1) := by decide +kernel
theorem dX4_markOf_21 : decode cX4_markOf 21 = .ok (.getfield 12, 3) := by decide +kernel
theorem dX4_markOf_24 : decode cX4_markOf 24 = .ok (.getfield 80, 3) := by decide +kernel
theorem dX4_markOf_27 : decode cX4_markOf 27 = .ok (.iconst 2, 1) := by decide +kernel
theorem dX4_markOf_28 : decode cX4_markOf 28 = .ok (.iaload, 1) := by decide +kernel
theorem dX4_markOf_29 : decode cX4_markOf 29 = .ok (.if_icmp .lt 7, 3) := by decide +kernel
theorem dX4_markOf_32 : decode cX4_markOf 32 = .ok (.iconst 1, 1) := by decide +kernel
theorem dX4_markOf_33 : decode cX4_markOf 33 = .ok (.goto 4, 3) := by decide +kernel
theorem dX4_markOf_36 : decode cX4_markOf 36 = .ok (.iconst 0, 1) := by decide +kernel
theorem dX4_markOf_37 : decode cX4_markOf 37 = .ok (.ireturn, 1) := by decide +kernel
theorem dX4_judgedOutcome_0 : decode cX4_judgedOutcome 0 = .ok (.iconst 0, 1) := by decide +kernel
theorem dX4_judgedOutcome_1 : decode cX4_judgedOutcome 1 = .ok (.istore_n 3, 1) := by decide +kernel
theorem dX4_judgedOutcome_2 : decode cX4_judgedOutcome 2 = .ok (.iconst 0, 1) := by decide +kernel
theorem dX4_judgedOutcome_3 : decode cX4_judgedOutcome 3 = .ok (.istore 4, 2) := by decide +kernel
theorem dX4_judgedOutcome_5 : decode cX4_judgedOutcome 5 = .ok (.iconst 3, 1) := by decide +kernel
theorem dX4_judgedOutcome_6 : decode cX4_judgedOutcome 6 = .ok (.istore 5, 2) := by decide +kernel
theorem dX4_judgedOutcome_8 : decode cX4_judgedOutcome 8 = .ok (.iconst 0, 1) := by decide +kernel
theorem dX4_judgedOutcome_9 : decode cX4_judgedOutcome 9 = .ok (.istore 6, 2) := by decide +kernel
theorem dX4_judgedOutcome_11 : decode cX4_judgedOutcome 11 = .ok (.iload 6, 2) := by decide +kernel
theorem dX4_judgedOutcome_13 : decode cX4_judgedOutcome 13 = .ok (.iconst 3, 1) := by decide +kernel
theorem dX4_judgedOutcome_14 : decode cX4_judgedOutcome 14 = .ok (.if_icmp .ge 52, 3) := by decide +kernel
theorem dX4_judgedOutcome_17 : decode cX4_judgedOutcome 17 = .ok (.aload_n 0, 1) := by decide +kernel
theorem dX4_judgedOutcome_18 : decode cX4_judgedOutcome 18 = .ok (.getfield 46, 3) := by decide +kernel
theorem dX4_judgedOutcome_21 : decode cX4_judgedOutcome 21 = .ok (.iload_n 1, 1) := by decide +kernel
theorem dX4_judgedOutcome_22 : decode cX4_judgedOutcome 22 = .ok (.bipush 12, 2) := by decide +kernel
theorem dX4_judgedOutcome_24 : decode cX4_judgedOutcome 24 = .ok (.imul, 1) := by decide +kernel
theorem dX4_judgedOutcome_25 : decode cX4_judgedOutcome 25 = .ok (.iload_n 2, 1) := by decide +kernel
theorem dX4_judgedOutcome_26 : decode cX4_judgedOutcome 26 = .ok (.iconst 3, 1) := by decide +kernel
theorem dX4_judgedOutcome_27 : decode cX4_judgedOutcome 27 = .ok (.imul, 1) := by decide +kernel
theorem dX4_judgedOutcome_28 : decode cX4_judgedOutcome 28 = .ok (.iadd, 1) := by decide +kernel
theorem dX4_judgedOutcome_29 : decode cX4_judgedOutcome 29 = .ok (.iload 6, 2) := by decide +kernel
theorem dX4_judgedOutcome_31 : decode cX4_judgedOutcome 31 = .ok (.iadd, 1) := by decide +kernel
theorem dX4_judgedOutcome_32 : decode cX4_judgedOutcome 32 = .ok (.iaload, 1) := by decide +kernel
theorem dX4_judgedOutcome_33 : decode cX4_judgedOutcome 33 = .ok (.istore 7, 2) := by decide +kernel
theorem dX4_judgedOutcome_35 : decode cX4_judgedOutcome 35 = .ok (.iload 7, 2) := by decide +kernel
theorem dX4_judgedOutcome_37 : decode cX4_judgedOutcome 37 = .ok (.iconst 2, 1) := by decide +kernel
theorem dX4_judgedOutcome_38 : decode cX4_judgedOutcome 38 = .ok (.if_icmp .ne 13, 3) := by decide +kernel
theorem dX4_judgedOutcome_41 : decode cX4_judgedOutcome 41 = .ok (.iinc 3 1, 3) := by decide +kernel
theorem dX4_judgedOutcome_44 : decode cX4_judgedOutcome 44 = .ok (.iload 6, 2) := by decide +kernel
theorem dX4_judgedOutcome_46 : decode cX4_judgedOutcome 46 = .ok (.istore 5, 2) := by decide +kernel
theorem dX4_judgedOutcome_48 : decode cX4_judgedOutcome 48 = .ok (.goto 12, 3) := by decide +kernel
theorem dX4_judgedOutcome_51 : decode cX4_judgedOutcome 51 = .ok (.iload 7, 2) := by decide +kernel
theorem dX4_judgedOutcome_53 : decode cX4_judgedOutcome 53 = .ok (.iconst 1, 1) := by decide +kernel
theorem dX4_judgedOutcome_54 : decode cX4_judgedOutcome 54 = .ok (.if_icmp .ne 6, 3) := by decide +kernel
theorem dX4_judgedOutcome_57 : decode cX4_judgedOutcome 57 = .ok (.iinc 4 1, 3) := by decide +kernel
theorem dX4_judgedOutcome_60 : decode cX4_judgedOutcome 60 = .ok (.iinc 6 1, 3) := by decide +kernel
theorem dX4_judgedOutcome_63 : decode cX4_judgedOutcome 63 = .ok (.goto (-52), 3) := by decide +kernel
theorem dX4_judgedOutcome_66 : decode cX4_judgedOutcome 66 = .ok (.iload_n 3, 1) := by decide +kernel
theorem dX4_judgedOutcome_67 : decode cX4_judgedOutcome 67 = .ok (.iconst 1, 1) := by decide +kernel
theorem dX4_judgedOutcome_68 : decode cX4_judgedOutcome 68 = .ok (.if_icmp .le 5, 3) := by decide +kernel
theorem dX4_judgedOutcome_71 : decode cX4_judgedOutcome 71 = .ok (.iconst 4, 1) := by decide +kernel
theorem dX4_judgedOutcome_72 : decode cX4_judgedOutcome 72 = .ok (.ireturn, 1) := by decide +kernel
theorem dX4_judgedOutcome_73 : decode cX4_judgedOutcome 73 = .ok (.iload 4, 2) := by decide +kernel
theorem dX4_judgedOutcome_75 : decode cX4_judgedOutcome 75 = .ok (.ifCond .le 7, 3) := by decide +kernel
theorem dX4_judgedOutcome_78 : decode cX4_judgedOutcome 78 = .ok (.iconst 5, 1) := by decide +kernel
theorem dX4_judgedOutcome_79 : decode cX4_judgedOutcome 79 = .ok (.goto 5, 3) := by decide +kernel
theorem dX4_judgedOutcome_82 : decode cX4_judgedOutcome 82 = .ok (.iload 5, 2) := by decide +kernel
theorem dX4_judgedOutcome_84 : decode cX4_judgedOutcome 84 = .ok (.ireturn, 1) := by decide +kernel
theorem dX4_compareWithLast_0 : decode cX4_compareWithLast 0 = .ok (.aload_n 0, 1) := by decide +kernel
theorem dX4_compareWithLast_1 : decode cX4_compareWithLast 1 = .ok (.getfield 12, 3) := by decide +kernel
theorem dX4_compareWithLast_4 : decode cX4_compareWithLast 4 = .ok (.getfield 129, 3) := by decide +kernel
theorem dX4_compareWithLast_7 : decode cX4_compareWithLast 7 = .ok (.iconst 1, 1) := by decide +kernel
theorem dX4_compareWithLast_8 : decode cX4_compareWithLast 8 = .ok (.isub, 1) := by decide +kernel
theorem dX4_compareWithLast_9 : decode cX4_compareWithLast 9 = .ok (.istore_n 1, 1) := by decide +kernel
theorem dX4_compareWithLast_10 : decode cX4_compareWithLast 10 = .ok (.aload_n 0, 1) := by decide +kernel
theorem dX4_compareWithLast_11 : decode cX4_compareWithLast 11 = .ok (.getfield 12, 3) := by decide +kernel
theorem dX4_compareWithLast_14 : decode cX4_compareWithLast 14 = .ok (.iload_n 1, 1) := by decide +kernel
theorem dX4_compareWithLast_15 : decode cX4_compareWithLast 15 = .ok (.invokevirtual 132, 3) := by decide +kernel
theorem dX4_compareWithLast_18 : decode cX4_compareWithLast 18 = .ok (.ifCond .eq 15, 3) := by decide +kernel
theorem dX4_compareWithLast_21 : decode cX4_compareWithLast 21 = .ok (.aload_n 0, 1) := by decide +kernel
theorem dX4_compareWithLast_22 : decode cX4_compareWithLast 22 = .ok (.getfield 12, 3) := by decide +kernel
theorem dX4_compareWithLast_25 : decode cX4_compareWithLast 25 = .ok (.getfield 136, 3) := by decide +kernel
theorem dX4_compareWithLast_28 : decode cX4_compareWithLast 28 = .ok (.iload_n 1, 1) := by decide +kernel
theorem dX4_compareWithLast_29 : decode cX4_compareWithLast 29 = .ok (.iaload, 1) := by decide +kernel
theorem dX4_compareWithLast_30 : decode cX4_compareWithLast 30 = .ok (.goto 4, 3) := by decide +kernel
theorem dX4_compareWithLast_33 : decode cX4_compareWithLast 33 = .ok (.iconst 0, 1) := by decide +kernel
theorem dX4_compareWithLast_34 : decode cX4_compareWithLast 34 = .ok (.istore_n 2, 1) := by decide +kernel
theorem dX4_compareWithLast_35 : decode cX4_compareWithLast 35 = .ok (.iconst 0, 1) := by decide +kernel
theorem dX4_compareWithLast_36 : decode cX4_compareWithLast 36 = .ok (.istore_n 3, 1) := by decide +kernel
theorem dX4_compareWithLast_37 : decode cX4_compareWithLast 37 = .ok (.iload_n 3, 1) := by decide +kernel
theorem dX4_compareWithLast_38 : decode cX4_compareWithLast 38 = .ok (.aload_n 0, 1) := by decide +kernel
theorem dX4_compareWithLast_39 : decode cX4_compareWithLast 39 = .ok (.getfield 12, 3) := by decide +kernel
theorem dX4_compareWithLast_42 : decode cX4_compareWithLast 42 = .ok (.getfield 62, 3) := by decide +kernel
theorem dX4_compareWithLast_45 : decode cX4_compareWithLast 45 = .ok (.if_icmp .ge 48, 3) := by decide +kernel
theorem dX4_compareWithLast_48 : decode cX4_compareWithLast 48 = .ok (.aload_n 0, 1) := by decide +kernel
theorem dX4_compareWithLast_49 : decode cX4_compareWithLast 49 = .ok (.getfield 55, 3) := by decide +kernel
theorem dX4_compareWithLast_52 : decode cX4_compareWithLast 52 = .ok (.iload_n 3, 1) := by decide +kernel
theorem dX4_compareWithLast_53 : decode cX4_compareWithLast 53 = .ok (.iload_n 3, 1) := by decide +kernel
theorem dX4_compareWithLast_54 : decode cX4_compareWithLast 54 = .ok (.iload_n 2, 1) := by decide +kernel
theorem dX4_compareWithLast_55 : decode cX4_compareWithLast 55 = .ok (.if_icmp .ge 30, 3) := by decide +kernel
theorem dX4_compareWithLast_58 : decode cX4_compareWithLast 58 = .ok (.aload_n 0, 1) := by decide +kernel
theorem dX4_compareWithLast_59 : decode cX4_compareWithLast 59 = .ok (.getfield 49, 3) := by decide +kernel
theorem dX4_compareWithLast_62 : decode cX4_compareWithLast 62 = .ok (.iload_n 3, 1) := by decide +kernel
theorem dX4_compareWithLast_63 : decode cX4_compareWithLast 63 = .ok (.iaload, 1) := by decide +kernel
theorem dX4_compareWithLast_64 : decode cX4_compareWithLast 64 = .ok (.aload_n 0, 1) := by decide +kernel
theorem dX4_compareWithLast_65 : decode cX4_compareWithLast 65 = .ok (.getfield 12, 3) := by decide +kernel
theorem dX4_compareWithLast_68 : decode cX4_compareWithLast 68 = .ok (.getfield 139, 3) := by decide +kernel
theorem dX4_compareWithLast_71 : decode cX4_compareWithLast 71 = .ok (.iload_n 1, 1) := by decide +kernel
theorem dX4_compareWithLast_72 : decode cX4_compareWithLast 72 = .ok (.bipush 40, 2) := by decide +kernel
theorem dX4_compareWithLast_74 : decode cX4_compareWithLast 74 = .ok (.imul, 1) := by decide +kernel
theorem dX4_compareWithLast_75 : decode cX4_compareWithLast 75 = .ok (.iload_n 3, 1) := by decide +kernel
theorem dX4_compareWithLast_76 : decode cX4_compareWithLast 76 = .ok (.iadd, 1) := by decide +kernel
theorem dX4_compareWithLast_77 : decode cX4_compareWithLast 77 = .ok (.iaload, 1) := by decide +kernel
theorem dX4_compareWithLast_78 : decode cX4_compareWithLast 78 = .ok (.if_icmp .eq 7, 3) := by decide +kernel
theorem dX4_compareWithLast_81 : decode cX4_compareWithLast 81 = .ok (.iconst 1, 1) := by decide +kernel
theorem dX4_compareWithLast_82 : decode cX4_compareWithLast 82 = .ok (.goto 4, 3) := by decide +kernel
theorem dX4_compareWithLast_85 : decode cX4_compareWithLast 85 = .ok (.iconst 0, 1) := by decide +kernel
theorem dX4_compareWithLast_86 : decode cX4_compareWithLast 86 = .ok (.bastore, 1) := by decide +kernel
theorem dX4_compareWithLast_87 : decode cX4_compareWithLast 87 = .ok (.iinc 3 1, 3) := by decide +kernel
theorem dX4_compareWithLast_90 : decode cX4_compareWithLast 90 = .ok (.goto (-53), 3) := by decide +kernel
theorem dX4_compareWithLast_93 : decode cX4_compareWithLast 93 = .ok (.return_, 1) := by decide +kernel
theorem dX4_streaks_0 : decode cX4_streaks 0 = .ok (.iconst 0, 1) := by decide +kernel
theorem dX4_streaks_1 : decode cX4_streaks 1 = .ok (.istore_n 1, 1) := by decide +kernel
theorem dX4_streaks_2 : decode cX4_streaks 2 = .ok (.iconst 0, 1) := by decide +kernel
theorem dX4_streaks_3 : decode cX4_streaks 3 = .ok (.istore_n 2, 1) := by decide +kernel
theorem dX4_streaks_4 : decode cX4_streaks 4 = .ok (.iload_n 2, 1) := by decide +kernel
theorem dX4_streaks_5 : decode cX4_streaks 5 = .ok (.aload_n 0, 1) := by decide +kernel
theorem dX4_streaks_6 : decode cX4_streaks 6 = .ok (.getfield 12, 3) := by decide +kernel
theorem dX4_streaks_9 : decode cX4_streaks 9 = .ok (.getfield 62, 3) := by decide +kernel
theorem dX4_streaks_12 : decode cX4_streaks 12 = .ok (.if_icmp .ge 64, 3) := by decide +kernel
theorem dX4_streaks_15 : decode cX4_streaks 15 = .ok (.iconst 0, 1) := by decide +kernel
theorem dX4_streaks_16 : decode cX4_streaks 16 = .ok (.istore_n 3, 1) := by decide +kernel
theorem dX4_streaks_17 : decode cX4_streaks 17 = .ok (.iload_n 3, 1) := by decide +kernel
theorem dX4_streaks_18 : decode cX4_streaks 18 = .ok (.bipush 12, 2) := by decide +kernel
theorem dX4_streaks_20 : decode cX4_streaks 20 = .ok (.if_icmp .ge 50, 3) := by decide +kernel
theorem dX4_streaks_23 : decode cX4_streaks 23 = .ok (.iload_n 2, 1) := by decide +kernel
theorem dX4_streaks_24 : decode cX4_streaks 24 = .ok (.bipush 12, 2) := by decide +kernel
theorem dX4_streaks_26 : decode cX4_streaks 26 = .ok (.imul, 1) := by decide +kernel
theorem dX4_streaks_27 : decode cX4_streaks 27 = .ok (.iload_n 3, 1) := by decide +kernel
theorem dX4_streaks_28 : decode cX4_streaks 28 = .ok (.iadd, 1) := by decide +kernel
theorem dX4_streaks_29 : decode cX4_streaks 29 = .ok (.istore 4, 2) := by decide +kernel
theorem dX4_streaks_31 : decode cX4_streaks 31 = .ok (.aload_n 0, 1) := by decide +kernel
theorem dX4_streaks_32 : decode cX4_streaks 32 = .ok (.getfield 28, 3) := by decide +kernel
theorem dX4_streaks_35 : decode cX4_streaks 35 = .ok (.iload 4, 2) := by decide +kernel
theorem dX4_streaks_37 : decode cX4_streaks 37 = .ok (.iaload, 1) := by decide +kernel
theorem dX4_streaks_38 : decode cX4_streaks 38 = .ok (.iload_n 2, 1) := by decide +kernel
theorem dX4_streaks_39 : decode cX4_streaks 39 = .ok (.if_icmp .ne 25, 3) := by decide +kernel
theorem dX4_streaks_42 : decode cX4_streaks 42 = .ok (.aload_n 0, 1) := by decide +kernel
theorem dX4_streaks_43 : decode cX4_streaks 43 = .ok (.getfield 34, 3) := by decide +kernel
theorem dX4_streaks_46 : decode cX4_streaks 46 = .ok (.iload 4, 2) := by decide +kernel
theorem dX4_streaks_48 : decode cX4_streaks 48 = .ok (.iaload, 1) := by decide +kernel
theorem dX4_streaks_49 : decode cX4_streaks 49 = .ok (.aload_n 0, 1) := by decide +kernel
theorem dX4_streaks_50 : decode cX4_streaks 50 = .ok (.getfield 12, 3) := by decide +kernel
theorem dX4_streaks_53 : decode cX4_streaks 53 = .ok (.getfield 80, 3) := by decide +kernel
theorem dX4_streaks_56 : decode cX4_streaks 56 = .ok (.iconst 0, 1) := by decide +kernel
theorem dX4_streaks_57 : decode cX4_streaks 57 = .ok (.iaload, 1) := by decide +kernel
theorem dX4_streaks_58 : decode cX4_streaks 58 = .ok (.if_icmp .lt 6, 3) := by decide +kernel
theorem dX4_streaks_61 : decode cX4_streaks 61 = .ok (.iinc 1 1, 3) := by decide +kernel
theorem dX4_streaks_64 : decode cX4_streaks 64 = .ok (.iinc 3 1, 3) := by decide +kernel
theorem dX4_streaks_67 : decode cX4_streaks 67 = .ok (.goto (-50), 3) := by decide +kernel
theorem dX4_streaks_70 : decode cX4_streaks 70 = .ok (.iinc 2 1, 3) := by decide +kernel
theorem dX4_streaks_73 : decode cX4_streaks 73 = .ok (.goto (-69), 3) := by decide +kernel
theorem dX4_streaks_76 : decode cX4_streaks 76 = .ok (.iload_n 1, 1) := by decide +kernel
theorem dX4_streaks_77 : decode cX4_streaks 77 = .ok (.ireturn, 1) := by decide +kernel
theorem dX4_outcomesIn_0 : decode cX4_outcomesIn 0 = .ok (.aload_n 0, 1) := by decide +kernel
theorem dX4_outcomesIn_1 : decode cX4_outcomesIn 1 = .ok (.getfield 12, 3) := by decide +kernel
theorem dX4_outcomesIn_4 : decode cX4_outcomesIn 4 = .ok (.iload_n 2, 1) := by decide +kernel
theorem dX4_outcomesIn_5 : decode cX4_outcomesIn 5 = .ok (.invokevirtual 142, 3) := by decide +kernel
theorem dX4_outcomesIn_8 : decode cX4_outcomesIn 8 = .ok (.ifCond .ne 5, 3) := by decide +kernel
theorem dX4_outcomesIn_11 : decode cX4_outcomesIn 11 = .ok (.iconst 0, 1) := by decide +kernel
theorem dX4_outcomesIn_12 : decode cX4_outcomesIn 12 = .ok (.ireturn, 1) := by decide +kernel
theorem dX4_outcomesIn_13 : decode cX4_outcomesIn 13 = .ok (.iload_n 1, 1) := by decide +kernel
theorem dX4_outcomesIn_14 : decode cX4_outcomesIn 14 = .ok (.iconst (-1), 1) := by decide +kernel
theorem dX4_outcomesIn_15 : decode cX4_outcomesIn 15 = .ok (.if_icmp .ne 12, 3) := by decide +kernel
theorem dX4_outcomesIn_18 : decode cX4_outcomesIn 18 = .ok (.aload_n 0, 1) := by decide +kernel
theorem dX4_outcomesIn_19 : decode cX4_outcomesIn 19 = .ok (.getfield 49, 3) := by decide +kernel
theorem dX4_outcomesIn_22 : decode cX4_outcomesIn 22 = .ok (.iload_n 2, 1) := by decide +kernel
theorem dX4_outcomesIn_23 : decode cX4_outcomesIn 23 = .ok (.iaload, 1) := by decide +kernel
theorem dX4_outcomesIn_24 : decode cX4_outcomesIn 24 = .ok (.goto 12, 3) := by decide +kernel
theorem dX4_outcomesIn_27 : decode cX4_outcomesIn 27 = .ok (.aload_n 0, 1) := by decide +kernel
theorem dX4_outcomesIn_28 : decode cX4_outcomesIn 28 = .ok (.getfield 12, 3) := by decide +kernel
theorem dX4_outcomesIn_31 : decode cX4_outcomesIn 31 = .ok (.iload_n 1, 1) := by decide +kernel
theorem dX4_outcomesIn_32 : decode cX4_outcomesIn 32 = .ok (.iload_n 2, 1) := by decide +kernel
theorem dX4_outcomesIn_33 : decode cX4_outcomesIn 33 = .ok (.invokevirtual 145, 3) := by decide +kernel
theorem dX4_outcomesIn_36 : decode cX4_outcomesIn 36 = .ok (.ireturn, 1) := by decide +kernel
theorem dX4_cardsWith_0 : decode cX4_cardsWith 0 = .ok (.iconst 0, 1) := by decide +kernel
theorem dX4_cardsWith_1 : decode cX4_cardsWith 1 = .ok (.istore 5, 2) := by decide +kernel
theorem dX4_cardsWith_3 : decode cX4_cardsWith 3 = .ok (.iconst 0, 1) := by decide +kernel
theorem dX4_cardsWith_4 : decode cX4_cardsWith 4 = .ok (.istore 6, 2) := by decide +kernel
theorem dX4_cardsWith_6 : decode cX4_cardsWith 6 = .ok (.iload 6, 2) := by decide +kernel
theorem dX4_cardsWith_8 : decode cX4_cardsWith 8 = .ok (.aload_n 0, 1) := by decide +kernel
theorem dX4_cardsWith_9 : decode cX4_cardsWith 9 = .ok (.getfield 12, 3) := by decide +kernel
theorem dX4_cardsWith_12 : decode cX4_cardsWith 12 = .ok (.getfield 62, 3) := by decide +kernel
theorem dX4_cardsWith_15 : decode cX4_cardsWith 15 = .ok (.if_icmp .ge 73, 3) := by decide +kernel
theorem dX4_cardsWith_18 : decode cX4_cardsWith 18 = .ok (.iload 6, 2) := by decide +kernel
theorem dX4_cardsWith_20 : decode cX4_cardsWith 20 = .ok (.aload_n 0, 1) := by decide +kernel
theorem dX4_cardsWith_21 : decode cX4_cardsWith 21 = .ok (.getfield 12, 3) := by decide +kernel
theorem dX4_cardsWith_24 : decode cX4_cardsWith 24 = .ok (.iload_n 3, 1) := by decide +kernel
theorem dX4_cardsWith_25 : decode cX4_cardsWith 25 = .ok (.invokevirtual 148, 3) := by decide +kernel
theorem dX4_cardsWith_28 : decode cX4_cardsWith 28 = .ok (.if_icmp .ge 60, 3) := by decide +kernel
theorem dX4_cardsWith_31 : decode cX4_cardsWith 31 = .ok (.iload 4, 2) := by decide +kernel
theorem dX4_cardsWith_33 : decode cX4_cardsWith 33 = .ok (.iconst (-1), 1) := by decide +kernel
theorem dX4_cardsWith_34 : decode cX4_cardsWith 34 = .ok (.if_icmp .eq 18, 3) := by decide +kernel
theorem dX4_cardsWith_37 : decode cX4_cardsWith 37 = .ok (.aload_n 0, 1) := by decide +kernel
theorem dX4_cardsWith_38 : decode cX4_cardsWith 38 = .ok (.getfield 12, 3) := by decide +kernel
theorem dX4_cardsWith_41 : decode cX4_cardsWith 41 = .ok (.getfield 89, 3) := by decide +kernel
theorem dX4_cardsWith_44 : decode cX4_cardsWith 44 = .ok (.iload 6, 2) := by decide +kernel
theorem dX4_cardsWith_46 : decode cX4_cardsWith 46 = .ok (.iaload, 1) := by decide +kernel
theorem dX4_cardsWith_47 : decode cX4_cardsWith 47 = .ok (.iload 4, 2) := by decide +kernel
theorem dX4_cardsWith_49 : decode cX4_cardsWith 49 = .ok (.if_icmp .ne 7, 3) := by decide +kernel
theorem dX4_cardsWith_52 : decode cX4_cardsWith 52 = .ok (.iconst 1, 1) := by decide +kernel
theorem dX4_cardsWith_53 : decode cX4_cardsWith 53 = .ok (.goto 4, 3) := by decide +kernel
theorem dX4_cardsWith_56 : decode cX4_cardsWith 56 = .ok (.iconst 0, 1) := by decide +kernel
theorem dX4_cardsWith_57 : decode cX4_cardsWith 57 = .ok (.istore 7, 2) := by decide +kernel
theorem dX4_cardsWith_59 : decode cX4_cardsWith 59 = .ok (.iload 7, 2) := by decide +kernel
theorem dX4_cardsWith_61 : decode cX4_cardsWith 61 = .ok (.ifCond .eq 21, 3) := by decide +kernel
theorem dX4_cardsWith_64 : decode cX4_cardsWith 64 = .ok (.aload_n 0, 1) := by decide +kernel
theorem dX4_cardsWith_65 : decode cX4_cardsWith 65 = .ok (.iload_n 3, 1) := by decide +kernel
theorem dX4_cardsWith_66 : decode cX4_cardsWith 66 = .ok (.iload 6, 2) := by decide +kernel
theorem dX4_cardsWith_68 : decode cX4_cardsWith 68 = .ok (.invokevirtual 151, 3) := by decide +kernel
theorem dX4_cardsWith_71 : decode cX4_cardsWith 71 = .ok (.iload_n 1, 1) := by decide +kernel
theorem dX4_cardsWith_72 : decode cX4_cardsWith 72 = .ok (.invokestatic 152, 3) := by decide +kernel
theorem dX4_cardsWith_75 : decode cX4_cardsWith 75 = .ok (.iload_n 2, 1) := by decide +kernel
theorem dX4_cardsWith_76 : decode cX4_cardsWith 76 = .ok (.if_icmp .ne 6, 3) := by decide +kernel
theorem dX4_cardsWith_79 : decode cX4_cardsWith 79 = .ok (.iinc 5 1, 3) := by decide +kernel
theorem dX4_cardsWith_82 : decode cX4_cardsWith 82 = .ok (.iinc 6 1, 3) := by decide +kernel
theorem dX4_cardsWith_85 : decode cX4_cardsWith 85 = .ok (.goto (-79), 3) := by decide +kernel
theorem dX4_cardsWith_88 : decode cX4_cardsWith 88 = .ok (.iload 5, 2) := by decide +kernel
theorem dX4_cardsWith_90 : decode cX4_cardsWith 90 = .ok (.ireturn, 1) := by decide +kernel
theorem dX4_cardsChanging_0 : decode cX4_cardsChanging 0 = .ok (.iconst 0, 1) := by decide +kernel
theorem dX4_cardsChanging_1 : decode cX4_cardsChanging 1 = .ok (.istore_n 1, 1) := by decide +kernel
theorem dX4_cardsChanging_2 : decode cX4_cardsChanging 2 = .ok (.iconst 0, 1) := by decide +kernel
theorem dX4_cardsChanging_3 : decode cX4_cardsChanging 3 = .ok (.istore_n 2, 1) := by decide +kernel
theorem dX4_cardsChanging_4 : decode cX4_cardsChanging 4 = .ok (.iload_n 2, 1) := by decide +kernel
theorem dX4_cardsChanging_5 : decode cX4_cardsChanging 5 = .ok (.aload_n 0, 1) := by decide +kernel
theorem dX4_cardsChanging_6 : decode cX4_cardsChanging 6 = .ok (.getfield 12, 3) := by decide +kernel
theorem dX4_cardsChanging_9 : decode cX4_cardsChanging 9 = .ok (.getfield 62, 3) := by decide +kernel
theorem dX4_cardsChanging_12 : decode cX4_cardsChanging 12 = .ok (.if_icmp .ge 21, 3) := by decide +kernel
theorem dX4_cardsChanging_15 : decode cX4_cardsChanging 15 = .ok (.aload_n 0, 1) := by decide +kernel
theorem dX4_cardsChanging_16 : decode cX4_cardsChanging 16 = .ok (.getfield 55, 3) := by decide +kernel
theorem dX4_cardsChanging_19 : decode cX4_cardsChanging 19 = .ok (.iload_n 2, 1) := by decide +kernel
theorem dX4_cardsChanging_20 : decode cX4_cardsChanging 20 = .ok (.baload, 1) := by decide +kernel
theorem dX4_cardsChanging_21 : decode cX4_cardsChanging 21 = .ok (.ifCond .eq 6, 3) := by decide +kernel
theorem dX4_cardsChanging_24 : decode cX4_cardsChanging 24 = .ok (.iinc 1 1, 3) := by decide +kernel
theorem dX4_cardsChanging_27 : decode cX4_cardsChanging 27 = .ok (.iinc 2 1, 3) := by decide +kernel
theorem dX4_cardsChanging_30 : decode cX4_cardsChanging 30 = .ok (.goto (-26), 3) := by decide +kernel
theorem dX4_cardsChanging_33 : decode cX4_cardsChanging 33 = .ok (.iload_n 1, 1) := by decide +kernel
theorem dX4_cardsChanging_34 : decode cX4_cardsChanging 34 = .ok (.ireturn, 1) := by decide +kernel
theorem dX4_unseenChanging_0 : decode cX4_unseenChanging 0 = .ok (.iconst 0, 1) := by decide +kernel
theorem dX4_unseenChanging_1 : decode cX4_unseenChanging 1 = .ok (.istore_n 1, 1) := by decide +kernel
theorem dX4_unseenChanging_2 : decode cX4_unseenChanging 2 = .ok (.iconst 0, 1) := by decide +kernel
theorem dX4_unseenChanging_3 : decode cX4_unseenChanging 3 = .ok (.istore_n 2, 1) := by decide +kernel
theorem dX4_unseenChanging_4 : decode cX4_unseenChanging 4 = .ok (.iload_n 2, 1) := by decide +kernel
theorem dX4_unseenChanging_5 : decode cX4_unseenChanging 5 = .ok (.aload_n 0, 1) := by decide +kernel
theorem dX4_unseenChanging_6 : decode cX4_unseenChanging 6 = .ok (.getfield 12, 3) := by decide +kernel
theorem dX4_unseenChanging_9 : decode cX4_unseenChanging 9 = .ok (.getfield 62, 3) := by decide +kernel
theorem dX4_unseenChanging_12 : decode cX4_unseenChanging 12 = .ok (.if_icmp .ge 34, 3) := by decide +kernel
theorem dX4_unseenChanging_15 : decode cX4_unseenChanging 15 = .ok (.aload_n 0, 1) := by decide +kernel
theorem dX4_unseenChanging_16 : decode cX4_unseenChanging 16 = .ok (.getfield 55, 3) := by decide +kernel
theorem dX4_unseenChanging_19 : decode cX4_unseenChanging 19 = .ok (.iload_n 2, 1) := by decide +kernel
theorem dX4_unseenChanging_20 : decode cX4_unseenChanging 20 = .ok (.baload, 1) := by decide +kernel
theorem dX4_unseenChanging_21 : decode cX4_unseenChanging 21 = .ok (.ifCond .eq 19, 3) := by decide +kernel
theorem dX4_unseenChanging_24 : decode cX4_unseenChanging 24 = .ok (.aload_n 0, 1) := by decide +kernel
theorem dX4_unseenChanging_25 : decode cX4_unseenChanging 25 = .ok (.getfield 12, 3) := by decide +kernel
theorem dX4_unseenChanging_28 : decode cX4_unseenChanging 28 = .ok (.getfield 116, 3) := by decide +kernel
theorem dX4_unseenChanging_31 : decode cX4_unseenChanging 31 = .ok (.iload_n 2, 1) := by decide +kernel
theorem dX4_unseenChanging_32 : decode cX4_unseenChanging 32 = .ok (.iaload, 1) := by decide +kernel
theorem dX4_unseenChanging_33 : decode cX4_unseenChanging 33 = .ok (.iconst 2, 1) := by decide +kernel
theorem dX4_unseenChanging_34 : decode cX4_unseenChanging 34 = .ok (.if_icmp .eq 6, 3) := by decide +kernel
theorem dX4_unseenChanging_37 : decode cX4_unseenChanging 37 = .ok (.iinc 1 1, 3) := by decide +kernel
theorem dX4_unseenChanging_40 : decode cX4_unseenChanging 40 = .ok (.iinc 2 1, 3) := by decide +kernel
theorem dX4_unseenChanging_43 : decode cX4_unseenChanging 43 = .ok (.goto (-39), 3) := by decide +kernel
theorem dX4_unseenChanging_46 : decode cX4_unseenChanging 46 = .ok (.iload_n 1, 1) := by decide +kernel
theorem dX4_unseenChanging_47 : decode cX4_unseenChanging 47 = .ok (.ireturn, 1) := by decide +kernel
theorem dX4_inPool_0 : decode cX4_inPool 0 = .ok (.iload_n 1, 1) := by decide +kernel
theorem dX4_inPool_1 : decode cX4_inPool 1 = .ok (.ifCond .lt 26, 3) := by decide +kernel
theorem dX4_inPool_4 : decode cX4_inPool 4 = .ok (.iload_n 1, 1) := by decide +kernel
theorem dX4_inPool_5 : decode cX4_inPool 5 = .ok (.aload_n 0, 1) := by decide +kernel
theorem dX4_inPool_6 : decode cX4_inPool 6 = .ok (.getfield 12, 3) := by decide +kernel
theorem dX4_inPool_9 : decode cX4_inPool 9 = .ok (.getfield 62, 3) := by decide +kernel
theorem dX4_inPool_12 : decode cX4_inPool 12 = .ok (.if_icmp .ge 15, 3) := by decide +kernel
theorem dX4_inPool_15 : decode cX4_inPool 15 = .ok (.aload_n 0, 1) := by decide +kernel
theorem dX4_inPool_16 : decode cX4_inPool 16 = .ok (.getfield 12, 3) := by decide +kernel
theorem dX4_inPool_19 : decode cX4_inPool 19 = .ok (.getfield 116, 3) := by decide +kernel
theorem dX4_inPool_22 : decode cX4_inPool 22 = .ok (.iload_n 1, 1) := by decide +kernel
theorem dX4_inPool_23 : decode cX4_inPool 23 = .ok (.iaload, 1) := by decide +kernel
theorem dX4_inPool_24 : decode cX4_inPool 24 = .ok (.ifCond .eq 5, 3) := by decide +kernel
theorem dX4_inPool_27 : decode cX4_inPool 27 = .ok (.iconst 0, 1) := by decide +kernel
theorem dX4_inPool_28 : decode cX4_inPool 28 = .ok (.ireturn, 1) := by decide +kernel
theorem dX4_inPool_29 : decode cX4_inPool 29 = .ok (.aload_n 0, 1) := by decide +kernel
theorem dX4_inPool_30 : decode cX4_inPool 30 = .ok (.getfield 52, 3) := by decide +kernel
theorem dX4_inPool_33 : decode cX4_inPool 33 = .ok (.iload_n 1, 1) := by decide +kernel
theorem dX4_inPool_34 : decode cX4_inPool 34 = .ok (.iaload, 1) := by decide +kernel
theorem dX4_inPool_35 : decode cX4_inPool 35 = .ok (.ifCond .ne 12, 3) := by decide +kernel
theorem dX4_inPool_38 : decode cX4_inPool 38 = .ok (.aload_n 0, 1) := by decide +kernel
theorem dX4_inPool_39 : decode cX4_inPool 39 = .ok (.getfield 55, 3) := by decide +kernel
theorem dX4_inPool_42 : decode cX4_inPool 42 = .ok (.iload_n 1, 1) := by decide +kernel
theorem dX4_inPool_43 : decode cX4_inPool 43 = .ok (.baload, 1) := by decide +kernel
theorem dX4_inPool_44 : decode cX4_inPool 44 = .ok (.ifCond .eq 7, 3) := by decide +kernel
theorem dX4_inPool_47 : decode cX4_inPool 47 = .ok (.iconst 1, 1) := by decide +kernel
theorem dX4_inPool_48 : decode cX4_inPool 48 = .ok (.goto 4, 3) := by decide +kernel
theorem dX4_inPool_51 : decode cX4_inPool 51 = .ok (.iconst 0, 1) := by decide +kernel
theorem dX4_inPool_52 : decode cX4_inPool 52 = .ok (.ireturn, 1) := by decide +kernel
theorem dX4_placeInPool_0 : decode cX4_placeInPool 0 = .ok (.iconst 0, 1) := by decide +kernel
theorem dX4_placeInPool_1 : decode cX4_placeInPool 1 = .ok (.istore_n 2, 1) := by decide +kernel
theorem dX4_placeInPool_2 : decode cX4_placeInPool 2 = .ok (.iconst 0, 1) := by decide +kernel
theorem dX4_placeInPool_3 : decode cX4_placeInPool 3 = .ok (.istore_n 3, 1) := by decide +kernel
theorem dX4_placeInPool_4 : decode cX4_placeInPool 4 = .ok (.iload_n 3, 1) := by decide +kernel
theorem dX4_placeInPool_5 : decode cX4_placeInPool 5 = .ok (.iload_n 1, 1) := by decide +kernel
theorem dX4_placeInPool_6 : decode cX4_placeInPool 6 = .ok (.if_icmp .ge 31, 3) := by decide +kernel
theorem dX4_placeInPool_9 : decode cX4_placeInPool 9 = .ok (.iload_n 3, 1) := by decide +kernel
theorem dX4_placeInPool_10 : decode cX4_placeInPool 10 = .ok (.aload_n 0, 1) := by decide +kernel
theorem dX4_placeInPool_11 : decode cX4_placeInPool 11 = .ok (.getfield 12, 3) := by decide +kernel
theorem dX4_placeInPool_14 : decode cX4_placeInPool 14 = .ok (.getfield 62, 3) := by decide +kernel
theorem dX4_placeInPool_17 : decode cX4_placeInPool 17 = .ok (.if_icmp .ge 20, 3) := by decide +kernel
theorem dX4_placeInPool_20 : decode cX4_placeInPool 20 = .ok (.aload_n 0, 1) := by decide +kernel
theorem dX4_placeInPool_21 : decode cX4_placeInPool 21 = .ok (.iload_n 3, 1) := by decide +kernel
theorem dX4_placeInPool_22 : decode cX4_placeInPool 22 = .ok (.invokevirtual 155, 3) := by decide +kernel
theorem dX4_placeInPool_25 : decode cX4_placeInPool 25 = .ok (.ifCond .eq 6, 3) := by decide +kernel
theorem dX4_placeInPool_28 : decode cX4_placeInPool 28 = .ok (.iinc 2 1, 3) := by decide +kernel
theorem dX4_placeInPool_31 : decode cX4_placeInPool 31 = .ok (.iinc 3 1, 3) := by decide +kernel
theorem dX4_placeInPool_34 : decode cX4_placeInPool 34 = .ok (.goto (-30), 3) := by decide +kernel
theorem dX4_placeInPool_37 : decode cX4_placeInPool 37 = .ok (.iload_n 2, 1) := by decide +kernel
theorem dX4_placeInPool_38 : decode cX4_placeInPool 38 = .ok (.ireturn, 1) := by decide +kernel
theorem dX4_poolSize_0 : decode cX4_poolSize 0 = .ok (.aload_n 0, 1) := by decide +kernel
theorem dX4_poolSize_1 : decode cX4_poolSize 1 = .ok (.aload_n 0, 1) := by decide +kernel
theorem dX4_poolSize_2 : decode cX4_poolSize 2 = .ok (.getfield 12, 3) := by decide +kernel
theorem dX4_poolSize_5 : decode cX4_poolSize 5 = .ok (.getfield 62, 3) := by decide +kernel
theorem dX4_poolSize_8 : decode cX4_poolSize 8 = .ok (.invokevirtual 158, 3) := by decide +kernel
theorem dX4_poolSize_11 : decode cX4_poolSize 11 = .ok (.ireturn, 1) := by decide +kernel
theorem dX4_poolCard_0 : decode cX4_poolCard 0 = .ok (.iconst 0, 1) := by decide +kernel
theorem dX4_poolCard_1 : decode cX4_poolCard 1 = .ok (.istore_n 2, 1) := by decide +kernel
theorem dX4_poolCard_2 : decode cX4_poolCard 2 = .ok (.iconst 0, 1) := by decide +kernel
theorem dX4_poolCard_3 : decode cX4_poolCard 3 = .ok (.istore_n 3, 1) := by decide +kernel
theorem dX4_poolCard_4 : decode cX4_poolCard 4 = .ok (.iload_n 3, 1) := by decide +kernel
theorem dX4_poolCard_5 : decode cX4_poolCard 5 = .ok (.aload_n 0, 1) := by decide +kernel
theorem dX4_poolCard_6 : decode cX4_poolCard 6 = .ok (.getfield 12, 3) := by decide +kernel
theorem dX4_poolCard_9 : decode cX4_poolCard 9 = .ok (.getfield 62, 3) := by decide +kernel
theorem dX4_poolCard_12 : decode cX4_poolCard 12 = .ok (.if_icmp .ge 30, 3) := by decide +kernel
theorem dX4_poolCard_15 : decode cX4_poolCard 15 = .ok (.aload_n 0, 1) := by decide +kernel
theorem dX4_poolCard_16 : decode cX4_poolCard 16 = .ok (.iload_n 3, 1) := by decide +kernel
theorem dX4_poolCard_17 : decode cX4_poolCard 17 = .ok (.invokevirtual 155, 3) := by decide +kernel
theorem dX4_poolCard_20 : decode cX4_poolCard 20 = .ok (.ifCond .ne 6, 3) := by decide +kernel
theorem dX4_poolCard_23 : decode cX4_poolCard 23 = .ok (.goto 13, 3) := by decide +kernel
theorem dX4_poolCard_26 : decode cX4_poolCard 26 = .ok (.iload_n 2, 1) := by decide +kernel
theorem dX4_poolCard_27 : decode cX4_poolCard 27 = .ok (.iload_n 1, 1) := by decide +kernel
theorem dX4_poolCard_28 : decode cX4_poolCard 28 = .ok (.if_icmp .ne 5, 3) := by decide +kernel
theorem dX4_poolCard_31 : decode cX4_poolCard 31 = .ok (.iload_n 3, 1) := by decide +kernel
theorem dX4_poolCard_32 : decode cX4_poolCard 32 = .ok (.ireturn, 1) := by decide +kernel
theorem dX4_poolCard_33 : decode cX4_poolCard 33 = .ok (.iinc 2 1, 3) := by decide +kernel
theorem dX4_poolCard_36 : decode cX4_poolCard 36 = .ok (.iinc 3 1, 3) := by decide +kernel
theorem dX4_poolCard_39 : decode cX4_poolCard 39 = .ok (.goto (-35), 3) := by decide +kernel
theorem dX4_poolCard_42 : decode cX4_poolCard 42 = .ok (.bipush (-9), 2) := by decide +kernel
theorem dX4_poolCard_44 : decode cX4_poolCard 44 = .ok (.ireturn, 1) := by decide +kernel
theorem dX4_leadingChoice_0 : decode cX4_leadingChoice 0 = .ok (.iconst 0, 1) := by decide +kernel
theorem dX4_leadingChoice_1 : decode cX4_leadingChoice 1 = .ok (.istore_n 2, 1) := by decide +kernel
theorem dX4_leadingChoice_2 : decode cX4_leadingChoice 2 = .ok (.iconst (-1), 1) := by decide +kernel
theorem dX4_leadingChoice_3 : decode cX4_leadingChoice 3 = .ok (.istore_n 3, 1) := by decide +kernel
theorem dX4_leadingChoice_4 : decode cX4_leadingChoice 4 = .ok (.iconst 0, 1) := by decide +kernel
theorem dX4_leadingChoice_5 : decode cX4_leadingChoice 5 = .ok (.istore 4, 2) := by decide +kernel
theorem dX4_leadingChoice_7 : decode cX4_leadingChoice 7 = .ok (.iload 4, 2) := by decide +kernel
theorem dX4_leadingChoice_9 : decode cX4_leadingChoice 9 = .ok (.iconst 3, 1) := by decide +kernel
theorem dX4_leadingChoice_10 : decode cX4_leadingChoice 10 = .ok (.if_icmp .ge 32, 3) := by decide +kernel
theorem dX4_leadingChoice_13 : decode cX4_leadingChoice 13 = .ok (.aload_n 0, 1) := by decide +kernel
theorem dX4_leadingChoice_14 : decode cX4_leadingChoice 14 = .ok (.iload_n 1, 1) := by decide +kernel
theorem dX4_leadingChoice_15 : decode cX4_leadingChoice 15 = .ok (.iload 4, 2) := by decide +kernel
theorem dX4_leadingChoice_17 : decode cX4_leadingChoice 17 = .ok (.iconst (-1), 1) := by decide +kernel
theorem dX4_leadingChoice_18 : decode cX4_leadingChoice 18 = .ok (.iconst (-1), 1) := by decide +kernel
theorem dX4_leadingChoice_19 : decode cX4_leadingChoice 19 = .ok (.invokevirtual 161, 3) := by decide +kernel
theorem dX4_leadingChoice_22 : decode cX4_leadingChoice 22 = .ok (.istore 5, 2) := by decide +kernel
theorem dX4_leadingChoice_24 : decode cX4_leadingChoice 24 = .ok (.iload 5, 2) := by decide +kernel
theorem dX4_leadingChoice_26 : decode cX4_leadingChoice 26 = .ok (.iload_n 3, 1) := by decide +kernel
theorem dX4_leadingChoice_27 : decode cX4_leadingChoice 27 = .ok (.if_icmp .le 9, 3) := by decide +kernel
theorem dX4_leadingChoice_30 : decode cX4_leadingChoice 30 = .ok (.iload 5, 2) := by decide +kernel
theorem dX4_leadingChoice_32 : decode cX4_leadingChoice 32 = .ok (.istore_n 3, 1) := by decide +kernel
theorem dX4_leadingChoice_33 : decode cX4_leadingChoice 33 = .ok (.iload 4, 2) := by decide +kernel
theorem dX4_leadingChoice_35 : decode cX4_leadingChoice 35 = .ok (.istore_n 2, 1) := by decide +kernel
theorem dX4_leadingChoice_36 : decode cX4_leadingChoice 36 = .ok (.iinc 4 1, 3) := by decide +kernel
theorem dX4_leadingChoice_39 : decode cX4_leadingChoice 39 = .ok (.goto (-32), 3) := by decide +kernel
theorem dX4_leadingChoice_42 : decode cX4_leadingChoice 42 = .ok (.iload_n 2, 1) := by decide +kernel
theorem dX4_leadingChoice_43 : decode cX4_leadingChoice 43 = .ok (.ireturn, 1) := by decide +kernel
theorem dX4_leadOf_0 : decode cX4_leadOf 0 = .ok (.iconst 0, 1) := by decide +kernel
theorem dX4_leadOf_1 : decode cX4_leadOf 1 = .ok (.istore_n 3, 1) := by decide +kernel
theorem dX4_leadOf_2 : decode cX4_leadOf 2 = .ok (.iconst 0, 1) := by decide +kernel
theorem dX4_leadOf_3 : decode cX4_leadOf 3 = .ok (.istore 4, 2) := by decide +kernel
theorem dX4_leadOf_5 : decode cX4_leadOf 5 = .ok (.iload 4, 2) := by decide +kernel
theorem dX4_leadOf_7 : decode cX4_leadOf 7 = .ok (.iconst 3, 1) := by decide +kernel
theorem dX4_leadOf_8 : decode cX4_leadOf 8 = .ok (.if_icmp .ge 29, 3) := by decide +kernel
theorem dX4_leadOf_11 : decode cX4_leadOf 11 = .ok (.iload 4, 2) := by decide +kernel
theorem dX4_leadOf_13 : decode cX4_leadOf 13 = .ok (.iload_n 2, 1) := by decide +kernel
theorem dX4_leadOf_14 : decode cX4_leadOf 14 = .ok (.if_icmp .eq 17, 3) := by decide +kernel
theorem dX4_leadOf_17 : decode cX4_leadOf 17 = .ok (.iload_n 3, 1) := by decide +kernel
theorem dX4_leadOf_18 : decode cX4_leadOf 18 = .ok (.aload_n 0, 1) := by decide +kernel
theorem dX4_leadOf_19 : decode cX4_leadOf 19 = .ok (.iload_n 1, 1) := by decide +kernel
theorem dX4_leadOf_20 : decode cX4_leadOf 20 = .ok (.iload 4, 2) := by decide +kernel
theorem dX4_leadOf_22 : decode cX4_leadOf 22 = .ok (.iconst (-1), 1) := by decide +kernel
theorem dX4_leadOf_23 : decode cX4_leadOf 23 = .ok (.iconst (-1), 1) := by decide +kernel
theorem dX4_leadOf_24 : decode cX4_leadOf 24 = .ok (.invokevirtual 161, 3) := by decide +kernel
theorem dX4_leadOf_27 : decode cX4_leadOf 27 = .ok (.invokestatic 119, 3) := by decide +kernel
theorem dX4_leadOf_30 : decode cX4_leadOf 30 = .ok (.istore_n 3, 1) := by decide +kernel
theorem dX4_leadOf_31 : decode cX4_leadOf 31 = .ok (.iinc 4 1, 3) := by decide +kernel
theorem dX4_leadOf_34 : decode cX4_leadOf 34 = .ok (.goto (-29), 3) := by decide +kernel
theorem dX4_leadOf_37 : decode cX4_leadOf 37 = .ok (.aload_n 0, 1) := by decide +kernel
theorem dX4_leadOf_38 : decode cX4_leadOf 38 = .ok (.iload_n 1, 1) := by decide +kernel
theorem dX4_leadOf_39 : decode cX4_leadOf 39 = .ok (.iload_n 2, 1) := by decide +kernel
theorem dX4_leadOf_40 : decode cX4_leadOf 40 = .ok (.iconst (-1), 1) := by decide +kernel
theorem dX4_leadOf_41 : decode cX4_leadOf 41 = .ok (.iconst (-1), 1) := by decide +kernel
theorem dX4_leadOf_42 : decode cX4_leadOf 42 = .ok (.invokevirtual 161, 3) := by decide +kernel
theorem dX4_leadOf_45 : decode cX4_leadOf 45 = .ok (.iload_n 3, 1) := by decide +kernel
theorem dX4_leadOf_46 : decode cX4_leadOf 46 = .ok (.isub, 1) := by decide +kernel
theorem dX4_leadOf_47 : decode cX4_leadOf 47 = .ok (.ireturn, 1) := by decide +kernel
theorem dX4_errorOf_0 : decode cX4_errorOf 0 = .ok (.aload_n 0, 1) := by decide +kernel
theorem dX4_errorOf_1 : decode cX4_errorOf 1 = .ok (.getfield 12, 3) := by decide +kernel
theorem dX4_errorOf_4 : decode cX4_errorOf 4 = .ok (.iload_n 1, 1) := by decide +kernel
theorem dX4_errorOf_5 : decode cX4_errorOf 5 = .ok (.invokevirtual 142, 3) := by decide +kernel
theorem dX4_errorOf_8 : decode cX4_errorOf 8 = .ok (.ifCond .ne 5, 3) := by decide +kernel
theorem dX4_errorOf_11 : decode cX4_errorOf 11 = .ok (.iconst 0, 1) := by decide +kernel
theorem dX4_errorOf_12 : decode cX4_errorOf 12 = .ok (.ireturn, 1) := by decide +kernel
theorem dX4_errorOf_13 : decode cX4_errorOf 13 = .ok (.iconst 0, 1) := by decide +kernel
theorem dX4_errorOf_14 : decode cX4_errorOf 14 = .ok (.istore_n 3, 1) := by decide +kernel
theorem dX4_errorOf_15 : decode cX4_errorOf 15 = .ok (.iconst 0, 1) := by decide +kernel
theorem dX4_errorOf_16 : decode cX4_errorOf 16 = .ok (.istore 4, 2) := by decide +kernel
theorem dX4_errorOf_18 : decode cX4_errorOf 18 = .ok (.iload 4, 2) := by decide +kernel
theorem dX4_errorOf_20 : decode cX4_errorOf 20 = .ok (.bipush 12, 2) := by decide +kernel
theorem dX4_errorOf_22 : decode cX4_errorOf 22 = .ok (.if_icmp .ge 100, 3) := by decide +kernel
theorem dX4_errorOf_25 : decode cX4_errorOf 25 = .ok (.iload_n 1, 1) := by decide +kernel
theorem dX4_errorOf_26 : decode cX4_errorOf 26 = .ok (.bipush 12, 2) := by decide +kernel
theorem dX4_errorOf_28 : decode cX4_errorOf 28 = .ok (.imul, 1) := by decide +kernel
theorem dX4_errorOf_29 : decode cX4_errorOf 29 = .ok (.iload 4, 2) := by decide +kernel
theorem dX4_errorOf_31 : decode cX4_errorOf 31 = .ok (.iadd, 1) := by decide +kernel
theorem dX4_errorOf_32 : decode cX4_errorOf 32 = .ok (.istore 5, 2) := by decide +kernel
theorem dX4_errorOf_34 : decode cX4_errorOf 34 = .ok (.aload_n 0, 1) := by decide +kernel
theorem dX4_errorOf_35 : decode cX4_errorOf 35 = .ok (.getfield 22, 3) := by decide +kernel
theorem dX4_errorOf_38 : decode cX4_errorOf 38 = .ok (.iload 5, 2) := by decide +kernel
theorem dX4_errorOf_40 : decode cX4_errorOf 40 = .ok (.iaload, 1) := by decide +kernel
theorem dX4_errorOf_41 : decode cX4_errorOf 41 = .ok (.aload_n 0, 1) := by decide +kernel
theorem dX4_errorOf_42 : decode cX4_errorOf 42 = .ok (.getfield 25, 3) := by decide +kernel
theorem dX4_errorOf_45 : decode cX4_errorOf 45 = .ok (.iload 5, 2) := by decide +kernel
theorem dX4_errorOf_47 : decode cX4_errorOf 47 = .ok (.iaload, 1) := by decide +kernel
theorem dX4_errorOf_48 : decode cX4_errorOf 48 = .ok (.isub, 1) := by decide +kernel
theorem dX4_errorOf_49 : decode cX4_errorOf 49 = .ok (.invokestatic 165, 3) := by decide +kernel
theorem dX4_errorOf_52 : decode cX4_errorOf 52 = .ok (.istore 6, 2) := by decide +kernel
theorem dX4_errorOf_54 : decode cX4_errorOf 54 = .ok (.iload_n 2, 1) := by decide +kernel
theorem dX4_errorOf_55 : decode cX4_errorOf 55 = .ok (.ifCond .ne 19, 3) := by decide +kernel
theorem dX4_errorOf_58 : decode cX4_errorOf 58 = .ok (.iload_n 3, 1) := by decide +kernel
theorem dX4_errorOf_59 : decode cX4_errorOf 59 = .ok (.iload 6, 2) := by decide +kernel
theorem dX4_errorOf_61 : decode cX4_errorOf 61 = .ok (.ifCond .ne 7, 3) := by decide +kernel
theorem dX4_errorOf_64 : decode cX4_errorOf 64 = .ok (.iconst 0, 1) := by decide +kernel
theorem dX4_errorOf_65 : decode cX4_errorOf 65 = .ok (.goto 4, 3) := by decide +kernel
theorem dX4_errorOf_68 : decode cX4_errorOf 68 = .ok (.iconst 1, 1) := by decide +kernel
theorem dX4_errorOf_69 : decode cX4_errorOf 69 = .ok (.iadd, 1) := by decide +kernel
theorem dX4_errorOf_70 : decode cX4_errorOf 70 = .ok (.istore_n 3, 1) := by decide +kernel
theorem dX4_errorOf_71 : decode cX4_errorOf 71 = .ok (.goto 45, 3) := by decide +kernel
theorem dX4_errorOf_74 : decode cX4_errorOf 74 = .ok (.iload_n 2, 1) := by decide +kernel
theorem dX4_errorOf_75 : decode cX4_errorOf 75 = .ok (.iconst 1, 1) := by decide +kernel
theorem dX4_errorOf_76 : decode cX4_errorOf 76 = .ok (.if_icmp .ne 11, 3) := by decide +kernel
theorem dX4_errorOf_79 : decode cX4_errorOf 79 = .ok (.iload_n 3, 1) := by decide +kernel
theorem dX4_errorOf_80 : decode cX4_errorOf 80 = .ok (.iload 6, 2) := by decide +kernel
theorem dX4_errorOf_82 : decode cX4_errorOf 82 = .ok (.iadd, 1) := by decide +kernel
theorem dX4_errorOf_83 : decode cX4_errorOf 83 = .ok (.istore_n 3, 1) := by decide +kernel
theorem dX4_errorOf_84 : decode cX4_errorOf 84 = .ok (.goto 32, 3) := by decide +kernel
theorem dX4_errorOf_87 : decode cX4_errorOf 87 = .ok (.iload_n 3, 1) := by decide +kernel
theorem dX4_errorOf_88 : decode cX4_errorOf 88 = .ok (.aload_n 0, 1) := by decide +kernel
theorem dX4_errorOf_89 : decode cX4_errorOf 89 = .ok (.getfield 22, 3) := by decide +kernel
theorem dX4_errorOf_92 : decode cX4_errorOf 92 = .ok (.iload 5, 2) := by decide +kernel
theorem dX4_errorOf_94 : decode cX4_errorOf 94 = .ok (.iaload, 1) := by decide +kernel
theorem dX4_errorOf_95 : decode cX4_errorOf 95 = .ok (.aload_n 0, 1) := by decide +kernel
theorem dX4_errorOf_96 : decode cX4_errorOf 96 = .ok (.getfield 40, 3) := by decide +kernel
theorem dX4_errorOf_99 : decode cX4_errorOf 99 = .ok (.iload 5, 2) := by decide +kernel
theorem dX4_errorOf_101 : decode cX4_errorOf 101 = .ok (.iaload, 1) := by decide +kernel
theorem dX4_errorOf_102 : decode cX4_errorOf 102 = .ok (.isub, 1) := by decide +kernel
theorem dX4_errorOf_103 : decode cX4_errorOf 103 = .ok (.aload_n 0, 1) := by decide +kernel
theorem dX4_errorOf_104 : decode cX4_errorOf 104 = .ok (.getfield 25, 3) := by decide +kernel
theorem dX4_errorOf_107 : decode cX4_errorOf 107 = .ok (.iload 5, 2) := by decide +kernel
theorem dX4_errorOf_109 : decode cX4_errorOf 109 = .ok (.iaload, 1) := by decide +kernel
theorem dX4_errorOf_110 : decode cX4_errorOf 110 = .ok (.isub, 1) := by decide +kernel
theorem dX4_errorOf_111 : decode cX4_errorOf 111 = .ok (.invokestatic 165, 3) := by decide +kernel
theorem dX4_errorOf_114 : decode cX4_errorOf 114 = .ok (.iadd, 1) := by decide +kernel
theorem dX4_errorOf_115 : decode cX4_errorOf 115 = .ok (.istore_n 3, 1) := by decide +kernel
theorem dX4_errorOf_116 : decode cX4_errorOf 116 = .ok (.iinc 4 1, 3) := by decide +kernel
theorem dX4_errorOf_119 : decode cX4_errorOf 119 = .ok (.goto (-101), 3) := by decide +kernel
theorem dX4_errorOf_122 : decode cX4_errorOf 122 = .ok (.iload_n 3, 1) := by decide +kernel
theorem dX4_errorOf_123 : decode cX4_errorOf 123 = .ok (.ireturn, 1) := by decide +kernel
theorem dX4_otherWith_0 : decode cX4_otherWith 0 = .ok (.aload_n 0, 1) := by decide +kernel
theorem dX4_otherWith_1 : decode cX4_otherWith 1 = .ok (.getfield 49, 3) := by decide +kernel
theorem dX4_otherWith_4 : decode cX4_otherWith 4 = .ok (.iconst 0, 1) := by decide +kernel
theorem dX4_otherWith_5 : decode cX4_otherWith 5 = .ok (.aload_n 0, 1) := by decide +kernel
theorem dX4_otherWith_6 : decode cX4_otherWith 6 = .ok (.getfield 59, 3) := by decide +kernel
theorem dX4_otherWith_9 : decode cX4_otherWith 9 = .ok (.iconst 0, 1) := by decide +kernel
theorem dX4_otherWith_10 : decode cX4_otherWith 10 = .ok (.bipush 40, 2) := by decide +kernel
theorem dX4_otherWith_12 : decode cX4_otherWith 12 = .ok (.invokestatic 168, 3) := by decide +kernel
theorem dX4_otherWith_15 : decode cX4_otherWith 15 = .ok (.aload_n 0, 1) := by decide +kernel
theorem dX4_otherWith_16 : decode cX4_otherWith 16 = .ok (.iload_n 1, 1) := by decide +kernel
theorem dX4_otherWith_17 : decode cX4_otherWith 17 = .ok (.invokevirtual 83, 3) := by decide +kernel
theorem dX4_otherWith_20 : decode cX4_otherWith 20 = .ok (.iconst 0, 1) := by decide +kernel
theorem dX4_otherWith_21 : decode cX4_otherWith 21 = .ok (.istore_n 2, 1) := by decide +kernel
theorem dX4_otherWith_22 : decode cX4_otherWith 22 = .ok (.iconst 0, 1) := by decide +kernel
theorem dX4_otherWith_23 : decode cX4_otherWith 23 = .ok (.istore_n 3, 1) := by decide +kernel
theorem dX4_otherWith_24 : decode cX4_otherWith 24 = .ok (.iload_n 3, 1) := by decide +kernel
theorem dX4_otherWith_25 : decode cX4_otherWith 25 = .ok (.aload_n 0, 1) := by decide +kernel
theorem dX4_otherWith_26 : decode cX4_otherWith 26 = .ok (.getfield 12, 3) := by decide +kernel
theorem dX4_otherWith_29 : decode cX4_otherWith 29 = .ok (.getfield 62, 3) := by decide +kernel
theorem dX4_otherWith_32 : decode cX4_otherWith 32 = .ok (.if_icmp .ge 27, 3) := by decide +kernel
theorem dX4_otherWith_35 : decode cX4_otherWith 35 = .ok (.aload_n 0, 1) := by decide +kernel
theorem dX4_otherWith_36 : decode cX4_otherWith 36 = .ok (.getfield 49, 3) := by decide +kernel
theorem dX4_otherWith_39 : decode cX4_otherWith 39 = .ok (.iload_n 3, 1) := by decide +kernel
theorem dX4_otherWith_40 : decode cX4_otherWith 40 = .ok (.iaload, 1) := by decide +kernel
theorem dX4_otherWith_41 : decode cX4_otherWith 41 = .ok (.aload_n 0, 1) := by decide +kernel
theorem dX4_otherWith_42 : decode cX4_otherWith 42 = .ok (.getfield 59, 3) := by decide +kernel
theorem dX4_otherWith_45 : decode cX4_otherWith 45 = .ok (.iload_n 3, 1) := by decide +kernel
theorem dX4_otherWith_46 : decode cX4_otherWith 46 = .ok (.iaload, 1) := by decide +kernel
theorem dX4_otherWith_47 : decode cX4_otherWith 47 = .ok (.if_icmp .eq 6, 3) := by decide +kernel
theorem dX4_otherWith_50 : decode cX4_otherWith 50 = .ok (.iinc 2 1, 3) := by decide +kernel
theorem dX4_otherWith_53 : decode cX4_otherWith 53 = .ok (.iinc 3 1, 3) := by decide +kernel
theorem dX4_otherWith_56 : decode cX4_otherWith 56 = .ok (.goto (-32), 3) := by decide +kernel
theorem dX4_otherWith_59 : decode cX4_otherWith 59 = .ok (.iload_n 2, 1) := by decide +kernel
theorem dX4_otherWith_60 : decode cX4_otherWith 60 = .ok (.ireturn, 1) := by decide +kernel
theorem dX5_init_0 : decode cX5_init 0 = .ok (.aload_n 0, 1) := by decide +kernel
theorem dX5_init_1 : decode cX5_init 1 = .ok (.invokespecial 3, 3) := by decide +kernel
theorem dX5_init_4 : decode cX5_init 4 = .ok (.aload_n 0, 1) := by decide +kernel
theorem dX5_init_5 : decode cX5_init 5 = .ok (.iconst 2, 1) := by decide +kernel
theorem dX5_init_6 : decode cX5_init 6 = .ok (.anewarray 9, 3) := by decide +kernel
theorem dX5_init_9 : decode cX5_init 9 = .ok (.dup, 1) := by decide +kernel
theorem dX5_init_10 : decode cX5_init 10 = .ok (.iconst 0, 1) := by decide +kernel
theorem dX5_init_11 : decode cX5_init 11 = .ok (.new 9, 3) := by decide +kernel
theorem dX5_init_14 : decode cX5_init 14 = .ok (.dup, 1) := by decide +kernel
theorem dX5_init_15 : decode cX5_init 15 = .ok (.invokespecial 11, 3) := by decide +kernel
theorem dX5_init_18 : decode cX5_init 18 = .ok (.aastore, 1) := by decide +kernel
theorem dX5_init_19 : decode cX5_init 19 = .ok (.dup, 1) := by decide +kernel
theorem dX5_init_20 : decode cX5_init 20 = .ok (.iconst 1, 1) := by decide +kernel
theorem dX5_init_21 : decode cX5_init 21 = .ok (.new 9, 3) := by decide +kernel
theorem dX5_init_24 : decode cX5_init 24 = .ok (.dup, 1) := by decide +kernel
theorem dX5_init_25 : decode cX5_init 25 = .ok (.invokespecial 11, 3) := by decide +kernel
theorem dX5_init_28 : decode cX5_init 28 = .ok (.aastore, 1) := by decide +kernel
theorem dX5_init_29 : decode cX5_init 29 = .ok (.putfield 12, 3) := by decide +kernel
theorem dX5_init_32 : decode cX5_init 32 = .ok (.aload_n 0, 1) := by decide +kernel
theorem dX5_init_33 : decode cX5_init 33 = .ok (.iconst 2, 1) := by decide +kernel
theorem dX5_init_34 : decode cX5_init 34 = .ok (.newarray .boolean, 2) := by decide +kernel
theorem dX5_init_36 : decode cX5_init 36 = .ok (.putfield 18, 3) := by decide +kernel
theorem dX5_init_39 : decode cX5_init 39 = .ok (.return_, 1) := by decide +kernel
theorem dX5_copyFrom_0 : decode cX5_copyFrom 0 = .ok (.iconst 0, 1) := by decide +kernel
theorem dX5_copyFrom_1 : decode cX5_copyFrom 1 = .ok (.istore_n 2, 1) := by decide +kernel
theorem dX5_copyFrom_2 : decode cX5_copyFrom 2 = .ok (.iload_n 2, 1) := by decide +kernel
theorem dX5_copyFrom_3 : decode cX5_copyFrom 3 = .ok (.iconst 2, 1) := by decide +kernel
theorem dX5_copyFrom_4 : decode cX5_copyFrom 4 = .ok (.if_icmp .ge 45, 3) := by decide +kernel
theorem dX5_copyFrom_7 : decode cX5_copyFrom 7 = .ok (.aload_n 0, 1) := by decide +kernel
theorem dX5_copyFrom_8 : decode cX5_copyFrom 8 = .ok (.getfield 18, 3) := by decide +kernel
theorem dX5_copyFrom_11 : decode cX5_copyFrom 11 = .ok (.iload_n 2, 1) := by decide +kernel
theorem dX5_copyFrom_12 : decode cX5_copyFrom 12 = .ok (.aload_n 1, 1) := by decide +kernel
theorem dX5_copyFrom_13 : decode cX5_copyFrom 13 = .ok (.getfield 18, 3) := by decide +kernel
theorem dX5_copyFrom_16 : decode cX5_copyFrom 16 = .ok (.iload_n 2, 1) := by decide +kernel
theorem dX5_copyFrom_17 : decode cX5_copyFrom 17 = .ok (.baload, 1) := by decide +kernel
theorem dX5_copyFrom_18 : decode cX5_copyFrom 18 = .ok (.bastore, 1) := by decide +kernel
theorem dX5_copyFrom_19 : decode cX5_copyFrom 19 = .ok (.aload_n 0, 1) := by decide +kernel
theorem dX5_copyFrom_20 : decode cX5_copyFrom 20 = .ok (.getfield 18, 3) := by decide +kernel
theorem dX5_copyFrom_23 : decode cX5_copyFrom 23 = .ok (.iload_n 2, 1) := by decide +kernel
theorem dX5_copyFrom_24 : decode cX5_copyFrom 24 = .ok (.baload, 1) := by decide +kernel
theorem dX5_copyFrom_25 : decode cX5_copyFrom 25 = .ok (.ifCond .eq 18, 3) := by decide +kernel
theorem dX5_copyFrom_28 : decode cX5_copyFrom 28 = .ok (.aload_n 0, 1) := by decide +kernel
theorem dX5_copyFrom_29 : decode cX5_copyFrom 29 = .ok (.getfield 12, 3) := by decide +kernel
theorem dX5_copyFrom_32 : decode cX5_copyFrom 32 = .ok (.iload_n 2, 1) := by decide +kernel
theorem dX5_copyFrom_33 : decode cX5_copyFrom 33 = .ok (.aaload, 1) := by decide +kernel
theorem dX5_copyFrom_34 : decode cX5_copyFrom 34 = .ok (.aload_n 1, 1) := by decide +kernel
theorem dX5_copyFrom_35 : decode cX5_copyFrom 35 = .ok (.getfield 12, 3) := by decide +kernel
theorem dX5_copyFrom_38 : decode cX5_copyFrom 38 = .ok (.iload_n 2, 1) := by decide +kernel
theorem dX5_copyFrom_39 : decode cX5_copyFrom 39 = .ok (.aaload, 1) := by decide +kernel
theorem dX5_copyFrom_40 : decode cX5_copyFrom 40 = .ok (.invokevirtual 22, 3) := by decide +kernel
theorem dX5_copyFrom_43 : decode cX5_copyFrom 43 = .ok (.iinc 2 1, 3) := by decide +kernel
theorem dX5_copyFrom_46 : decode cX5_copyFrom 46 = .ok (.goto (-44), 3) := by decide +kernel
theorem dX5_copyFrom_49 : decode cX5_copyFrom 49 = .ok (.return_, 1) := by decide +kernel
theorem dX5_isFull_0 : decode cX5_isFull 0 = .ok (.iload_n 1, 1) := by decide +kernel
theorem dX5_isFull_1 : decode cX5_isFull 1 = .ok (.iconst 0, 1) := by decide +kernel
theorem dX5_isFull_2 : decode cX5_isFull 2 = .ok (.iconst 1, 1) := by decide +kernel
theorem dX5_isFull_3 : decode cX5_isFull 3 = .ok (.invokestatic 26, 3) := by decide +kernel
theorem dX5_isFull_6 : decode cX5_isFull 6 = .ok (.ifCond .eq 16, 3) := by decide +kernel
theorem dX5_isFull_9 : decode cX5_isFull 9 = .ok (.aload_n 0, 1) := by decide +kernel
theorem dX5_isFull_10 : decode cX5_isFull 10 = .ok (.getfield 18, 3) := by decide +kernel
theorem dX5_isFull_13 : decode cX5_isFull 13 = .ok (.iload_n 1, 1) := by decide +kernel
theorem dX5_isFull_14 : decode cX5_isFull 14 = .ok (.baload, 1) := by decide +kernel
theorem dX5_isFull_15 : decode cX5_isFull 15 = .ok (.ifCond .eq 7, 3) := by decide +kernel
theorem dX5_isFull_18 : decode cX5_isFull 18 = .ok (.iconst 1, 1) := by decide +kernel
theorem dX5_isFull_19 : decode cX5_isFull 19 = .ok (.goto 4, 3) := by decide +kernel
theorem dX5_isFull_22 : decode cX5_isFull 22 = .ok (.iconst 0, 1) := by decide +kernel
theorem dX5_isFull_23 : decode cX5_isFull 23 = .ok (.ireturn, 1) := by decide +kernel
theorem dX5_keep_0 : decode cX5_keep 0 = .ok (.iload_n 1, 1) := by decide +kernel
theorem dX5_keep_1 : decode cX5_keep 1 = .ok (.iconst 0, 1) := by decide +kernel
theorem dX5_keep_2 : decode cX5_keep 2 = .ok (.iconst 1, 1) := by decide +kernel
theorem dX5_keep_3 : decode cX5_keep 3 = .ok (.invokestatic 26, 3) := by decide +kernel
theorem dX5_keep_6 : decode cX5_keep 6 = .ok (.ifCond .eq 20, 3) := by decide +kernel
theorem dX5_keep_9 : decode cX5_keep 9 = .ok (.aload_n 0, 1) := by decide +kernel
theorem dX5_keep_10 : decode cX5_keep 10 = .ok (.getfield 12, 3) := by decide +kernel
theorem dX5_keep_13 : decode cX5_keep 13 = .ok (.iload_n 1, 1) := by decide +kernel
theorem dX5_keep_14 : decode cX5_keep 14 = .ok (.aaload, 1) := by decide +kernel
theorem dX5_keep_15 : decode cX5_keep 15 = .ok (.aload_n 2, 1) := by decide +kernel
theorem dX5_keep_16 : decode cX5_keep 16 = .ok (.invokevirtual 22, 3) := by decide +kernel
theorem dX5_keep_19 : decode cX5_keep 19 = .ok (.aload_n 0, 1) := by decide +kernel
theorem dX5_keep_20 : decode cX5_keep 20 = .ok (.getfield 18, 3) := by decide +kernel
theorem dX5_keep_23 : decode cX5_keep 23 = .ok (.iload_n 1, 1) := by decide +kernel
theorem dX5_keep_24 : decode cX5_keep 24 = .ok (.iconst 1, 1) := by decide +kernel
theorem dX5_keep_25 : decode cX5_keep 25 = .ok (.bastore, 1) := by decide +kernel
theorem dX5_keep_26 : decode cX5_keep 26 = .ok (.return_, 1) := by decide +kernel
theorem dX5_giveBack_0 : decode cX5_giveBack 0 = .ok (.aload_n 0, 1) := by decide +kernel
theorem dX5_giveBack_1 : decode cX5_giveBack 1 = .ok (.iload_n 1, 1) := by decide +kernel
theorem dX5_giveBack_2 : decode cX5_giveBack 2 = .ok (.invokevirtual 30, 3) := by decide +kernel
theorem dX5_giveBack_5 : decode cX5_giveBack 5 = .ok (.ifCond .eq 13, 3) := by decide +kernel
theorem dX5_giveBack_8 : decode cX5_giveBack 8 = .ok (.aload_n 2, 1) := by decide +kernel
theorem dX5_giveBack_9 : decode cX5_giveBack 9 = .ok (.aload_n 0, 1) := by decide +kernel
theorem dX5_giveBack_10 : decode cX5_giveBack 10 = .ok (.getfield 12, 3) := by decide +kernel
theorem dX5_giveBack_13 : decode cX5_giveBack 13 = .ok (.iload_n 1, 1) := by decide +kernel
theorem dX5_giveBack_14 : decode cX5_giveBack 14 = .ok (.aaload, 1) := by decide +kernel
theorem dX5_giveBack_15 : decode cX5_giveBack 15 = .ok (.invokevirtual 22, 3) := by decide +kernel
theorem dX5_giveBack_18 : decode cX5_giveBack 18 = .ok (.return_, 1) := by decide +kernel
theorem dX5_snapshots_0 : decode cX5_snapshots 0 = .ok (.iconst 0, 1) := by decide +kernel
theorem dX5_snapshots_1 : decode cX5_snapshots 1 = .ok (.istore_n 1, 1) := by decide +kernel
theorem dX5_snapshots_2 : decode cX5_snapshots 2 = .ok (.iconst 0, 1) := by decide +kernel
theorem dX5_snapshots_3 : decode cX5_snapshots 3 = .ok (.istore_n 2, 1) := by decide +kernel
theorem dX5_snapshots_4 : decode cX5_snapshots 4 = .ok (.iload_n 2, 1) := by decide +kernel
theorem dX5_snapshots_5 : decode cX5_snapshots 5 = .ok (.iconst 2, 1) := by decide +kernel
theorem dX5_snapshots_6 : decode cX5_snapshots 6 = .ok (.if_icmp .ge 21, 3) := by decide +kernel
theorem dX5_snapshots_9 : decode cX5_snapshots 9 = .ok (.aload_n 0, 1) := by decide +kernel
theorem dX5_snapshots_10 : decode cX5_snapshots 10 = .ok (.getfield 18, 3) := by decide +kernel
theorem dX5_snapshots_13 : decode cX5_snapshots 13 = .ok (.iload_n 2, 1) := by decide +kernel
theorem dX5_snapshots_14 : decode cX5_snapshots 14 = .ok (.baload, 1) := by decide +kernel
theorem dX5_snapshots_15 : decode cX5_snapshots 15 = .ok (.ifCond .eq 6, 3) := by decide +kernel
theorem dX5_snapshots_18 : decode cX5_snapshots 18 = .ok (.iinc 1 1, 3) := by decide +kernel
theorem dX5_snapshots_21 : decode cX5_snapshots 21 = .ok (.iinc 2 1, 3) := by decide +kernel
theorem dX5_snapshots_24 : decode cX5_snapshots 24 = .ok (.goto (-20), 3) := by decide +kernel
theorem dX5_snapshots_27 : decode cX5_snapshots 27 = .ok (.iload_n 1, 1) := by decide +kernel
theorem dX5_snapshots_28 : decode cX5_snapshots 28 = .ok (.ireturn, 1) := by decide +kernel
theorem dX6_init_0 : decode cX6_init 0 = .ok (.aload_n 0, 1) := by decide +kernel
theorem dX6_init_1 : decode cX6_init 1 = .ok (.invokespecial 1, 3) := by decide +kernel
theorem dX6_init_4 : decode cX6_init 4 = .ok (.aload_n 0, 1) := by decide +kernel
theorem dX6_init_5 : decode cX6_init 5 = .ok (.new 7, 3) := by decide +kernel
theorem dX6_init_8 : decode cX6_init 8 = .ok (.dup, 1) := by decide +kernel
theorem dX6_init_9 : decode cX6_init 9 = .ok (.invokespecial 9, 3) := by decide +kernel
theorem dX6_init_12 : decode cX6_init 12 = .ok (.putfield 10, 3) := by decide +kernel
theorem dX6_init_15 : decode cX6_init 15 = .ok (.aload_n 0, 1) := by decide +kernel
theorem dX6_init_16 : decode cX6_init 16 = .ok (.new 16, 3) := by decide +kernel
theorem dX6_init_19 : decode cX6_init 19 = .ok (.dup, 1) := by decide +kernel
theorem dX6_init_20 : decode cX6_init 20 = .ok (.invokespecial 18, 3) := by decide +kernel
theorem dX6_init_23 : decode cX6_init 23 = .ok (.putfield 19, 3) := by decide +kernel
theorem dX6_init_26 : decode cX6_init 26 = .ok (.return_, 1) := by decide +kernel
theorem dX6_keep_0 : decode cX6_keep 0 = .ok (.aload_n 0, 1) := by decide +kernel
theorem dX6_keep_1 : decode cX6_keep 1 = .ok (.getfield 10, 3) := by decide +kernel
theorem dX6_keep_4 : decode cX6_keep 4 = .ok (.aload_n 1, 1) := by decide +kernel
theorem dX6_keep_5 : decode cX6_keep 5 = .ok (.invokevirtual 23, 3) := by decide +kernel
theorem dX6_keep_8 : decode cX6_keep 8 = .ok (.aload_n 0, 1) := by decide +kernel
theorem dX6_keep_9 : decode cX6_keep 9 = .ok (.getfield 19, 3) := by decide +kernel
theorem dX6_keep_12 : decode cX6_keep 12 = .ok (.aload_n 2, 1) := by decide +kernel
theorem dX6_keep_13 : decode cX6_keep 13 = .ok (.invokevirtual 27, 3) := by decide +kernel
theorem dX6_keep_16 : decode cX6_keep 16 = .ok (.return_, 1) := by decide +kernel
theorem dX6_giveBack_0 : decode cX6_giveBack 0 = .ok (.aload_n 1, 1) := by decide +kernel
theorem dX6_giveBack_1 : decode cX6_giveBack 1 = .ok (.aload_n 0, 1) := by decide +kernel
theorem dX6_giveBack_2 : decode cX6_giveBack 2 = .ok (.getfield 10, 3) := by decide +kernel
theorem dX6_giveBack_5 : decode cX6_giveBack 5 = .ok (.invokevirtual 23, 3) := by decide +kernel
theorem dX6_giveBack_8 : decode cX6_giveBack 8 = .ok (.aload_n 2, 1) := by decide +kernel
theorem dX6_giveBack_9 : decode cX6_giveBack 9 = .ok (.aload_n 0, 1) := by decide +kernel
theorem dX6_giveBack_10 : decode cX6_giveBack 10 = .ok (.getfield 19, 3) := by decide +kernel
theorem dX6_giveBack_13 : decode cX6_giveBack 13 = .ok (.invokevirtual 27, 3) := by decide +kernel
theorem dX6_giveBack_16 : decode cX6_giveBack 16 = .ok (.return_, 1) := by decide +kernel
theorem dX7_init_0 : decode cX7_init 0 = .ok (.aload_n 0, 1) := by decide +kernel
theorem dX7_init_1 : decode cX7_init 1 = .ok (.invokespecial 3, 3) := by decide +kernel
theorem dX7_init_4 : decode cX7_init 4 = .ok (.aload_n 0, 1) := by decide +kernel
theorem dX7_init_5 : decode cX7_init 5 = .ok (.sipush 140, 3) := by decide +kernel
theorem dX7_init_8 : decode cX7_init 8 = .ok (.newarray .int, 2) := by decide +kernel
theorem dX7_init_10 : decode cX7_init 10 = .ok (.putfield 9, 3) := by decide +kernel
theorem dX7_init_13 : decode cX7_init 13 = .ok (.return_, 1) := by decide +kernel
theorem dX7_add_0 : decode cX7_add 0 = .ok (.aload_n 0, 1) := by decide +kernel
theorem dX7_add_1 : decode cX7_add 1 = .ok (.getfield 15, 3) := by decide +kernel
theorem dX7_add_4 : decode cX7_add 4 = .ok (.sipush 140, 3) := by decide +kernel
theorem dX7_add_7 : decode cX7_add 7 = .ok (.if_icmp .lt 6, 3) := by decide +kernel
theorem dX7_add_10 : decode cX7_add 10 = .ok (.bipush (-3), 2) := by decide +kernel
theorem dX7_add_12 : decode cX7_add 12 = .ok (.ireturn, 1) := by decide +kernel
theorem dX7_add_13 : decode cX7_add 13 = .ok (.aload_n 0, 1) := by decide +kernel
theorem dX7_add_14 : decode cX7_add 14 = .ok (.getfield 9, 3) := by decide +kernel
theorem dX7_add_17 : decode cX7_add 17 = .ok (.aload_n 0, 1) := by decide +kernel
theorem dX7_add_18 : decode cX7_add 18 = .ok (.getfield 15, 3) := by decide +kernel
theorem dX7_add_21 : decode cX7_add 21 = .ok (.iload_n 1, 1) := by decide +kernel
theorem dX7_add_22 : decode cX7_add 22 = .ok (.iastore, 1) := by decide +kernel
theorem dX7_add_23 : decode cX7_add 23 = .ok (.aload_n 0, 1) := by decide +kernel
theorem dX7_add_24 : decode cX7_add 24 = .ok (.dup, 1) := by decide +kernel
theorem dX7_add_25 : decode cX7_add 25 = .ok (.getfield 15, 3) := by decide +kernel
theorem dX7_add_28 : decode cX7_add 28 = .ok (.iconst 1, 1) := by decide +kernel
theorem dX7_add_29 : decode cX7_add 29 = .ok (.iadd, 1) := by decide +kernel
theorem dX7_add_30 : decode cX7_add 30 = .ok (.putfield 15, 3) := by decide +kernel
theorem dX7_add_33 : decode cX7_add 33 = .ok (.aload_n 0, 1) := by decide +kernel
theorem dX7_add_34 : decode cX7_add 34 = .ok (.getfield 15, 3) := by decide +kernel
theorem dX7_add_37 : decode cX7_add 37 = .ok (.ireturn, 1) := by decide +kernel
theorem dX7_empty_0 : decode cX7_empty 0 = .ok (.aload_n 0, 1) := by decide +kernel
theorem dX7_empty_1 : decode cX7_empty 1 = .ok (.getfield 15, 3) := by decide +kernel
theorem dX7_empty_4 : decode cX7_empty 4 = .ok (.istore_n 1, 1) := by decide +kernel
theorem dX7_empty_5 : decode cX7_empty 5 = .ok (.aload_n 0, 1) := by decide +kernel
theorem dX7_empty_6 : decode cX7_empty 6 = .ok (.iconst 0, 1) := by decide +kernel
theorem dX7_empty_7 : decode cX7_empty 7 = .ok (.putfield 15, 3) := by decide +kernel
theorem dX7_empty_10 : decode cX7_empty 10 = .ok (.iload_n 1, 1) := by decide +kernel
theorem dX7_empty_11 : decode cX7_empty 11 = .ok (.ireturn, 1) := by decide +kernel
theorem dX7_rewind_0 : decode cX7_rewind 0 = .ok (.aload_n 0, 1) := by decide +kernel
theorem dX7_rewind_1 : decode cX7_rewind 1 = .ok (.iconst 0, 1) := by decide +kernel
theorem dX7_rewind_2 : decode cX7_rewind 2 = .ok (.putfield 19, 3) := by decide +kernel
theorem dX7_rewind_5 : decode cX7_rewind 5 = .ok (.return_, 1) := by decide +kernel
theorem dX7_readToken_0 : decode cX7_readToken 0 = .ok (.aload_n 0, 1) := by decide +kernel
theorem dX7_readToken_1 : decode cX7_readToken 1 = .ok (.getfield 19, 3) := by decide +kernel
theorem dX7_readToken_4 : decode cX7_readToken 4 = .ok (.aload_n 0, 1) := by decide +kernel
theorem dX7_readToken_5 : decode cX7_readToken 5 = .ok (.getfield 15, 3) := by decide +kernel
theorem dX7_readToken_8 : decode cX7_readToken 8 = .ok (.if_icmp .ge 30, 3) := by decide +kernel
theorem dX7_readToken_11 : decode cX7_readToken 11 = .ok (.aload_n 0, 1) := by decide +kernel
theorem dX7_readToken_12 : decode cX7_readToken 12 = .ok (.getfield 9, 3) := by decide +kernel
theorem dX7_readToken_15 : decode cX7_readToken 15 = .ok (.aload_n 0, 1) := by decide +kernel
theorem dX7_readToken_16 : decode cX7_readToken 16 = .ok (.getfield 19, 3) := by decide +kernel
theorem dX7_readToken_19 : decode cX7_readToken 19 = .ok (.iaload, 1) := by decide +kernel
theorem dX7_readToken_20 : decode cX7_readToken 20 = .ok (.bipush 32, 2) := by decide +kernel
theorem dX7_readToken_22 : decode cX7_readToken 22 = .ok (.if_icmp .ne 16, 3) := by decide +kernel
theorem dX7_readToken_25 : decode cX7_readToken 25 = .ok (.aload_n 0, 1) := by decide +kernel
theorem dX7_readToken_26 : decode cX7_readToken 26 = .ok (.dup, 1) := by decide +kernel
theorem dX7_readToken_27 : decode cX7_readToken 27 = .ok (.getfield 19, 3) := by decide +kernel
theorem dX7_readToken_30 : decode cX7_readToken 30 = .ok (.iconst 1, 1) := by decide +kernel
theorem dX7_readToken_31 : decode cX7_readToken 31 = .ok (.iadd, 1) := by decide +kernel
theorem dX7_readToken_32 : decode cX7_readToken 32 = .ok (.putfield 19, 3) := by decide +kernel
theorem dX7_readToken_35 : decode cX7_readToken 35 = .ok (.goto (-35), 3) := by decide +kernel
theorem dX7_readToken_38 : decode cX7_readToken 38 = .ok (.aload_n 0, 1) := by decide +kernel
theorem dX7_readToken_39 : decode cX7_readToken 39 = .ok (.aload_n 0, 1) := by decide +kernel
theorem dX7_readToken_40 : decode cX7_readToken 40 = .ok (.getfield 19, 3) := by decide +kernel
theorem dX7_readToken_43 : decode cX7_readToken 43 = .ok (.putfield 22, 3) := by decide +kernel
theorem dX7_readToken_46 : decode cX7_readToken 46 = .ok (.aload_n 0, 1) := by decide +kernel
theorem dX7_readToken_47 : decode cX7_readToken 47 = .ok (.getfield 19, 3) := by decide +kernel
theorem dX7_readToken_50 : decode cX7_readToken 50 = .ok (.aload_n 0, 1) := by decide +kernel
theorem dX7_readToken_51 : decode cX7_readToken 51 = .ok (.getfield 15, 3) := by decide +kernel
theorem dX7_readToken_54 : decode cX7_readToken 54 = .ok (.if_icmp .lt 9, 3) := by decide +kernel
theorem dX7_readToken_57 : decode cX7_readToken 57 = .ok (.aload_n 0, 1) := by decide +kernel
theorem dX7_readToken_58 : decode cX7_readToken 58 = .ok (.iconst 0, 1) := by decide +kernel
theorem dX7_readToken_59 : decode cX7_readToken 59 = .ok (.putfield 25, 3) := by decide +kernel
theorem dX7_readToken_62 : decode cX7_readToken 62 = .ok (.return_, 1) := by decide +kernel
theorem dX7_readToken_63 : decode cX7_readToken 63 = .ok (.aload_n 0, 1) := by decide +kernel
theorem dX7_readToken_64 : decode cX7_readToken 64 = .ok (.aload_n 0, 1) := by decide +kernel
theorem dX7_readToken_65 : decode cX7_readToken 65 = .ok (.getfield 9, 3) := by decide +kernel
theorem dX7_readToken_68 : decode cX7_readToken 68 = .ok (.aload_n 0, 1) := by decide +kernel
theorem dX7_readToken_69 : decode cX7_readToken 69 = .ok (.getfield 19, 3) := by decide +kernel
theorem dX7_readToken_72 : decode cX7_readToken 72 = .ok (.iaload, 1) := by decide +kernel
theorem dX7_readToken_73 : decode cX7_readToken 73 = .ok (.invokestatic 28, 3) := by decide +kernel
theorem dX7_readToken_76 : decode cX7_readToken 76 = .ok (.putfield 25, 3) := by decide +kernel
theorem dX7_readToken_79 : decode cX7_readToken 79 = .ok (.aload_n 0, 1) := by decide +kernel
theorem dX7_readToken_80 : decode cX7_readToken 80 = .ok (.dup, 1) := by decide +kernel
theorem dX7_readToken_81 : decode cX7_readToken 81 = .ok (.getfield 19, 3) := by decide +kernel
theorem dX7_readToken_84 : decode cX7_readToken 84 = .ok (.iconst 1, 1) := by decide +kernel
theorem dX7_readToken_85 : decode cX7_readToken 85 = .ok (.iadd, 1) := by decide +kernel
theorem dX7_readToken_86 : decode cX7_readToken 86 = .ok (.putfield 19, 3) := by decide +kernel
theorem dX7_readToken_89 : decode cX7_readToken 89 = .ok (.aload_n 0, 1) := by decide +kernel
theorem dX7_readToken_90 : decode cX7_readToken 90 = .ok (.getfield 25, 3) := by decide +kernel
theorem dX7_readToken_93 : decode cX7_readToken 93 = .ok (.iconst 3, 1) := by decide +kernel
theorem dX7_readToken_94 : decode cX7_readToken 94 = .ok (.if_icmp .eq 46, 3) := by decide +kernel
theorem dX7_readToken_97 : decode cX7_readToken 97 = .ok (.aload_n 0, 1) := by decide +kernel
theorem dX7_readToken_98 : decode cX7_readToken 98 = .ok (.getfield 19, 3) := by decide +kernel
theorem dX7_readToken_101 : decode cX7_readToken 101 = .ok (.aload_n 0, 1) := by decide +kernel
theorem dX7_readToken_102 : decode cX7_readToken 102 = .ok (.getfield 15, 3) := by decide +kernel
theorem dX7_readToken_105 : decode cX7_readToken 105 = .ok (.if_icmp .ge 35, 3) := by decide +kernel
theorem dX7_readToken_108 : decode cX7_readToken 108 = .ok (.aload_n 0, 1) := by decide +kernel
theorem dX7_readToken_109 : decode cX7_readToken 109 = .ok (.getfield 9, 3) := by decide +kernel
theorem dX7_readToken_112 : decode cX7_readToken 112 = .ok (.aload_n 0, 1) := by decide +kernel
theorem dX7_readToken_113 : decode cX7_readToken 113 = .ok (.getfield 19, 3) := by decide +kernel
theorem dX7_readToken_116 : decode cX7_readToken 116 = .ok (.iaload, 1) := by decide +kernel
theorem dX7_readToken_117 : decode cX7_readToken 117 = .ok (.invokestatic 28, 3) := by decide +kernel
theorem dX7_readToken_120 : decode cX7_readToken 120 = .ok (.aload_n 0, 1) := by decide +kernel
theorem dX7_readToken_121 : decode cX7_readToken 121 = .ok (.getfield 25, 3) := by decide +kernel
theorem dX7_readToken_124 : decode cX7_readToken 124 = .ok (.if_icmp .ne 16, 3) := by decide +kernel
theorem dX7_readToken_127 : decode cX7_readToken 127 = .ok (.aload_n 0, 1) := by decide +kernel
theorem dX7_readToken_128 : decode cX7_readToken 128 = .ok (.dup, 1) := by decide +kernel
theorem dX7_readToken_129 : decode cX7_readToken 129 = .ok (.getfield 19, 3) := by decide +kernel
theorem dX7_readToken_132 : decode cX7_readToken 132 = .ok (.iconst 1, 1) := by decide +kernel
theorem dX7_readToken_133 : decode cX7_readToken 133 = .ok (.iadd, 1) := by decide +kernel
theorem dX7_readToken_134 : decode cX7_readToken 134 = .ok (.putfield 19, 3) := by decide +kernel
theorem dX7_readToken_137 : decode cX7_readToken 137 = .ok (.goto (-48), 3) := by decide +kernel
theorem dX7_readToken_140 : decode cX7_readToken 140 = .ok (.return_, 1) := by decide +kernel
theorem dX7_kindOf_0 : decode cX7_kindOf 0 = .ok (.iload_n 0, 1) := by decide +kernel
theorem dX7_kindOf_1 : decode cX7_kindOf 1 = .ok (.bipush 97, 2) := by decide +kernel
theorem dX7_kindOf_3 : decode cX7_kindOf 3 = .ok (.if_icmp .lt 11, 3) := by decide +kernel
theorem dX7_kindOf_6 : decode cX7_kindOf 6 = .ok (.iload_n 0, 1) := by decide +kernel
theorem dX7_kindOf_7 : decode cX7_kindOf 7 = .ok (.bipush 122, 2) := by decide +kernel
theorem dX7_kindOf_9 : decode cX7_kindOf 9 = .ok (.if_icmp .gt 5, 3) := by decide +kernel
theorem dX7_kindOf_12 : decode cX7_kindOf 12 = .ok (.iconst 1, 1) := by decide +kernel
theorem dX7_kindOf_13 : decode cX7_kindOf 13 = .ok (.ireturn, 1) := by decide +kernel
theorem dX7_kindOf_14 : decode cX7_kindOf 14 = .ok (.iload_n 0, 1) := by decide +kernel
theorem dX7_kindOf_15 : decode cX7_kindOf 15 = .ok (.bipush 48, 2) := by decide +kernel
theorem dX7_kindOf_17 : decode cX7_kindOf 17 = .ok (.if_icmp .lt 13, 3) := by decide +kernel
theorem dX7_kindOf_20 : decode cX7_kindOf 20 = .ok (.iload_n 0, 1) := by decide +kernel
theorem dX7_kindOf_21 : decode cX7_kindOf 21 = .ok (.bipush 57, 2) := by decide +kernel
theorem dX7_kindOf_23 : decode cX7_kindOf 23 = .ok (.if_icmp .gt 7, 3) := by decide +kernel
theorem dX7_kindOf_26 : decode cX7_kindOf 26 = .ok (.iconst 2, 1) := by decide +kernel
theorem dX7_kindOf_27 : decode cX7_kindOf 27 = .ok (.goto 4, 3) := by decide +kernel
theorem dX7_kindOf_30 : decode cX7_kindOf 30 = .ok (.iconst 3, 1) := by decide +kernel
theorem dX7_kindOf_31 : decode cX7_kindOf 31 = .ok (.ireturn, 1) := by decide +kernel
theorem dX7_isWord_0 : decode cX7_isWord 0 = .ok (.aload_n 0, 1) := by decide +kernel
theorem dX7_isWord_1 : decode cX7_isWord 1 = .ok (.getfield 25, 3) := by decide +kernel
theorem dX7_isWord_4 : decode cX7_isWord 4 = .ok (.iconst 1, 1) := by decide +kernel
theorem dX7_isWord_5 : decode cX7_isWord 5 = .ok (.if_icmp .ne 19, 3) := by decide +kernel
theorem dX7_isWord_8 : decode cX7_isWord 8 = .ok (.aload_n 0, 1) := by decide +kernel
theorem dX7_isWord_9 : decode cX7_isWord 9 = .ok (.getfield 19, 3) := by decide +kernel
theorem dX7_isWord_12 : decode cX7_isWord 12 = .ok (.aload_n 0, 1) := by decide +kernel
theorem dX7_isWord_13 : decode cX7_isWord 13 = .ok (.getfield 22, 3) := by decide +kernel
theorem dX7_isWord_16 : decode cX7_isWord 16 = .ok (.isub, 1) := by decide +kernel
theorem dX7_isWord_17 : decode cX7_isWord 17 = .ok (.aload_n 1, 1) := by decide +kernel
theorem dX7_isWord_18 : decode cX7_isWord 18 = .ok (.invokevirtual 32, 3) := by decide +kernel
theorem dX7_isWord_21 : decode cX7_isWord 21 = .ok (.if_icmp .eq 5, 3) := by decide +kernel
theorem dX7_isWord_24 : decode cX7_isWord 24 = .ok (.iconst 0, 1) := by decide +kernel
theorem dX7_isWord_25 : decode cX7_isWord 25 = .ok (.ireturn, 1) := by decide +kernel
theorem dX7_isWord_26 : decode cX7_isWord 26 = .ok (.aload_n 0, 1) := by decide +kernel
theorem dX7_isWord_27 : decode cX7_isWord 27 = .ok (.getfield 22, 3) := by decide +kernel
theorem dX7_isWord_30 : decode cX7_isWord 30 = .ok (.istore_n 2, 1) := by decide +kernel
theorem dX7_isWord_31 : decode cX7_isWord 31 = .ok (.iload_n 2, 1) := by decide +kernel
theorem dX7_isWord_32 : decode cX7_isWord 32 = .ok (.aload_n 0, 1) := by decide +kernel
theorem dX7_isWord_33 : decode cX7_isWord 33 = .ok (.getfield 19, 3) := by decide +kernel
theorem dX7_isWord_36 : decode cX7_isWord 36 = .ok (.if_icmp .ge 30, 3) := by decide +kernel
theorem dX7_isWord_39 : decode cX7_isWord 39 = .ok (.aload_n 0, 1) := by decide +kernel
theorem dX7_isWord_40 : decode cX7_isWord 40 = .ok (.getfield 9, 3) := by decide +kernel
theorem dX7_isWord_43 : decode cX7_isWord 43 = .ok (.iload_n 2, 1) := by decide +kernel
theorem dX7_isWord_44 : decode cX7_isWord 44 = .ok (.iaload, 1) := by decide +kernel
theorem dX7_isWord_45 : decode cX7_isWord 45 = .ok (.aload_n 1, 1) := by decide +kernel
theorem dX7_isWord_46 : decode cX7_isWord 46 = .ok (.iload_n 2, 1) := by decide +kernel
theorem dX7_isWord_47 : decode cX7_isWord 47 = .ok (.aload_n 0, 1) := by decide +kernel
theorem dX7_isWord_48 : decode cX7_isWord 48 = .ok (.getfield 22, 3) := by decide +kernel
theorem dX7_isWord_51 : decode cX7_isWord 51 = .ok (.isub, 1) := by decide +kernel
theorem dX7_isWord_52 : decode cX7_isWord 52 = .ok (.invokevirtual 37, 3) := by decide +kernel
theorem dX7_isWord_55 : decode cX7_isWord 55 = .ok (.if_icmp .eq 5, 3) := by decide +kernel
theorem dX7_isWord_58 : decode cX7_isWord 58 = .ok (.iconst 0, 1) := by decide +kernel
theorem dX7_isWord_59 : decode cX7_isWord 59 = .ok (.ireturn, 1) := by decide +kernel
theorem dX7_isWord_60 : decode cX7_isWord 60 = .ok (.iinc 2 1, 3) := by decide +kernel
theorem dX7_isWord_63 : decode cX7_isWord 63 = .ok (.goto (-32), 3) := by decide +kernel
theorem dX7_isWord_66 : decode cX7_isWord 66 = .ok (.iconst 1, 1) := by decide +kernel
theorem dX7_isWord_67 : decode cX7_isWord 67 = .ok (.ireturn, 1) := by decide +kernel
theorem dX7_isNumber_0 : decode cX7_isNumber 0 = .ok (.aload_n 0, 1) := by decide +kernel
theorem dX7_isNumber_1 : decode cX7_isNumber 1 = .ok (.getfield 25, 3) := by decide +kernel
theorem dX7_isNumber_4 : decode cX7_isNumber 4 = .ok (.iconst 2, 1) := by decide +kernel
theorem dX7_isNumber_5 : decode cX7_isNumber 5 = .ok (.if_icmp .ne 16, 3) := by decide +kernel
theorem dX7_isNumber_8 : decode cX7_isNumber 8 = .ok (.aload_n 0, 1) := by decide +kernel
theorem dX7_isNumber_9 : decode cX7_isNumber 9 = .ok (.getfield 19, 3) := by decide +kernel
theorem dX7_isNumber_12 : decode cX7_isNumber 12 = .ok (.aload_n 0, 1) := by decide +kernel
theorem dX7_isNumber_13 : decode cX7_isNumber 13 = .ok (.getfield 22, 3) := by decide +kernel
theorem dX7_isNumber_16 : decode cX7_isNumber 16 = .ok (.isub, 1) := by decide +kernel
theorem dX7_isNumber_17 : decode cX7_isNumber 17 = .ok (.iconst 5, 1) := by decide +kernel
theorem dX7_isNumber_18 : decode cX7_isNumber 18 = .ok (.if_icmp .le 5, 3) := by decide +kernel
theorem dX7_isNumber_21 : decode cX7_isNumber 21 = .ok (.iconst 0, 1) := by decide +kernel
theorem dX7_isNumber_22 : decode cX7_isNumber 22 = .ok (.ireturn, 1) := by decide +kernel
theorem dX7_isNumber_23 : decode cX7_isNumber 23 = .ok (.aload_n 0, 1) := by decide +kernel
theorem dX7_isNumber_24 : decode cX7_isNumber 24 = .ok (.getfield 19, 3) := by decide +kernel
theorem dX7_isNumber_27 : decode cX7_isNumber 27 = .ok (.aload_n 0, 1) := by decide +kernel
theorem dX7_isNumber_28 : decode cX7_isNumber 28 = .ok (.getfield 22, 3) := by decide +kernel
theorem dX7_isNumber_31 : decode cX7_isNumber 31 = .ok (.isub, 1) := by decide +kernel
theorem dX7_isNumber_32 : decode cX7_isNumber 32 = .ok (.iconst 1, 1) := by decide +kernel
theorem dX7_isNumber_33 : decode cX7_isNumber 33 = .ok (.if_icmp .eq 17, 3) := by decide +kernel
theorem dX7_isNumber_36 : decode cX7_isNumber 36 = .ok (.aload_n 0, 1) := by decide +kernel
theorem dX7_isNumber_37 : decode cX7_isNumber 37 = .ok (.getfield 9, 3) := by decide +kernel
theorem dX7_isNumber_40 : decode cX7_isNumber 40 = .ok (.aload_n 0, 1) := by decide +kernel
theorem dX7_isNumber_41 : decode cX7_isNumber 41 = .ok (.getfield 22, 3) := by decide +kernel
theorem dX7_isNumber_44 : decode cX7_isNumber 44 = .ok (.iaload, 1) := by decide +kernel
theorem dX7_isNumber_45 : decode cX7_isNumber 45 = .ok (.bipush 48, 2) := by decide +kernel
theorem dX7_isNumber_47 : decode cX7_isNumber 47 = .ok (.if_icmp .eq 7, 3) := by decide +kernel
theorem dX7_isNumber_50 : decode cX7_isNumber 50 = .ok (.iconst 1, 1) := by decide +kernel
theorem dX7_isNumber_51 : decode cX7_isNumber 51 = .ok (.goto 4, 3) := by decide +kernel
theorem dX7_isNumber_54 : decode cX7_isNumber 54 = .ok (.iconst 0, 1) := by decide +kernel
theorem dX7_isNumber_55 : decode cX7_isNumber 55 = .ok (.ireturn, 1) := by decide +kernel
theorem dX7_isWholeRow_0 : decode cX7_isWholeRow 0 = .ok (.aload_n 0, 1) := by decide +kernel
theorem dX7_isWholeRow_1 : decode cX7_isWholeRow 1 = .ok (.getfield 25, 3) := by decide +kernel
theorem dX7_isWholeRow_4 : decode cX7_isWholeRow 4 = .ok (.iconst 2, 1) := by decide +kernel
theorem dX7_isWholeRow_5 : decode cX7_isWholeRow 5 = .ok (.if_icmp .ne 21, 3) := by decide +kernel
theorem dX7_isWholeRow_8 : decode cX7_isWholeRow 8 = .ok (.aload_n 0, 1) := by decide +kernel
theorem dX7_isWholeRow_9 : decode cX7_isWholeRow 9 = .ok (.getfield 19, 3) := by decide +kernel
theorem dX7_isWholeRow_12 : decode cX7_isWholeRow 12 = .ok (.aload_n 0, 1) := by decide +kernel
theorem dX7_isWholeRow_13 : decode cX7_isWholeRow 13 = .ok (.getfield 22, 3) := by decide +kernel
theorem dX7_isWholeRow_16 : decode cX7_isWholeRow 16 = .ok (.isub, 1) := by decide +kernel
theorem dX7_isWholeRow_17 : decode cX7_isWholeRow 17 = .ok (.bipush 12, 2) := by decide +kernel
theorem dX7_isWholeRow_19 : decode cX7_isWholeRow 19 = .ok (.if_icmp .ne 7, 3) := by decide +kernel
theorem dX7_isWholeRow_22 : decode cX7_isWholeRow 22 = .ok (.iconst 1, 1) := by decide +kernel
theorem dX7_isWholeRow_23 : decode cX7_isWholeRow 23 = .ok (.goto 4, 3) := by decide +kernel
theorem dX7_isWholeRow_26 : decode cX7_isWholeRow 26 = .ok (.iconst 0, 1) := by decide +kernel
theorem dX7_isWholeRow_27 : decode cX7_isWholeRow 27 = .ok (.ireturn, 1) := by decide +kernel
theorem dX7_isSemicolon_0 : decode cX7_isSemicolon 0 = .ok (.aload_n 0, 1) := by decide +kernel
theorem dX7_isSemicolon_1 : decode cX7_isSemicolon 1 = .ok (.getfield 25, 3) := by decide +kernel
theorem dX7_isSemicolon_4 : decode cX7_isSemicolon 4 = .ok (.iconst 3, 1) := by decide +kernel
theorem dX7_isSemicolon_5 : decode cX7_isSemicolon 5 = .ok (.if_icmp .ne 21, 3) := by decide +kernel
theorem dX7_isSemicolon_8 : decode cX7_isSemicolon 8 = .ok (.aload_n 0, 1) := by decide +kernel
theorem dX7_isSemicolon_9 : decode cX7_isSemicolon 9 = .ok (.getfield 9, 3) := by decide +kernel
theorem dX7_isSemicolon_12 : decode cX7_isSemicolon 12 = .ok (.aload_n 0, 1) := by decide +kernel
theorem dX7_isSemicolon_13 : decode cX7_isSemicolon 13 = .ok (.getfield 22, 3) := by decide +kernel
theorem dX7_isSemicolon_16 : decode cX7_isSemicolon 16 = .ok (.iaload, 1) := by decide +kernel
theorem dX7_isSemicolon_17 : decode cX7_isSemicolon 17 = .ok (.bipush 59, 2) := by decide +kernel
theorem dX7_isSemicolon_19 : decode cX7_isSemicolon 19 = .ok (.if_icmp .ne 7, 3) := by decide +kernel
theorem dX7_isSemicolon_22 : decode cX7_isSemicolon 22 = .ok (.iconst 1, 1) := by decide +kernel
theorem dX7_isSemicolon_23 : decode cX7_isSemicolon 23 = .ok (.goto 4, 3) := by decide +kernel
theorem dX7_isSemicolon_26 : decode cX7_isSemicolon 26 = .ok (.iconst 0, 1) := by decide +kernel
theorem dX7_isSemicolon_27 : decode cX7_isSemicolon 27 = .ok (.ireturn, 1) := by decide +kernel
theorem dX7_value_0 : decode cX7_value 0 = .ok (.lconst 0, 1) := by decide +kernel
theorem dX7_value_1 : decode cX7_value 1 = .ok (.lstore_n 1, 1) := by decide +kernel
theorem dX7_value_2 : decode cX7_value 2 = .ok (.aload_n 0, 1) := by decide +kernel
theorem dX7_value_3 : decode cX7_value 3 = .ok (.getfield 22, 3) := by decide +kernel
theorem dX7_value_6 : decode cX7_value 6 = .ok (.istore_n 3, 1) := by decide +kernel
theorem dX7_value_7 : decode cX7_value 7 = .ok (.iload_n 3, 1) := by decide +kernel
theorem dX7_value_8 : decode cX7_value 8 = .ok (.aload_n 0, 1) := by decide +kernel
theorem dX7_value_9 : decode cX7_value 9 = .ok (.getfield 19, 3) := by decide +kernel
theorem dX7_value_12 : decode cX7_value 12 = .ok (.if_icmp .ge 27, 3) := by decide +kernel
theorem dX7_value_15 : decode cX7_value 15 = .ok (.ldc2_w 41, 3) := by decide +kernel
theorem dX7_value_18 : decode cX7_value 18 = .ok (.lload_n 1, 1) := by decide +kernel
theorem dX7_value_19 : decode cX7_value 19 = .ok (.lmul, 1) := by decide +kernel
theorem dX7_value_20 : decode cX7_value 20 = .ok (.aload_n 0, 1) := by decide +kernel
theorem dX7_value_21 : decode cX7_value 21 = .ok (.getfield 9, 3) := by decide +kernel
theorem dX7_value_24 : decode cX7_value 24 = .ok (.iload_n 3, 1) := by decide +kernel
theorem dX7_value_25 : decode cX7_value 25 = .ok (.iaload, 1) := by decide +kernel
theorem dX7_value_26 : decode cX7_value 26 = .ok (.i2l, 1) := by decide +kernel
theorem dX7_value_27 : decode cX7_value 27 = .ok (.ladd, 1) := by decide +kernel
theorem dX7_value_28 : decode cX7_value 28 = .ok (.ldc2_w 43, 3) := by decide +kernel
theorem dX7_value_31 : decode cX7_value 31 = .ok (.lsub, 1) := by decide +kernel
theorem dX7_value_32 : decode cX7_value 32 = .ok (.lstore_n 1, 1) := by decide +kernel
theorem dX7_value_33 : decode cX7_value 33 = .ok (.iinc 3 1, 3) := by decide +kernel
theorem dX7_value_36 : decode cX7_value 36 = .ok (.goto (-29), 3) := by decide +kernel
theorem dX7_value_39 : decode cX7_value 39 = .ok (.lload_n 1, 1) := by decide +kernel
theorem dX7_value_40 : decode cX7_value 40 = .ok (.lreturn, 1) := by decide +kernel
end
section
theorem dX8_init_0 : decode cX8_init 0 = .ok (.aload_n 0, 1) := by decide +kernel
theorem dX8_init_1 : decode cX8_init 1 = .ok (.invokespecial 3, 3) := by decide +kernel
theorem dX8_init_4 : decode cX8_init 4 = .ok (.aload_n 0, 1) := by decide +kernel
theorem dX8_init_5 : decode cX8_init 5 = .ok (.new 9, 3) := by decide +kernel
theorem dX8_init_8 : decode cX8_init 8 = .ok (.dup, 1) := by decide +kernel
theorem dX8_init_9 : decode cX8_init 9 = .ok (.invokespecial 11, 3) := by decide +kernel
theorem dX8_init_12 : decode cX8_init 12 = .ok (.putfield 12, 3) := by decide +kernel
theorem dX8_init_15 : decode cX8_init 15 = .ok (.aload_n 0, 1) := by decide +kernel
theorem dX8_init_16 : decode cX8_init 16 = .ok (.aload_n 0, 1) := by decide +kernel
theorem dX8_init_17 : decode cX8_init 17 = .ok (.getfield 12, 3) := by decide +kernel
theorem dX8_init_20 : decode cX8_init 20 = .ok (.getfield 16, 3) := by decide +kernel
theorem dX8_init_23 : decode cX8_init 23 = .ok (.putfield 20, 3) := by decide +kernel
theorem dX8_init_26 : decode cX8_init 26 = .ok (.aload_n 0, 1) := by decide +kernel
theorem dX8_init_27 : decode cX8_init 27 = .ok (.aload_n 0, 1) := by decide +kernel
theorem dX8_init_28 : decode cX8_init 28 = .ok (.getfield 12, 3) := by decide +kernel
theorem dX8_init_31 : decode cX8_init 31 = .ok (.getfield 16, 3) := by decide +kernel
theorem dX8_init_34 : decode cX8_init 34 = .ok (.getfield 21, 3) := by decide +kernel
theorem dX8_init_37 : decode cX8_init 37 = .ok (.putfield 27, 3) := by decide +kernel
theorem dX8_init_40 : decode cX8_init 40 = .ok (.aload_n 0, 1) := by decide +kernel
theorem dX8_init_41 : decode cX8_init 41 = .ok (.new 28, 3) := by decide +kernel
theorem dX8_init_44 : decode cX8_init 44 = .ok (.dup, 1) := by decide +kernel
theorem dX8_init_45 : decode cX8_init 45 = .ok (.invokespecial 30, 3) := by decide +kernel
theorem dX8_init_48 : decode cX8_init 48 = .ok (.putfield 31, 3) := by decide +kernel
theorem dX8_init_51 : decode cX8_init 51 = .ok (.aload_n 0, 1) := by decide +kernel
theorem dX8_init_52 : decode cX8_init 52 = .ok (.new 35, 3) := by decide +kernel
theorem dX8_init_55 : decode cX8_init 55 = .ok (.dup, 1) := by decide +kernel
theorem dX8_init_56 : decode cX8_init 56 = .ok (.invokespecial 37, 3) := by decide +kernel
theorem dX8_init_59 : decode cX8_init 59 = .ok (.putfield 38, 3) := by decide +kernel
theorem dX8_init_62 : decode cX8_init 62 = .ok (.aload_n 0, 1) := by decide +kernel
theorem dX8_init_63 : decode cX8_init 63 = .ok (.new 42, 3) := by decide +kernel
theorem dX8_init_66 : decode cX8_init 66 = .ok (.dup, 1) := by decide +kernel
theorem dX8_init_67 : decode cX8_init 67 = .ok (.invokespecial 44, 3) := by decide +kernel
theorem dX8_init_70 : decode cX8_init 70 = .ok (.putfield 45, 3) := by decide +kernel
theorem dX8_init_73 : decode cX8_init 73 = .ok (.return_, 1) := by decide +kernel
theorem dX8_scan_0 : decode cX8_scan 0 = .ok (.aload_n 0, 1) := by decide +kernel
theorem dX8_scan_1 : decode cX8_scan 1 = .ok (.getfield 38, 3) := by decide +kernel
theorem dX8_scan_4 : decode cX8_scan 4 = .ok (.aload_n 0, 1) := by decide +kernel
theorem dX8_scan_5 : decode cX8_scan 5 = .ok (.getfield 27, 3) := by decide +kernel
theorem dX8_scan_8 : decode cX8_scan 8 = .ok (.aload_n 0, 1) := by decide +kernel
theorem dX8_scan_9 : decode cX8_scan 9 = .ok (.getfield 31, 3) := by decide +kernel
theorem dX8_scan_12 : decode cX8_scan 12 = .ok (.invokevirtual 49, 3) := by decide +kernel
theorem dX8_scan_15 : decode cX8_scan 15 = .ok (.aload_n 0, 1) := by decide +kernel
theorem dX8_scan_16 : decode cX8_scan 16 = .ok (.aload_n 0, 1) := by decide +kernel
theorem dX8_scan_17 : decode cX8_scan 17 = .ok (.getfield 12, 3) := by decide +kernel
theorem dX8_scan_20 : decode cX8_scan 20 = .ok (.iload_n 1, 1) := by decide +kernel
theorem dX8_scan_21 : decode cX8_scan 21 = .ok (.lload_n 2, 1) := by decide +kernel
theorem dX8_scan_22 : decode cX8_scan 22 = .ok (.invokevirtual 53, 3) := by decide +kernel
theorem dX8_scan_25 : decode cX8_scan 25 = .ok (.invokevirtual 57, 3) := by decide +kernel
theorem dX8_scan_28 : decode cX8_scan 28 = .ok (.ireturn, 1) := by decide +kernel
theorem dX8_clean_0 : decode cX8_clean 0 = .ok (.aload_n 0, 1) := by decide +kernel
theorem dX8_clean_1 : decode cX8_clean 1 = .ok (.getfield 38, 3) := by decide +kernel
theorem dX8_clean_4 : decode cX8_clean 4 = .ok (.aload_n 0, 1) := by decide +kernel
theorem dX8_clean_5 : decode cX8_clean 5 = .ok (.getfield 27, 3) := by decide +kernel
theorem dX8_clean_8 : decode cX8_clean 8 = .ok (.aload_n 0, 1) := by decide +kernel
theorem dX8_clean_9 : decode cX8_clean 9 = .ok (.getfield 31, 3) := by decide +kernel
theorem dX8_clean_12 : decode cX8_clean 12 = .ok (.invokevirtual 49, 3) := by decide +kernel
theorem dX8_clean_15 : decode cX8_clean 15 = .ok (.aload_n 0, 1) := by decide +kernel
theorem dX8_clean_16 : decode cX8_clean 16 = .ok (.aload_n 0, 1) := by decide +kernel
theorem dX8_clean_17 : decode cX8_clean 17 = .ok (.getfield 12, 3) := by decide +kernel
theorem dX8_clean_20 : decode cX8_clean 20 = .ok (.iload_n 1, 1) := by decide +kernel
theorem dX8_clean_21 : decode cX8_clean 21 = .ok (.invokevirtual 61, 3) := by decide +kernel
theorem dX8_clean_24 : decode cX8_clean 24 = .ok (.invokevirtual 57, 3) := by decide +kernel
theorem dX8_clean_27 : decode cX8_clean 27 = .ok (.ireturn, 1) := by decide +kernel
theorem dX8_set_0 : decode cX8_set 0 = .ok (.aload_n 0, 1) := by decide +kernel
theorem dX8_set_1 : decode cX8_set 1 = .ok (.getfield 38, 3) := by decide +kernel
theorem dX8_set_4 : decode cX8_set 4 = .ok (.aload_n 0, 1) := by decide +kernel
theorem dX8_set_5 : decode cX8_set 5 = .ok (.getfield 27, 3) := by decide +kernel
theorem dX8_set_8 : decode cX8_set 8 = .ok (.aload_n 0, 1) := by decide +kernel
theorem dX8_set_9 : decode cX8_set 9 = .ok (.getfield 31, 3) := by decide +kernel
theorem dX8_set_12 : decode cX8_set 12 = .ok (.invokevirtual 49, 3) := by decide +kernel
theorem dX8_set_15 : decode cX8_set 15 = .ok (.aload_n 0, 1) := by decide +kernel
theorem dX8_set_16 : decode cX8_set 16 = .ok (.aload_n 0, 1) := by decide +kernel
theorem dX8_set_17 : decode cX8_set 17 = .ok (.getfield 12, 3) := by decide +kernel
theorem dX8_set_20 : decode cX8_set 20 = .ok (.iload_n 1, 1) := by decide +kernel
theorem dX8_set_21 : decode cX8_set 21 = .ok (.iload_n 2, 1) := by decide +kernel
theorem dX8_set_22 : decode cX8_set 22 = .ok (.invokevirtual 64, 3) := by decide +kernel
theorem dX8_set_25 : decode cX8_set 25 = .ok (.invokevirtual 57, 3) := by decide +kernel
theorem dX8_set_28 : decode cX8_set 28 = .ok (.ireturn, 1) := by decide +kernel
theorem dX8_publish_0 : decode cX8_publish 0 = .ok (.aload_n 0, 1) := by decide +kernel
theorem dX8_publish_1 : decode cX8_publish 1 = .ok (.getfield 38, 3) := by decide +kernel
theorem dX8_publish_4 : decode cX8_publish 4 = .ok (.aload_n 0, 1) := by decide +kernel
theorem dX8_publish_5 : decode cX8_publish 5 = .ok (.getfield 27, 3) := by decide +kernel
theorem dX8_publish_8 : decode cX8_publish 8 = .ok (.aload_n 0, 1) := by decide +kernel
theorem dX8_publish_9 : decode cX8_publish 9 = .ok (.getfield 31, 3) := by decide +kernel
theorem dX8_publish_12 : decode cX8_publish 12 = .ok (.invokevirtual 49, 3) := by decide +kernel
theorem dX8_publish_15 : decode cX8_publish 15 = .ok (.aload_n 0, 1) := by decide +kernel
theorem dX8_publish_16 : decode cX8_publish 16 = .ok (.aload_n 0, 1) := by decide +kernel
theorem dX8_publish_17 : decode cX8_publish 17 = .ok (.getfield 12, 3) := by decide +kernel
theorem dX8_publish_20 : decode cX8_publish 20 = .ok (.invokevirtual 68, 3) := by decide +kernel
theorem dX8_publish_23 : decode cX8_publish 23 = .ok (.invokevirtual 57, 3) := by decide +kernel
theorem dX8_publish_26 : decode cX8_publish 26 = .ok (.ireturn, 1) := by decide +kernel
theorem dX8_draw_0 : decode cX8_draw 0 = .ok (.aload_n 0, 1) := by decide +kernel
theorem dX8_draw_1 : decode cX8_draw 1 = .ok (.getfield 38, 3) := by decide +kernel
theorem dX8_draw_4 : decode cX8_draw 4 = .ok (.aload_n 0, 1) := by decide +kernel
theorem dX8_draw_5 : decode cX8_draw 5 = .ok (.getfield 27, 3) := by decide +kernel
theorem dX8_draw_8 : decode cX8_draw 8 = .ok (.aload_n 0, 1) := by decide +kernel
theorem dX8_draw_9 : decode cX8_draw 9 = .ok (.getfield 31, 3) := by decide +kernel
theorem dX8_draw_12 : decode cX8_draw 12 = .ok (.invokevirtual 49, 3) := by decide +kernel
theorem dX8_draw_15 : decode cX8_draw 15 = .ok (.aload_n 0, 1) := by decide +kernel
theorem dX8_draw_16 : decode cX8_draw 16 = .ok (.aload_n 0, 1) := by decide +kernel
theorem dX8_draw_17 : decode cX8_draw 17 = .ok (.getfield 12, 3) := by decide +kernel
theorem dX8_draw_20 : decode cX8_draw 20 = .ok (.iload_n 1, 1) := by decide +kernel
theorem dX8_draw_21 : decode cX8_draw 21 = .ok (.iload_n 2, 1) := by decide +kernel
theorem dX8_draw_22 : decode cX8_draw 22 = .ok (.invokevirtual 72, 3) := by decide +kernel
theorem dX8_draw_25 : decode cX8_draw 25 = .ok (.invokevirtual 57, 3) := by decide +kernel
theorem dX8_draw_28 : decode cX8_draw 28 = .ok (.ireturn, 1) := by decide +kernel
theorem dX8_look_0 : decode cX8_look 0 = .ok (.aload_n 0, 1) := by decide +kernel
theorem dX8_look_1 : decode cX8_look 1 = .ok (.getfield 38, 3) := by decide +kernel
theorem dX8_look_4 : decode cX8_look 4 = .ok (.aload_n 0, 1) := by decide +kernel
theorem dX8_look_5 : decode cX8_look 5 = .ok (.getfield 27, 3) := by decide +kernel
theorem dX8_look_8 : decode cX8_look 8 = .ok (.aload_n 0, 1) := by decide +kernel
theorem dX8_look_9 : decode cX8_look 9 = .ok (.getfield 31, 3) := by decide +kernel
theorem dX8_look_12 : decode cX8_look 12 = .ok (.invokevirtual 49, 3) := by decide +kernel
theorem dX8_look_15 : decode cX8_look 15 = .ok (.aload_n 0, 1) := by decide +kernel
theorem dX8_look_16 : decode cX8_look 16 = .ok (.aload_n 0, 1) := by decide +kernel
theorem dX8_look_17 : decode cX8_look 17 = .ok (.getfield 12, 3) := by decide +kernel
theorem dX8_look_20 : decode cX8_look 20 = .ok (.iload_n 1, 1) := by decide +kernel
theorem dX8_look_21 : decode cX8_look 21 = .ok (.lload_n 2, 1) := by decide +kernel
theorem dX8_look_22 : decode cX8_look 22 = .ok (.invokevirtual 75, 3) := by decide +kernel
theorem dX8_look_25 : decode cX8_look 25 = .ok (.invokevirtual 57, 3) := by decide +kernel
theorem dX8_look_28 : decode cX8_look 28 = .ok (.ireturn, 1) := by decide +kernel
theorem dX8_take_0 : decode cX8_take 0 = .ok (.iload_n 1, 1) := by decide +kernel
theorem dX8_take_1 : decode cX8_take 1 = .ok (.iconst 0, 1) := by decide +kernel
theorem dX8_take_2 : decode cX8_take 2 = .ok (.iconst 1, 1) := by decide +kernel
theorem dX8_take_3 : decode cX8_take 3 = .ok (.invokestatic 78, 3) := by decide +kernel
theorem dX8_take_6 : decode cX8_take 6 = .ok (.ifCond .ne 5, 3) := by decide +kernel
theorem dX8_take_9 : decode cX8_take 9 = .ok (.iconst (-1), 1) := by decide +kernel
theorem dX8_take_10 : decode cX8_take 10 = .ok (.ireturn, 1) := by decide +kernel
theorem dX8_take_11 : decode cX8_take 11 = .ok (.aload_n 0, 1) := by decide +kernel
theorem dX8_take_12 : decode cX8_take 12 = .ok (.getfield 38, 3) := by decide +kernel
theorem dX8_take_15 : decode cX8_take 15 = .ok (.aload_n 0, 1) := by decide +kernel
theorem dX8_take_16 : decode cX8_take 16 = .ok (.getfield 27, 3) := by decide +kernel
theorem dX8_take_19 : decode cX8_take 19 = .ok (.aload_n 0, 1) := by decide +kernel
theorem dX8_take_20 : decode cX8_take 20 = .ok (.getfield 31, 3) := by decide +kernel
theorem dX8_take_23 : decode cX8_take 23 = .ok (.invokevirtual 49, 3) := by decide +kernel
theorem dX8_take_26 : decode cX8_take 26 = .ok (.aload_n 0, 1) := by decide +kernel
theorem dX8_take_27 : decode cX8_take 27 = .ok (.getfield 31, 3) := by decide +kernel
theorem dX8_take_30 : decode cX8_take 30 = .ok (.iload_n 1, 1) := by decide +kernel
theorem dX8_take_31 : decode cX8_take 31 = .ok (.aload_n 0, 1) := by decide +kernel
theorem dX8_take_32 : decode cX8_take 32 = .ok (.getfield 27, 3) := by decide +kernel
theorem dX8_take_35 : decode cX8_take 35 = .ok (.invokevirtual 82, 3) := by decide +kernel
theorem dX8_take_38 : decode cX8_take 38 = .ok (.aload_n 0, 1) := by decide +kernel
theorem dX8_take_39 : decode cX8_take 39 = .ok (.aload_n 0, 1) := by decide +kernel
theorem dX8_take_40 : decode cX8_take 40 = .ok (.getfield 27, 3) := by decide +kernel
theorem dX8_take_43 : decode cX8_take 43 = .ok (.getfield 86, 3) := by decide +kernel
theorem dX8_take_46 : decode cX8_take 46 = .ok (.invokevirtual 57, 3) := by decide +kernel
theorem dX8_take_49 : decode cX8_take 49 = .ok (.ireturn, 1) := by decide +kernel
theorem dX8_restore_0 : decode cX8_restore 0 = .ok (.iload_n 1, 1) := by decide +kernel
theorem dX8_restore_1 : decode cX8_restore 1 = .ok (.iconst 0, 1) := by decide +kernel
theorem dX8_restore_2 : decode cX8_restore 2 = .ok (.iconst 1, 1) := by decide +kernel
theorem dX8_restore_3 : decode cX8_restore 3 = .ok (.invokestatic 78, 3) := by decide +kernel
theorem dX8_restore_6 : decode cX8_restore 6 = .ok (.ifCond .ne 5, 3) := by decide +kernel
theorem dX8_restore_9 : decode cX8_restore 9 = .ok (.iconst (-1), 1) := by decide +kernel
theorem dX8_restore_10 : decode cX8_restore 10 = .ok (.ireturn, 1) := by decide +kernel
theorem dX8_restore_11 : decode cX8_restore 11 = .ok (.aload_n 0, 1) := by decide +kernel
theorem dX8_restore_12 : decode cX8_restore 12 = .ok (.getfield 31, 3) := by decide +kernel
theorem dX8_restore_15 : decode cX8_restore 15 = .ok (.iload_n 1, 1) := by decide +kernel
theorem dX8_restore_16 : decode cX8_restore 16 = .ok (.invokevirtual 92, 3) := by decide +kernel
theorem dX8_restore_19 : decode cX8_restore 19 = .ok (.ifCond .ne 6, 3) := by decide +kernel
theorem dX8_restore_22 : decode cX8_restore 22 = .ok (.bipush (-2), 2) := by decide +kernel
theorem dX8_restore_24 : decode cX8_restore 24 = .ok (.ireturn, 1) := by decide +kernel
theorem dX8_restore_25 : decode cX8_restore 25 = .ok (.aload_n 0, 1) := by decide +kernel
theorem dX8_restore_26 : decode cX8_restore 26 = .ok (.getfield 38, 3) := by decide +kernel
theorem dX8_restore_29 : decode cX8_restore 29 = .ok (.aload_n 0, 1) := by decide +kernel
theorem dX8_restore_30 : decode cX8_restore 30 = .ok (.getfield 27, 3) := by decide +kernel
theorem dX8_restore_33 : decode cX8_restore 33 = .ok (.aload_n 0, 1) := by decide +kernel
theorem dX8_restore_34 : decode cX8_restore 34 = .ok (.getfield 31, 3) := by decide +kernel
theorem dX8_restore_37 : decode cX8_restore 37 = .ok (.invokevirtual 49, 3) := by decide +kernel
theorem dX8_restore_40 : decode cX8_restore 40 = .ok (.aload_n 0, 1) := by decide +kernel
theorem dX8_restore_41 : decode cX8_restore 41 = .ok (.getfield 31, 3) := by decide +kernel
theorem dX8_restore_44 : decode cX8_restore 44 = .ok (.iload_n 1, 1) := by decide +kernel
theorem dX8_restore_45 : decode cX8_restore 45 = .ok (.aload_n 0, 1) := by decide +kernel
theorem dX8_restore_46 : decode cX8_restore 46 = .ok (.getfield 27, 3) := by decide +kernel
theorem dX8_restore_49 : decode cX8_restore 49 = .ok (.invokevirtual 96, 3) := by decide +kernel
theorem dX8_restore_52 : decode cX8_restore 52 = .ok (.aload_n 0, 1) := by decide +kernel
theorem dX8_restore_53 : decode cX8_restore 53 = .ok (.aload_n 0, 1) := by decide +kernel
theorem dX8_restore_54 : decode cX8_restore 54 = .ok (.getfield 27, 3) := by decide +kernel
theorem dX8_restore_57 : decode cX8_restore 57 = .ok (.getfield 86, 3) := by decide +kernel
theorem dX8_restore_60 : decode cX8_restore 60 = .ok (.invokevirtual 57, 3) := by decide +kernel
theorem dX8_restore_63 : decode cX8_restore 63 = .ok (.ireturn, 1) := by decide +kernel
theorem dX8_undo_0 : decode cX8_undo 0 = .ok (.aload_n 0, 1) := by decide +kernel
theorem dX8_undo_1 : decode cX8_undo 1 = .ok (.getfield 38, 3) := by decide +kernel
theorem dX8_undo_4 : decode cX8_undo 4 = .ok (.getfield 99, 3) := by decide +kernel
theorem dX8_undo_7 : decode cX8_undo 7 = .ok (.ifCond .ne 6, 3) := by decide +kernel
theorem dX8_undo_10 : decode cX8_undo 10 = .ok (.bipush (-2), 2) := by decide +kernel
theorem dX8_undo_12 : decode cX8_undo 12 = .ok (.ireturn, 1) := by decide +kernel
theorem dX8_undo_13 : decode cX8_undo 13 = .ok (.aload_n 0, 1) := by decide +kernel
theorem dX8_undo_14 : decode cX8_undo 14 = .ok (.getfield 38, 3) := by decide +kernel
theorem dX8_undo_17 : decode cX8_undo 17 = .ok (.aload_n 0, 1) := by decide +kernel
theorem dX8_undo_18 : decode cX8_undo 18 = .ok (.getfield 27, 3) := by decide +kernel
theorem dX8_undo_21 : decode cX8_undo 21 = .ok (.aload_n 0, 1) := by decide +kernel
theorem dX8_undo_22 : decode cX8_undo 22 = .ok (.getfield 31, 3) := by decide +kernel
theorem dX8_undo_25 : decode cX8_undo 25 = .ok (.invokevirtual 102, 3) := by decide +kernel
theorem dX8_undo_28 : decode cX8_undo 28 = .ok (.aload_n 0, 1) := by decide +kernel
theorem dX8_undo_29 : decode cX8_undo 29 = .ok (.getfield 38, 3) := by decide +kernel
theorem dX8_undo_32 : decode cX8_undo 32 = .ok (.getfield 99, 3) := by decide +kernel
theorem dX8_undo_35 : decode cX8_undo 35 = .ok (.ireturn, 1) := by decide +kernel
theorem dX8_append_0 : decode cX8_append 0 = .ok (.iload_n 1, 1) := by decide +kernel
theorem dX8_append_1 : decode cX8_append 1 = .ok (.iconst 1, 1) := by decide +kernel
theorem dX8_append_2 : decode cX8_append 2 = .ok (.sipush 255, 3) := by decide +kernel
theorem dX8_append_5 : decode cX8_append 5 = .ok (.invokestatic 78, 3) := by decide +kernel
theorem dX8_append_8 : decode cX8_append 8 = .ok (.ifCond .ne 5, 3) := by decide +kernel
theorem dX8_append_11 : decode cX8_append 11 = .ok (.iconst (-1), 1) := by decide +kernel
theorem dX8_append_12 : decode cX8_append 12 = .ok (.ireturn, 1) := by decide +kernel
theorem dX8_append_13 : decode cX8_append 13 = .ok (.aload_n 0, 1) := by decide +kernel
theorem dX8_append_14 : decode cX8_append 14 = .ok (.getfield 45, 3) := by decide +kernel
theorem dX8_append_17 : decode cX8_append 17 = .ok (.getfield 105, 3) := by decide +kernel
theorem dX8_append_20 : decode cX8_append 20 = .ok (.iload_n 1, 1) := by decide +kernel
theorem dX8_append_21 : decode cX8_append 21 = .ok (.invokevirtual 109, 3) := by decide +kernel
theorem dX8_append_24 : decode cX8_append 24 = .ok (.ireturn, 1) := by decide +kernel
theorem dX8_clearText_0 : decode cX8_clearText 0 = .ok (.aload_n 0, 1) := by decide +kernel
theorem dX8_clearText_1 : decode cX8_clearText 1 = .ok (.getfield 45, 3) := by decide +kernel
theorem dX8_clearText_4 : decode cX8_clearText 4 = .ok (.getfield 105, 3) := by decide +kernel
theorem dX8_clearText_7 : decode cX8_clearText 7 = .ok (.invokevirtual 114, 3) := by decide +kernel
theorem dX8_clearText_10 : decode cX8_clearText 10 = .ok (.ireturn, 1) := by decide +kernel
theorem dX8_run_0 : decode cX8_run 0 = .ok (.aload_n 0, 1) := by decide +kernel
theorem dX8_run_1 : decode cX8_run 1 = .ok (.getfield 38, 3) := by decide +kernel
theorem dX8_run_4 : decode cX8_run 4 = .ok (.aload_n 0, 1) := by decide +kernel
theorem dX8_run_5 : decode cX8_run 5 = .ok (.getfield 27, 3) := by decide +kernel
theorem dX8_run_8 : decode cX8_run 8 = .ok (.aload_n 0, 1) := by decide +kernel
theorem dX8_run_9 : decode cX8_run 9 = .ok (.getfield 31, 3) := by decide +kernel
theorem dX8_run_12 : decode cX8_run 12 = .ok (.invokevirtual 49, 3) := by decide +kernel
theorem dX8_run_15 : decode cX8_run 15 = .ok (.aload_n 0, 1) := by decide +kernel
theorem dX8_run_16 : decode cX8_run 16 = .ok (.getfield 45, 3) := by decide +kernel
theorem dX8_run_19 : decode cX8_run 19 = .ok (.aload_n 0, 1) := by decide +kernel
theorem dX8_run_20 : decode cX8_run 20 = .ok (.getfield 12, 3) := by decide +kernel
theorem dX8_run_23 : decode cX8_run 23 = .ok (.invokevirtual 117, 3) := by decide +kernel
theorem dX8_run_26 : decode cX8_run 26 = .ok (.istore_n 1, 1) := by decide +kernel
theorem dX8_run_27 : decode cX8_run 27 = .ok (.iload_n 1, 1) := by decide +kernel
theorem dX8_run_28 : decode cX8_run 28 = .ok (.ifCond .ge 30, 3) := by decide +kernel
theorem dX8_run_31 : decode cX8_run 31 = .ok (.aload_n 0, 1) := by decide +kernel
theorem dX8_run_32 : decode cX8_run 32 = .ok (.getfield 38, 3) := by decide +kernel
theorem dX8_run_35 : decode cX8_run 35 = .ok (.aload_n 0, 1) := by decide +kernel
theorem dX8_run_36 : decode cX8_run 36 = .ok (.getfield 27, 3) := by decide +kernel
theorem dX8_run_39 : decode cX8_run 39 = .ok (.aload_n 0, 1) := by decide +kernel
theorem dX8_run_40 : decode cX8_run 40 = .ok (.getfield 31, 3) := by decide +kernel
theorem dX8_run_43 : decode cX8_run 43 = .ok (.invokevirtual 121, 3) := by decide +kernel
theorem dX8_run_46 : decode cX8_run 46 = .ok (.sipush (-1000), 3) := by decide +kernel
theorem dX8_run_49 : decode cX8_run 49 = .ok (.aload_n 0, 1) := by decide +kernel
theorem dX8_run_50 : decode cX8_run 50 = .ok (.getfield 45, 3) := by decide +kernel
theorem dX8_run_53 : decode cX8_run 53 = .ok (.getfield 124, 3) := by decide +kernel
theorem dX8_run_56 : decode cX8_run 56 = .ok (.isub, 1) := by decide +kernel
theorem dX8_run_57 : decode cX8_run 57 = .ok (.ireturn, 1) := by decide +kernel
theorem dX8_run_58 : decode cX8_run 58 = .ok (.aload_n 0, 1) := by decide +kernel
theorem dX8_run_59 : decode cX8_run 59 = .ok (.getfield 45, 3) := by decide +kernel
theorem dX8_run_62 : decode cX8_run 62 = .ok (.getfield 105, 3) := by decide +kernel
theorem dX8_run_65 : decode cX8_run 65 = .ok (.invokevirtual 114, 3) := by decide +kernel
theorem dX8_run_68 : decode cX8_run 68 = .ok (.pop, 1) := by decide +kernel
theorem dX8_run_69 : decode cX8_run 69 = .ok (.aload_n 0, 1) := by decide +kernel
theorem dX8_run_70 : decode cX8_run 70 = .ok (.iload_n 1, 1) := by decide +kernel
theorem dX8_run_71 : decode cX8_run 71 = .ok (.invokevirtual 57, 3) := by decide +kernel
theorem dX8_run_74 : decode cX8_run 74 = .ok (.ireturn, 1) := by decide +kernel
theorem dX8_failure_0 : decode cX8_failure 0 = .ok (.iload_n 1, 1) := by decide +kernel
theorem dX8_failure_1 : decode cX8_failure 1 = .ok (.iconst 0, 1) := by decide +kernel
theorem dX8_failure_2 : decode cX8_failure 2 = .ok (.iconst 3, 1) := by decide +kernel
theorem dX8_failure_3 : decode cX8_failure 3 = .ok (.invokestatic 78, 3) := by decide +kernel
theorem dX8_failure_6 : decode cX8_failure 6 = .ok (.ifCond .ne 5, 3) := by decide +kernel
theorem dX8_failure_9 : decode cX8_failure 9 = .ok (.iconst (-1), 1) := by decide +kernel
theorem dX8_failure_10 : decode cX8_failure 10 = .ok (.ireturn, 1) := by decide +kernel
theorem dX8_failure_11 : decode cX8_failure 11 = .ok (.aload_n 0, 1) := by decide +kernel
theorem dX8_failure_12 : decode cX8_failure 12 = .ok (.getfield 45, 3) := by decide +kernel
theorem dX8_failure_15 : decode cX8_failure 15 = .ok (.getfield 127, 3) := by decide +kernel
theorem dX8_failure_18 : decode cX8_failure 18 = .ok (.ifCond .ne 6, 3) := by decide +kernel
theorem dX8_failure_21 : decode cX8_failure 21 = .ok (.bipush (-9), 2) := by decide +kernel
theorem dX8_failure_23 : decode cX8_failure 23 = .ok (.ireturn, 1) := by decide +kernel
theorem dX8_failure_24 : decode cX8_failure 24 = .ok (.iload_n 1, 1) := by decide +kernel
theorem dX8_failure_25 : decode cX8_failure 25 = .ok (.tableswitch 51 0 2 #[27, 35, 43], 27) := by decide +kernel
theorem dX8_failure_52 : decode cX8_failure 52 = .ok (.aload_n 0, 1) := by decide +kernel
theorem dX8_failure_53 : decode cX8_failure 53 = .ok (.getfield 45, 3) := by decide +kernel
theorem dX8_failure_56 : decode cX8_failure 56 = .ok (.getfield 127, 3) := by decide +kernel
theorem dX8_failure_59 : decode cX8_failure 59 = .ok (.ireturn, 1) := by decide +kernel
theorem dX8_failure_60 : decode cX8_failure 60 = .ok (.aload_n 0, 1) := by decide +kernel
theorem dX8_failure_61 : decode cX8_failure 61 = .ok (.getfield 45, 3) := by decide +kernel
theorem dX8_failure_64 : decode cX8_failure 64 = .ok (.getfield 124, 3) := by decide +kernel
theorem dX8_failure_67 : decode cX8_failure 67 = .ok (.ireturn, 1) := by decide +kernel
theorem dX8_failure_68 : decode cX8_failure 68 = .ok (.aload_n 0, 1) := by decide +kernel
theorem dX8_failure_69 : decode cX8_failure 69 = .ok (.getfield 45, 3) := by decide +kernel
theorem dX8_failure_72 : decode cX8_failure 72 = .ok (.getfield 130, 3) := by decide +kernel
theorem dX8_failure_75 : decode cX8_failure 75 = .ok (.ireturn, 1) := by decide +kernel
theorem dX8_failure_76 : decode cX8_failure 76 = .ok (.aload_n 0, 1) := by decide +kernel
theorem dX8_failure_77 : decode cX8_failure 77 = .ok (.getfield 45, 3) := by decide +kernel
theorem dX8_failure_80 : decode cX8_failure 80 = .ok (.getfield 133, 3) := by decide +kernel
theorem dX8_failure_83 : decode cX8_failure 83 = .ok (.ireturn, 1) := by decide +kernel
theorem dX8_count_0 : decode cX8_count 0 = .ok (.iload_n 1, 1) := by decide +kernel
theorem dX8_count_1 : decode cX8_count 1 = .ok (.bipush 11, 2) := by decide +kernel
theorem dX8_count_3 : decode cX8_count 3 = .ok (.if_icmp .lt 22, 3) := by decide +kernel
theorem dX8_count_6 : decode cX8_count 6 = .ok (.iload_n 1, 1) := by decide +kernel
theorem dX8_count_7 : decode cX8_count 7 = .ok (.bipush 15, 2) := by decide +kernel
theorem dX8_count_9 : decode cX8_count 9 = .ok (.if_icmp .ge 16, 3) := by decide +kernel
theorem dX8_count_12 : decode cX8_count 12 = .ok (.aload_n 0, 1) := by decide +kernel
theorem dX8_count_13 : decode cX8_count 13 = .ok (.getfield 27, 3) := by decide +kernel
theorem dX8_count_16 : decode cX8_count 16 = .ok (.getfield 136, 3) := by decide +kernel
theorem dX8_count_19 : decode cX8_count 19 = .ok (.iload_n 1, 1) := by decide +kernel
theorem dX8_count_20 : decode cX8_count 20 = .ok (.bipush 11, 2) := by decide +kernel
theorem dX8_count_22 : decode cX8_count 22 = .ok (.isub, 1) := by decide +kernel
theorem dX8_count_23 : decode cX8_count 23 = .ok (.iaload, 1) := by decide +kernel
theorem dX8_count_24 : decode cX8_count 24 = .ok (.ireturn, 1) := by decide +kernel
theorem dX8_count_25 : decode cX8_count 25 = .ok (.aload_n 0, 1) := by decide +kernel
theorem dX8_count_26 : decode cX8_count 26 = .ok (.getfield 20, 3) := by decide +kernel
theorem dX8_count_29 : decode cX8_count 29 = .ok (.invokevirtual 140, 3) := by decide +kernel
theorem dX8_count_32 : decode cX8_count 32 = .ok (.iload_n 1, 1) := by decide +kernel
theorem dX8_count_33 : decode cX8_count 33 = .ok (.tableswitch 152 0 10 #[59, 67, 76, 85, 93, 101, 109, 117, 125, 133, 141], 59) := by decide +kernel
theorem dX8_count_92 : decode cX8_count 92 = .ok (.aload_n 0, 1) := by decide +kernel
theorem dX8_count_93 : decode cX8_count 93 = .ok (.getfield 27, 3) := by decide +kernel
theorem dX8_count_96 : decode cX8_count 96 = .ok (.getfield 86, 3) := by decide +kernel
theorem dX8_count_99 : decode cX8_count 99 = .ok (.ireturn, 1) := by decide +kernel
theorem dX8_count_100 : decode cX8_count 100 = .ok (.aload_n 0, 1) := by decide +kernel
theorem dX8_count_101 : decode cX8_count 101 = .ok (.getfield 27, 3) := by decide +kernel
theorem dX8_count_104 : decode cX8_count 104 = .ok (.iconst 2, 1) := by decide +kernel
theorem dX8_count_105 : decode cX8_count 105 = .ok (.invokevirtual 143, 3) := by decide +kernel
theorem dX8_count_108 : decode cX8_count 108 = .ok (.ireturn, 1) := by decide +kernel
theorem dX8_count_109 : decode cX8_count 109 = .ok (.aload_n 0, 1) := by decide +kernel
theorem dX8_count_110 : decode cX8_count 110 = .ok (.getfield 27, 3) := by decide +kernel
theorem dX8_count_113 : decode cX8_count 113 = .ok (.iconst 1, 1) := by decide +kernel
theorem dX8_count_114 : decode cX8_count 114 = .ok (.invokevirtual 143, 3) := by decide +kernel
theorem dX8_count_117 : decode cX8_count 117 = .ok (.ireturn, 1) := by decide +kernel
theorem dX8_count_118 : decode cX8_count 118 = .ok (.aload_n 0, 1) := by decide +kernel
theorem dX8_count_119 : decode cX8_count 119 = .ok (.getfield 20, 3) := by decide +kernel
theorem dX8_count_122 : decode cX8_count 122 = .ok (.invokevirtual 146, 3) := by decide +kernel
theorem dX8_count_125 : decode cX8_count 125 = .ok (.ireturn, 1) := by decide +kernel
theorem dX8_count_126 : decode cX8_count 126 = .ok (.aload_n 0, 1) := by decide +kernel
theorem dX8_count_127 : decode cX8_count 127 = .ok (.getfield 27, 3) := by decide +kernel
theorem dX8_count_130 : decode cX8_count 130 = .ok (.getfield 149, 3) := by decide +kernel
theorem dX8_count_133 : decode cX8_count 133 = .ok (.ireturn, 1) := by decide +kernel
theorem dX8_count_134 : decode cX8_count 134 = .ok (.aload_n 0, 1) := by decide +kernel
theorem dX8_count_135 : decode cX8_count 135 = .ok (.getfield 20, 3) := by decide +kernel
theorem dX8_count_138 : decode cX8_count 138 = .ok (.invokevirtual 152, 3) := by decide +kernel
theorem dX8_count_141 : decode cX8_count 141 = .ok (.ireturn, 1) := by decide +kernel
theorem dX8_count_142 : decode cX8_count 142 = .ok (.aload_n 0, 1) := by decide +kernel
theorem dX8_count_143 : decode cX8_count 143 = .ok (.getfield 20, 3) := by decide +kernel
theorem dX8_count_146 : decode cX8_count 146 = .ok (.invokevirtual 155, 3) := by decide +kernel
theorem dX8_count_149 : decode cX8_count 149 = .ok (.ireturn, 1) := by decide +kernel
theorem dX8_count_150 : decode cX8_count 150 = .ok (.aload_n 0, 1) := by decide +kernel
theorem dX8_count_151 : decode cX8_count 151 = .ok (.getfield 20, 3) := by decide +kernel
theorem dX8_count_154 : decode cX8_count 154 = .ok (.invokevirtual 158, 3) := by decide +kernel
theorem dX8_count_157 : decode cX8_count 157 = .ok (.ireturn, 1) := by decide +kernel
theorem dX8_count_158 : decode cX8_count 158 = .ok (.aload_n 0, 1) := by decide +kernel
theorem dX8_count_159 : decode cX8_count 159 = .ok (.getfield 31, 3) := by decide +kernel
theorem dX8_count_162 : decode cX8_count 162 = .ok (.invokevirtual 161, 3) := by decide +kernel
theorem dX8_count_165 : decode cX8_count 165 = .ok (.ireturn, 1) := by decide +kernel
theorem dX8_count_166 : decode cX8_count 166 = .ok (.aload_n 0, 1) := by decide +kernel
theorem dX8_count_167 : decode cX8_count 167 = .ok (.getfield 38, 3) := by decide +kernel
theorem dX8_count_170 : decode cX8_count 170 = .ok (.getfield 99, 3) := by decide +kernel
theorem dX8_count_173 : decode cX8_count 173 = .ok (.ireturn, 1) := by decide +kernel
theorem dX8_count_174 : decode cX8_count 174 = .ok (.aload_n 0, 1) := by decide +kernel
theorem dX8_count_175 : decode cX8_count 175 = .ok (.getfield 45, 3) := by decide +kernel
theorem dX8_count_178 : decode cX8_count 178 = .ok (.getfield 105, 3) := by decide +kernel
theorem dX8_count_181 : decode cX8_count 181 = .ok (.getfield 164, 3) := by decide +kernel
theorem dX8_count_184 : decode cX8_count 184 = .ok (.ireturn, 1) := by decide +kernel
theorem dX8_count_185 : decode cX8_count 185 = .ok (.iconst (-1), 1) := by decide +kernel
theorem dX8_count_186 : decode cX8_count 186 = .ok (.ireturn, 1) := by decide +kernel
theorem dX8_card_0 : decode cX8_card 0 = .ok (.aload_n 0, 1) := by decide +kernel
theorem dX8_card_1 : decode cX8_card 1 = .ok (.getfield 27, 3) := by decide +kernel
theorem dX8_card_4 : decode cX8_card 4 = .ok (.iload_n 1, 1) := by decide +kernel
theorem dX8_card_5 : decode cX8_card 5 = .ok (.invokevirtual 167, 3) := by decide +kernel
theorem dX8_card_8 : decode cX8_card 8 = .ok (.ifCond .ne 5, 3) := by decide +kernel
theorem dX8_card_11 : decode cX8_card 11 = .ok (.iconst (-1), 1) := by decide +kernel
theorem dX8_card_12 : decode cX8_card 12 = .ok (.ireturn, 1) := by decide +kernel
theorem dX8_card_13 : decode cX8_card 13 = .ok (.aload_n 0, 1) := by decide +kernel
theorem dX8_card_14 : decode cX8_card 14 = .ok (.getfield 20, 3) := by decide +kernel
theorem dX8_card_17 : decode cX8_card 17 = .ok (.invokevirtual 140, 3) := by decide +kernel
theorem dX8_card_20 : decode cX8_card 20 = .ok (.iload_n 2, 1) := by decide +kernel
theorem dX8_card_21 : decode cX8_card 21 = .ok (.tableswitch 114 0 5 #[39, 49, 67, 77, 87, 97], 39) := by decide +kernel
theorem dX8_card_60 : decode cX8_card 60 = .ok (.aload_n 0, 1) := by decide +kernel
theorem dX8_card_61 : decode cX8_card 61 = .ok (.getfield 27, 3) := by decide +kernel
theorem dX8_card_64 : decode cX8_card 64 = .ok (.getfield 170, 3) := by decide +kernel
theorem dX8_card_67 : decode cX8_card 67 = .ok (.iload_n 1, 1) := by decide +kernel
theorem dX8_card_68 : decode cX8_card 68 = .ok (.iaload, 1) := by decide +kernel
theorem dX8_card_69 : decode cX8_card 69 = .ok (.ireturn, 1) := by decide +kernel
theorem dX8_card_70 : decode cX8_card 70 = .ok (.aload_n 0, 1) := by decide +kernel
theorem dX8_card_71 : decode cX8_card 71 = .ok (.getfield 27, 3) := by decide +kernel
theorem dX8_card_74 : decode cX8_card 74 = .ok (.aload_n 0, 1) := by decide +kernel
theorem dX8_card_75 : decode cX8_card 75 = .ok (.getfield 27, 3) := by decide +kernel
theorem dX8_card_78 : decode cX8_card 78 = .ok (.getfield 170, 3) := by decide +kernel
theorem dX8_card_81 : decode cX8_card 81 = .ok (.iload_n 1, 1) := by decide +kernel
theorem dX8_card_82 : decode cX8_card 82 = .ok (.iaload, 1) := by decide +kernel
theorem dX8_card_83 : decode cX8_card 83 = .ok (.iload_n 1, 1) := by decide +kernel
theorem dX8_card_84 : decode cX8_card 84 = .ok (.invokevirtual 173, 3) := by decide +kernel
theorem dX8_card_87 : decode cX8_card 87 = .ok (.ireturn, 1) := by decide +kernel
theorem dX8_card_88 : decode cX8_card 88 = .ok (.aload_n 0, 1) := by decide +kernel
theorem dX8_card_89 : decode cX8_card 89 = .ok (.getfield 27, 3) := by decide +kernel
theorem dX8_card_92 : decode cX8_card 92 = .ok (.getfield 176, 3) := by decide +kernel
theorem dX8_card_95 : decode cX8_card 95 = .ok (.iload_n 1, 1) := by decide +kernel
theorem dX8_card_96 : decode cX8_card 96 = .ok (.iaload, 1) := by decide +kernel
theorem dX8_card_97 : decode cX8_card 97 = .ok (.ireturn, 1) := by decide +kernel
theorem dX8_card_98 : decode cX8_card 98 = .ok (.aload_n 0, 1) := by decide +kernel
theorem dX8_card_99 : decode cX8_card 99 = .ok (.getfield 27, 3) := by decide +kernel
theorem dX8_card_102 : decode cX8_card 102 = .ok (.getfield 179, 3) := by decide +kernel
theorem dX8_card_105 : decode cX8_card 105 = .ok (.iload_n 1, 1) := by decide +kernel
theorem dX8_card_106 : decode cX8_card 106 = .ok (.iaload, 1) := by decide +kernel
theorem dX8_card_107 : decode cX8_card 107 = .ok (.ireturn, 1) := by decide +kernel
theorem dX8_card_108 : decode cX8_card 108 = .ok (.aload_n 0, 1) := by decide +kernel
theorem dX8_card_109 : decode cX8_card 109 = .ok (.getfield 20, 3) := by decide +kernel
theorem dX8_card_112 : decode cX8_card 112 = .ok (.getfield 182, 3) := by decide +kernel
theorem dX8_card_115 : decode cX8_card 115 = .ok (.iload_n 1, 1) := by decide +kernel
theorem dX8_card_116 : decode cX8_card 116 = .ok (.iaload, 1) := by decide +kernel
theorem dX8_card_117 : decode cX8_card 117 = .ok (.ireturn, 1) := by decide +kernel
theorem dX8_card_118 : decode cX8_card 118 = .ok (.aload_n 0, 1) := by decide +kernel
theorem dX8_card_119 : decode cX8_card 119 = .ok (.getfield 20, 3) := by decide +kernel
theorem dX8_card_122 : decode cX8_card 122 = .ok (.iload_n 1, 1) := by decide +kernel
theorem dX8_card_123 : decode cX8_card 123 = .ok (.invokevirtual 185, 3) := by decide +kernel
theorem dX8_card_126 : decode cX8_card 126 = .ok (.ifCond .eq 7, 3) := by decide +kernel
theorem dX8_card_129 : decode cX8_card 129 = .ok (.iconst 1, 1) := by decide +kernel
theorem dX8_card_130 : decode cX8_card 130 = .ok (.goto 4, 3) := by decide +kernel
theorem dX8_card_133 : decode cX8_card 133 = .ok (.iconst 0, 1) := by decide +kernel
theorem dX8_card_134 : decode cX8_card 134 = .ok (.ireturn, 1) := by decide +kernel
theorem dX8_card_135 : decode cX8_card 135 = .ok (.iconst (-1), 1) := by decide +kernel
theorem dX8_card_136 : decode cX8_card 136 = .ok (.ireturn, 1) := by decide +kernel
theorem dX8_place_0 : decode cX8_place 0 = .ok (.aload_n 0, 1) := by decide +kernel
theorem dX8_place_1 : decode cX8_place 1 = .ok (.getfield 27, 3) := by decide +kernel
theorem dX8_place_4 : decode cX8_place 4 = .ok (.iload_n 1, 1) := by decide +kernel
theorem dX8_place_5 : decode cX8_place 5 = .ok (.invokevirtual 167, 3) := by decide +kernel
theorem dX8_place_8 : decode cX8_place 8 = .ok (.ifCond .eq 13, 3) := by decide +kernel
theorem dX8_place_11 : decode cX8_place 11 = .ok (.iload_n 2, 1) := by decide +kernel
theorem dX8_place_12 : decode cX8_place 12 = .ok (.iconst 0, 1) := by decide +kernel
theorem dX8_place_13 : decode cX8_place 13 = .ok (.bipush 11, 2) := by decide +kernel
theorem dX8_place_15 : decode cX8_place 15 = .ok (.invokestatic 78, 3) := by decide +kernel
theorem dX8_place_18 : decode cX8_place 18 = .ok (.ifCond .ne 5, 3) := by decide +kernel
theorem dX8_place_21 : decode cX8_place 21 = .ok (.iconst (-1), 1) := by decide +kernel
theorem dX8_place_22 : decode cX8_place 22 = .ok (.ireturn, 1) := by decide +kernel
theorem dX8_place_23 : decode cX8_place 23 = .ok (.aload_n 0, 1) := by decide +kernel
theorem dX8_place_24 : decode cX8_place 24 = .ok (.getfield 20, 3) := by decide +kernel
theorem dX8_place_27 : decode cX8_place 27 = .ok (.invokevirtual 140, 3) := by decide +kernel
theorem dX8_place_30 : decode cX8_place 30 = .ok (.iload_n 1, 1) := by decide +kernel
theorem dX8_place_31 : decode cX8_place 31 = .ok (.bipush 12, 2) := by decide +kernel
theorem dX8_place_33 : decode cX8_place 33 = .ok (.imul, 1) := by decide +kernel
theorem dX8_place_34 : decode cX8_place 34 = .ok (.iload_n 2, 1) := by decide +kernel
theorem dX8_place_35 : decode cX8_place 35 = .ok (.iadd, 1) := by decide +kernel
theorem dX8_place_36 : decode cX8_place 36 = .ok (.istore 4, 2) := by decide +kernel
theorem dX8_place_38 : decode cX8_place 38 = .ok (.iload_n 3, 1) := by decide +kernel
theorem dX8_place_39 : decode cX8_place 39 = .ok (.tableswitch 106 0 4 #[33, 44, 55, 84, 95], 33) := by decide +kernel
theorem dX8_place_72 : decode cX8_place 72 = .ok (.aload_n 0, 1) := by decide +kernel
theorem dX8_place_73 : decode cX8_place 73 = .ok (.getfield 20, 3) := by decide +kernel
theorem dX8_place_76 : decode cX8_place 76 = .ok (.getfield 188, 3) := by decide +kernel
theorem dX8_place_79 : decode cX8_place 79 = .ok (.iload 4, 2) := by decide +kernel
theorem dX8_place_81 : decode cX8_place 81 = .ok (.iaload, 1) := by decide +kernel
theorem dX8_place_82 : decode cX8_place 82 = .ok (.ireturn, 1) := by decide +kernel
theorem dX8_place_83 : decode cX8_place 83 = .ok (.aload_n 0, 1) := by decide +kernel
theorem dX8_place_84 : decode cX8_place 84 = .ok (.getfield 20, 3) := by decide +kernel
theorem dX8_place_87 : decode cX8_place 87 = .ok (.getfield 191, 3) := by decide +kernel
theorem dX8_place_90 : decode cX8_place 90 = .ok (.iload 4, 2) := by decide +kernel
theorem dX8_place_92 : decode cX8_place 92 = .ok (.iaload, 1) := by decide +kernel
theorem dX8_place_93 : decode cX8_place 93 = .ok (.ireturn, 1) := by decide +kernel
theorem dX8_place_94 : decode cX8_place 94 = .ok (.aload_n 0, 1) := by decide +kernel
theorem dX8_place_95 : decode cX8_place 95 = .ok (.getfield 27, 3) := by decide +kernel
theorem dX8_place_98 : decode cX8_place 98 = .ok (.getfield 179, 3) := by decide +kernel
theorem dX8_place_101 : decode cX8_place 101 = .ok (.iload_n 1, 1) := by decide +kernel
theorem dX8_place_102 : decode cX8_place 102 = .ok (.iaload, 1) := by decide +kernel
theorem dX8_place_103 : decode cX8_place 103 = .ok (.iconst 2, 1) := by decide +kernel
theorem dX8_place_104 : decode cX8_place 104 = .ok (.if_icmp .ne 16, 3) := by decide +kernel
theorem dX8_place_107 : decode cX8_place 107 = .ok (.aload_n 0, 1) := by decide +kernel
theorem dX8_place_108 : decode cX8_place 108 = .ok (.getfield 20, 3) := by decide +kernel
theorem dX8_place_111 : decode cX8_place 111 = .ok (.getfield 194, 3) := by decide +kernel
theorem dX8_place_114 : decode cX8_place 114 = .ok (.iload 4, 2) := by decide +kernel
theorem dX8_place_116 : decode cX8_place 116 = .ok (.iaload, 1) := by decide +kernel
theorem dX8_place_117 : decode cX8_place 117 = .ok (.goto 5, 3) := by decide +kernel
theorem dX8_place_120 : decode cX8_place 120 = .ok (.bipush (-9), 2) := by decide +kernel
theorem dX8_place_122 : decode cX8_place 122 = .ok (.ireturn, 1) := by decide +kernel
theorem dX8_place_123 : decode cX8_place 123 = .ok (.aload_n 0, 1) := by decide +kernel
theorem dX8_place_124 : decode cX8_place 124 = .ok (.getfield 20, 3) := by decide +kernel
theorem dX8_place_127 : decode cX8_place 127 = .ok (.getfield 197, 3) := by decide +kernel
theorem dX8_place_130 : decode cX8_place 130 = .ok (.iload 4, 2) := by decide +kernel
theorem dX8_place_132 : decode cX8_place 132 = .ok (.iaload, 1) := by decide +kernel
theorem dX8_place_133 : decode cX8_place 133 = .ok (.ireturn, 1) := by decide +kernel
theorem dX8_place_134 : decode cX8_place 134 = .ok (.aload_n 0, 1) := by decide +kernel
theorem dX8_place_135 : decode cX8_place 135 = .ok (.getfield 20, 3) := by decide +kernel
theorem dX8_place_138 : decode cX8_place 138 = .ok (.getfield 200, 3) := by decide +kernel
theorem dX8_place_141 : decode cX8_place 141 = .ok (.iload 4, 2) := by decide +kernel
theorem dX8_place_143 : decode cX8_place 143 = .ok (.iaload, 1) := by decide +kernel
theorem dX8_place_144 : decode cX8_place 144 = .ok (.ireturn, 1) := by decide +kernel
theorem dX8_place_145 : decode cX8_place 145 = .ok (.iconst (-1), 1) := by decide +kernel
theorem dX8_place_146 : decode cX8_place 146 = .ok (.ireturn, 1) := by decide +kernel
theorem dX8_runAt_0 : decode cX8_runAt 0 = .ok (.aload_n 0, 1) := by decide +kernel
theorem dX8_runAt_1 : decode cX8_runAt 1 = .ok (.getfield 27, 3) := by decide +kernel
theorem dX8_runAt_4 : decode cX8_runAt 4 = .ok (.iload_n 1, 1) := by decide +kernel
theorem dX8_runAt_5 : decode cX8_runAt 5 = .ok (.invokevirtual 167, 3) := by decide +kernel
theorem dX8_runAt_8 : decode cX8_runAt 8 = .ok (.ifCond .eq 22, 3) := by decide +kernel
theorem dX8_runAt_11 : decode cX8_runAt 11 = .ok (.iload_n 2, 1) := by decide +kernel
theorem dX8_runAt_12 : decode cX8_runAt 12 = .ok (.iconst 0, 1) := by decide +kernel
theorem dX8_runAt_13 : decode cX8_runAt 13 = .ok (.bipush 11, 2) := by decide +kernel
theorem dX8_runAt_15 : decode cX8_runAt 15 = .ok (.invokestatic 78, 3) := by decide +kernel
theorem dX8_runAt_18 : decode cX8_runAt 18 = .ok (.ifCond .eq 12, 3) := by decide +kernel
theorem dX8_runAt_21 : decode cX8_runAt 21 = .ok (.iload_n 3, 1) := by decide +kernel
theorem dX8_runAt_22 : decode cX8_runAt 22 = .ok (.iconst 0, 1) := by decide +kernel
theorem dX8_runAt_23 : decode cX8_runAt 23 = .ok (.iconst 2, 1) := by decide +kernel
theorem dX8_runAt_24 : decode cX8_runAt 24 = .ok (.invokestatic 78, 3) := by decide +kernel
theorem dX8_runAt_27 : decode cX8_runAt 27 = .ok (.ifCond .ne 5, 3) := by decide +kernel
theorem dX8_runAt_30 : decode cX8_runAt 30 = .ok (.iconst (-1), 1) := by decide +kernel
theorem dX8_runAt_31 : decode cX8_runAt 31 = .ok (.ireturn, 1) := by decide +kernel
theorem dX8_runAt_32 : decode cX8_runAt 32 = .ok (.aload_n 0, 1) := by decide +kernel
theorem dX8_runAt_33 : decode cX8_runAt 33 = .ok (.getfield 20, 3) := by decide +kernel
theorem dX8_runAt_36 : decode cX8_runAt 36 = .ok (.invokevirtual 140, 3) := by decide +kernel
theorem dX8_runAt_39 : decode cX8_runAt 39 = .ok (.iload_n 1, 1) := by decide +kernel
theorem dX8_runAt_40 : decode cX8_runAt 40 = .ok (.bipush 12, 2) := by decide +kernel
theorem dX8_runAt_42 : decode cX8_runAt 42 = .ok (.imul, 1) := by decide +kernel
theorem dX8_runAt_43 : decode cX8_runAt 43 = .ok (.iload_n 2, 1) := by decide +kernel
theorem dX8_runAt_44 : decode cX8_runAt 44 = .ok (.iadd, 1) := by decide +kernel
theorem dX8_runAt_45 : decode cX8_runAt 45 = .ok (.istore 4, 2) := by decide +kernel
theorem dX8_runAt_47 : decode cX8_runAt 47 = .ok (.aload_n 0, 1) := by decide +kernel
theorem dX8_runAt_48 : decode cX8_runAt 48 = .ok (.getfield 20, 3) := by decide +kernel
theorem dX8_runAt_51 : decode cX8_runAt 51 = .ok (.getfield 203, 3) := by decide +kernel
theorem dX8_runAt_54 : decode cX8_runAt 54 = .ok (.iload 4, 2) := by decide +kernel
theorem dX8_runAt_56 : decode cX8_runAt 56 = .ok (.iaload, 1) := by decide +kernel
theorem dX8_runAt_57 : decode cX8_runAt 57 = .ok (.ifCond .ne 6, 3) := by decide +kernel
theorem dX8_runAt_60 : decode cX8_runAt 60 = .ok (.bipush (-9), 2) := by decide +kernel
theorem dX8_runAt_62 : decode cX8_runAt 62 = .ok (.ireturn, 1) := by decide +kernel
theorem dX8_runAt_63 : decode cX8_runAt 63 = .ok (.iload_n 3, 1) := by decide +kernel
theorem dX8_runAt_64 : decode cX8_runAt 64 = .ok (.lookupswitch 50 #[(0, 28), (1, 39)], 28) := by decide +kernel
theorem dX8_runAt_92 : decode cX8_runAt 92 = .ok (.aload_n 0, 1) := by decide +kernel
theorem dX8_runAt_93 : decode cX8_runAt 93 = .ok (.getfield 20, 3) := by decide +kernel
theorem dX8_runAt_96 : decode cX8_runAt 96 = .ok (.getfield 206, 3) := by decide +kernel
theorem dX8_runAt_99 : decode cX8_runAt 99 = .ok (.iload 4, 2) := by decide +kernel
theorem dX8_runAt_101 : decode cX8_runAt 101 = .ok (.iaload, 1) := by decide +kernel
theorem dX8_runAt_102 : decode cX8_runAt 102 = .ok (.ireturn, 1) := by decide +kernel
theorem dX8_runAt_103 : decode cX8_runAt 103 = .ok (.aload_n 0, 1) := by decide +kernel
theorem dX8_runAt_104 : decode cX8_runAt 104 = .ok (.getfield 20, 3) := by decide +kernel
theorem dX8_runAt_107 : decode cX8_runAt 107 = .ok (.getfield 209, 3) := by decide +kernel
theorem dX8_runAt_110 : decode cX8_runAt 110 = .ok (.iload 4, 2) := by decide +kernel
theorem dX8_runAt_112 : decode cX8_runAt 112 = .ok (.iaload, 1) := by decide +kernel
theorem dX8_runAt_113 : decode cX8_runAt 113 = .ok (.ireturn, 1) := by decide +kernel
theorem dX8_runAt_114 : decode cX8_runAt 114 = .ok (.aload_n 0, 1) := by decide +kernel
theorem dX8_runAt_115 : decode cX8_runAt 115 = .ok (.getfield 20, 3) := by decide +kernel
theorem dX8_runAt_118 : decode cX8_runAt 118 = .ok (.getfield 203, 3) := by decide +kernel
theorem dX8_runAt_121 : decode cX8_runAt 121 = .ok (.iload 4, 2) := by decide +kernel
theorem dX8_runAt_123 : decode cX8_runAt 123 = .ok (.iaload, 1) := by decide +kernel
theorem dX8_runAt_124 : decode cX8_runAt 124 = .ok (.ireturn, 1) := by decide +kernel
theorem dX8_outcome_0 : decode cX8_outcome 0 = .ok (.aload_n 0, 1) := by decide +kernel
theorem dX8_outcome_1 : decode cX8_outcome 1 = .ok (.getfield 27, 3) := by decide +kernel
theorem dX8_outcome_4 : decode cX8_outcome 4 = .ok (.iload_n 1, 1) := by decide +kernel
theorem dX8_outcome_5 : decode cX8_outcome 5 = .ok (.invokevirtual 167, 3) := by decide +kernel
theorem dX8_outcome_8 : decode cX8_outcome 8 = .ok (.ifCond .eq 12, 3) := by decide +kernel
theorem dX8_outcome_11 : decode cX8_outcome 11 = .ok (.iload_n 2, 1) := by decide +kernel
theorem dX8_outcome_12 : decode cX8_outcome 12 = .ok (.iconst 0, 1) := by decide +kernel
theorem dX8_outcome_13 : decode cX8_outcome 13 = .ok (.iconst 3, 1) := by decide +kernel
theorem dX8_outcome_14 : decode cX8_outcome 14 = .ok (.invokestatic 78, 3) := by decide +kernel
theorem dX8_outcome_17 : decode cX8_outcome 17 = .ok (.ifCond .ne 5, 3) := by decide +kernel
theorem dX8_outcome_20 : decode cX8_outcome 20 = .ok (.iconst (-1), 1) := by decide +kernel
theorem dX8_outcome_21 : decode cX8_outcome 21 = .ok (.ireturn, 1) := by decide +kernel
theorem dX8_outcome_22 : decode cX8_outcome 22 = .ok (.iload_n 3, 1) := by decide +kernel
theorem dX8_outcome_23 : decode cX8_outcome 23 = .ok (.iconst (-1), 1) := by decide +kernel
theorem dX8_outcome_24 : decode cX8_outcome 24 = .ok (.if_icmp .eq 16, 3) := by decide +kernel
theorem dX8_outcome_27 : decode cX8_outcome 27 = .ok (.aload_n 0, 1) := by decide +kernel
theorem dX8_outcome_28 : decode cX8_outcome 28 = .ok (.getfield 27, 3) := by decide +kernel
theorem dX8_outcome_31 : decode cX8_outcome 31 = .ok (.iload_n 3, 1) := by decide +kernel
theorem dX8_outcome_32 : decode cX8_outcome 32 = .ok (.invokevirtual 212, 3) := by decide +kernel
theorem dX8_outcome_35 : decode cX8_outcome 35 = .ok (.ifCond .ne 5, 3) := by decide +kernel
theorem dX8_outcome_38 : decode cX8_outcome 38 = .ok (.iconst (-1), 1) := by decide +kernel
theorem dX8_outcome_39 : decode cX8_outcome 39 = .ok (.ireturn, 1) := by decide +kernel
theorem dX8_outcome_40 : decode cX8_outcome 40 = .ok (.iload_n 1, 1) := by decide +kernel
theorem dX8_outcome_41 : decode cX8_outcome 41 = .ok (.aload_n 0, 1) := by decide +kernel
theorem dX8_outcome_42 : decode cX8_outcome 42 = .ok (.getfield 27, 3) := by decide +kernel
theorem dX8_outcome_45 : decode cX8_outcome 45 = .ok (.iload_n 3, 1) := by decide +kernel
theorem dX8_outcome_46 : decode cX8_outcome 46 = .ok (.invokevirtual 215, 3) := by decide +kernel
theorem dX8_outcome_49 : decode cX8_outcome 49 = .ok (.if_icmp .lt 6, 3) := by decide +kernel
theorem dX8_outcome_52 : decode cX8_outcome 52 = .ok (.bipush (-9), 2) := by decide +kernel
theorem dX8_outcome_54 : decode cX8_outcome 54 = .ok (.ireturn, 1) := by decide +kernel
theorem dX8_outcome_55 : decode cX8_outcome 55 = .ok (.aload_n 0, 1) := by decide +kernel
theorem dX8_outcome_56 : decode cX8_outcome 56 = .ok (.getfield 20, 3) := by decide +kernel
theorem dX8_outcome_59 : decode cX8_outcome 59 = .ok (.invokevirtual 140, 3) := by decide +kernel
theorem dX8_outcome_62 : decode cX8_outcome 62 = .ok (.aload_n 0, 1) := by decide +kernel
theorem dX8_outcome_63 : decode cX8_outcome 63 = .ok (.getfield 20, 3) := by decide +kernel
theorem dX8_outcome_66 : decode cX8_outcome 66 = .ok (.iload_n 3, 1) := by decide +kernel
theorem dX8_outcome_67 : decode cX8_outcome 67 = .ok (.iload_n 1, 1) := by decide +kernel
theorem dX8_outcome_68 : decode cX8_outcome 68 = .ok (.invokevirtual 218, 3) := by decide +kernel
theorem dX8_outcome_71 : decode cX8_outcome 71 = .ok (.iload_n 2, 1) := by decide +kernel
theorem dX8_outcome_72 : decode cX8_outcome 72 = .ok (.invokestatic 221, 3) := by decide +kernel
theorem dX8_outcome_75 : decode cX8_outcome 75 = .ok (.ireturn, 1) := by decide +kernel
theorem dX8_tally_0 : decode cX8_tally 0 = .ok (.iload_n 1, 1) := by decide +kernel
theorem dX8_tally_1 : decode cX8_tally 1 = .ok (.iconst 0, 1) := by decide +kernel
theorem dX8_tally_2 : decode cX8_tally 2 = .ok (.iconst 3, 1) := by decide +kernel
theorem dX8_tally_3 : decode cX8_tally 3 = .ok (.invokestatic 78, 3) := by decide +kernel
theorem dX8_tally_6 : decode cX8_tally 6 = .ok (.ifCond .eq 12, 3) := by decide +kernel
theorem dX8_tally_9 : decode cX8_tally 9 = .ok (.iload_n 2, 1) := by decide +kernel
theorem dX8_tally_10 : decode cX8_tally 10 = .ok (.iconst 0, 1) := by decide +kernel
theorem dX8_tally_11 : decode cX8_tally 11 = .ok (.iconst 5, 1) := by decide +kernel
theorem dX8_tally_12 : decode cX8_tally 12 = .ok (.invokestatic 78, 3) := by decide +kernel
theorem dX8_tally_15 : decode cX8_tally 15 = .ok (.ifCond .ne 5, 3) := by decide +kernel
theorem dX8_tally_18 : decode cX8_tally 18 = .ok (.iconst (-1), 1) := by decide +kernel
theorem dX8_tally_19 : decode cX8_tally 19 = .ok (.ireturn, 1) := by decide +kernel
theorem dX8_tally_20 : decode cX8_tally 20 = .ok (.iload_n 3, 1) := by decide +kernel
theorem dX8_tally_21 : decode cX8_tally 21 = .ok (.iconst (-1), 1) := by decide +kernel
theorem dX8_tally_22 : decode cX8_tally 22 = .ok (.if_icmp .eq 16, 3) := by decide +kernel
theorem dX8_tally_25 : decode cX8_tally 25 = .ok (.aload_n 0, 1) := by decide +kernel
theorem dX8_tally_26 : decode cX8_tally 26 = .ok (.getfield 27, 3) := by decide +kernel
theorem dX8_tally_29 : decode cX8_tally 29 = .ok (.iload_n 3, 1) := by decide +kernel
theorem dX8_tally_30 : decode cX8_tally 30 = .ok (.invokevirtual 212, 3) := by decide +kernel
theorem dX8_tally_33 : decode cX8_tally 33 = .ok (.ifCond .ne 5, 3) := by decide +kernel
theorem dX8_tally_36 : decode cX8_tally 36 = .ok (.iconst (-1), 1) := by decide +kernel
theorem dX8_tally_37 : decode cX8_tally 37 = .ok (.ireturn, 1) := by decide +kernel
theorem dX8_tally_38 : decode cX8_tally 38 = .ok (.iload 4, 2) := by decide +kernel
theorem dX8_tally_40 : decode cX8_tally 40 = .ok (.iconst (-1), 1) := by decide +kernel
theorem dX8_tally_41 : decode cX8_tally 41 = .ok (.if_icmp .eq 15, 3) := by decide +kernel
theorem dX8_tally_44 : decode cX8_tally 44 = .ok (.iload 4, 2) := by decide +kernel
theorem dX8_tally_46 : decode cX8_tally 46 = .ok (.iconst 0, 1) := by decide +kernel
theorem dX8_tally_47 : decode cX8_tally 47 = .ok (.iconst 2, 1) := by decide +kernel
theorem dX8_tally_48 : decode cX8_tally 48 = .ok (.invokestatic 78, 3) := by decide +kernel
theorem dX8_tally_51 : decode cX8_tally 51 = .ok (.ifCond .ne 5, 3) := by decide +kernel
theorem dX8_tally_54 : decode cX8_tally 54 = .ok (.iconst (-1), 1) := by decide +kernel
theorem dX8_tally_55 : decode cX8_tally 55 = .ok (.ireturn, 1) := by decide +kernel
theorem dX8_tally_56 : decode cX8_tally 56 = .ok (.aload_n 0, 1) := by decide +kernel
theorem dX8_tally_57 : decode cX8_tally 57 = .ok (.getfield 20, 3) := by decide +kernel
theorem dX8_tally_60 : decode cX8_tally 60 = .ok (.invokevirtual 140, 3) := by decide +kernel
theorem dX8_tally_63 : decode cX8_tally 63 = .ok (.aload_n 0, 1) := by decide +kernel
theorem dX8_tally_64 : decode cX8_tally 64 = .ok (.getfield 20, 3) := by decide +kernel
theorem dX8_tally_67 : decode cX8_tally 67 = .ok (.iload_n 1, 1) := by decide +kernel
theorem dX8_tally_68 : decode cX8_tally 68 = .ok (.iload_n 2, 1) := by decide +kernel
theorem dX8_tally_69 : decode cX8_tally 69 = .ok (.iload_n 3, 1) := by decide +kernel
theorem dX8_tally_70 : decode cX8_tally 70 = .ok (.iload 4, 2) := by decide +kernel
theorem dX8_tally_72 : decode cX8_tally 72 = .ok (.invokevirtual 224, 3) := by decide +kernel
theorem dX8_tally_75 : decode cX8_tally 75 = .ok (.ireturn, 1) := by decide +kernel
theorem dX8_changed_0 : decode cX8_changed 0 = .ok (.aload_n 0, 1) := by decide +kernel
theorem dX8_changed_1 : decode cX8_changed 1 = .ok (.getfield 27, 3) := by decide +kernel
theorem dX8_changed_4 : decode cX8_changed 4 = .ok (.iload_n 1, 1) := by decide +kernel
theorem dX8_changed_5 : decode cX8_changed 5 = .ok (.invokevirtual 212, 3) := by decide +kernel
theorem dX8_changed_8 : decode cX8_changed 8 = .ok (.ifCond .eq 16, 3) := by decide +kernel
theorem dX8_changed_11 : decode cX8_changed 11 = .ok (.iload_n 2, 1) := by decide +kernel
theorem dX8_changed_12 : decode cX8_changed 12 = .ok (.ifCond .lt 12, 3) := by decide +kernel
theorem dX8_changed_15 : decode cX8_changed 15 = .ok (.iload_n 3, 1) := by decide +kernel
theorem dX8_changed_16 : decode cX8_changed 16 = .ok (.iconst 0, 1) := by decide +kernel
theorem dX8_changed_17 : decode cX8_changed 17 = .ok (.iconst 1, 1) := by decide +kernel
theorem dX8_changed_18 : decode cX8_changed 18 = .ok (.invokestatic 78, 3) := by decide +kernel
theorem dX8_changed_21 : decode cX8_changed 21 = .ok (.ifCond .ne 5, 3) := by decide +kernel
theorem dX8_changed_24 : decode cX8_changed 24 = .ok (.iconst (-1), 1) := by decide +kernel
theorem dX8_changed_25 : decode cX8_changed 25 = .ok (.ireturn, 1) := by decide +kernel
theorem dX8_changed_26 : decode cX8_changed 26 = .ok (.aload_n 0, 1) := by decide +kernel
theorem dX8_changed_27 : decode cX8_changed 27 = .ok (.getfield 27, 3) := by decide +kernel
theorem dX8_changed_30 : decode cX8_changed 30 = .ok (.iload_n 1, 1) := by decide +kernel
theorem dX8_changed_31 : decode cX8_changed 31 = .ok (.iload_n 2, 1) := by decide +kernel
theorem dX8_changed_32 : decode cX8_changed 32 = .ok (.invokevirtual 228, 3) := by decide +kernel
theorem dX8_changed_35 : decode cX8_changed 35 = .ok (.istore 4, 2) := by decide +kernel
theorem dX8_changed_37 : decode cX8_changed 37 = .ok (.iload 4, 2) := by decide +kernel
theorem dX8_changed_39 : decode cX8_changed 39 = .ok (.ifCond .ge 6, 3) := by decide +kernel
theorem dX8_changed_42 : decode cX8_changed 42 = .ok (.bipush (-9), 2) := by decide +kernel
theorem dX8_changed_44 : decode cX8_changed 44 = .ok (.ireturn, 1) := by decide +kernel
theorem dX8_changed_45 : decode cX8_changed 45 = .ok (.iload_n 3, 1) := by decide +kernel
theorem dX8_changed_46 : decode cX8_changed 46 = .ok (.ifCond .ne 8, 3) := by decide +kernel
theorem dX8_changed_49 : decode cX8_changed 49 = .ok (.iload 4, 2) := by decide +kernel
theorem dX8_changed_51 : decode cX8_changed 51 = .ok (.goto 13, 3) := by decide +kernel
theorem dX8_changed_54 : decode cX8_changed 54 = .ok (.aload_n 0, 1) := by decide +kernel
theorem dX8_changed_55 : decode cX8_changed 55 = .ok (.getfield 27, 3) := by decide +kernel
theorem dX8_changed_58 : decode cX8_changed 58 = .ok (.iload_n 1, 1) := by decide +kernel
theorem dX8_changed_59 : decode cX8_changed 59 = .ok (.iload 4, 2) := by decide +kernel
theorem dX8_changed_61 : decode cX8_changed 61 = .ok (.invokevirtual 231, 3) := by decide +kernel
theorem dX8_changed_64 : decode cX8_changed 64 = .ok (.ireturn, 1) := by decide +kernel
theorem dX8_leader_0 : decode cX8_leader 0 = .ok (.iload_n 1, 1) := by decide +kernel
theorem dX8_leader_1 : decode cX8_leader 1 = .ok (.iconst 0, 1) := by decide +kernel
theorem dX8_leader_2 : decode cX8_leader 2 = .ok (.iconst 3, 1) := by decide +kernel
theorem dX8_leader_3 : decode cX8_leader 3 = .ok (.invokestatic 78, 3) := by decide +kernel
theorem dX8_leader_6 : decode cX8_leader 6 = .ok (.ifCond .eq 12, 3) := by decide +kernel
theorem dX8_leader_9 : decode cX8_leader 9 = .ok (.iload_n 2, 1) := by decide +kernel
theorem dX8_leader_10 : decode cX8_leader 10 = .ok (.iconst 0, 1) := by decide +kernel
theorem dX8_leader_11 : decode cX8_leader 11 = .ok (.iconst 3, 1) := by decide +kernel
theorem dX8_leader_12 : decode cX8_leader 12 = .ok (.invokestatic 78, 3) := by decide +kernel
theorem dX8_leader_15 : decode cX8_leader 15 = .ok (.ifCond .ne 5, 3) := by decide +kernel
theorem dX8_leader_18 : decode cX8_leader 18 = .ok (.iconst (-1), 1) := by decide +kernel
theorem dX8_leader_19 : decode cX8_leader 19 = .ok (.ireturn, 1) := by decide +kernel
theorem dX8_leader_20 : decode cX8_leader 20 = .ok (.aload_n 0, 1) := by decide +kernel
theorem dX8_leader_21 : decode cX8_leader 21 = .ok (.getfield 20, 3) := by decide +kernel
theorem dX8_leader_24 : decode cX8_leader 24 = .ok (.invokevirtual 140, 3) := by decide +kernel
theorem dX8_leader_27 : decode cX8_leader 27 = .ok (.aload_n 0, 1) := by decide +kernel
theorem dX8_leader_28 : decode cX8_leader 28 = .ok (.getfield 20, 3) := by decide +kernel
theorem dX8_leader_31 : decode cX8_leader 31 = .ok (.iload_n 1, 1) := by decide +kernel
theorem dX8_leader_32 : decode cX8_leader 32 = .ok (.invokevirtual 234, 3) := by decide +kernel
theorem dX8_leader_35 : decode cX8_leader 35 = .ok (.istore_n 3, 1) := by decide +kernel
theorem dX8_leader_36 : decode cX8_leader 36 = .ok (.aload_n 0, 1) := by decide +kernel
theorem dX8_leader_37 : decode cX8_leader 37 = .ok (.getfield 20, 3) := by decide +kernel
theorem dX8_leader_40 : decode cX8_leader 40 = .ok (.iload_n 1, 1) := by decide +kernel
theorem dX8_leader_41 : decode cX8_leader 41 = .ok (.iload_n 3, 1) := by decide +kernel
theorem dX8_leader_42 : decode cX8_leader 42 = .ok (.invokevirtual 237, 3) := by decide +kernel
theorem dX8_leader_45 : decode cX8_leader 45 = .ok (.istore 4, 2) := by decide +kernel
theorem dX8_leader_47 : decode cX8_leader 47 = .ok (.aload_n 0, 1) := by decide +kernel
theorem dX8_leader_48 : decode cX8_leader 48 = .ok (.getfield 20, 3) := by decide +kernel
theorem dX8_leader_51 : decode cX8_leader 51 = .ok (.iload_n 1, 1) := by decide +kernel
theorem dX8_leader_52 : decode cX8_leader 52 = .ok (.iconst 5, 1) := by decide +kernel
theorem dX8_leader_53 : decode cX8_leader 53 = .ok (.iconst (-1), 1) := by decide +kernel
theorem dX8_leader_54 : decode cX8_leader 54 = .ok (.iconst (-1), 1) := by decide +kernel
theorem dX8_leader_55 : decode cX8_leader 55 = .ok (.invokevirtual 224, 3) := by decide +kernel
theorem dX8_leader_58 : decode cX8_leader 58 = .ok (.istore 5, 2) := by decide +kernel
theorem dX8_leader_60 : decode cX8_leader 60 = .ok (.iload_n 2, 1) := by decide +kernel
theorem dX8_leader_61 : decode cX8_leader 61 = .ok (.tableswitch 35 0 2 #[27, 29, 32], 27) := by decide +kernel
theorem dX8_leader_88 : decode cX8_leader 88 = .ok (.iload_n 3, 1) := by decide +kernel
theorem dX8_leader_89 : decode cX8_leader 89 = .ok (.ireturn, 1) := by decide +kernel
theorem dX8_leader_90 : decode cX8_leader 90 = .ok (.iload 4, 2) := by decide +kernel
theorem dX8_leader_92 : decode cX8_leader 92 = .ok (.ireturn, 1) := by decide +kernel
theorem dX8_leader_93 : decode cX8_leader 93 = .ok (.iload 5, 2) := by decide +kernel
theorem dX8_leader_95 : decode cX8_leader 95 = .ok (.ireturn, 1) := by decide +kernel
theorem dX8_leader_96 : decode cX8_leader 96 = .ok (.iload 4, 2) := by decide +kernel
theorem dX8_leader_98 : decode cX8_leader 98 = .ok (.iload 5, 2) := by decide +kernel
theorem dX8_leader_100 : decode cX8_leader 100 = .ok (.if_icmp .le 7, 3) := by decide +kernel
theorem dX8_leader_103 : decode cX8_leader 103 = .ok (.iconst 1, 1) := by decide +kernel
theorem dX8_leader_104 : decode cX8_leader 104 = .ok (.goto 4, 3) := by decide +kernel
theorem dX8_leader_107 : decode cX8_leader 107 = .ok (.iconst 0, 1) := by decide +kernel
theorem dX8_leader_108 : decode cX8_leader 108 = .ok (.ireturn, 1) := by decide +kernel
theorem dX8_error_0 : decode cX8_error 0 = .ok (.iload_n 1, 1) := by decide +kernel
theorem dX8_error_1 : decode cX8_error 1 = .ok (.iconst 0, 1) := by decide +kernel
theorem dX8_error_2 : decode cX8_error 2 = .ok (.iconst 2, 1) := by decide +kernel
theorem dX8_error_3 : decode cX8_error 3 = .ok (.invokestatic 78, 3) := by decide +kernel
theorem dX8_error_6 : decode cX8_error 6 = .ok (.ifCond .eq 12, 3) := by decide +kernel
theorem dX8_error_9 : decode cX8_error 9 = .ok (.iload_n 2, 1) := by decide +kernel
theorem dX8_error_10 : decode cX8_error 10 = .ok (.iconst 0, 1) := by decide +kernel
theorem dX8_error_11 : decode cX8_error 11 = .ok (.iconst 2, 1) := by decide +kernel
theorem dX8_error_12 : decode cX8_error 12 = .ok (.invokestatic 78, 3) := by decide +kernel
theorem dX8_error_15 : decode cX8_error 15 = .ok (.ifCond .ne 5, 3) := by decide +kernel
theorem dX8_error_18 : decode cX8_error 18 = .ok (.iconst (-1), 1) := by decide +kernel
theorem dX8_error_19 : decode cX8_error 19 = .ok (.ireturn, 1) := by decide +kernel
theorem dX8_error_20 : decode cX8_error 20 = .ok (.aload_n 0, 1) := by decide +kernel
theorem dX8_error_21 : decode cX8_error 21 = .ok (.getfield 20, 3) := by decide +kernel
theorem dX8_error_24 : decode cX8_error 24 = .ok (.invokevirtual 140, 3) := by decide +kernel
theorem dX8_error_27 : decode cX8_error 27 = .ok (.iconst 0, 1) := by decide +kernel
theorem dX8_error_28 : decode cX8_error 28 = .ok (.istore_n 3, 1) := by decide +kernel
theorem dX8_error_29 : decode cX8_error 29 = .ok (.iconst 0, 1) := by decide +kernel
theorem dX8_error_30 : decode cX8_error 30 = .ok (.istore 4, 2) := by decide +kernel
theorem dX8_error_32 : decode cX8_error 32 = .ok (.iload 4, 2) := by decide +kernel
theorem dX8_error_34 : decode cX8_error 34 = .ok (.aload_n 0, 1) := by decide +kernel
theorem dX8_error_35 : decode cX8_error 35 = .ok (.getfield 27, 3) := by decide +kernel
theorem dX8_error_38 : decode cX8_error 38 = .ok (.getfield 86, 3) := by decide +kernel
theorem dX8_error_41 : decode cX8_error 41 = .ok (.if_icmp .ge 50, 3) := by decide +kernel
theorem dX8_error_44 : decode cX8_error 44 = .ok (.aload_n 0, 1) := by decide +kernel
theorem dX8_error_45 : decode cX8_error 45 = .ok (.getfield 27, 3) := by decide +kernel
theorem dX8_error_48 : decode cX8_error 48 = .ok (.getfield 170, 3) := by decide +kernel
theorem dX8_error_51 : decode cX8_error 51 = .ok (.iload 4, 2) := by decide +kernel
theorem dX8_error_53 : decode cX8_error 53 = .ok (.iaload, 1) := by decide +kernel
theorem dX8_error_54 : decode cX8_error 54 = .ok (.iload_n 1, 1) := by decide +kernel
theorem dX8_error_55 : decode cX8_error 55 = .ok (.if_icmp .ne 30, 3) := by decide +kernel
theorem dX8_error_58 : decode cX8_error 58 = .ok (.aload_n 0, 1) := by decide +kernel
theorem dX8_error_59 : decode cX8_error 59 = .ok (.getfield 27, 3) := by decide +kernel
theorem dX8_error_62 : decode cX8_error 62 = .ok (.getfield 179, 3) := by decide +kernel
theorem dX8_error_65 : decode cX8_error 65 = .ok (.iload 4, 2) := by decide +kernel
theorem dX8_error_67 : decode cX8_error 67 = .ok (.iaload, 1) := by decide +kernel
theorem dX8_error_68 : decode cX8_error 68 = .ok (.iconst 2, 1) := by decide +kernel
theorem dX8_error_69 : decode cX8_error 69 = .ok (.if_icmp .ne 16, 3) := by decide +kernel
theorem dX8_error_72 : decode cX8_error 72 = .ok (.iload_n 3, 1) := by decide +kernel
theorem dX8_error_73 : decode cX8_error 73 = .ok (.aload_n 0, 1) := by decide +kernel
theorem dX8_error_74 : decode cX8_error 74 = .ok (.getfield 20, 3) := by decide +kernel
theorem dX8_error_77 : decode cX8_error 77 = .ok (.iload 4, 2) := by decide +kernel
theorem dX8_error_79 : decode cX8_error 79 = .ok (.iload_n 2, 1) := by decide +kernel
theorem dX8_error_80 : decode cX8_error 80 = .ok (.invokevirtual 240, 3) := by decide +kernel
theorem dX8_error_83 : decode cX8_error 83 = .ok (.iadd, 1) := by decide +kernel
theorem dX8_error_84 : decode cX8_error 84 = .ok (.istore_n 3, 1) := by decide +kernel
theorem dX8_error_85 : decode cX8_error 85 = .ok (.iinc 4 1, 3) := by decide +kernel
theorem dX8_error_88 : decode cX8_error 88 = .ok (.goto (-56), 3) := by decide +kernel
theorem dX8_error_91 : decode cX8_error 91 = .ok (.iload_n 3, 1) := by decide +kernel
theorem dX8_error_92 : decode cX8_error 92 = .ok (.ireturn, 1) := by decide +kernel
theorem dX8_byLength_0 : decode cX8_byLength 0 = .ok (.iload_n 1, 1) := by decide +kernel
theorem dX8_byLength_1 : decode cX8_byLength 1 = .ok (.getstatic 243, 3) := by decide +kernel
theorem dX8_byLength_4 : decode cX8_byLength 4 = .ok (.iconst 0, 1) := by decide +kernel
theorem dX8_byLength_5 : decode cX8_byLength 5 = .ok (.iaload, 1) := by decide +kernel
theorem dX8_byLength_6 : decode cX8_byLength 6 = .ok (.getstatic 246, 3) := by decide +kernel
theorem dX8_byLength_9 : decode cX8_byLength 9 = .ok (.iconst 0, 1) := by decide +kernel
theorem dX8_byLength_10 : decode cX8_byLength 10 = .ok (.iaload, 1) := by decide +kernel
theorem dX8_byLength_11 : decode cX8_byLength 11 = .ok (.invokestatic 78, 3) := by decide +kernel
theorem dX8_byLength_14 : decode cX8_byLength 14 = .ok (.ifCond .ne 5, 3) := by decide +kernel
theorem dX8_byLength_17 : decode cX8_byLength 17 = .ok (.iconst (-1), 1) := by decide +kernel
theorem dX8_byLength_18 : decode cX8_byLength 18 = .ok (.ireturn, 1) := by decide +kernel
theorem dX8_byLength_19 : decode cX8_byLength 19 = .ok (.aload_n 0, 1) := by decide +kernel
theorem dX8_byLength_20 : decode cX8_byLength 20 = .ok (.getfield 20, 3) := by decide +kernel
theorem dX8_byLength_23 : decode cX8_byLength 23 = .ok (.invokevirtual 140, 3) := by decide +kernel
theorem dX8_byLength_26 : decode cX8_byLength 26 = .ok (.aload_n 0, 1) := by decide +kernel
theorem dX8_byLength_27 : decode cX8_byLength 27 = .ok (.getfield 20, 3) := by decide +kernel
theorem dX8_byLength_30 : decode cX8_byLength 30 = .ok (.iload_n 1, 1) := by decide +kernel
theorem dX8_byLength_31 : decode cX8_byLength 31 = .ok (.invokevirtual 249, 3) := by decide +kernel
theorem dX8_byLength_34 : decode cX8_byLength 34 = .ok (.ireturn, 1) := by decide +kernel
theorem dX8_drawn_0 : decode cX8_drawn 0 = .ok (.iload_n 1, 1) := by decide +kernel
theorem dX8_drawn_1 : decode cX8_drawn 1 = .ok (.iconst 0, 1) := by decide +kernel
theorem dX8_drawn_2 : decode cX8_drawn 2 = .ok (.ldc 252, 2) := by decide +kernel
theorem dX8_drawn_4 : decode cX8_drawn 4 = .ok (.invokestatic 78, 3) := by decide +kernel
theorem dX8_drawn_7 : decode cX8_drawn 7 = .ok (.ifCond .ne 5, 3) := by decide +kernel
theorem dX8_drawn_10 : decode cX8_drawn 10 = .ok (.iconst (-1), 1) := by decide +kernel
theorem dX8_drawn_11 : decode cX8_drawn 11 = .ok (.ireturn, 1) := by decide +kernel
theorem dX8_drawn_12 : decode cX8_drawn 12 = .ok (.aload_n 0, 1) := by decide +kernel
theorem dX8_drawn_13 : decode cX8_drawn 13 = .ok (.getfield 20, 3) := by decide +kernel
theorem dX8_drawn_16 : decode cX8_drawn 16 = .ok (.invokevirtual 140, 3) := by decide +kernel
theorem dX8_drawn_19 : decode cX8_drawn 19 = .ok (.aload_n 0, 1) := by decide +kernel
theorem dX8_drawn_20 : decode cX8_drawn 20 = .ok (.getfield 20, 3) := by decide +kernel
theorem dX8_drawn_23 : decode cX8_drawn 23 = .ok (.invokevirtual 146, 3) := by decide +kernel
theorem dX8_drawn_26 : decode cX8_drawn 26 = .ok (.istore_n 2, 1) := by decide +kernel
theorem dX8_drawn_27 : decode cX8_drawn 27 = .ok (.iload_n 2, 1) := by decide +kernel
theorem dX8_drawn_28 : decode cX8_drawn 28 = .ok (.ifCond .ne 6, 3) := by decide +kernel
theorem dX8_drawn_31 : decode cX8_drawn 31 = .ok (.bipush (-9), 2) := by decide +kernel
theorem dX8_drawn_33 : decode cX8_drawn 33 = .ok (.ireturn, 1) := by decide +kernel
theorem dX8_drawn_34 : decode cX8_drawn 34 = .ok (.aload_n 0, 1) := by decide +kernel
theorem dX8_drawn_35 : decode cX8_drawn 35 = .ok (.getfield 20, 3) := by decide +kernel
theorem dX8_drawn_38 : decode cX8_drawn 38 = .ok (.iload_n 1, 1) := by decide +kernel
theorem dX8_drawn_39 : decode cX8_drawn 39 = .ok (.invokestatic 253, 3) := by decide +kernel
theorem dX8_drawn_42 : decode cX8_drawn 42 = .ok (.iload_n 2, 1) := by decide +kernel
theorem dX8_drawn_43 : decode cX8_drawn 43 = .ok (.irem, 1) := by decide +kernel
theorem dX8_drawn_44 : decode cX8_drawn 44 = .ok (.invokevirtual 256, 3) := by decide +kernel
theorem dX8_drawn_47 : decode cX8_drawn 47 = .ok (.ireturn, 1) := by decide +kernel
theorem dX8_seedFor_0 : decode cX8_seedFor 0 = .ok (.aload_n 0, 1) := by decide +kernel
theorem dX8_seedFor_1 : decode cX8_seedFor 1 = .ok (.getfield 27, 3) := by decide +kernel
theorem dX8_seedFor_4 : decode cX8_seedFor 4 = .ok (.iload_n 1, 1) := by decide +kernel
theorem dX8_seedFor_5 : decode cX8_seedFor 5 = .ok (.invokevirtual 167, 3) := by decide +kernel
theorem dX8_seedFor_8 : decode cX8_seedFor 8 = .ok (.ifCond .ne 5, 3) := by decide +kernel
theorem dX8_seedFor_11 : decode cX8_seedFor 11 = .ok (.iconst (-1), 1) := by decide +kernel
theorem dX8_seedFor_12 : decode cX8_seedFor 12 = .ok (.ireturn, 1) := by decide +kernel
theorem dX8_seedFor_13 : decode cX8_seedFor 13 = .ok (.aload_n 0, 1) := by decide +kernel
theorem dX8_seedFor_14 : decode cX8_seedFor 14 = .ok (.getfield 20, 3) := by decide +kernel
theorem dX8_seedFor_17 : decode cX8_seedFor 17 = .ok (.invokevirtual 140, 3) := by decide +kernel
theorem dX8_seedFor_20 : decode cX8_seedFor 20 = .ok (.aload_n 0, 1) := by decide +kernel
theorem dX8_seedFor_21 : decode cX8_seedFor 21 = .ok (.getfield 20, 3) := by decide +kernel
theorem dX8_seedFor_24 : decode cX8_seedFor 24 = .ok (.invokevirtual 146, 3) := by decide +kernel
theorem dX8_seedFor_27 : decode cX8_seedFor 27 = .ok (.istore_n 2, 1) := by decide +kernel
theorem dX8_seedFor_28 : decode cX8_seedFor 28 = .ok (.iload_n 2, 1) := by decide +kernel
theorem dX8_seedFor_29 : decode cX8_seedFor 29 = .ok (.ifCond .eq 14, 3) := by decide +kernel
theorem dX8_seedFor_32 : decode cX8_seedFor 32 = .ok (.aload_n 0, 1) := by decide +kernel
theorem dX8_seedFor_33 : decode cX8_seedFor 33 = .ok (.getfield 20, 3) := by decide +kernel
theorem dX8_seedFor_36 : decode cX8_seedFor 36 = .ok (.iload_n 1, 1) := by decide +kernel
theorem dX8_seedFor_37 : decode cX8_seedFor 37 = .ok (.invokevirtual 185, 3) := by decide +kernel
theorem dX8_seedFor_40 : decode cX8_seedFor 40 = .ok (.ifCond .ne 6, 3) := by decide +kernel
theorem dX8_seedFor_43 : decode cX8_seedFor 43 = .ok (.bipush (-9), 2) := by decide +kernel
theorem dX8_seedFor_45 : decode cX8_seedFor 45 = .ok (.ireturn, 1) := by decide +kernel
theorem dX8_seedFor_46 : decode cX8_seedFor 46 = .ok (.aload_n 0, 1) := by decide +kernel
theorem dX8_seedFor_47 : decode cX8_seedFor 47 = .ok (.getfield 20, 3) := by decide +kernel
theorem dX8_seedFor_50 : decode cX8_seedFor 50 = .ok (.iload_n 1, 1) := by decide +kernel
theorem dX8_seedFor_51 : decode cX8_seedFor 51 = .ok (.invokevirtual 259, 3) := by decide +kernel
theorem dX8_seedFor_54 : decode cX8_seedFor 54 = .ok (.istore_n 3, 1) := by decide +kernel
theorem dX8_seedFor_55 : decode cX8_seedFor 55 = .ok (.iconst 0, 1) := by decide +kernel
theorem dX8_seedFor_56 : decode cX8_seedFor 56 = .ok (.istore 4, 2) := by decide +kernel
theorem dX8_seedFor_58 : decode cX8_seedFor 58 = .ok (.iload 4, 2) := by decide +kernel
theorem dX8_seedFor_60 : decode cX8_seedFor 60 = .ok (.ldc_w 262, 3) := by decide +kernel
theorem dX8_seedFor_63 : decode cX8_seedFor 63 = .ok (.if_icmp .ge 23, 3) := by decide +kernel
theorem dX8_seedFor_66 : decode cX8_seedFor 66 = .ok (.iload 4, 2) := by decide +kernel
theorem dX8_seedFor_68 : decode cX8_seedFor 68 = .ok (.invokestatic 253, 3) := by decide +kernel
theorem dX8_seedFor_71 : decode cX8_seedFor 71 = .ok (.iload_n 2, 1) := by decide +kernel
theorem dX8_seedFor_72 : decode cX8_seedFor 72 = .ok (.irem, 1) := by decide +kernel
theorem dX8_seedFor_73 : decode cX8_seedFor 73 = .ok (.iload_n 3, 1) := by decide +kernel
theorem dX8_seedFor_74 : decode cX8_seedFor 74 = .ok (.if_icmp .ne 6, 3) := by decide +kernel
theorem dX8_seedFor_77 : decode cX8_seedFor 77 = .ok (.iload 4, 2) := by decide +kernel
theorem dX8_seedFor_79 : decode cX8_seedFor 79 = .ok (.ireturn, 1) := by decide +kernel
theorem dX8_seedFor_80 : decode cX8_seedFor 80 = .ok (.iinc 4 1, 3) := by decide +kernel
theorem dX8_seedFor_83 : decode cX8_seedFor 83 = .ok (.goto (-25), 3) := by decide +kernel
theorem dX8_seedFor_86 : decode cX8_seedFor 86 = .ok (.bipush (-9), 2) := by decide +kernel
theorem dX8_seedFor_88 : decode cX8_seedFor 88 = .ok (.ireturn, 1) := by decide +kernel
theorem dX8_recordIfDone_0 : decode cX8_recordIfDone 0 = .ok (.iload_n 1, 1) := by decide +kernel
theorem dX8_recordIfDone_1 : decode cX8_recordIfDone 1 = .ok (.ifCond .lt 10, 3) := by decide +kernel
theorem dX8_recordIfDone_4 : decode cX8_recordIfDone 4 = .ok (.aload_n 0, 1) := by decide +kernel
theorem dX8_recordIfDone_5 : decode cX8_recordIfDone 5 = .ok (.getfield 38, 3) := by decide +kernel
theorem dX8_recordIfDone_8 : decode cX8_recordIfDone 8 = .ok (.invokevirtual 263, 3) := by decide +kernel
theorem dX8_recordIfDone_11 : decode cX8_recordIfDone 11 = .ok (.iload_n 1, 1) := by decide +kernel
theorem dX8_recordIfDone_12 : decode cX8_recordIfDone 12 = .ok (.ireturn, 1) := by decide +kernel
theorem dX8_within_0 : decode cX8_within 0 = .ok (.iload_n 0, 1) := by decide +kernel
theorem dX8_within_1 : decode cX8_within 1 = .ok (.iload_n 1, 1) := by decide +kernel
theorem dX8_within_2 : decode cX8_within 2 = .ok (.if_icmp .lt 12, 3) := by decide +kernel
theorem dX8_within_5 : decode cX8_within 5 = .ok (.iload_n 0, 1) := by decide +kernel
theorem dX8_within_6 : decode cX8_within 6 = .ok (.iload_n 2, 1) := by decide +kernel
theorem dX8_within_7 : decode cX8_within 7 = .ok (.if_icmp .gt 7, 3) := by decide +kernel
theorem dX8_within_10 : decode cX8_within 10 = .ok (.iconst 1, 1) := by decide +kernel
theorem dX8_within_11 : decode cX8_within 11 = .ok (.goto 4, 3) := by decide +kernel
theorem dX8_within_14 : decode cX8_within 14 = .ok (.iconst 0, 1) := by decide +kernel
theorem dX8_within_15 : decode cX8_within 15 = .ok (.ireturn, 1) := by decide +kernel
theorem dX8_isRow_0 : decode cX8_isRow 0 = .ok (.lload_n 0, 1) := by decide +kernel
theorem dX8_isRow_1 : decode cX8_isRow 1 = .ok (.lconst 0, 1) := by decide +kernel
theorem dX8_isRow_2 : decode cX8_isRow 2 = .ok (.lcmp, 1) := by decide +kernel
theorem dX8_isRow_3 : decode cX8_isRow 3 = .ok (.ifCond .lt 15, 3) := by decide +kernel
theorem dX8_isRow_6 : decode cX8_isRow 6 = .ok (.lload_n 0, 1) := by decide +kernel
theorem dX8_isRow_7 : decode cX8_isRow 7 = .ok (.ldc2_w 266, 3) := by decide +kernel
theorem dX8_isRow_10 : decode cX8_isRow 10 = .ok (.lcmp, 1) := by decide +kernel
theorem dX8_isRow_11 : decode cX8_isRow 11 = .ok (.ifCond .gt 7, 3) := by decide +kernel
theorem dX8_isRow_14 : decode cX8_isRow 14 = .ok (.iconst 1, 1) := by decide +kernel
theorem dX8_isRow_15 : decode cX8_isRow 15 = .ok (.goto 4, 3) := by decide +kernel
theorem dX8_isRow_18 : decode cX8_isRow 18 = .ok (.iconst 0, 1) := by decide +kernel
theorem dX8_isRow_19 : decode cX8_isRow 19 = .ok (.ireturn, 1) := by decide +kernel
theorem dX8_nextLot_0 : decode cX8_nextLot 0 = .ok (.bipush 75, 2) := by decide +kernel
theorem dX8_nextLot_2 : decode cX8_nextLot 2 = .ok (.iload_n 0, 1) := by decide +kernel
theorem dX8_nextLot_3 : decode cX8_nextLot 3 = .ok (.imul, 1) := by decide +kernel
theorem dX8_nextLot_4 : decode cX8_nextLot 4 = .ok (.bipush 74, 2) := by decide +kernel
theorem dX8_nextLot_6 : decode cX8_nextLot 6 = .ok (.iadd, 1) := by decide +kernel
theorem dX8_nextLot_7 : decode cX8_nextLot 7 = .ok (.ldc_w 262, 3) := by decide +kernel
theorem dX8_nextLot_10 : decode cX8_nextLot 10 = .ok (.irem, 1) := by decide +kernel
theorem dX8_nextLot_11 : decode cX8_nextLot 11 = .ok (.ireturn, 1) := by decide +kernel
theorem dX8_outcomeOf_0 : decode cX8_outcomeOf 0 = .ok (.iload_n 0, 1) := by decide +kernel
theorem dX8_outcomeOf_1 : decode cX8_outcomeOf 1 = .ok (.iconst 3, 1) := by decide +kernel
theorem dX8_outcomeOf_2 : decode cX8_outcomeOf 2 = .ok (.iload_n 1, 1) := by decide +kernel
theorem dX8_outcomeOf_3 : decode cX8_outcomeOf 3 = .ok (.imul, 1) := by decide +kernel
theorem dX8_outcomeOf_4 : decode cX8_outcomeOf 4 = .ok (.ishr, 1) := by decide +kernel
theorem dX8_outcomeOf_5 : decode cX8_outcomeOf 5 = .ok (.bipush 7, 2) := by decide +kernel
theorem dX8_outcomeOf_7 : decode cX8_outcomeOf 7 = .ok (.iand, 1) := by decide +kernel
theorem dX8_outcomeOf_8 : decode cX8_outcomeOf 8 = .ok (.ireturn, 1) := by decide +kernel
theorem dX8_differingContests_0 : decode cX8_differingContests 0 = .ok (.iconst 0, 1) := by decide +kernel
theorem dX8_differingContests_1 : decode cX8_differingContests 1 = .ok (.istore_n 2, 1) := by decide +kernel
theorem dX8_differingContests_2 : decode cX8_differingContests 2 = .ok (.iconst 0, 1) := by decide +kernel
theorem dX8_differingContests_3 : decode cX8_differingContests 3 = .ok (.istore_n 3, 1) := by decide +kernel
theorem dX8_differingContests_4 : decode cX8_differingContests 4 = .ok (.iload_n 3, 1) := by decide +kernel
theorem dX8_differingContests_5 : decode cX8_differingContests 5 = .ok (.iconst 4, 1) := by decide +kernel
theorem dX8_differingContests_6 : decode cX8_differingContests 6 = .ok (.if_icmp .ge 28, 3) := by decide +kernel
theorem dX8_differingContests_9 : decode cX8_differingContests 9 = .ok (.iload_n 0, 1) := by decide +kernel
theorem dX8_differingContests_10 : decode cX8_differingContests 10 = .ok (.iload_n 3, 1) := by decide +kernel
theorem dX8_differingContests_11 : decode cX8_differingContests 11 = .ok (.invokestatic 221, 3) := by decide +kernel
theorem dX8_differingContests_14 : decode cX8_differingContests 14 = .ok (.iload_n 1, 1) := by decide +kernel
theorem dX8_differingContests_15 : decode cX8_differingContests 15 = .ok (.iload_n 3, 1) := by decide +kernel
theorem dX8_differingContests_16 : decode cX8_differingContests 16 = .ok (.invokestatic 221, 3) := by decide +kernel
theorem dX8_differingContests_19 : decode cX8_differingContests 19 = .ok (.if_icmp .eq 9, 3) := by decide +kernel
theorem dX8_differingContests_22 : decode cX8_differingContests 22 = .ok (.iload_n 2, 1) := by decide +kernel
theorem dX8_differingContests_23 : decode cX8_differingContests 23 = .ok (.iconst 1, 1) := by decide +kernel
theorem dX8_differingContests_24 : decode cX8_differingContests 24 = .ok (.iload_n 3, 1) := by decide +kernel
theorem dX8_differingContests_25 : decode cX8_differingContests 25 = .ok (.ishl, 1) := by decide +kernel
theorem dX8_differingContests_26 : decode cX8_differingContests 26 = .ok (.ior, 1) := by decide +kernel
theorem dX8_differingContests_27 : decode cX8_differingContests 27 = .ok (.istore_n 2, 1) := by decide +kernel
theorem dX8_differingContests_28 : decode cX8_differingContests 28 = .ok (.iinc 3 1, 3) := by decide +kernel
theorem dX8_differingContests_31 : decode cX8_differingContests 31 = .ok (.goto (-27), 3) := by decide +kernel
theorem dX8_differingContests_34 : decode cX8_differingContests 34 = .ok (.iload_n 2, 1) := by decide +kernel
theorem dX8_differingContests_35 : decode cX8_differingContests 35 = .ok (.ireturn, 1) := by decide +kernel
theorem dL_law_0 : decode cL_law 0 = .ok (.new 7, 3) := by decide +kernel
theorem dL_law_3 : decode cL_law 3 = .ok (.dup, 1) := by decide +kernel
theorem dL_law_4 : decode cL_law 4 = .ok (.invokespecial 9, 3) := by decide +kernel
theorem dL_law_7 : decode cL_law 7 = .ok (.astore_n 1, 1) := by decide +kernel
theorem dL_law_8 : decode cL_law 8 = .ok (.new 10, 3) := by decide +kernel
theorem dL_law_11 : decode cL_law 11 = .ok (.dup, 1) := by decide +kernel
theorem dL_law_12 : decode cL_law 12 = .ok (.invokespecial 12, 3) := by decide +kernel
theorem dL_law_15 : decode cL_law 15 = .ok (.astore_n 2, 1) := by decide +kernel
theorem dL_law_16 : decode cL_law 16 = .ok (.iconst 0, 1) := by decide +kernel
theorem dL_law_17 : decode cL_law 17 = .ok (.istore_n 3, 1) := by decide +kernel
theorem dL_law_18 : decode cL_law 18 = .ok (.iload_n 3, 1) := by decide +kernel
theorem dL_law_19 : decode cL_law 19 = .ok (.aload_n 0, 1) := by decide +kernel
theorem dL_law_20 : decode cL_law 20 = .ok (.arraylength, 1) := by decide +kernel
theorem dL_law_21 : decode cL_law 21 = .ok (.iconst 5, 1) := by decide +kernel
theorem dL_law_22 : decode cL_law 22 = .ok (.isub, 1) := by decide +kernel
theorem dL_law_23 : decode cL_law 23 = .ok (.if_icmp .gt 906, 3) := by decide +kernel
theorem dL_law_26 : decode cL_law 26 = .ok (.aload_n 0, 1) := by decide +kernel
theorem dL_law_27 : decode cL_law 27 = .ok (.iload_n 3, 1) := by decide +kernel
theorem dL_law_28 : decode cL_law 28 = .ok (.iaload, 1) := by decide +kernel
theorem dL_law_29 : decode cL_law 29 = .ok (.bipush 31, 2) := by decide +kernel
theorem dL_law_31 : decode cL_law 31 = .ok (.iand, 1) := by decide +kernel
theorem dL_law_32 : decode cL_law 32 = .ok (.tableswitch 891 0 24 #[116, 179, 202, 235, 248, 281, 344, 367, 390, 403, 426, 439, 452, 475, 498, 531, 574, 617, 660, 713, 756, 789, 822, 845, 868], 116) := by decide +kernel
theorem dL_law_148 : decode cL_law 148 = .ok (.aload_n 1, 1) := by decide +kernel
theorem dL_law_149 : decode cL_law 149 = .ok (.aload_n 0, 1) := by decide +kernel
theorem dL_law_150 : decode cL_law 150 = .ok (.iload_n 3, 1) := by decide +kernel
theorem dL_law_151 : decode cL_law 151 = .ok (.iconst 1, 1) := by decide +kernel
theorem dL_law_152 : decode cL_law 152 = .ok (.iadd, 1) := by decide +kernel
theorem dL_law_153 : decode cL_law 153 = .ok (.iaload, 1) := by decide +kernel
theorem dL_law_154 : decode cL_law 154 = .ok (.aload_n 0, 1) := by decide +kernel
theorem dL_law_155 : decode cL_law 155 = .ok (.iload_n 3, 1) := by decide +kernel
theorem dL_law_156 : decode cL_law 156 = .ok (.iconst 2, 1) := by decide +kernel
theorem dL_law_157 : decode cL_law 157 = .ok (.iadd, 1) := by decide +kernel
theorem dL_law_158 : decode cL_law 158 = .ok (.iaload, 1) := by decide +kernel
theorem dL_law_159 : decode cL_law 159 = .ok (.i2l, 1) := by decide +kernel
theorem dL_law_160 : decode cL_law 160 = .ok (.bipush 32, 2) := by decide +kernel
theorem dL_law_162 : decode cL_law 162 = .ok (.lshl, 1) := by decide +kernel
theorem dL_law_163 : decode cL_law 163 = .ok (.aload_n 0, 1) := by decide +kernel
theorem dL_law_164 : decode cL_law 164 = .ok (.iload_n 3, 1) := by decide +kernel
theorem dL_law_165 : decode cL_law 165 = .ok (.iconst 3, 1) := by decide +kernel
theorem dL_law_166 : decode cL_law 166 = .ok (.iadd, 1) := by decide +kernel
theorem dL_law_167 : decode cL_law 167 = .ok (.iaload, 1) := by decide +kernel
theorem dL_law_168 : decode cL_law 168 = .ok (.i2l, 1) := by decide +kernel
theorem dL_law_169 : decode cL_law 169 = .ok (.ldc2_w 13, 3) := by decide +kernel
theorem dL_law_172 : decode cL_law 172 = .ok (.land, 1) := by decide +kernel
theorem dL_law_173 : decode cL_law 173 = .ok (.lor, 1) := by decide +kernel
theorem dL_law_174 : decode cL_law 174 = .ok (.invokevirtual 15, 3) := by decide +kernel
theorem dL_law_177 : decode cL_law 177 = .ok (.aload_n 2, 1) := by decide +kernel
theorem dL_law_178 : decode cL_law 178 = .ok (.aload_n 0, 1) := by decide +kernel
theorem dL_law_179 : decode cL_law 179 = .ok (.iload_n 3, 1) := by decide +kernel
theorem dL_law_180 : decode cL_law 180 = .ok (.iconst 1, 1) := by decide +kernel
theorem dL_law_181 : decode cL_law 181 = .ok (.iadd, 1) := by decide +kernel
theorem dL_law_182 : decode cL_law 182 = .ok (.iaload, 1) := by decide +kernel
theorem dL_law_183 : decode cL_law 183 = .ok (.aload_n 0, 1) := by decide +kernel
theorem dL_law_184 : decode cL_law 184 = .ok (.iload_n 3, 1) := by decide +kernel
theorem dL_law_185 : decode cL_law 185 = .ok (.iconst 2, 1) := by decide +kernel
theorem dL_law_186 : decode cL_law 186 = .ok (.iadd, 1) := by decide +kernel
theorem dL_law_187 : decode cL_law 187 = .ok (.iaload, 1) := by decide +kernel
theorem dL_law_188 : decode cL_law 188 = .ok (.i2l, 1) := by decide +kernel
theorem dL_law_189 : decode cL_law 189 = .ok (.bipush 32, 2) := by decide +kernel
theorem dL_law_191 : decode cL_law 191 = .ok (.lshl, 1) := by decide +kernel
theorem dL_law_192 : decode cL_law 192 = .ok (.aload_n 0, 1) := by decide +kernel
theorem dL_law_193 : decode cL_law 193 = .ok (.iload_n 3, 1) := by decide +kernel
theorem dL_law_194 : decode cL_law 194 = .ok (.iconst 3, 1) := by decide +kernel
theorem dL_law_195 : decode cL_law 195 = .ok (.iadd, 1) := by decide +kernel
theorem dL_law_196 : decode cL_law 196 = .ok (.iaload, 1) := by decide +kernel
theorem dL_law_197 : decode cL_law 197 = .ok (.i2l, 1) := by decide +kernel
theorem dL_law_198 : decode cL_law 198 = .ok (.ldc2_w 13, 3) := by decide +kernel
theorem dL_law_201 : decode cL_law 201 = .ok (.land, 1) := by decide +kernel
theorem dL_law_202 : decode cL_law 202 = .ok (.lor, 1) := by decide +kernel
theorem dL_law_203 : decode cL_law 203 = .ok (.invokevirtual 19, 3) := by decide +kernel
theorem dL_law_206 : decode cL_law 206 = .ok (.if_icmp .eq 717, 3) := by decide +kernel
theorem dL_law_209 : decode cL_law 209 = .ok (.iconst 0, 1) := by decide +kernel
theorem dL_law_210 : decode cL_law 210 = .ok (.ireturn, 1) := by decide +kernel
theorem dL_law_211 : decode cL_law 211 = .ok (.aload_n 1, 1) := by decide +kernel
theorem dL_law_212 : decode cL_law 212 = .ok (.aload_n 0, 1) := by decide +kernel
theorem dL_law_213 : decode cL_law 213 = .ok (.iload_n 3, 1) := by decide +kernel
theorem dL_law_214 : decode cL_law 214 = .ok (.iconst 1, 1) := by decide +kernel
theorem dL_law_215 : decode cL_law 215 = .ok (.iadd, 1) := by decide +kernel
theorem dL_law_216 : decode cL_law 216 = .ok (.iaload, 1) := by decide +kernel
theorem dL_law_217 : decode cL_law 217 = .ok (.invokevirtual 20, 3) := by decide +kernel
theorem dL_law_220 : decode cL_law 220 = .ok (.aload_n 2, 1) := by decide +kernel
theorem dL_law_221 : decode cL_law 221 = .ok (.aload_n 0, 1) := by decide +kernel
theorem dL_law_222 : decode cL_law 222 = .ok (.iload_n 3, 1) := by decide +kernel
theorem dL_law_223 : decode cL_law 223 = .ok (.iconst 1, 1) := by decide +kernel
theorem dL_law_224 : decode cL_law 224 = .ok (.iadd, 1) := by decide +kernel
theorem dL_law_225 : decode cL_law 225 = .ok (.iaload, 1) := by decide +kernel
theorem dL_law_226 : decode cL_law 226 = .ok (.invokevirtual 24, 3) := by decide +kernel
theorem dL_law_229 : decode cL_law 229 = .ok (.if_icmp .eq 694, 3) := by decide +kernel
theorem dL_law_232 : decode cL_law 232 = .ok (.iconst 0, 1) := by decide +kernel
theorem dL_law_233 : decode cL_law 233 = .ok (.ireturn, 1) := by decide +kernel
theorem dL_law_234 : decode cL_law 234 = .ok (.aload_n 1, 1) := by decide +kernel
theorem dL_law_235 : decode cL_law 235 = .ok (.aload_n 0, 1) := by decide +kernel
theorem dL_law_236 : decode cL_law 236 = .ok (.iload_n 3, 1) := by decide +kernel
theorem dL_law_237 : decode cL_law 237 = .ok (.iconst 1, 1) := by decide +kernel
theorem dL_law_238 : decode cL_law 238 = .ok (.iadd, 1) := by decide +kernel
theorem dL_law_239 : decode cL_law 239 = .ok (.iaload, 1) := by decide +kernel
theorem dL_law_240 : decode cL_law 240 = .ok (.aload_n 0, 1) := by decide +kernel
theorem dL_law_241 : decode cL_law 241 = .ok (.iload_n 3, 1) := by decide +kernel
theorem dL_law_242 : decode cL_law 242 = .ok (.iconst 2, 1) := by decide +kernel
theorem dL_law_243 : decode cL_law 243 = .ok (.iadd, 1) := by decide +kernel
theorem dL_law_244 : decode cL_law 244 = .ok (.iaload, 1) := by decide +kernel
theorem dL_law_245 : decode cL_law 245 = .ok (.invokevirtual 25, 3) := by decide +kernel
theorem dL_law_248 : decode cL_law 248 = .ok (.aload_n 2, 1) := by decide +kernel
theorem dL_law_249 : decode cL_law 249 = .ok (.aload_n 0, 1) := by decide +kernel
theorem dL_law_250 : decode cL_law 250 = .ok (.iload_n 3, 1) := by decide +kernel
theorem dL_law_251 : decode cL_law 251 = .ok (.iconst 1, 1) := by decide +kernel
theorem dL_law_252 : decode cL_law 252 = .ok (.iadd, 1) := by decide +kernel
theorem dL_law_253 : decode cL_law 253 = .ok (.iaload, 1) := by decide +kernel
theorem dL_law_254 : decode cL_law 254 = .ok (.aload_n 0, 1) := by decide +kernel
theorem dL_law_255 : decode cL_law 255 = .ok (.iload_n 3, 1) := by decide +kernel
theorem dL_law_256 : decode cL_law 256 = .ok (.iconst 2, 1) := by decide +kernel
theorem dL_law_257 : decode cL_law 257 = .ok (.iadd, 1) := by decide +kernel
theorem dL_law_258 : decode cL_law 258 = .ok (.iaload, 1) := by decide +kernel
theorem dL_law_259 : decode cL_law 259 = .ok (.invokevirtual 29, 3) := by decide +kernel
theorem dL_law_262 : decode cL_law 262 = .ok (.if_icmp .eq 661, 3) := by decide +kernel
theorem dL_law_265 : decode cL_law 265 = .ok (.iconst 0, 1) := by decide +kernel
theorem dL_law_266 : decode cL_law 266 = .ok (.ireturn, 1) := by decide +kernel
theorem dL_law_267 : decode cL_law 267 = .ok (.aload_n 1, 1) := by decide +kernel
theorem dL_law_268 : decode cL_law 268 = .ok (.invokevirtual 30, 3) := by decide +kernel
theorem dL_law_271 : decode cL_law 271 = .ok (.aload_n 2, 1) := by decide +kernel
theorem dL_law_272 : decode cL_law 272 = .ok (.invokevirtual 34, 3) := by decide +kernel
theorem dL_law_275 : decode cL_law 275 = .ok (.if_icmp .eq 648, 3) := by decide +kernel
theorem dL_law_278 : decode cL_law 278 = .ok (.iconst 0, 1) := by decide +kernel
theorem dL_law_279 : decode cL_law 279 = .ok (.ireturn, 1) := by decide +kernel
theorem dL_law_280 : decode cL_law 280 = .ok (.aload_n 1, 1) := by decide +kernel
theorem dL_law_281 : decode cL_law 281 = .ok (.aload_n 0, 1) := by decide +kernel
theorem dL_law_282 : decode cL_law 282 = .ok (.iload_n 3, 1) := by decide +kernel
theorem dL_law_283 : decode cL_law 283 = .ok (.iconst 1, 1) := by decide +kernel
theorem dL_law_284 : decode cL_law 284 = .ok (.iadd, 1) := by decide +kernel
theorem dL_law_285 : decode cL_law 285 = .ok (.iaload, 1) := by decide +kernel
theorem dL_law_286 : decode cL_law 286 = .ok (.aload_n 0, 1) := by decide +kernel
theorem dL_law_287 : decode cL_law 287 = .ok (.iload_n 3, 1) := by decide +kernel
theorem dL_law_288 : decode cL_law 288 = .ok (.iconst 2, 1) := by decide +kernel
theorem dL_law_289 : decode cL_law 289 = .ok (.iadd, 1) := by decide +kernel
theorem dL_law_290 : decode cL_law 290 = .ok (.iaload, 1) := by decide +kernel
theorem dL_law_291 : decode cL_law 291 = .ok (.invokevirtual 35, 3) := by decide +kernel
theorem dL_law_294 : decode cL_law 294 = .ok (.aload_n 2, 1) := by decide +kernel
theorem dL_law_295 : decode cL_law 295 = .ok (.aload_n 0, 1) := by decide +kernel
theorem dL_law_296 : decode cL_law 296 = .ok (.iload_n 3, 1) := by decide +kernel
theorem dL_law_297 : decode cL_law 297 = .ok (.iconst 1, 1) := by decide +kernel
theorem dL_law_298 : decode cL_law 298 = .ok (.iadd, 1) := by decide +kernel
theorem dL_law_299 : decode cL_law 299 = .ok (.iaload, 1) := by decide +kernel
theorem dL_law_300 : decode cL_law 300 = .ok (.aload_n 0, 1) := by decide +kernel
theorem dL_law_301 : decode cL_law 301 = .ok (.iload_n 3, 1) := by decide +kernel
theorem dL_law_302 : decode cL_law 302 = .ok (.iconst 2, 1) := by decide +kernel
theorem dL_law_303 : decode cL_law 303 = .ok (.iadd, 1) := by decide +kernel
theorem dL_law_304 : decode cL_law 304 = .ok (.iaload, 1) := by decide +kernel
theorem dL_law_305 : decode cL_law 305 = .ok (.invokevirtual 38, 3) := by decide +kernel
theorem dL_law_308 : decode cL_law 308 = .ok (.if_icmp .eq 615, 3) := by decide +kernel
theorem dL_law_311 : decode cL_law 311 = .ok (.iconst 0, 1) := by decide +kernel
theorem dL_law_312 : decode cL_law 312 = .ok (.ireturn, 1) := by decide +kernel
theorem dL_law_313 : decode cL_law 313 = .ok (.aload_n 1, 1) := by decide +kernel
theorem dL_law_314 : decode cL_law 314 = .ok (.aload_n 0, 1) := by decide +kernel
theorem dL_law_315 : decode cL_law 315 = .ok (.iload_n 3, 1) := by decide +kernel
theorem dL_law_316 : decode cL_law 316 = .ok (.iconst 1, 1) := by decide +kernel
theorem dL_law_317 : decode cL_law 317 = .ok (.iadd, 1) := by decide +kernel
theorem dL_law_318 : decode cL_law 318 = .ok (.iaload, 1) := by decide +kernel
theorem dL_law_319 : decode cL_law 319 = .ok (.aload_n 0, 1) := by decide +kernel
theorem dL_law_320 : decode cL_law 320 = .ok (.iload_n 3, 1) := by decide +kernel
theorem dL_law_321 : decode cL_law 321 = .ok (.iconst 2, 1) := by decide +kernel
theorem dL_law_322 : decode cL_law 322 = .ok (.iadd, 1) := by decide +kernel
theorem dL_law_323 : decode cL_law 323 = .ok (.iaload, 1) := by decide +kernel
theorem dL_law_324 : decode cL_law 324 = .ok (.i2l, 1) := by decide +kernel
theorem dL_law_325 : decode cL_law 325 = .ok (.bipush 32, 2) := by decide +kernel
theorem dL_law_327 : decode cL_law 327 = .ok (.lshl, 1) := by decide +kernel
theorem dL_law_328 : decode cL_law 328 = .ok (.aload_n 0, 1) := by decide +kernel
theorem dL_law_329 : decode cL_law 329 = .ok (.iload_n 3, 1) := by decide +kernel
theorem dL_law_330 : decode cL_law 330 = .ok (.iconst 3, 1) := by decide +kernel
theorem dL_law_331 : decode cL_law 331 = .ok (.iadd, 1) := by decide +kernel
theorem dL_law_332 : decode cL_law 332 = .ok (.iaload, 1) := by decide +kernel
theorem dL_law_333 : decode cL_law 333 = .ok (.i2l, 1) := by decide +kernel
theorem dL_law_334 : decode cL_law 334 = .ok (.ldc2_w 13, 3) := by decide +kernel
theorem dL_law_337 : decode cL_law 337 = .ok (.land, 1) := by decide +kernel
theorem dL_law_338 : decode cL_law 338 = .ok (.lor, 1) := by decide +kernel
theorem dL_law_339 : decode cL_law 339 = .ok (.invokevirtual 39, 3) := by decide +kernel
theorem dL_law_342 : decode cL_law 342 = .ok (.aload_n 2, 1) := by decide +kernel
theorem dL_law_343 : decode cL_law 343 = .ok (.aload_n 0, 1) := by decide +kernel
theorem dL_law_344 : decode cL_law 344 = .ok (.iload_n 3, 1) := by decide +kernel
theorem dL_law_345 : decode cL_law 345 = .ok (.iconst 1, 1) := by decide +kernel
theorem dL_law_346 : decode cL_law 346 = .ok (.iadd, 1) := by decide +kernel
theorem dL_law_347 : decode cL_law 347 = .ok (.iaload, 1) := by decide +kernel
theorem dL_law_348 : decode cL_law 348 = .ok (.aload_n 0, 1) := by decide +kernel
theorem dL_law_349 : decode cL_law 349 = .ok (.iload_n 3, 1) := by decide +kernel
theorem dL_law_350 : decode cL_law 350 = .ok (.iconst 2, 1) := by decide +kernel
theorem dL_law_351 : decode cL_law 351 = .ok (.iadd, 1) := by decide +kernel
theorem dL_law_352 : decode cL_law 352 = .ok (.iaload, 1) := by decide +kernel
theorem dL_law_353 : decode cL_law 353 = .ok (.i2l, 1) := by decide +kernel
theorem dL_law_354 : decode cL_law 354 = .ok (.bipush 32, 2) := by decide +kernel
theorem dL_law_356 : decode cL_law 356 = .ok (.lshl, 1) := by decide +kernel
theorem dL_law_357 : decode cL_law 357 = .ok (.aload_n 0, 1) := by decide +kernel
theorem dL_law_358 : decode cL_law 358 = .ok (.iload_n 3, 1) := by decide +kernel
theorem dL_law_359 : decode cL_law 359 = .ok (.iconst 3, 1) := by decide +kernel
theorem dL_law_360 : decode cL_law 360 = .ok (.iadd, 1) := by decide +kernel
theorem dL_law_361 : decode cL_law 361 = .ok (.iaload, 1) := by decide +kernel
theorem dL_law_362 : decode cL_law 362 = .ok (.i2l, 1) := by decide +kernel
theorem dL_law_363 : decode cL_law 363 = .ok (.ldc2_w 13, 3) := by decide +kernel
theorem dL_law_366 : decode cL_law 366 = .ok (.land, 1) := by decide +kernel
theorem dL_law_367 : decode cL_law 367 = .ok (.lor, 1) := by decide +kernel
theorem dL_law_368 : decode cL_law 368 = .ok (.invokevirtual 42, 3) := by decide +kernel
theorem dL_law_371 : decode cL_law 371 = .ok (.if_icmp .eq 552, 3) := by decide +kernel
theorem dL_law_374 : decode cL_law 374 = .ok (.iconst 0, 1) := by decide +kernel
theorem dL_law_375 : decode cL_law 375 = .ok (.ireturn, 1) := by decide +kernel
theorem dL_law_376 : decode cL_law 376 = .ok (.aload_n 1, 1) := by decide +kernel
theorem dL_law_377 : decode cL_law 377 = .ok (.aload_n 0, 1) := by decide +kernel
theorem dL_law_378 : decode cL_law 378 = .ok (.iload_n 3, 1) := by decide +kernel
theorem dL_law_379 : decode cL_law 379 = .ok (.iconst 1, 1) := by decide +kernel
theorem dL_law_380 : decode cL_law 380 = .ok (.iadd, 1) := by decide +kernel
theorem dL_law_381 : decode cL_law 381 = .ok (.iaload, 1) := by decide +kernel
theorem dL_law_382 : decode cL_law 382 = .ok (.invokevirtual 43, 3) := by decide +kernel
theorem dL_law_385 : decode cL_law 385 = .ok (.aload_n 2, 1) := by decide +kernel
theorem dL_law_386 : decode cL_law 386 = .ok (.aload_n 0, 1) := by decide +kernel
theorem dL_law_387 : decode cL_law 387 = .ok (.iload_n 3, 1) := by decide +kernel
theorem dL_law_388 : decode cL_law 388 = .ok (.iconst 1, 1) := by decide +kernel
theorem dL_law_389 : decode cL_law 389 = .ok (.iadd, 1) := by decide +kernel
theorem dL_law_390 : decode cL_law 390 = .ok (.iaload, 1) := by decide +kernel
theorem dL_law_391 : decode cL_law 391 = .ok (.invokevirtual 46, 3) := by decide +kernel
theorem dL_law_394 : decode cL_law 394 = .ok (.if_icmp .eq 529, 3) := by decide +kernel
theorem dL_law_397 : decode cL_law 397 = .ok (.iconst 0, 1) := by decide +kernel
theorem dL_law_398 : decode cL_law 398 = .ok (.ireturn, 1) := by decide +kernel
theorem dL_law_399 : decode cL_law 399 = .ok (.aload_n 1, 1) := by decide +kernel
theorem dL_law_400 : decode cL_law 400 = .ok (.aload_n 0, 1) := by decide +kernel
theorem dL_law_401 : decode cL_law 401 = .ok (.iload_n 3, 1) := by decide +kernel
theorem dL_law_402 : decode cL_law 402 = .ok (.iconst 1, 1) := by decide +kernel
theorem dL_law_403 : decode cL_law 403 = .ok (.iadd, 1) := by decide +kernel
theorem dL_law_404 : decode cL_law 404 = .ok (.iaload, 1) := by decide +kernel
theorem dL_law_405 : decode cL_law 405 = .ok (.invokevirtual 47, 3) := by decide +kernel
theorem dL_law_408 : decode cL_law 408 = .ok (.aload_n 2, 1) := by decide +kernel
theorem dL_law_409 : decode cL_law 409 = .ok (.aload_n 0, 1) := by decide +kernel
theorem dL_law_410 : decode cL_law 410 = .ok (.iload_n 3, 1) := by decide +kernel
theorem dL_law_411 : decode cL_law 411 = .ok (.iconst 1, 1) := by decide +kernel
theorem dL_law_412 : decode cL_law 412 = .ok (.iadd, 1) := by decide +kernel
theorem dL_law_413 : decode cL_law 413 = .ok (.iaload, 1) := by decide +kernel
theorem dL_law_414 : decode cL_law 414 = .ok (.invokevirtual 50, 3) := by decide +kernel
theorem dL_law_417 : decode cL_law 417 = .ok (.if_icmp .eq 506, 3) := by decide +kernel
theorem dL_law_420 : decode cL_law 420 = .ok (.iconst 0, 1) := by decide +kernel
theorem dL_law_421 : decode cL_law 421 = .ok (.ireturn, 1) := by decide +kernel
theorem dL_law_422 : decode cL_law 422 = .ok (.aload_n 1, 1) := by decide +kernel
theorem dL_law_423 : decode cL_law 423 = .ok (.invokevirtual 51, 3) := by decide +kernel
theorem dL_law_426 : decode cL_law 426 = .ok (.aload_n 2, 1) := by decide +kernel
theorem dL_law_427 : decode cL_law 427 = .ok (.invokevirtual 54, 3) := by decide +kernel
theorem dL_law_430 : decode cL_law 430 = .ok (.if_icmp .eq 493, 3) := by decide +kernel
theorem dL_law_433 : decode cL_law 433 = .ok (.iconst 0, 1) := by decide +kernel
theorem dL_law_434 : decode cL_law 434 = .ok (.ireturn, 1) := by decide +kernel
theorem dL_law_435 : decode cL_law 435 = .ok (.aload_n 1, 1) := by decide +kernel
theorem dL_law_436 : decode cL_law 436 = .ok (.aload_n 0, 1) := by decide +kernel
theorem dL_law_437 : decode cL_law 437 = .ok (.iload_n 3, 1) := by decide +kernel
theorem dL_law_438 : decode cL_law 438 = .ok (.iconst 1, 1) := by decide +kernel
theorem dL_law_439 : decode cL_law 439 = .ok (.iadd, 1) := by decide +kernel
theorem dL_law_440 : decode cL_law 440 = .ok (.iaload, 1) := by decide +kernel
theorem dL_law_441 : decode cL_law 441 = .ok (.invokevirtual 55, 3) := by decide +kernel
theorem dL_law_444 : decode cL_law 444 = .ok (.aload_n 2, 1) := by decide +kernel
theorem dL_law_445 : decode cL_law 445 = .ok (.aload_n 0, 1) := by decide +kernel
theorem dL_law_446 : decode cL_law 446 = .ok (.iload_n 3, 1) := by decide +kernel
theorem dL_law_447 : decode cL_law 447 = .ok (.iconst 1, 1) := by decide +kernel
theorem dL_law_448 : decode cL_law 448 = .ok (.iadd, 1) := by decide +kernel
theorem dL_law_449 : decode cL_law 449 = .ok (.iaload, 1) := by decide +kernel
theorem dL_law_450 : decode cL_law 450 = .ok (.invokevirtual 58, 3) := by decide +kernel
theorem dL_law_453 : decode cL_law 453 = .ok (.if_icmp .eq 470, 3) := by decide +kernel
theorem dL_law_456 : decode cL_law 456 = .ok (.iconst 0, 1) := by decide +kernel
theorem dL_law_457 : decode cL_law 457 = .ok (.ireturn, 1) := by decide +kernel
theorem dL_law_458 : decode cL_law 458 = .ok (.aload_n 1, 1) := by decide +kernel
theorem dL_law_459 : decode cL_law 459 = .ok (.invokevirtual 59, 3) := by decide +kernel
theorem dL_law_462 : decode cL_law 462 = .ok (.aload_n 2, 1) := by decide +kernel
theorem dL_law_463 : decode cL_law 463 = .ok (.invokevirtual 62, 3) := by decide +kernel
theorem dL_law_466 : decode cL_law 466 = .ok (.if_icmp .eq 457, 3) := by decide +kernel
theorem dL_law_469 : decode cL_law 469 = .ok (.iconst 0, 1) := by decide +kernel
theorem dL_law_470 : decode cL_law 470 = .ok (.ireturn, 1) := by decide +kernel
theorem dL_law_471 : decode cL_law 471 = .ok (.aload_n 1, 1) := by decide +kernel
theorem dL_law_472 : decode cL_law 472 = .ok (.invokevirtual 63, 3) := by decide +kernel
theorem dL_law_475 : decode cL_law 475 = .ok (.aload_n 2, 1) := by decide +kernel
theorem dL_law_476 : decode cL_law 476 = .ok (.invokevirtual 66, 3) := by decide +kernel
theorem dL_law_479 : decode cL_law 479 = .ok (.if_icmp .eq 444, 3) := by decide +kernel
theorem dL_law_482 : decode cL_law 482 = .ok (.iconst 0, 1) := by decide +kernel
theorem dL_law_483 : decode cL_law 483 = .ok (.ireturn, 1) := by decide +kernel
theorem dL_law_484 : decode cL_law 484 = .ok (.aload_n 1, 1) := by decide +kernel
theorem dL_law_485 : decode cL_law 485 = .ok (.aload_n 0, 1) := by decide +kernel
theorem dL_law_486 : decode cL_law 486 = .ok (.iload_n 3, 1) := by decide +kernel
theorem dL_law_487 : decode cL_law 487 = .ok (.iconst 1, 1) := by decide +kernel
theorem dL_law_488 : decode cL_law 488 = .ok (.iadd, 1) := by decide +kernel
theorem dL_law_489 : decode cL_law 489 = .ok (.iaload, 1) := by decide +kernel
theorem dL_law_490 : decode cL_law 490 = .ok (.invokevirtual 67, 3) := by decide +kernel
theorem dL_law_493 : decode cL_law 493 = .ok (.aload_n 2, 1) := by decide +kernel
theorem dL_law_494 : decode cL_law 494 = .ok (.aload_n 0, 1) := by decide +kernel
theorem dL_law_495 : decode cL_law 495 = .ok (.iload_n 3, 1) := by decide +kernel
theorem dL_law_496 : decode cL_law 496 = .ok (.iconst 1, 1) := by decide +kernel
theorem dL_law_497 : decode cL_law 497 = .ok (.iadd, 1) := by decide +kernel
theorem dL_law_498 : decode cL_law 498 = .ok (.iaload, 1) := by decide +kernel
theorem dL_law_499 : decode cL_law 499 = .ok (.invokevirtual 70, 3) := by decide +kernel
theorem dL_law_502 : decode cL_law 502 = .ok (.if_icmp .eq 421, 3) := by decide +kernel
theorem dL_law_505 : decode cL_law 505 = .ok (.iconst 0, 1) := by decide +kernel
theorem dL_law_506 : decode cL_law 506 = .ok (.ireturn, 1) := by decide +kernel
theorem dL_law_507 : decode cL_law 507 = .ok (.aload_n 1, 1) := by decide +kernel
theorem dL_law_508 : decode cL_law 508 = .ok (.aload_n 0, 1) := by decide +kernel
theorem dL_law_509 : decode cL_law 509 = .ok (.iload_n 3, 1) := by decide +kernel
theorem dL_law_510 : decode cL_law 510 = .ok (.iconst 1, 1) := by decide +kernel
theorem dL_law_511 : decode cL_law 511 = .ok (.iadd, 1) := by decide +kernel
theorem dL_law_512 : decode cL_law 512 = .ok (.iaload, 1) := by decide +kernel
theorem dL_law_513 : decode cL_law 513 = .ok (.invokevirtual 71, 3) := by decide +kernel
theorem dL_law_516 : decode cL_law 516 = .ok (.aload_n 2, 1) := by decide +kernel
theorem dL_law_517 : decode cL_law 517 = .ok (.aload_n 0, 1) := by decide +kernel
theorem dL_law_518 : decode cL_law 518 = .ok (.iload_n 3, 1) := by decide +kernel
theorem dL_law_519 : decode cL_law 519 = .ok (.iconst 1, 1) := by decide +kernel
theorem dL_law_520 : decode cL_law 520 = .ok (.iadd, 1) := by decide +kernel
theorem dL_law_521 : decode cL_law 521 = .ok (.iaload, 1) := by decide +kernel
theorem dL_law_522 : decode cL_law 522 = .ok (.invokevirtual 74, 3) := by decide +kernel
theorem dL_law_525 : decode cL_law 525 = .ok (.if_icmp .eq 398, 3) := by decide +kernel
theorem dL_law_528 : decode cL_law 528 = .ok (.iconst 0, 1) := by decide +kernel
theorem dL_law_529 : decode cL_law 529 = .ok (.ireturn, 1) := by decide +kernel
theorem dL_law_530 : decode cL_law 530 = .ok (.aload_n 1, 1) := by decide +kernel
theorem dL_law_531 : decode cL_law 531 = .ok (.aload_n 0, 1) := by decide +kernel
theorem dL_law_532 : decode cL_law 532 = .ok (.iload_n 3, 1) := by decide +kernel
theorem dL_law_533 : decode cL_law 533 = .ok (.iconst 1, 1) := by decide +kernel
theorem dL_law_534 : decode cL_law 534 = .ok (.iadd, 1) := by decide +kernel
theorem dL_law_535 : decode cL_law 535 = .ok (.iaload, 1) := by decide +kernel
theorem dL_law_536 : decode cL_law 536 = .ok (.aload_n 0, 1) := by decide +kernel
theorem dL_law_537 : decode cL_law 537 = .ok (.iload_n 3, 1) := by decide +kernel
theorem dL_law_538 : decode cL_law 538 = .ok (.iconst 2, 1) := by decide +kernel
theorem dL_law_539 : decode cL_law 539 = .ok (.iadd, 1) := by decide +kernel
theorem dL_law_540 : decode cL_law 540 = .ok (.iaload, 1) := by decide +kernel
theorem dL_law_541 : decode cL_law 541 = .ok (.invokevirtual 75, 3) := by decide +kernel
theorem dL_law_544 : decode cL_law 544 = .ok (.aload_n 2, 1) := by decide +kernel
theorem dL_law_545 : decode cL_law 545 = .ok (.aload_n 0, 1) := by decide +kernel
theorem dL_law_546 : decode cL_law 546 = .ok (.iload_n 3, 1) := by decide +kernel
theorem dL_law_547 : decode cL_law 547 = .ok (.iconst 1, 1) := by decide +kernel
theorem dL_law_548 : decode cL_law 548 = .ok (.iadd, 1) := by decide +kernel
theorem dL_law_549 : decode cL_law 549 = .ok (.iaload, 1) := by decide +kernel
theorem dL_law_550 : decode cL_law 550 = .ok (.aload_n 0, 1) := by decide +kernel
theorem dL_law_551 : decode cL_law 551 = .ok (.iload_n 3, 1) := by decide +kernel
theorem dL_law_552 : decode cL_law 552 = .ok (.iconst 2, 1) := by decide +kernel
theorem dL_law_553 : decode cL_law 553 = .ok (.iadd, 1) := by decide +kernel
theorem dL_law_554 : decode cL_law 554 = .ok (.iaload, 1) := by decide +kernel
theorem dL_law_555 : decode cL_law 555 = .ok (.invokevirtual 78, 3) := by decide +kernel
theorem dL_law_558 : decode cL_law 558 = .ok (.if_icmp .eq 365, 3) := by decide +kernel
theorem dL_law_561 : decode cL_law 561 = .ok (.iconst 0, 1) := by decide +kernel
theorem dL_law_562 : decode cL_law 562 = .ok (.ireturn, 1) := by decide +kernel
theorem dL_law_563 : decode cL_law 563 = .ok (.aload_n 1, 1) := by decide +kernel
theorem dL_law_564 : decode cL_law 564 = .ok (.aload_n 0, 1) := by decide +kernel
theorem dL_law_565 : decode cL_law 565 = .ok (.iload_n 3, 1) := by decide +kernel
theorem dL_law_566 : decode cL_law 566 = .ok (.iconst 1, 1) := by decide +kernel
theorem dL_law_567 : decode cL_law 567 = .ok (.iadd, 1) := by decide +kernel
theorem dL_law_568 : decode cL_law 568 = .ok (.iaload, 1) := by decide +kernel
theorem dL_law_569 : decode cL_law 569 = .ok (.aload_n 0, 1) := by decide +kernel
theorem dL_law_570 : decode cL_law 570 = .ok (.iload_n 3, 1) := by decide +kernel
theorem dL_law_571 : decode cL_law 571 = .ok (.iconst 2, 1) := by decide +kernel
theorem dL_law_572 : decode cL_law 572 = .ok (.iadd, 1) := by decide +kernel
theorem dL_law_573 : decode cL_law 573 = .ok (.iaload, 1) := by decide +kernel
theorem dL_law_574 : decode cL_law 574 = .ok (.aload_n 0, 1) := by decide +kernel
theorem dL_law_575 : decode cL_law 575 = .ok (.iload_n 3, 1) := by decide +kernel
theorem dL_law_576 : decode cL_law 576 = .ok (.iconst 3, 1) := by decide +kernel
theorem dL_law_577 : decode cL_law 577 = .ok (.iadd, 1) := by decide +kernel
theorem dL_law_578 : decode cL_law 578 = .ok (.iaload, 1) := by decide +kernel
theorem dL_law_579 : decode cL_law 579 = .ok (.invokevirtual 79, 3) := by decide +kernel
theorem dL_law_582 : decode cL_law 582 = .ok (.aload_n 2, 1) := by decide +kernel
theorem dL_law_583 : decode cL_law 583 = .ok (.aload_n 0, 1) := by decide +kernel
theorem dL_law_584 : decode cL_law 584 = .ok (.iload_n 3, 1) := by decide +kernel
theorem dL_law_585 : decode cL_law 585 = .ok (.iconst 1, 1) := by decide +kernel
theorem dL_law_586 : decode cL_law 586 = .ok (.iadd, 1) := by decide +kernel
theorem dL_law_587 : decode cL_law 587 = .ok (.iaload, 1) := by decide +kernel
theorem dL_law_588 : decode cL_law 588 = .ok (.aload_n 0, 1) := by decide +kernel
theorem dL_law_589 : decode cL_law 589 = .ok (.iload_n 3, 1) := by decide +kernel
theorem dL_law_590 : decode cL_law 590 = .ok (.iconst 2, 1) := by decide +kernel
theorem dL_law_591 : decode cL_law 591 = .ok (.iadd, 1) := by decide +kernel
theorem dL_law_592 : decode cL_law 592 = .ok (.iaload, 1) := by decide +kernel
theorem dL_law_593 : decode cL_law 593 = .ok (.aload_n 0, 1) := by decide +kernel
theorem dL_law_594 : decode cL_law 594 = .ok (.iload_n 3, 1) := by decide +kernel
theorem dL_law_595 : decode cL_law 595 = .ok (.iconst 3, 1) := by decide +kernel
theorem dL_law_596 : decode cL_law 596 = .ok (.iadd, 1) := by decide +kernel
theorem dL_law_597 : decode cL_law 597 = .ok (.iaload, 1) := by decide +kernel
theorem dL_law_598 : decode cL_law 598 = .ok (.invokevirtual 83, 3) := by decide +kernel
theorem dL_law_601 : decode cL_law 601 = .ok (.if_icmp .eq 322, 3) := by decide +kernel
theorem dL_law_604 : decode cL_law 604 = .ok (.iconst 0, 1) := by decide +kernel
theorem dL_law_605 : decode cL_law 605 = .ok (.ireturn, 1) := by decide +kernel
theorem dL_law_606 : decode cL_law 606 = .ok (.aload_n 1, 1) := by decide +kernel
theorem dL_law_607 : decode cL_law 607 = .ok (.aload_n 0, 1) := by decide +kernel
theorem dL_law_608 : decode cL_law 608 = .ok (.iload_n 3, 1) := by decide +kernel
theorem dL_law_609 : decode cL_law 609 = .ok (.iconst 1, 1) := by decide +kernel
theorem dL_law_610 : decode cL_law 610 = .ok (.iadd, 1) := by decide +kernel
theorem dL_law_611 : decode cL_law 611 = .ok (.iaload, 1) := by decide +kernel
theorem dL_law_612 : decode cL_law 612 = .ok (.aload_n 0, 1) := by decide +kernel
theorem dL_law_613 : decode cL_law 613 = .ok (.iload_n 3, 1) := by decide +kernel
theorem dL_law_614 : decode cL_law 614 = .ok (.iconst 2, 1) := by decide +kernel
theorem dL_law_615 : decode cL_law 615 = .ok (.iadd, 1) := by decide +kernel
theorem dL_law_616 : decode cL_law 616 = .ok (.iaload, 1) := by decide +kernel
theorem dL_law_617 : decode cL_law 617 = .ok (.aload_n 0, 1) := by decide +kernel
theorem dL_law_618 : decode cL_law 618 = .ok (.iload_n 3, 1) := by decide +kernel
theorem dL_law_619 : decode cL_law 619 = .ok (.iconst 3, 1) := by decide +kernel
theorem dL_law_620 : decode cL_law 620 = .ok (.iadd, 1) := by decide +kernel
theorem dL_law_621 : decode cL_law 621 = .ok (.iaload, 1) := by decide +kernel
theorem dL_law_622 : decode cL_law 622 = .ok (.invokevirtual 84, 3) := by decide +kernel
theorem dL_law_625 : decode cL_law 625 = .ok (.aload_n 2, 1) := by decide +kernel
theorem dL_law_626 : decode cL_law 626 = .ok (.aload_n 0, 1) := by decide +kernel
theorem dL_law_627 : decode cL_law 627 = .ok (.iload_n 3, 1) := by decide +kernel
theorem dL_law_628 : decode cL_law 628 = .ok (.iconst 1, 1) := by decide +kernel
theorem dL_law_629 : decode cL_law 629 = .ok (.iadd, 1) := by decide +kernel
theorem dL_law_630 : decode cL_law 630 = .ok (.iaload, 1) := by decide +kernel
theorem dL_law_631 : decode cL_law 631 = .ok (.aload_n 0, 1) := by decide +kernel
theorem dL_law_632 : decode cL_law 632 = .ok (.iload_n 3, 1) := by decide +kernel
theorem dL_law_633 : decode cL_law 633 = .ok (.iconst 2, 1) := by decide +kernel
theorem dL_law_634 : decode cL_law 634 = .ok (.iadd, 1) := by decide +kernel
theorem dL_law_635 : decode cL_law 635 = .ok (.iaload, 1) := by decide +kernel
theorem dL_law_636 : decode cL_law 636 = .ok (.aload_n 0, 1) := by decide +kernel
theorem dL_law_637 : decode cL_law 637 = .ok (.iload_n 3, 1) := by decide +kernel
theorem dL_law_638 : decode cL_law 638 = .ok (.iconst 3, 1) := by decide +kernel
theorem dL_law_639 : decode cL_law 639 = .ok (.iadd, 1) := by decide +kernel
theorem dL_law_640 : decode cL_law 640 = .ok (.iaload, 1) := by decide +kernel
theorem dL_law_641 : decode cL_law 641 = .ok (.invokevirtual 87, 3) := by decide +kernel
theorem dL_law_644 : decode cL_law 644 = .ok (.if_icmp .eq 279, 3) := by decide +kernel
theorem dL_law_647 : decode cL_law 647 = .ok (.iconst 0, 1) := by decide +kernel
theorem dL_law_648 : decode cL_law 648 = .ok (.ireturn, 1) := by decide +kernel
theorem dL_law_649 : decode cL_law 649 = .ok (.aload_n 1, 1) := by decide +kernel
theorem dL_law_650 : decode cL_law 650 = .ok (.aload_n 0, 1) := by decide +kernel
theorem dL_law_651 : decode cL_law 651 = .ok (.iload_n 3, 1) := by decide +kernel
theorem dL_law_652 : decode cL_law 652 = .ok (.iconst 1, 1) := by decide +kernel
theorem dL_law_653 : decode cL_law 653 = .ok (.iadd, 1) := by decide +kernel
theorem dL_law_654 : decode cL_law 654 = .ok (.iaload, 1) := by decide +kernel
theorem dL_law_655 : decode cL_law 655 = .ok (.aload_n 0, 1) := by decide +kernel
theorem dL_law_656 : decode cL_law 656 = .ok (.iload_n 3, 1) := by decide +kernel
theorem dL_law_657 : decode cL_law 657 = .ok (.iconst 2, 1) := by decide +kernel
theorem dL_law_658 : decode cL_law 658 = .ok (.iadd, 1) := by decide +kernel
theorem dL_law_659 : decode cL_law 659 = .ok (.iaload, 1) := by decide +kernel
theorem dL_law_660 : decode cL_law 660 = .ok (.aload_n 0, 1) := by decide +kernel
theorem dL_law_661 : decode cL_law 661 = .ok (.iload_n 3, 1) := by decide +kernel
theorem dL_law_662 : decode cL_law 662 = .ok (.iconst 3, 1) := by decide +kernel
theorem dL_law_663 : decode cL_law 663 = .ok (.iadd, 1) := by decide +kernel
theorem dL_law_664 : decode cL_law 664 = .ok (.iaload, 1) := by decide +kernel
theorem dL_law_665 : decode cL_law 665 = .ok (.invokevirtual 88, 3) := by decide +kernel
theorem dL_law_668 : decode cL_law 668 = .ok (.aload_n 2, 1) := by decide +kernel
theorem dL_law_669 : decode cL_law 669 = .ok (.aload_n 0, 1) := by decide +kernel
theorem dL_law_670 : decode cL_law 670 = .ok (.iload_n 3, 1) := by decide +kernel
theorem dL_law_671 : decode cL_law 671 = .ok (.iconst 1, 1) := by decide +kernel
theorem dL_law_672 : decode cL_law 672 = .ok (.iadd, 1) := by decide +kernel
theorem dL_law_673 : decode cL_law 673 = .ok (.iaload, 1) := by decide +kernel
theorem dL_law_674 : decode cL_law 674 = .ok (.aload_n 0, 1) := by decide +kernel
theorem dL_law_675 : decode cL_law 675 = .ok (.iload_n 3, 1) := by decide +kernel
theorem dL_law_676 : decode cL_law 676 = .ok (.iconst 2, 1) := by decide +kernel
theorem dL_law_677 : decode cL_law 677 = .ok (.iadd, 1) := by decide +kernel
theorem dL_law_678 : decode cL_law 678 = .ok (.iaload, 1) := by decide +kernel
theorem dL_law_679 : decode cL_law 679 = .ok (.aload_n 0, 1) := by decide +kernel
theorem dL_law_680 : decode cL_law 680 = .ok (.iload_n 3, 1) := by decide +kernel
theorem dL_law_681 : decode cL_law 681 = .ok (.iconst 3, 1) := by decide +kernel
theorem dL_law_682 : decode cL_law 682 = .ok (.iadd, 1) := by decide +kernel
theorem dL_law_683 : decode cL_law 683 = .ok (.iaload, 1) := by decide +kernel
theorem dL_law_684 : decode cL_law 684 = .ok (.invokevirtual 91, 3) := by decide +kernel
theorem dL_law_687 : decode cL_law 687 = .ok (.if_icmp .eq 236, 3) := by decide +kernel
theorem dL_law_690 : decode cL_law 690 = .ok (.iconst 0, 1) := by decide +kernel
theorem dL_law_691 : decode cL_law 691 = .ok (.ireturn, 1) := by decide +kernel
theorem dL_law_692 : decode cL_law 692 = .ok (.aload_n 1, 1) := by decide +kernel
theorem dL_law_693 : decode cL_law 693 = .ok (.aload_n 0, 1) := by decide +kernel
theorem dL_law_694 : decode cL_law 694 = .ok (.iload_n 3, 1) := by decide +kernel
theorem dL_law_695 : decode cL_law 695 = .ok (.iconst 1, 1) := by decide +kernel
theorem dL_law_696 : decode cL_law 696 = .ok (.iadd, 1) := by decide +kernel
theorem dL_law_697 : decode cL_law 697 = .ok (.iaload, 1) := by decide +kernel
theorem dL_law_698 : decode cL_law 698 = .ok (.aload_n 0, 1) := by decide +kernel
theorem dL_law_699 : decode cL_law 699 = .ok (.iload_n 3, 1) := by decide +kernel
theorem dL_law_700 : decode cL_law 700 = .ok (.iconst 2, 1) := by decide +kernel
theorem dL_law_701 : decode cL_law 701 = .ok (.iadd, 1) := by decide +kernel
theorem dL_law_702 : decode cL_law 702 = .ok (.iaload, 1) := by decide +kernel
theorem dL_law_703 : decode cL_law 703 = .ok (.aload_n 0, 1) := by decide +kernel
theorem dL_law_704 : decode cL_law 704 = .ok (.iload_n 3, 1) := by decide +kernel
theorem dL_law_705 : decode cL_law 705 = .ok (.iconst 3, 1) := by decide +kernel
theorem dL_law_706 : decode cL_law 706 = .ok (.iadd, 1) := by decide +kernel
theorem dL_law_707 : decode cL_law 707 = .ok (.iaload, 1) := by decide +kernel
theorem dL_law_708 : decode cL_law 708 = .ok (.aload_n 0, 1) := by decide +kernel
theorem dL_law_709 : decode cL_law 709 = .ok (.iload_n 3, 1) := by decide +kernel
theorem dL_law_710 : decode cL_law 710 = .ok (.iconst 4, 1) := by decide +kernel
theorem dL_law_711 : decode cL_law 711 = .ok (.iadd, 1) := by decide +kernel
theorem dL_law_712 : decode cL_law 712 = .ok (.iaload, 1) := by decide +kernel
theorem dL_law_713 : decode cL_law 713 = .ok (.invokevirtual 92, 3) := by decide +kernel
theorem dL_law_716 : decode cL_law 716 = .ok (.aload_n 2, 1) := by decide +kernel
theorem dL_law_717 : decode cL_law 717 = .ok (.aload_n 0, 1) := by decide +kernel
theorem dL_law_718 : decode cL_law 718 = .ok (.iload_n 3, 1) := by decide +kernel
theorem dL_law_719 : decode cL_law 719 = .ok (.iconst 1, 1) := by decide +kernel
theorem dL_law_720 : decode cL_law 720 = .ok (.iadd, 1) := by decide +kernel
theorem dL_law_721 : decode cL_law 721 = .ok (.iaload, 1) := by decide +kernel
theorem dL_law_722 : decode cL_law 722 = .ok (.aload_n 0, 1) := by decide +kernel
theorem dL_law_723 : decode cL_law 723 = .ok (.iload_n 3, 1) := by decide +kernel
theorem dL_law_724 : decode cL_law 724 = .ok (.iconst 2, 1) := by decide +kernel
theorem dL_law_725 : decode cL_law 725 = .ok (.iadd, 1) := by decide +kernel
theorem dL_law_726 : decode cL_law 726 = .ok (.iaload, 1) := by decide +kernel
theorem dL_law_727 : decode cL_law 727 = .ok (.aload_n 0, 1) := by decide +kernel
theorem dL_law_728 : decode cL_law 728 = .ok (.iload_n 3, 1) := by decide +kernel
theorem dL_law_729 : decode cL_law 729 = .ok (.iconst 3, 1) := by decide +kernel
theorem dL_law_730 : decode cL_law 730 = .ok (.iadd, 1) := by decide +kernel
theorem dL_law_731 : decode cL_law 731 = .ok (.iaload, 1) := by decide +kernel
theorem dL_law_732 : decode cL_law 732 = .ok (.aload_n 0, 1) := by decide +kernel
theorem dL_law_733 : decode cL_law 733 = .ok (.iload_n 3, 1) := by decide +kernel
theorem dL_law_734 : decode cL_law 734 = .ok (.iconst 4, 1) := by decide +kernel
theorem dL_law_735 : decode cL_law 735 = .ok (.iadd, 1) := by decide +kernel
theorem dL_law_736 : decode cL_law 736 = .ok (.iaload, 1) := by decide +kernel
theorem dL_law_737 : decode cL_law 737 = .ok (.invokevirtual 96, 3) := by decide +kernel
theorem dL_law_740 : decode cL_law 740 = .ok (.if_icmp .eq 183, 3) := by decide +kernel
theorem dL_law_743 : decode cL_law 743 = .ok (.iconst 0, 1) := by decide +kernel
theorem dL_law_744 : decode cL_law 744 = .ok (.ireturn, 1) := by decide +kernel
theorem dL_law_745 : decode cL_law 745 = .ok (.aload_n 1, 1) := by decide +kernel
theorem dL_law_746 : decode cL_law 746 = .ok (.aload_n 0, 1) := by decide +kernel
theorem dL_law_747 : decode cL_law 747 = .ok (.iload_n 3, 1) := by decide +kernel
theorem dL_law_748 : decode cL_law 748 = .ok (.iconst 1, 1) := by decide +kernel
theorem dL_law_749 : decode cL_law 749 = .ok (.iadd, 1) := by decide +kernel
theorem dL_law_750 : decode cL_law 750 = .ok (.iaload, 1) := by decide +kernel
theorem dL_law_751 : decode cL_law 751 = .ok (.aload_n 0, 1) := by decide +kernel
theorem dL_law_752 : decode cL_law 752 = .ok (.iload_n 3, 1) := by decide +kernel
theorem dL_law_753 : decode cL_law 753 = .ok (.iconst 2, 1) := by decide +kernel
theorem dL_law_754 : decode cL_law 754 = .ok (.iadd, 1) := by decide +kernel
theorem dL_law_755 : decode cL_law 755 = .ok (.iaload, 1) := by decide +kernel
theorem dL_law_756 : decode cL_law 756 = .ok (.aload_n 0, 1) := by decide +kernel
theorem dL_law_757 : decode cL_law 757 = .ok (.iload_n 3, 1) := by decide +kernel
theorem dL_law_758 : decode cL_law 758 = .ok (.iconst 3, 1) := by decide +kernel
theorem dL_law_759 : decode cL_law 759 = .ok (.iadd, 1) := by decide +kernel
theorem dL_law_760 : decode cL_law 760 = .ok (.iaload, 1) := by decide +kernel
theorem dL_law_761 : decode cL_law 761 = .ok (.invokevirtual 97, 3) := by decide +kernel
theorem dL_law_764 : decode cL_law 764 = .ok (.aload_n 2, 1) := by decide +kernel
theorem dL_law_765 : decode cL_law 765 = .ok (.aload_n 0, 1) := by decide +kernel
theorem dL_law_766 : decode cL_law 766 = .ok (.iload_n 3, 1) := by decide +kernel
theorem dL_law_767 : decode cL_law 767 = .ok (.iconst 1, 1) := by decide +kernel
theorem dL_law_768 : decode cL_law 768 = .ok (.iadd, 1) := by decide +kernel
theorem dL_law_769 : decode cL_law 769 = .ok (.iaload, 1) := by decide +kernel
theorem dL_law_770 : decode cL_law 770 = .ok (.aload_n 0, 1) := by decide +kernel
theorem dL_law_771 : decode cL_law 771 = .ok (.iload_n 3, 1) := by decide +kernel
theorem dL_law_772 : decode cL_law 772 = .ok (.iconst 2, 1) := by decide +kernel
theorem dL_law_773 : decode cL_law 773 = .ok (.iadd, 1) := by decide +kernel
theorem dL_law_774 : decode cL_law 774 = .ok (.iaload, 1) := by decide +kernel
theorem dL_law_775 : decode cL_law 775 = .ok (.aload_n 0, 1) := by decide +kernel
theorem dL_law_776 : decode cL_law 776 = .ok (.iload_n 3, 1) := by decide +kernel
theorem dL_law_777 : decode cL_law 777 = .ok (.iconst 3, 1) := by decide +kernel
theorem dL_law_778 : decode cL_law 778 = .ok (.iadd, 1) := by decide +kernel
theorem dL_law_779 : decode cL_law 779 = .ok (.iaload, 1) := by decide +kernel
theorem dL_law_780 : decode cL_law 780 = .ok (.invokevirtual 100, 3) := by decide +kernel
theorem dL_law_783 : decode cL_law 783 = .ok (.if_icmp .eq 140, 3) := by decide +kernel
theorem dL_law_786 : decode cL_law 786 = .ok (.iconst 0, 1) := by decide +kernel
theorem dL_law_787 : decode cL_law 787 = .ok (.ireturn, 1) := by decide +kernel
theorem dL_law_788 : decode cL_law 788 = .ok (.aload_n 1, 1) := by decide +kernel
theorem dL_law_789 : decode cL_law 789 = .ok (.aload_n 0, 1) := by decide +kernel
theorem dL_law_790 : decode cL_law 790 = .ok (.iload_n 3, 1) := by decide +kernel
theorem dL_law_791 : decode cL_law 791 = .ok (.iconst 1, 1) := by decide +kernel
theorem dL_law_792 : decode cL_law 792 = .ok (.iadd, 1) := by decide +kernel
theorem dL_law_793 : decode cL_law 793 = .ok (.iaload, 1) := by decide +kernel
theorem dL_law_794 : decode cL_law 794 = .ok (.aload_n 0, 1) := by decide +kernel
theorem dL_law_795 : decode cL_law 795 = .ok (.iload_n 3, 1) := by decide +kernel
theorem dL_law_796 : decode cL_law 796 = .ok (.iconst 2, 1) := by decide +kernel
theorem dL_law_797 : decode cL_law 797 = .ok (.iadd, 1) := by decide +kernel
theorem dL_law_798 : decode cL_law 798 = .ok (.iaload, 1) := by decide +kernel
theorem dL_law_799 : decode cL_law 799 = .ok (.invokevirtual 101, 3) := by decide +kernel
theorem dL_law_802 : decode cL_law 802 = .ok (.aload_n 2, 1) := by decide +kernel
theorem dL_law_803 : decode cL_law 803 = .ok (.aload_n 0, 1) := by decide +kernel
theorem dL_law_804 : decode cL_law 804 = .ok (.iload_n 3, 1) := by decide +kernel
theorem dL_law_805 : decode cL_law 805 = .ok (.iconst 1, 1) := by decide +kernel
theorem dL_law_806 : decode cL_law 806 = .ok (.iadd, 1) := by decide +kernel
theorem dL_law_807 : decode cL_law 807 = .ok (.iaload, 1) := by decide +kernel
theorem dL_law_808 : decode cL_law 808 = .ok (.aload_n 0, 1) := by decide +kernel
theorem dL_law_809 : decode cL_law 809 = .ok (.iload_n 3, 1) := by decide +kernel
theorem dL_law_810 : decode cL_law 810 = .ok (.iconst 2, 1) := by decide +kernel
theorem dL_law_811 : decode cL_law 811 = .ok (.iadd, 1) := by decide +kernel
theorem dL_law_812 : decode cL_law 812 = .ok (.iaload, 1) := by decide +kernel
theorem dL_law_813 : decode cL_law 813 = .ok (.invokevirtual 104, 3) := by decide +kernel
theorem dL_law_816 : decode cL_law 816 = .ok (.if_icmp .eq 107, 3) := by decide +kernel
theorem dL_law_819 : decode cL_law 819 = .ok (.iconst 0, 1) := by decide +kernel
theorem dL_law_820 : decode cL_law 820 = .ok (.ireturn, 1) := by decide +kernel
theorem dL_law_821 : decode cL_law 821 = .ok (.aload_n 1, 1) := by decide +kernel
theorem dL_law_822 : decode cL_law 822 = .ok (.aload_n 0, 1) := by decide +kernel
theorem dL_law_823 : decode cL_law 823 = .ok (.iload_n 3, 1) := by decide +kernel
theorem dL_law_824 : decode cL_law 824 = .ok (.iconst 1, 1) := by decide +kernel
theorem dL_law_825 : decode cL_law 825 = .ok (.iadd, 1) := by decide +kernel
theorem dL_law_826 : decode cL_law 826 = .ok (.iaload, 1) := by decide +kernel
theorem dL_law_827 : decode cL_law 827 = .ok (.aload_n 0, 1) := by decide +kernel
theorem dL_law_828 : decode cL_law 828 = .ok (.iload_n 3, 1) := by decide +kernel
theorem dL_law_829 : decode cL_law 829 = .ok (.iconst 2, 1) := by decide +kernel
theorem dL_law_830 : decode cL_law 830 = .ok (.iadd, 1) := by decide +kernel
theorem dL_law_831 : decode cL_law 831 = .ok (.iaload, 1) := by decide +kernel
theorem dL_law_832 : decode cL_law 832 = .ok (.invokevirtual 105, 3) := by decide +kernel
theorem dL_law_835 : decode cL_law 835 = .ok (.aload_n 2, 1) := by decide +kernel
theorem dL_law_836 : decode cL_law 836 = .ok (.aload_n 0, 1) := by decide +kernel
theorem dL_law_837 : decode cL_law 837 = .ok (.iload_n 3, 1) := by decide +kernel
theorem dL_law_838 : decode cL_law 838 = .ok (.iconst 1, 1) := by decide +kernel
theorem dL_law_839 : decode cL_law 839 = .ok (.iadd, 1) := by decide +kernel
theorem dL_law_840 : decode cL_law 840 = .ok (.iaload, 1) := by decide +kernel
theorem dL_law_841 : decode cL_law 841 = .ok (.aload_n 0, 1) := by decide +kernel
theorem dL_law_842 : decode cL_law 842 = .ok (.iload_n 3, 1) := by decide +kernel
theorem dL_law_843 : decode cL_law 843 = .ok (.iconst 2, 1) := by decide +kernel
theorem dL_law_844 : decode cL_law 844 = .ok (.iadd, 1) := by decide +kernel
theorem dL_law_845 : decode cL_law 845 = .ok (.iaload, 1) := by decide +kernel
theorem dL_law_846 : decode cL_law 846 = .ok (.invokevirtual 108, 3) := by decide +kernel
theorem dL_law_849 : decode cL_law 849 = .ok (.if_icmp .eq 74, 3) := by decide +kernel
theorem dL_law_852 : decode cL_law 852 = .ok (.iconst 0, 1) := by decide +kernel
theorem dL_law_853 : decode cL_law 853 = .ok (.ireturn, 1) := by decide +kernel
theorem dL_law_854 : decode cL_law 854 = .ok (.aload_n 1, 1) := by decide +kernel
theorem dL_law_855 : decode cL_law 855 = .ok (.aload_n 0, 1) := by decide +kernel
theorem dL_law_856 : decode cL_law 856 = .ok (.iload_n 3, 1) := by decide +kernel
theorem dL_law_857 : decode cL_law 857 = .ok (.iconst 1, 1) := by decide +kernel
theorem dL_law_858 : decode cL_law 858 = .ok (.iadd, 1) := by decide +kernel
theorem dL_law_859 : decode cL_law 859 = .ok (.iaload, 1) := by decide +kernel
theorem dL_law_860 : decode cL_law 860 = .ok (.invokevirtual 109, 3) := by decide +kernel
theorem dL_law_863 : decode cL_law 863 = .ok (.aload_n 2, 1) := by decide +kernel
theorem dL_law_864 : decode cL_law 864 = .ok (.aload_n 0, 1) := by decide +kernel
theorem dL_law_865 : decode cL_law 865 = .ok (.iload_n 3, 1) := by decide +kernel
theorem dL_law_866 : decode cL_law 866 = .ok (.iconst 1, 1) := by decide +kernel
theorem dL_law_867 : decode cL_law 867 = .ok (.iadd, 1) := by decide +kernel
theorem dL_law_868 : decode cL_law 868 = .ok (.iaload, 1) := by decide +kernel
theorem dL_law_869 : decode cL_law 869 = .ok (.invokevirtual 112, 3) := by decide +kernel
theorem dL_law_872 : decode cL_law 872 = .ok (.if_icmp .eq 51, 3) := by decide +kernel
theorem dL_law_875 : decode cL_law 875 = .ok (.iconst 0, 1) := by decide +kernel
theorem dL_law_876 : decode cL_law 876 = .ok (.ireturn, 1) := by decide +kernel
theorem dL_law_877 : decode cL_law 877 = .ok (.aload_n 1, 1) := by decide +kernel
theorem dL_law_878 : decode cL_law 878 = .ok (.aload_n 0, 1) := by decide +kernel
theorem dL_law_879 : decode cL_law 879 = .ok (.iload_n 3, 1) := by decide +kernel
theorem dL_law_880 : decode cL_law 880 = .ok (.iconst 1, 1) := by decide +kernel
theorem dL_law_881 : decode cL_law 881 = .ok (.iadd, 1) := by decide +kernel
theorem dL_law_882 : decode cL_law 882 = .ok (.iaload, 1) := by decide +kernel
theorem dL_law_883 : decode cL_law 883 = .ok (.invokevirtual 113, 3) := by decide +kernel
theorem dL_law_886 : decode cL_law 886 = .ok (.aload_n 2, 1) := by decide +kernel
theorem dL_law_887 : decode cL_law 887 = .ok (.aload_n 0, 1) := by decide +kernel
theorem dL_law_888 : decode cL_law 888 = .ok (.iload_n 3, 1) := by decide +kernel
theorem dL_law_889 : decode cL_law 889 = .ok (.iconst 1, 1) := by decide +kernel
theorem dL_law_890 : decode cL_law 890 = .ok (.iadd, 1) := by decide +kernel
theorem dL_law_891 : decode cL_law 891 = .ok (.iaload, 1) := by decide +kernel
theorem dL_law_892 : decode cL_law 892 = .ok (.invokevirtual 116, 3) := by decide +kernel
theorem dL_law_895 : decode cL_law 895 = .ok (.if_icmp .eq 28, 3) := by decide +kernel
theorem dL_law_898 : decode cL_law 898 = .ok (.iconst 0, 1) := by decide +kernel
theorem dL_law_899 : decode cL_law 899 = .ok (.ireturn, 1) := by decide +kernel
theorem dL_law_900 : decode cL_law 900 = .ok (.aload_n 1, 1) := by decide +kernel
theorem dL_law_901 : decode cL_law 901 = .ok (.aload_n 0, 1) := by decide +kernel
theorem dL_law_902 : decode cL_law 902 = .ok (.iload_n 3, 1) := by decide +kernel
theorem dL_law_903 : decode cL_law 903 = .ok (.iconst 1, 1) := by decide +kernel
theorem dL_law_904 : decode cL_law 904 = .ok (.iadd, 1) := by decide +kernel
theorem dL_law_905 : decode cL_law 905 = .ok (.iaload, 1) := by decide +kernel
theorem dL_law_906 : decode cL_law 906 = .ok (.invokevirtual 117, 3) := by decide +kernel
theorem dL_law_909 : decode cL_law 909 = .ok (.aload_n 2, 1) := by decide +kernel
theorem dL_law_910 : decode cL_law 910 = .ok (.aload_n 0, 1) := by decide +kernel
theorem dL_law_911 : decode cL_law 911 = .ok (.iload_n 3, 1) := by decide +kernel
theorem dL_law_912 : decode cL_law 912 = .ok (.iconst 1, 1) := by decide +kernel
theorem dL_law_913 : decode cL_law 913 = .ok (.iadd, 1) := by decide +kernel
theorem dL_law_914 : decode cL_law 914 = .ok (.iaload, 1) := by decide +kernel
theorem dL_law_915 : decode cL_law 915 = .ok (.invokevirtual 120, 3) := by decide +kernel
theorem dL_law_918 : decode cL_law 918 = .ok (.if_icmp .eq 5, 3) := by decide +kernel
theorem dL_law_921 : decode cL_law 921 = .ok (.iconst 0, 1) := by decide +kernel
theorem dL_law_922 : decode cL_law 922 = .ok (.ireturn, 1) := by decide +kernel
theorem dL_law_923 : decode cL_law 923 = .ok (.iinc 3 5, 3) := by decide +kernel
theorem dL_law_926 : decode cL_law 926 = .ok (.goto (-908), 3) := by decide +kernel
theorem dL_law_929 : decode cL_law 929 = .ok (.iconst 1, 1) := by decide +kernel
theorem dL_law_930 : decode cL_law 930 = .ok (.ireturn, 1) := by decide +kernel
end
section
theorem dX9_init_0 : decode cX9_init 0 = .ok (.aload_n 0, 1) := by decide +kernel
theorem dX9_init_1 : decode cX9_init 1 = .ok (.invokespecial 1, 3) := by decide +kernel
theorem dX9_init_4 : decode cX9_init 4 = .ok (.aload_n 0, 1) := by decide +kernel
theorem dX9_init_5 : decode cX9_init 5 = .ok (.sipush 1367, 3) := by decide +kernel
theorem dX9_init_8 : decode cX9_init 8 = .ok (.newarray .long, 2) := by decide +kernel
theorem dX9_init_10 : decode cX9_init 10 = .ok (.putfield 7, 3) := by decide +kernel
theorem dX9_init_13 : decode cX9_init 13 = .ok (.aload_n 0, 1) := by decide +kernel
theorem dX9_init_14 : decode cX9_init 14 = .ok (.sipush 1367, 3) := by decide +kernel
theorem dX9_init_17 : decode cX9_init 17 = .ok (.newarray .long, 2) := by decide +kernel
theorem dX9_init_19 : decode cX9_init 19 = .ok (.putfield 13, 3) := by decide +kernel
theorem dX9_init_22 : decode cX9_init 22 = .ok (.aload_n 0, 1) := by decide +kernel
theorem dX9_init_23 : decode cX9_init 23 = .ok (.sipush 6835, 3) := by decide +kernel
theorem dX9_init_26 : decode cX9_init 26 = .ok (.newarray .long, 2) := by decide +kernel
theorem dX9_init_28 : decode cX9_init 28 = .ok (.putfield 16, 3) := by decide +kernel
theorem dX9_init_31 : decode cX9_init 31 = .ok (.aload_n 0, 1) := by decide +kernel
theorem dX9_init_32 : decode cX9_init 32 = .ok (.bipush 40, 2) := by decide +kernel
theorem dX9_init_34 : decode cX9_init 34 = .ok (.newarray .int, 2) := by decide +kernel
theorem dX9_init_36 : decode cX9_init 36 = .ok (.putfield 19, 3) := by decide +kernel
theorem dX9_init_39 : decode cX9_init 39 = .ok (.aload_n 0, 1) := by decide +kernel
theorem dX9_init_40 : decode cX9_init 40 = .ok (.sipush 140, 3) := by decide +kernel
theorem dX9_init_43 : decode cX9_init 43 = .ok (.newarray .int, 2) := by decide +kernel
theorem dX9_init_45 : decode cX9_init 45 = .ok (.putfield 23, 3) := by decide +kernel
theorem dX9_init_48 : decode cX9_init 48 = .ok (.aload_n 0, 1) := by decide +kernel
theorem dX9_init_49 : decode cX9_init 49 = .ok (.getfield 7, 3) := by decide +kernel
theorem dX9_init_52 : decode cX9_init 52 = .ok (.iconst 2, 1) := by decide +kernel
theorem dX9_init_53 : decode cX9_init 53 = .ok (.ldc2_w 26, 3) := by decide +kernel
theorem dX9_init_56 : decode cX9_init 56 = .ok (.lastore, 1) := by decide +kernel
theorem dX9_init_57 : decode cX9_init 57 = .ok (.aload_n 0, 1) := by decide +kernel
theorem dX9_init_58 : decode cX9_init 58 = .ok (.getfield 7, 3) := by decide +kernel
theorem dX9_init_61 : decode cX9_init 61 = .ok (.iconst 3, 1) := by decide +kernel
theorem dX9_init_62 : decode cX9_init 62 = .ok (.ldc2_w 28, 3) := by decide +kernel
theorem dX9_init_65 : decode cX9_init 65 = .ok (.lastore, 1) := by decide +kernel
theorem dX9_init_66 : decode cX9_init 66 = .ok (.aload_n 0, 1) := by decide +kernel
theorem dX9_init_67 : decode cX9_init 67 = .ok (.getfield 7, 3) := by decide +kernel
theorem dX9_init_70 : decode cX9_init 70 = .ok (.iconst 4, 1) := by decide +kernel
theorem dX9_init_71 : decode cX9_init 71 = .ok (.ldc2_w 26, 3) := by decide +kernel
theorem dX9_init_74 : decode cX9_init 74 = .ok (.lastore, 1) := by decide +kernel
theorem dX9_init_75 : decode cX9_init 75 = .ok (.aload_n 0, 1) := by decide +kernel
theorem dX9_init_76 : decode cX9_init 76 = .ok (.getfield 7, 3) := by decide +kernel
theorem dX9_init_79 : decode cX9_init 79 = .ok (.iconst 5, 1) := by decide +kernel
theorem dX9_init_80 : decode cX9_init 80 = .ok (.ldc2_w 30, 3) := by decide +kernel
theorem dX9_init_83 : decode cX9_init 83 = .ok (.lastore, 1) := by decide +kernel
theorem dX9_init_84 : decode cX9_init 84 = .ok (.return_, 1) := by decide +kernel
theorem dX9_in_0 : decode cX9_in 0 = .ok (.lload_n 0, 1) := by decide +kernel
theorem dX9_in_1 : decode cX9_in 1 = .ok (.lload_n 2, 1) := by decide +kernel
theorem dX9_in_2 : decode cX9_in 2 = .ok (.lcmp, 1) := by decide +kernel
theorem dX9_in_3 : decode cX9_in 3 = .ok (.ifCond .lt 14, 3) := by decide +kernel
theorem dX9_in_6 : decode cX9_in 6 = .ok (.lload_n 0, 1) := by decide +kernel
theorem dX9_in_7 : decode cX9_in 7 = .ok (.lload 4, 2) := by decide +kernel
theorem dX9_in_9 : decode cX9_in 9 = .ok (.lcmp, 1) := by decide +kernel
theorem dX9_in_10 : decode cX9_in 10 = .ok (.ifCond .gt 7, 3) := by decide +kernel
theorem dX9_in_13 : decode cX9_in 13 = .ok (.iconst 1, 1) := by decide +kernel
theorem dX9_in_14 : decode cX9_in 14 = .ok (.goto 4, 3) := by decide +kernel
theorem dX9_in_17 : decode cX9_in 17 = .ok (.iconst 0, 1) := by decide +kernel
theorem dX9_in_18 : decode cX9_in 18 = .ok (.ireturn, 1) := by decide +kernel
theorem dX9_c_0 : decode cX9_c 0 = .ok (.bipush 9, 2) := by decide +kernel
theorem dX9_c_2 : decode cX9_c 2 = .ok (.iconst 5, 1) := by decide +kernel
theorem dX9_c_3 : decode cX9_c 3 = .ok (.iload_n 0, 1) := by decide +kernel
theorem dX9_c_4 : decode cX9_c 4 = .ok (.imul, 1) := by decide +kernel
theorem dX9_c_5 : decode cX9_c 5 = .ok (.iadd, 1) := by decide +kernel
theorem dX9_c_6 : decode cX9_c 6 = .ok (.iload_n 1, 1) := by decide +kernel
theorem dX9_c_7 : decode cX9_c 7 = .ok (.iadd, 1) := by decide +kernel
theorem dX9_c_8 : decode cX9_c 8 = .ok (.ireturn, 1) := by decide +kernel
theorem dX9_isCard_0 : decode cX9_isCard 0 = .ok (.iload_n 1, 1) := by decide +kernel
theorem dX9_isCard_1 : decode cX9_isCard 1 = .ok (.i2l, 1) := by decide +kernel
theorem dX9_isCard_2 : decode cX9_isCard 2 = .ok (.lconst 0, 1) := by decide +kernel
theorem dX9_isCard_3 : decode cX9_isCard 3 = .ok (.aload_n 0, 1) := by decide +kernel
theorem dX9_isCard_4 : decode cX9_isCard 4 = .ok (.getfield 7, 3) := by decide +kernel
theorem dX9_isCard_7 : decode cX9_isCard 7 = .ok (.iconst 0, 1) := by decide +kernel
theorem dX9_isCard_8 : decode cX9_isCard 8 = .ok (.laload, 1) := by decide +kernel
theorem dX9_isCard_9 : decode cX9_isCard 9 = .ok (.lconst 1, 1) := by decide +kernel
theorem dX9_isCard_10 : decode cX9_isCard 10 = .ok (.lsub, 1) := by decide +kernel
theorem dX9_isCard_11 : decode cX9_isCard 11 = .ok (.invokestatic 32, 3) := by decide +kernel
theorem dX9_isCard_14 : decode cX9_isCard 14 = .ok (.ireturn, 1) := by decide +kernel
theorem dX9_isRow_0 : decode cX9_isRow 0 = .ok (.lload_n 0, 1) := by decide +kernel
theorem dX9_isRow_1 : decode cX9_isRow 1 = .ok (.lconst 0, 1) := by decide +kernel
theorem dX9_isRow_2 : decode cX9_isRow 2 = .ok (.ldc2_w 36, 3) := by decide +kernel
theorem dX9_isRow_5 : decode cX9_isRow 5 = .ok (.invokestatic 32, 3) := by decide +kernel
theorem dX9_isRow_8 : decode cX9_isRow 8 = .ok (.ireturn, 1) := by decide +kernel
theorem dX9_digit_0 : decode cX9_digit 0 = .ok (.lload_n 0, 1) := by decide +kernel
theorem dX9_digit_1 : decode cX9_digit 1 = .ok (.lstore_n 3, 1) := by decide +kernel
theorem dX9_digit_2 : decode cX9_digit 2 = .ok (.iload_n 2, 1) := by decide +kernel
theorem dX9_digit_3 : decode cX9_digit 3 = .ok (.istore 5, 2) := by decide +kernel
theorem dX9_digit_5 : decode cX9_digit 5 = .ok (.iload 5, 2) := by decide +kernel
theorem dX9_digit_7 : decode cX9_digit 7 = .ok (.bipush 11, 2) := by decide +kernel
theorem dX9_digit_9 : decode cX9_digit 9 = .ok (.if_icmp .ge 15, 3) := by decide +kernel
theorem dX9_digit_12 : decode cX9_digit 12 = .ok (.lload_n 3, 1) := by decide +kernel
theorem dX9_digit_13 : decode cX9_digit 13 = .ok (.ldc2_w 38, 3) := by decide +kernel
theorem dX9_digit_16 : decode cX9_digit 16 = .ok (.ldiv, 1) := by decide +kernel
theorem dX9_digit_17 : decode cX9_digit 17 = .ok (.lstore_n 3, 1) := by decide +kernel
theorem dX9_digit_18 : decode cX9_digit 18 = .ok (.iinc 5 1, 3) := by decide +kernel
theorem dX9_digit_21 : decode cX9_digit 21 = .ok (.goto (-16), 3) := by decide +kernel
theorem dX9_digit_24 : decode cX9_digit 24 = .ok (.lload_n 3, 1) := by decide +kernel
theorem dX9_digit_25 : decode cX9_digit 25 = .ok (.ldc2_w 38, 3) := by decide +kernel
theorem dX9_digit_28 : decode cX9_digit 28 = .ok (.lrem, 1) := by decide +kernel
theorem dX9_digit_29 : decode cX9_digit 29 = .ok (.l2i, 1) := by decide +kernel
theorem dX9_digit_30 : decode cX9_digit 30 = .ok (.ireturn, 1) := by decide +kernel
theorem dX9_read_0 : decode cX9_read 0 = .ok (.aload_n 0, 1) := by decide +kernel
theorem dX9_read_1 : decode cX9_read 1 = .ok (.getfield 7, 3) := by decide +kernel
theorem dX9_read_4 : decode cX9_read 4 = .ok (.iload_n 1, 1) := by decide +kernel
theorem dX9_read_5 : decode cX9_read 5 = .ok (.iconst 1, 1) := by decide +kernel
theorem dX9_read_6 : decode cX9_read 6 = .ok (.invokestatic 40, 3) := by decide +kernel
theorem dX9_read_9 : decode cX9_read 9 = .ok (.laload, 1) := by decide +kernel
theorem dX9_read_10 : decode cX9_read 10 = .ok (.iload_n 2, 1) := by decide +kernel
theorem dX9_read_11 : decode cX9_read 11 = .ok (.invokestatic 44, 3) := by decide +kernel
theorem dX9_read_14 : decode cX9_read 14 = .ok (.ireturn, 1) := by decide +kernel
theorem dX9_isLooked_0 : decode cX9_isLooked 0 = .ok (.aload_n 0, 1) := by decide +kernel
theorem dX9_isLooked_1 : decode cX9_isLooked 1 = .ok (.getfield 7, 3) := by decide +kernel
theorem dX9_isLooked_4 : decode cX9_isLooked 4 = .ok (.iload_n 1, 1) := by decide +kernel
theorem dX9_isLooked_5 : decode cX9_isLooked 5 = .ok (.iconst 3, 1) := by decide +kernel
theorem dX9_isLooked_6 : decode cX9_isLooked 6 = .ok (.invokestatic 40, 3) := by decide +kernel
theorem dX9_isLooked_9 : decode cX9_isLooked 9 = .ok (.laload, 1) := by decide +kernel
theorem dX9_isLooked_10 : decode cX9_isLooked 10 = .ok (.ldc2_w 48, 3) := by decide +kernel
theorem dX9_isLooked_13 : decode cX9_isLooked 13 = .ok (.lcmp, 1) := by decide +kernel
theorem dX9_isLooked_14 : decode cX9_isLooked 14 = .ok (.ifCond .ne 7, 3) := by decide +kernel
theorem dX9_isLooked_17 : decode cX9_isLooked 17 = .ok (.iconst 1, 1) := by decide +kernel
theorem dX9_isLooked_18 : decode cX9_isLooked 18 = .ok (.goto 4, 3) := by decide +kernel
theorem dX9_isLooked_21 : decode cX9_isLooked 21 = .ok (.iconst 0, 1) := by decide +kernel
theorem dX9_isLooked_22 : decode cX9_isLooked 22 = .ok (.ireturn, 1) := by decide +kernel
theorem dX9_keeps_0 : decode cX9_keeps 0 = .ok (.iconst 0, 1) := by decide +kernel
theorem dX9_keeps_1 : decode cX9_keeps 1 = .ok (.istore_n 1, 1) := by decide +kernel
theorem dX9_keeps_2 : decode cX9_keeps 2 = .ok (.iload_n 1, 1) := by decide +kernel
theorem dX9_keeps_3 : decode cX9_keeps 3 = .ok (.sipush 1367, 3) := by decide +kernel
theorem dX9_keeps_6 : decode cX9_keeps 6 = .ok (.if_icmp .ge 21, 3) := by decide +kernel
theorem dX9_keeps_9 : decode cX9_keeps 9 = .ok (.aload_n 0, 1) := by decide +kernel
theorem dX9_keeps_10 : decode cX9_keeps 10 = .ok (.getfield 13, 3) := by decide +kernel
theorem dX9_keeps_13 : decode cX9_keeps 13 = .ok (.iload_n 1, 1) := by decide +kernel
theorem dX9_keeps_14 : decode cX9_keeps 14 = .ok (.aload_n 0, 1) := by decide +kernel
theorem dX9_keeps_15 : decode cX9_keeps 15 = .ok (.getfield 7, 3) := by decide +kernel
theorem dX9_keeps_18 : decode cX9_keeps 18 = .ok (.iload_n 1, 1) := by decide +kernel
theorem dX9_keeps_19 : decode cX9_keeps 19 = .ok (.laload, 1) := by decide +kernel
theorem dX9_keeps_20 : decode cX9_keeps 20 = .ok (.lastore, 1) := by decide +kernel
theorem dX9_keeps_21 : decode cX9_keeps 21 = .ok (.iinc 1 1, 3) := by decide +kernel
theorem dX9_keeps_24 : decode cX9_keeps 24 = .ok (.goto (-22), 3) := by decide +kernel
theorem dX9_keeps_27 : decode cX9_keeps 27 = .ok (.return_, 1) := by decide +kernel
theorem dX9_acted_0 : decode cX9_acted 0 = .ok (.iload_n 1, 1) := by decide +kernel
theorem dX9_acted_1 : decode cX9_acted 1 = .ok (.i2l, 1) := by decide +kernel
theorem dX9_acted_2 : decode cX9_acted 2 = .ok (.ldc2_w 50, 3) := by decide +kernel
theorem dX9_acted_5 : decode cX9_acted 5 = .ok (.ldc2_w 52, 3) := by decide +kernel
theorem dX9_acted_8 : decode cX9_acted 8 = .ok (.invokestatic 32, 3) := by decide +kernel
theorem dX9_acted_11 : decode cX9_acted 11 = .ok (.ifCond .eq 5, 3) := by decide +kernel
theorem dX9_acted_14 : decode cX9_acted 14 = .ok (.iload_n 1, 1) := by decide +kernel
theorem dX9_acted_15 : decode cX9_acted 15 = .ok (.ireturn, 1) := by decide +kernel
theorem dX9_acted_16 : decode cX9_acted 16 = .ok (.aload_n 0, 1) := by decide +kernel
theorem dX9_acted_17 : decode cX9_acted 17 = .ok (.getfield 54, 3) := by decide +kernel
theorem dX9_acted_20 : decode cX9_acted 20 = .ok (.iconst 5, 1) := by decide +kernel
theorem dX9_acted_21 : decode cX9_acted 21 = .ok (.if_icmp .ne 44, 3) := by decide +kernel
theorem dX9_acted_24 : decode cX9_acted 24 = .ok (.iconst 0, 1) := by decide +kernel
theorem dX9_acted_25 : decode cX9_acted 25 = .ok (.istore_n 2, 1) := by decide +kernel
theorem dX9_acted_26 : decode cX9_acted 26 = .ok (.iload_n 2, 1) := by decide +kernel
theorem dX9_acted_27 : decode cX9_acted 27 = .ok (.sipush 5468, 3) := by decide +kernel
theorem dX9_acted_30 : decode cX9_acted 30 = .ok (.if_icmp .ge 25, 3) := by decide +kernel
theorem dX9_acted_33 : decode cX9_acted 33 = .ok (.aload_n 0, 1) := by decide +kernel
theorem dX9_acted_34 : decode cX9_acted 34 = .ok (.getfield 16, 3) := by decide +kernel
theorem dX9_acted_37 : decode cX9_acted 37 = .ok (.iload_n 2, 1) := by decide +kernel
theorem dX9_acted_38 : decode cX9_acted 38 = .ok (.aload_n 0, 1) := by decide +kernel
theorem dX9_acted_39 : decode cX9_acted 39 = .ok (.getfield 16, 3) := by decide +kernel
theorem dX9_acted_42 : decode cX9_acted 42 = .ok (.iload_n 2, 1) := by decide +kernel
theorem dX9_acted_43 : decode cX9_acted 43 = .ok (.sipush 1367, 3) := by decide +kernel
theorem dX9_acted_46 : decode cX9_acted 46 = .ok (.iadd, 1) := by decide +kernel
theorem dX9_acted_47 : decode cX9_acted 47 = .ok (.laload, 1) := by decide +kernel
theorem dX9_acted_48 : decode cX9_acted 48 = .ok (.lastore, 1) := by decide +kernel
theorem dX9_acted_49 : decode cX9_acted 49 = .ok (.iinc 2 1, 3) := by decide +kernel
theorem dX9_acted_52 : decode cX9_acted 52 = .ok (.goto (-26), 3) := by decide +kernel
theorem dX9_acted_55 : decode cX9_acted 55 = .ok (.aload_n 0, 1) := by decide +kernel
theorem dX9_acted_56 : decode cX9_acted 56 = .ok (.dup, 1) := by decide +kernel
theorem dX9_acted_57 : decode cX9_acted 57 = .ok (.getfield 54, 3) := by decide +kernel
theorem dX9_acted_60 : decode cX9_acted 60 = .ok (.iconst 1, 1) := by decide +kernel
theorem dX9_acted_61 : decode cX9_acted 61 = .ok (.isub, 1) := by decide +kernel
theorem dX9_acted_62 : decode cX9_acted 62 = .ok (.putfield 54, 3) := by decide +kernel
theorem dX9_acted_65 : decode cX9_acted 65 = .ok (.iconst 0, 1) := by decide +kernel
theorem dX9_acted_66 : decode cX9_acted 66 = .ok (.istore_n 2, 1) := by decide +kernel
theorem dX9_acted_67 : decode cX9_acted 67 = .ok (.iload_n 2, 1) := by decide +kernel
theorem dX9_acted_68 : decode cX9_acted 68 = .ok (.sipush 1367, 3) := by decide +kernel
theorem dX9_acted_71 : decode cX9_acted 71 = .ok (.if_icmp .ge 30, 3) := by decide +kernel
theorem dX9_acted_74 : decode cX9_acted 74 = .ok (.aload_n 0, 1) := by decide +kernel
theorem dX9_acted_75 : decode cX9_acted 75 = .ok (.getfield 16, 3) := by decide +kernel
theorem dX9_acted_78 : decode cX9_acted 78 = .ok (.sipush 1367, 3) := by decide +kernel
theorem dX9_acted_81 : decode cX9_acted 81 = .ok (.aload_n 0, 1) := by decide +kernel
theorem dX9_acted_82 : decode cX9_acted 82 = .ok (.getfield 54, 3) := by decide +kernel
theorem dX9_acted_85 : decode cX9_acted 85 = .ok (.imul, 1) := by decide +kernel
theorem dX9_acted_86 : decode cX9_acted 86 = .ok (.iload_n 2, 1) := by decide +kernel
theorem dX9_acted_87 : decode cX9_acted 87 = .ok (.iadd, 1) := by decide +kernel
theorem dX9_acted_88 : decode cX9_acted 88 = .ok (.aload_n 0, 1) := by decide +kernel
theorem dX9_acted_89 : decode cX9_acted 89 = .ok (.getfield 13, 3) := by decide +kernel
theorem dX9_acted_92 : decode cX9_acted 92 = .ok (.iload_n 2, 1) := by decide +kernel
theorem dX9_acted_93 : decode cX9_acted 93 = .ok (.laload, 1) := by decide +kernel
theorem dX9_acted_94 : decode cX9_acted 94 = .ok (.lastore, 1) := by decide +kernel
theorem dX9_acted_95 : decode cX9_acted 95 = .ok (.iinc 2 1, 3) := by decide +kernel
theorem dX9_acted_98 : decode cX9_acted 98 = .ok (.goto (-31), 3) := by decide +kernel
theorem dX9_acted_101 : decode cX9_acted 101 = .ok (.aload_n 0, 1) := by decide +kernel
theorem dX9_acted_102 : decode cX9_acted 102 = .ok (.dup, 1) := by decide +kernel
theorem dX9_acted_103 : decode cX9_acted 103 = .ok (.getfield 54, 3) := by decide +kernel
theorem dX9_acted_106 : decode cX9_acted 106 = .ok (.iconst 1, 1) := by decide +kernel
theorem dX9_acted_107 : decode cX9_acted 107 = .ok (.iadd, 1) := by decide +kernel
theorem dX9_acted_108 : decode cX9_acted 108 = .ok (.putfield 54, 3) := by decide +kernel
theorem dX9_acted_111 : decode cX9_acted 111 = .ok (.iload_n 1, 1) := by decide +kernel
theorem dX9_acted_112 : decode cX9_acted 112 = .ok (.ireturn, 1) := by decide +kernel
theorem dX9_goesOn_0 : decode cX9_goesOn 0 = .ok (.aload_n 0, 1) := by decide +kernel
theorem dX9_goesOn_1 : decode cX9_goesOn 1 = .ok (.getfield 7, 3) := by decide +kernel
theorem dX9_goesOn_4 : decode cX9_goesOn 4 = .ok (.iload_n 1, 1) := by decide +kernel
theorem dX9_goesOn_5 : decode cX9_goesOn 5 = .ok (.iconst 2, 1) := by decide +kernel
theorem dX9_goesOn_6 : decode cX9_goesOn 6 = .ok (.invokestatic 40, 3) := by decide +kernel
theorem dX9_goesOn_9 : decode cX9_goesOn 9 = .ok (.laload, 1) := by decide +kernel
theorem dX9_goesOn_10 : decode cX9_goesOn 10 = .ok (.aload_n 0, 1) := by decide +kernel
theorem dX9_goesOn_11 : decode cX9_goesOn 11 = .ok (.getfield 7, 3) := by decide +kernel
theorem dX9_goesOn_14 : decode cX9_goesOn 14 = .ok (.iload_n 2, 1) := by decide +kernel
theorem dX9_goesOn_15 : decode cX9_goesOn 15 = .ok (.iconst 2, 1) := by decide +kernel
theorem dX9_goesOn_16 : decode cX9_goesOn 16 = .ok (.invokestatic 40, 3) := by decide +kernel
theorem dX9_goesOn_19 : decode cX9_goesOn 19 = .ok (.laload, 1) := by decide +kernel
theorem dX9_goesOn_20 : decode cX9_goesOn 20 = .ok (.lcmp, 1) := by decide +kernel
theorem dX9_goesOn_21 : decode cX9_goesOn 21 = .ok (.ifCond .ne 25, 3) := by decide +kernel
theorem dX9_goesOn_24 : decode cX9_goesOn 24 = .ok (.aload_n 0, 1) := by decide +kernel
theorem dX9_goesOn_25 : decode cX9_goesOn 25 = .ok (.iload_n 1, 1) := by decide +kernel
theorem dX9_goesOn_26 : decode cX9_goesOn 26 = .ok (.iload_n 3, 1) := by decide +kernel
theorem dX9_goesOn_27 : decode cX9_goesOn 27 = .ok (.invokevirtual 58, 3) := by decide +kernel
theorem dX9_goesOn_30 : decode cX9_goesOn 30 = .ok (.ifCond .le 16, 3) := by decide +kernel
theorem dX9_goesOn_33 : decode cX9_goesOn 33 = .ok (.aload_n 0, 1) := by decide +kernel
theorem dX9_goesOn_34 : decode cX9_goesOn 34 = .ok (.iload_n 2, 1) := by decide +kernel
theorem dX9_goesOn_35 : decode cX9_goesOn 35 = .ok (.iload_n 3, 1) := by decide +kernel
theorem dX9_goesOn_36 : decode cX9_goesOn 36 = .ok (.invokevirtual 58, 3) := by decide +kernel
theorem dX9_goesOn_39 : decode cX9_goesOn 39 = .ok (.ifCond .le 7, 3) := by decide +kernel
theorem dX9_goesOn_42 : decode cX9_goesOn 42 = .ok (.iconst 1, 1) := by decide +kernel
theorem dX9_goesOn_43 : decode cX9_goesOn 43 = .ok (.goto 4, 3) := by decide +kernel
theorem dX9_goesOn_46 : decode cX9_goesOn 46 = .ok (.iconst 0, 1) := by decide +kernel
theorem dX9_goesOn_47 : decode cX9_goesOn 47 = .ok (.ireturn, 1) := by decide +kernel
theorem dX9_beside_0 : decode cX9_beside 0 = .ok (.iload_n 1, 1) := by decide +kernel
theorem dX9_beside_1 : decode cX9_beside 1 = .ok (.iload_n 2, 1) := by decide +kernel
theorem dX9_beside_2 : decode cX9_beside 2 = .ok (.iadd, 1) := by decide +kernel
theorem dX9_beside_3 : decode cX9_beside 3 = .ok (.istore_n 3, 1) := by decide +kernel
theorem dX9_beside_4 : decode cX9_beside 4 = .ok (.iload_n 3, 1) := by decide +kernel
theorem dX9_beside_5 : decode cX9_beside 5 = .ok (.ifCond .lt 48, 3) := by decide +kernel
theorem dX9_beside_8 : decode cX9_beside 8 = .ok (.iload_n 3, 1) := by decide +kernel
theorem dX9_beside_9 : decode cX9_beside 9 = .ok (.i2l, 1) := by decide +kernel
theorem dX9_beside_10 : decode cX9_beside 10 = .ok (.aload_n 0, 1) := by decide +kernel
theorem dX9_beside_11 : decode cX9_beside 11 = .ok (.getfield 7, 3) := by decide +kernel
theorem dX9_beside_14 : decode cX9_beside 14 = .ok (.iconst 0, 1) := by decide +kernel
theorem dX9_beside_15 : decode cX9_beside 15 = .ok (.laload, 1) := by decide +kernel
theorem dX9_beside_16 : decode cX9_beside 16 = .ok (.lcmp, 1) := by decide +kernel
theorem dX9_beside_17 : decode cX9_beside 17 = .ok (.ifCond .ge 36, 3) := by decide +kernel
theorem dX9_beside_20 : decode cX9_beside 20 = .ok (.aload_n 0, 1) := by decide +kernel
theorem dX9_beside_21 : decode cX9_beside 21 = .ok (.getfield 7, 3) := by decide +kernel
theorem dX9_beside_24 : decode cX9_beside 24 = .ok (.iload_n 3, 1) := by decide +kernel
theorem dX9_beside_25 : decode cX9_beside 25 = .ok (.iconst 0, 1) := by decide +kernel
theorem dX9_beside_26 : decode cX9_beside 26 = .ok (.invokestatic 40, 3) := by decide +kernel
theorem dX9_beside_29 : decode cX9_beside 29 = .ok (.laload, 1) := by decide +kernel
theorem dX9_beside_30 : decode cX9_beside 30 = .ok (.aload_n 0, 1) := by decide +kernel
theorem dX9_beside_31 : decode cX9_beside 31 = .ok (.getfield 7, 3) := by decide +kernel
theorem dX9_beside_34 : decode cX9_beside 34 = .ok (.iload_n 1, 1) := by decide +kernel
theorem dX9_beside_35 : decode cX9_beside 35 = .ok (.iconst 0, 1) := by decide +kernel
theorem dX9_beside_36 : decode cX9_beside 36 = .ok (.invokestatic 40, 3) := by decide +kernel
theorem dX9_beside_39 : decode cX9_beside 39 = .ok (.laload, 1) := by decide +kernel
theorem dX9_beside_40 : decode cX9_beside 40 = .ok (.lcmp, 1) := by decide +kernel
theorem dX9_beside_41 : decode cX9_beside 41 = .ok (.ifCond .ne 5, 3) := by decide +kernel
theorem dX9_beside_44 : decode cX9_beside 44 = .ok (.iload_n 3, 1) := by decide +kernel
theorem dX9_beside_45 : decode cX9_beside 45 = .ok (.ireturn, 1) := by decide +kernel
theorem dX9_beside_46 : decode cX9_beside 46 = .ok (.iload_n 3, 1) := by decide +kernel
theorem dX9_beside_47 : decode cX9_beside 47 = .ok (.iload_n 2, 1) := by decide +kernel
theorem dX9_beside_48 : decode cX9_beside 48 = .ok (.iadd, 1) := by decide +kernel
theorem dX9_beside_49 : decode cX9_beside 49 = .ok (.istore_n 3, 1) := by decide +kernel
theorem dX9_beside_50 : decode cX9_beside 50 = .ok (.goto (-46), 3) := by decide +kernel
theorem dX9_beside_53 : decode cX9_beside 53 = .ok (.bipush (-9), 2) := by decide +kernel
theorem dX9_beside_55 : decode cX9_beside 55 = .ok (.ireturn, 1) := by decide +kernel
theorem dX9_end_0 : decode cX9_end 0 = .ok (.iload_n 1, 1) := by decide +kernel
theorem dX9_end_1 : decode cX9_end 1 = .ok (.istore 4, 2) := by decide +kernel
theorem dX9_end_3 : decode cX9_end 3 = .ok (.aload_n 0, 1) := by decide +kernel
theorem dX9_end_4 : decode cX9_end 4 = .ok (.iload 4, 2) := by decide +kernel
theorem dX9_end_6 : decode cX9_end 6 = .ok (.iload_n 3, 1) := by decide +kernel
theorem dX9_end_7 : decode cX9_end 7 = .ok (.invokevirtual 61, 3) := by decide +kernel
theorem dX9_end_10 : decode cX9_end 10 = .ok (.istore 5, 2) := by decide +kernel
theorem dX9_end_12 : decode cX9_end 12 = .ok (.iload 5, 2) := by decide +kernel
theorem dX9_end_14 : decode cX9_end 14 = .ok (.bipush (-9), 2) := by decide +kernel
theorem dX9_end_16 : decode cX9_end 16 = .ok (.if_icmp .eq 31, 3) := by decide +kernel
theorem dX9_end_19 : decode cX9_end 19 = .ok (.aload_n 0, 1) := by decide +kernel
theorem dX9_end_20 : decode cX9_end 20 = .ok (.iload 4, 2) := by decide +kernel
theorem dX9_end_22 : decode cX9_end 22 = .ok (.iload 5, 2) := by decide +kernel
theorem dX9_end_24 : decode cX9_end 24 = .ok (.iload_n 2, 1) := by decide +kernel
theorem dX9_end_25 : decode cX9_end 25 = .ok (.invokevirtual 64, 3) := by decide +kernel
theorem dX9_end_28 : decode cX9_end 28 = .ok (.ifCond .eq 19, 3) := by decide +kernel
theorem dX9_end_31 : decode cX9_end 31 = .ok (.iload 5, 2) := by decide +kernel
theorem dX9_end_33 : decode cX9_end 33 = .ok (.istore 4, 2) := by decide +kernel
theorem dX9_end_35 : decode cX9_end 35 = .ok (.aload_n 0, 1) := by decide +kernel
theorem dX9_end_36 : decode cX9_end 36 = .ok (.iload 4, 2) := by decide +kernel
theorem dX9_end_38 : decode cX9_end 38 = .ok (.iload_n 3, 1) := by decide +kernel
theorem dX9_end_39 : decode cX9_end 39 = .ok (.invokevirtual 61, 3) := by decide +kernel
theorem dX9_end_42 : decode cX9_end 42 = .ok (.istore 5, 2) := by decide +kernel
theorem dX9_end_44 : decode cX9_end 44 = .ok (.goto (-32), 3) := by decide +kernel
theorem dX9_end_47 : decode cX9_end 47 = .ok (.iload 4, 2) := by decide +kernel
theorem dX9_end_49 : decode cX9_end 49 = .ok (.ireturn, 1) := by decide +kernel
theorem dX9_runFrom_0 : decode cX9_runFrom 0 = .ok (.aload_n 0, 1) := by decide +kernel
theorem dX9_runFrom_1 : decode cX9_runFrom 1 = .ok (.iload_n 1, 1) := by decide +kernel
theorem dX9_runFrom_2 : decode cX9_runFrom 2 = .ok (.iload_n 2, 1) := by decide +kernel
theorem dX9_runFrom_3 : decode cX9_runFrom 3 = .ok (.iconst 1, 1) := by decide +kernel
theorem dX9_runFrom_4 : decode cX9_runFrom 4 = .ok (.invokevirtual 68, 3) := by decide +kernel
theorem dX9_runFrom_7 : decode cX9_runFrom 7 = .ok (.istore_n 3, 1) := by decide +kernel
theorem dX9_runFrom_8 : decode cX9_runFrom 8 = .ok (.iconst 1, 1) := by decide +kernel
theorem dX9_runFrom_9 : decode cX9_runFrom 9 = .ok (.istore 4, 2) := by decide +kernel
theorem dX9_runFrom_11 : decode cX9_runFrom 11 = .ok (.iload_n 1, 1) := by decide +kernel
theorem dX9_runFrom_12 : decode cX9_runFrom 12 = .ok (.istore 5, 2) := by decide +kernel
theorem dX9_runFrom_14 : decode cX9_runFrom 14 = .ok (.iload 5, 2) := by decide +kernel
theorem dX9_runFrom_16 : decode cX9_runFrom 16 = .ok (.iload_n 3, 1) := by decide +kernel
theorem dX9_runFrom_17 : decode cX9_runFrom 17 = .ok (.if_icmp .eq 18, 3) := by decide +kernel
theorem dX9_runFrom_20 : decode cX9_runFrom 20 = .ok (.iinc 4 1, 3) := by decide +kernel
theorem dX9_runFrom_23 : decode cX9_runFrom 23 = .ok (.aload_n 0, 1) := by decide +kernel
theorem dX9_runFrom_24 : decode cX9_runFrom 24 = .ok (.iload 5, 2) := by decide +kernel
theorem dX9_runFrom_26 : decode cX9_runFrom 26 = .ok (.iconst 1, 1) := by decide +kernel
theorem dX9_runFrom_27 : decode cX9_runFrom 27 = .ok (.invokevirtual 61, 3) := by decide +kernel
theorem dX9_runFrom_30 : decode cX9_runFrom 30 = .ok (.istore 5, 2) := by decide +kernel
theorem dX9_runFrom_32 : decode cX9_runFrom 32 = .ok (.goto (-18), 3) := by decide +kernel
theorem dX9_runFrom_35 : decode cX9_runFrom 35 = .ok (.iload 4, 2) := by decide +kernel
theorem dX9_runFrom_37 : decode cX9_runFrom 37 = .ok (.ireturn, 1) := by decide +kernel
theorem dX9_least_0 : decode cX9_least 0 = .ok (.iload_n 1, 1) := by decide +kernel
theorem dX9_least_1 : decode cX9_least 1 = .ok (.iload_n 2, 1) := by decide +kernel
theorem dX9_least_2 : decode cX9_least 2 = .ok (.if_icmp .ge 7, 3) := by decide +kernel
theorem dX9_least_5 : decode cX9_least 5 = .ok (.iload_n 1, 1) := by decide +kernel
theorem dX9_least_6 : decode cX9_least 6 = .ok (.goto 4, 3) := by decide +kernel
theorem dX9_least_9 : decode cX9_least 9 = .ok (.iload_n 2, 1) := by decide +kernel
theorem dX9_least_10 : decode cX9_least 10 = .ok (.ireturn, 1) := by decide +kernel
theorem dX9_dirtBy_0 : decode cX9_dirtBy 0 = .ok (.aload_n 0, 1) := by decide +kernel
theorem dX9_dirtBy_1 : decode cX9_dirtBy 1 = .ok (.iload_n 1, 1) := by decide +kernel
theorem dX9_dirtBy_2 : decode cX9_dirtBy 2 = .ok (.iload_n 2, 1) := by decide +kernel
theorem dX9_dirtBy_3 : decode cX9_dirtBy 3 = .ok (.invokevirtual 58, 3) := by decide +kernel
theorem dX9_dirtBy_6 : decode cX9_dirtBy 6 = .ok (.istore_n 3, 1) := by decide +kernel
theorem dX9_dirtBy_7 : decode cX9_dirtBy 7 = .ok (.aload_n 0, 1) := by decide +kernel
theorem dX9_dirtBy_8 : decode cX9_dirtBy 8 = .ok (.iload_n 1, 1) := by decide +kernel
theorem dX9_dirtBy_9 : decode cX9_dirtBy 9 = .ok (.invokevirtual 72, 3) := by decide +kernel
theorem dX9_dirtBy_12 : decode cX9_dirtBy 12 = .ok (.ifCond .ne 5, 3) := by decide +kernel
theorem dX9_dirtBy_15 : decode cX9_dirtBy 15 = .ok (.iload_n 3, 1) := by decide +kernel
theorem dX9_dirtBy_16 : decode cX9_dirtBy 16 = .ok (.ireturn, 1) := by decide +kernel
theorem dX9_dirtBy_17 : decode cX9_dirtBy 17 = .ok (.iload_n 3, 1) := by decide +kernel
theorem dX9_dirtBy_18 : decode cX9_dirtBy 18 = .ok (.aload_n 0, 1) := by decide +kernel
theorem dX9_dirtBy_19 : decode cX9_dirtBy 19 = .ok (.getfield 7, 3) := by decide +kernel
theorem dX9_dirtBy_22 : decode cX9_dirtBy 22 = .ok (.iload_n 1, 1) := by decide +kernel
theorem dX9_dirtBy_23 : decode cX9_dirtBy 23 = .ok (.iconst 4, 1) := by decide +kernel
theorem dX9_dirtBy_24 : decode cX9_dirtBy 24 = .ok (.invokestatic 40, 3) := by decide +kernel
theorem dX9_dirtBy_27 : decode cX9_dirtBy 27 = .ok (.laload, 1) := by decide +kernel
theorem dX9_dirtBy_28 : decode cX9_dirtBy 28 = .ok (.iload_n 2, 1) := by decide +kernel
theorem dX9_dirtBy_29 : decode cX9_dirtBy 29 = .ok (.invokestatic 44, 3) := by decide +kernel
theorem dX9_dirtBy_32 : decode cX9_dirtBy 32 = .ok (.isub, 1) := by decide +kernel
theorem dX9_dirtBy_33 : decode cX9_dirtBy 33 = .ok (.istore 4, 2) := by decide +kernel
theorem dX9_dirtBy_35 : decode cX9_dirtBy 35 = .ok (.iload 4, 2) := by decide +kernel
theorem dX9_dirtBy_37 : decode cX9_dirtBy 37 = .ok (.ifCond .le 8, 3) := by decide +kernel
theorem dX9_dirtBy_40 : decode cX9_dirtBy 40 = .ok (.iload 4, 2) := by decide +kernel
theorem dX9_dirtBy_42 : decode cX9_dirtBy 42 = .ok (.goto 4, 3) := by decide +kernel
theorem dX9_dirtBy_45 : decode cX9_dirtBy 45 = .ok (.iconst 0, 1) := by decide +kernel
theorem dX9_dirtBy_46 : decode cX9_dirtBy 46 = .ok (.ireturn, 1) := by decide +kernel
theorem dX9_dirt_0 : decode cX9_dirt 0 = .ok (.aload_n 0, 1) := by decide +kernel
theorem dX9_dirt_1 : decode cX9_dirt 1 = .ok (.iload_n 1, 1) := by decide +kernel
theorem dX9_dirt_2 : decode cX9_dirt 2 = .ok (.iload_n 2, 1) := by decide +kernel
theorem dX9_dirt_3 : decode cX9_dirt 3 = .ok (.invokevirtual 58, 3) := by decide +kernel
theorem dX9_dirt_6 : decode cX9_dirt 6 = .ok (.ifCond .ne 5, 3) := by decide +kernel
theorem dX9_dirt_9 : decode cX9_dirt 9 = .ok (.iconst 0, 1) := by decide +kernel
theorem dX9_dirt_10 : decode cX9_dirt 10 = .ok (.ireturn, 1) := by decide +kernel
theorem dX9_dirt_11 : decode cX9_dirt 11 = .ok (.aload_n 0, 1) := by decide +kernel
theorem dX9_dirt_12 : decode cX9_dirt 12 = .ok (.iload_n 1, 1) := by decide +kernel
theorem dX9_dirt_13 : decode cX9_dirt 13 = .ok (.iload_n 2, 1) := by decide +kernel
theorem dX9_dirt_14 : decode cX9_dirt 14 = .ok (.iconst (-1), 1) := by decide +kernel
theorem dX9_dirt_15 : decode cX9_dirt 15 = .ok (.invokevirtual 68, 3) := by decide +kernel
theorem dX9_dirt_18 : decode cX9_dirt 18 = .ok (.istore 4, 2) := by decide +kernel
theorem dX9_dirt_20 : decode cX9_dirt 20 = .ok (.aload_n 0, 1) := by decide +kernel
theorem dX9_dirt_21 : decode cX9_dirt 21 = .ok (.iload 4, 2) := by decide +kernel
theorem dX9_dirt_23 : decode cX9_dirt 23 = .ok (.iload_n 2, 1) := by decide +kernel
theorem dX9_dirt_24 : decode cX9_dirt 24 = .ok (.invokevirtual 76, 3) := by decide +kernel
theorem dX9_dirt_27 : decode cX9_dirt 27 = .ok (.iload_n 3, 1) := by decide +kernel
theorem dX9_dirt_28 : decode cX9_dirt 28 = .ok (.if_icmp .ge 5, 3) := by decide +kernel
theorem dX9_dirt_31 : decode cX9_dirt 31 = .ok (.iconst 0, 1) := by decide +kernel
theorem dX9_dirt_32 : decode cX9_dirt 32 = .ok (.ireturn, 1) := by decide +kernel
theorem dX9_dirt_33 : decode cX9_dirt 33 = .ok (.aload_n 0, 1) := by decide +kernel
theorem dX9_dirt_34 : decode cX9_dirt 34 = .ok (.iload_n 1, 1) := by decide +kernel
theorem dX9_dirt_35 : decode cX9_dirt 35 = .ok (.iload_n 2, 1) := by decide +kernel
theorem dX9_dirt_36 : decode cX9_dirt 36 = .ok (.iconst 1, 1) := by decide +kernel
theorem dX9_dirt_37 : decode cX9_dirt 37 = .ok (.invokevirtual 68, 3) := by decide +kernel
theorem dX9_dirt_40 : decode cX9_dirt 40 = .ok (.istore 5, 2) := by decide +kernel
theorem dX9_dirt_42 : decode cX9_dirt 42 = .ok (.aload_n 0, 1) := by decide +kernel
theorem dX9_dirt_43 : decode cX9_dirt 43 = .ok (.aload_n 0, 1) := by decide +kernel
theorem dX9_dirt_44 : decode cX9_dirt 44 = .ok (.iload 5, 2) := by decide +kernel
theorem dX9_dirt_46 : decode cX9_dirt 46 = .ok (.iload_n 2, 1) := by decide +kernel
theorem dX9_dirt_47 : decode cX9_dirt 47 = .ok (.invokevirtual 58, 3) := by decide +kernel
theorem dX9_dirt_50 : decode cX9_dirt 50 = .ok (.aload_n 0, 1) := by decide +kernel
theorem dX9_dirt_51 : decode cX9_dirt 51 = .ok (.iload 5, 2) := by decide +kernel
theorem dX9_dirt_53 : decode cX9_dirt 53 = .ok (.iload_n 2, 1) := by decide +kernel
theorem dX9_dirt_54 : decode cX9_dirt 54 = .ok (.invokevirtual 79, 3) := by decide +kernel
theorem dX9_dirt_57 : decode cX9_dirt 57 = .ok (.invokevirtual 82, 3) := by decide +kernel
theorem dX9_dirt_60 : decode cX9_dirt 60 = .ok (.istore 6, 2) := by decide +kernel
theorem dX9_dirt_62 : decode cX9_dirt 62 = .ok (.iload 4, 2) := by decide +kernel
theorem dX9_dirt_64 : decode cX9_dirt 64 = .ok (.istore 7, 2) := by decide +kernel
theorem dX9_dirt_66 : decode cX9_dirt 66 = .ok (.iload 7, 2) := by decide +kernel
theorem dX9_dirt_68 : decode cX9_dirt 68 = .ok (.iload 5, 2) := by decide +kernel
theorem dX9_dirt_70 : decode cX9_dirt 70 = .ok (.if_icmp .eq 41, 3) := by decide +kernel
theorem dX9_dirt_73 : decode cX9_dirt 73 = .ok (.aload_n 0, 1) := by decide +kernel
theorem dX9_dirt_74 : decode cX9_dirt 74 = .ok (.aload_n 0, 1) := by decide +kernel
theorem dX9_dirt_75 : decode cX9_dirt 75 = .ok (.iload 6, 2) := by decide +kernel
theorem dX9_dirt_77 : decode cX9_dirt 77 = .ok (.aload_n 0, 1) := by decide +kernel
theorem dX9_dirt_78 : decode cX9_dirt 78 = .ok (.iload 7, 2) := by decide +kernel
theorem dX9_dirt_80 : decode cX9_dirt 80 = .ok (.iload_n 2, 1) := by decide +kernel
theorem dX9_dirt_81 : decode cX9_dirt 81 = .ok (.invokevirtual 58, 3) := by decide +kernel
theorem dX9_dirt_84 : decode cX9_dirt 84 = .ok (.invokevirtual 82, 3) := by decide +kernel
theorem dX9_dirt_87 : decode cX9_dirt 87 = .ok (.aload_n 0, 1) := by decide +kernel
theorem dX9_dirt_88 : decode cX9_dirt 88 = .ok (.iload 7, 2) := by decide +kernel
theorem dX9_dirt_90 : decode cX9_dirt 90 = .ok (.iload_n 2, 1) := by decide +kernel
theorem dX9_dirt_91 : decode cX9_dirt 91 = .ok (.invokevirtual 79, 3) := by decide +kernel
theorem dX9_dirt_94 : decode cX9_dirt 94 = .ok (.invokevirtual 82, 3) := by decide +kernel
theorem dX9_dirt_97 : decode cX9_dirt 97 = .ok (.istore 6, 2) := by decide +kernel
theorem dX9_dirt_99 : decode cX9_dirt 99 = .ok (.aload_n 0, 1) := by decide +kernel
theorem dX9_dirt_100 : decode cX9_dirt 100 = .ok (.iload 7, 2) := by decide +kernel
theorem dX9_dirt_102 : decode cX9_dirt 102 = .ok (.iconst 1, 1) := by decide +kernel
theorem dX9_dirt_103 : decode cX9_dirt 103 = .ok (.invokevirtual 61, 3) := by decide +kernel
theorem dX9_dirt_106 : decode cX9_dirt 106 = .ok (.istore 7, 2) := by decide +kernel
theorem dX9_dirt_108 : decode cX9_dirt 108 = .ok (.goto (-42), 3) := by decide +kernel
theorem dX9_dirt_111 : decode cX9_dirt 111 = .ok (.iload 6, 2) := by decide +kernel
theorem dX9_dirt_113 : decode cX9_dirt 113 = .ok (.ireturn, 1) := by decide +kernel
theorem dX9_clear_0 : decode cX9_clear 0 = .ok (.aload_n 0, 1) := by decide +kernel
theorem dX9_clear_1 : decode cX9_clear 1 = .ok (.iload_n 1, 1) := by decide +kernel
theorem dX9_clear_2 : decode cX9_clear 2 = .ok (.invokevirtual 72, 3) := by decide +kernel
theorem dX9_clear_5 : decode cX9_clear 5 = .ok (.ifCond .eq 20, 3) := by decide +kernel
theorem dX9_clear_8 : decode cX9_clear 8 = .ok (.aload_n 0, 1) := by decide +kernel
theorem dX9_clear_9 : decode cX9_clear 9 = .ok (.getfield 7, 3) := by decide +kernel
theorem dX9_clear_12 : decode cX9_clear 12 = .ok (.iload_n 1, 1) := by decide +kernel
theorem dX9_clear_13 : decode cX9_clear 13 = .ok (.iconst 4, 1) := by decide +kernel
theorem dX9_clear_14 : decode cX9_clear 14 = .ok (.invokestatic 40, 3) := by decide +kernel
theorem dX9_clear_17 : decode cX9_clear 17 = .ok (.laload, 1) := by decide +kernel
theorem dX9_clear_18 : decode cX9_clear 18 = .ok (.iload_n 2, 1) := by decide +kernel
theorem dX9_clear_19 : decode cX9_clear 19 = .ok (.invokestatic 44, 3) := by decide +kernel
theorem dX9_clear_22 : decode cX9_clear 22 = .ok (.goto 17, 3) := by decide +kernel
theorem dX9_clear_25 : decode cX9_clear 25 = .ok (.aload_n 0, 1) := by decide +kernel
theorem dX9_clear_26 : decode cX9_clear 26 = .ok (.iload_n 1, 1) := by decide +kernel
theorem dX9_clear_27 : decode cX9_clear 27 = .ok (.iload_n 2, 1) := by decide +kernel
theorem dX9_clear_28 : decode cX9_clear 28 = .ok (.invokevirtual 58, 3) := by decide +kernel
theorem dX9_clear_31 : decode cX9_clear 31 = .ok (.aload_n 0, 1) := by decide +kernel
theorem dX9_clear_32 : decode cX9_clear 32 = .ok (.iload_n 1, 1) := by decide +kernel
theorem dX9_clear_33 : decode cX9_clear 33 = .ok (.iload_n 2, 1) := by decide +kernel
theorem dX9_clear_34 : decode cX9_clear 34 = .ok (.iload_n 3, 1) := by decide +kernel
theorem dX9_clear_35 : decode cX9_clear 35 = .ok (.invokevirtual 85, 3) := by decide +kernel
theorem dX9_clear_38 : decode cX9_clear 38 = .ok (.isub, 1) := by decide +kernel
theorem dX9_clear_39 : decode cX9_clear 39 = .ok (.ireturn, 1) := by decide +kernel
theorem dX9_mark_0 : decode cX9_mark 0 = .ok (.aload_n 0, 1) := by decide +kernel
theorem dX9_mark_1 : decode cX9_mark 1 = .ok (.iload_n 1, 1) := by decide +kernel
theorem dX9_mark_2 : decode cX9_mark 2 = .ok (.iload_n 2, 1) := by decide +kernel
theorem dX9_mark_3 : decode cX9_mark 3 = .ok (.iload_n 3, 1) := by decide +kernel
theorem dX9_mark_4 : decode cX9_mark 4 = .ok (.invokevirtual 88, 3) := by decide +kernel
theorem dX9_mark_7 : decode cX9_mark 7 = .ok (.istore 4, 2) := by decide +kernel
theorem dX9_mark_9 : decode cX9_mark 9 = .ok (.iload 4, 2) := by decide +kernel
theorem dX9_mark_11 : decode cX9_mark 11 = .ok (.i2l, 1) := by decide +kernel
theorem dX9_mark_12 : decode cX9_mark 12 = .ok (.aload_n 0, 1) := by decide +kernel
theorem dX9_mark_13 : decode cX9_mark 13 = .ok (.getfield 7, 3) := by decide +kernel
theorem dX9_mark_16 : decode cX9_mark 16 = .ok (.iconst 3, 1) := by decide +kernel
theorem dX9_mark_17 : decode cX9_mark 17 = .ok (.laload, 1) := by decide +kernel
theorem dX9_mark_18 : decode cX9_mark 18 = .ok (.lcmp, 1) := by decide +kernel
theorem dX9_mark_19 : decode cX9_mark 19 = .ok (.ifCond .lt 7, 3) := by decide +kernel
theorem dX9_mark_22 : decode cX9_mark 22 = .ok (.iconst 2, 1) := by decide +kernel
theorem dX9_mark_23 : decode cX9_mark 23 = .ok (.goto 29, 3) := by decide +kernel
theorem dX9_mark_26 : decode cX9_mark 26 = .ok (.aload_n 0, 1) := by decide +kernel
theorem dX9_mark_27 : decode cX9_mark 27 = .ok (.iload_n 1, 1) := by decide +kernel
theorem dX9_mark_28 : decode cX9_mark 28 = .ok (.invokevirtual 72, 3) := by decide +kernel
theorem dX9_mark_31 : decode cX9_mark 31 = .ok (.ifCond .ne 20, 3) := by decide +kernel
theorem dX9_mark_34 : decode cX9_mark 34 = .ok (.iload 4, 2) := by decide +kernel
theorem dX9_mark_36 : decode cX9_mark 36 = .ok (.i2l, 1) := by decide +kernel
theorem dX9_mark_37 : decode cX9_mark 37 = .ok (.aload_n 0, 1) := by decide +kernel
theorem dX9_mark_38 : decode cX9_mark 38 = .ok (.getfield 7, 3) := by decide +kernel
theorem dX9_mark_41 : decode cX9_mark 41 = .ok (.iconst 4, 1) := by decide +kernel
theorem dX9_mark_42 : decode cX9_mark 42 = .ok (.laload, 1) := by decide +kernel
theorem dX9_mark_43 : decode cX9_mark 43 = .ok (.lcmp, 1) := by decide +kernel
theorem dX9_mark_44 : decode cX9_mark 44 = .ok (.ifCond .lt 7, 3) := by decide +kernel
theorem dX9_mark_47 : decode cX9_mark 47 = .ok (.iconst 1, 1) := by decide +kernel
theorem dX9_mark_48 : decode cX9_mark 48 = .ok (.goto 4, 3) := by decide +kernel
theorem dX9_mark_51 : decode cX9_mark 51 = .ok (.iconst 0, 1) := by decide +kernel
theorem dX9_mark_52 : decode cX9_mark 52 = .ok (.ireturn, 1) := by decide +kernel
theorem dX9_outcomeBy_0 : decode cX9_outcomeBy 0 = .ok (.iconst 0, 1) := by decide +kernel
theorem dX9_outcomeBy_1 : decode cX9_outcomeBy 1 = .ok (.istore 4, 2) := by decide +kernel
theorem dX9_outcomeBy_3 : decode cX9_outcomeBy 3 = .ok (.iconst 3, 1) := by decide +kernel
theorem dX9_outcomeBy_4 : decode cX9_outcomeBy 4 = .ok (.istore 5, 2) := by decide +kernel
theorem dX9_outcomeBy_6 : decode cX9_outcomeBy 6 = .ok (.iconst 0, 1) := by decide +kernel
theorem dX9_outcomeBy_7 : decode cX9_outcomeBy 7 = .ok (.istore 6, 2) := by decide +kernel
theorem dX9_outcomeBy_9 : decode cX9_outcomeBy 9 = .ok (.iconst 0, 1) := by decide +kernel
theorem dX9_outcomeBy_10 : decode cX9_outcomeBy 10 = .ok (.istore 7, 2) := by decide +kernel
theorem dX9_outcomeBy_12 : decode cX9_outcomeBy 12 = .ok (.iload 7, 2) := by decide +kernel
theorem dX9_outcomeBy_14 : decode cX9_outcomeBy 14 = .ok (.iconst 3, 1) := by decide +kernel
theorem dX9_outcomeBy_15 : decode cX9_outcomeBy 15 = .ok (.if_icmp .ge 72, 3) := by decide +kernel
theorem dX9_outcomeBy_18 : decode cX9_outcomeBy 18 = .ok (.aload_n 0, 1) := by decide +kernel
theorem dX9_outcomeBy_19 : decode cX9_outcomeBy 19 = .ok (.iload_n 1, 1) := by decide +kernel
theorem dX9_outcomeBy_20 : decode cX9_outcomeBy 20 = .ok (.iconst 3, 1) := by decide +kernel
theorem dX9_outcomeBy_21 : decode cX9_outcomeBy 21 = .ok (.iload_n 2, 1) := by decide +kernel
theorem dX9_outcomeBy_22 : decode cX9_outcomeBy 22 = .ok (.imul, 1) := by decide +kernel
theorem dX9_outcomeBy_23 : decode cX9_outcomeBy 23 = .ok (.iload 7, 2) := by decide +kernel
theorem dX9_outcomeBy_25 : decode cX9_outcomeBy 25 = .ok (.iadd, 1) := by decide +kernel
theorem dX9_outcomeBy_26 : decode cX9_outcomeBy 26 = .ok (.iload_n 3, 1) := by decide +kernel
theorem dX9_outcomeBy_27 : decode cX9_outcomeBy 27 = .ok (.invokevirtual 91, 3) := by decide +kernel
theorem dX9_outcomeBy_30 : decode cX9_outcomeBy 30 = .ok (.istore 8, 2) := by decide +kernel
theorem dX9_outcomeBy_32 : decode cX9_outcomeBy 32 = .ok (.iload 6, 2) := by decide +kernel
theorem dX9_outcomeBy_34 : decode cX9_outcomeBy 34 = .ok (.ifCond .ne 9, 3) := by decide +kernel
theorem dX9_outcomeBy_37 : decode cX9_outcomeBy 37 = .ok (.iload 8, 2) := by decide +kernel
theorem dX9_outcomeBy_39 : decode cX9_outcomeBy 39 = .ok (.iconst 1, 1) := by decide +kernel
theorem dX9_outcomeBy_40 : decode cX9_outcomeBy 40 = .ok (.if_icmp .ne 7, 3) := by decide +kernel
theorem dX9_outcomeBy_43 : decode cX9_outcomeBy 43 = .ok (.iconst 1, 1) := by decide +kernel
theorem dX9_outcomeBy_44 : decode cX9_outcomeBy 44 = .ok (.goto 4, 3) := by decide +kernel
theorem dX9_outcomeBy_47 : decode cX9_outcomeBy 47 = .ok (.iconst 0, 1) := by decide +kernel
theorem dX9_outcomeBy_48 : decode cX9_outcomeBy 48 = .ok (.istore 6, 2) := by decide +kernel
theorem dX9_outcomeBy_50 : decode cX9_outcomeBy 50 = .ok (.iload 4, 2) := by decide +kernel
theorem dX9_outcomeBy_52 : decode cX9_outcomeBy 52 = .ok (.iload 8, 2) := by decide +kernel
theorem dX9_outcomeBy_54 : decode cX9_outcomeBy 54 = .ok (.iconst 2, 1) := by decide +kernel
theorem dX9_outcomeBy_55 : decode cX9_outcomeBy 55 = .ok (.if_icmp .ne 7, 3) := by decide +kernel
theorem dX9_outcomeBy_58 : decode cX9_outcomeBy 58 = .ok (.iconst 1, 1) := by decide +kernel
theorem dX9_outcomeBy_59 : decode cX9_outcomeBy 59 = .ok (.goto 4, 3) := by decide +kernel
theorem dX9_outcomeBy_62 : decode cX9_outcomeBy 62 = .ok (.iconst 0, 1) := by decide +kernel
theorem dX9_outcomeBy_63 : decode cX9_outcomeBy 63 = .ok (.iadd, 1) := by decide +kernel
theorem dX9_outcomeBy_64 : decode cX9_outcomeBy 64 = .ok (.istore 4, 2) := by decide +kernel
theorem dX9_outcomeBy_66 : decode cX9_outcomeBy 66 = .ok (.iload 8, 2) := by decide +kernel
theorem dX9_outcomeBy_68 : decode cX9_outcomeBy 68 = .ok (.iconst 2, 1) := by decide +kernel
theorem dX9_outcomeBy_69 : decode cX9_outcomeBy 69 = .ok (.if_icmp .ne 8, 3) := by decide +kernel
theorem dX9_outcomeBy_72 : decode cX9_outcomeBy 72 = .ok (.iload 7, 2) := by decide +kernel
theorem dX9_outcomeBy_74 : decode cX9_outcomeBy 74 = .ok (.goto 5, 3) := by decide +kernel
theorem dX9_outcomeBy_77 : decode cX9_outcomeBy 77 = .ok (.iload 5, 2) := by decide +kernel
theorem dX9_outcomeBy_79 : decode cX9_outcomeBy 79 = .ok (.istore 5, 2) := by decide +kernel
theorem dX9_outcomeBy_81 : decode cX9_outcomeBy 81 = .ok (.iinc 7 1, 3) := by decide +kernel
theorem dX9_outcomeBy_84 : decode cX9_outcomeBy 84 = .ok (.goto (-72), 3) := by decide +kernel
theorem dX9_outcomeBy_87 : decode cX9_outcomeBy 87 = .ok (.iload 4, 2) := by decide +kernel
theorem dX9_outcomeBy_89 : decode cX9_outcomeBy 89 = .ok (.iconst 1, 1) := by decide +kernel
theorem dX9_outcomeBy_90 : decode cX9_outcomeBy 90 = .ok (.if_icmp .le 7, 3) := by decide +kernel
theorem dX9_outcomeBy_93 : decode cX9_outcomeBy 93 = .ok (.iconst 4, 1) := by decide +kernel
theorem dX9_outcomeBy_94 : decode cX9_outcomeBy 94 = .ok (.goto 14, 3) := by decide +kernel
theorem dX9_outcomeBy_97 : decode cX9_outcomeBy 97 = .ok (.iload 6, 2) := by decide +kernel
theorem dX9_outcomeBy_99 : decode cX9_outcomeBy 99 = .ok (.ifCond .eq 7, 3) := by decide +kernel
theorem dX9_outcomeBy_102 : decode cX9_outcomeBy 102 = .ok (.iconst 5, 1) := by decide +kernel
theorem dX9_outcomeBy_103 : decode cX9_outcomeBy 103 = .ok (.goto 5, 3) := by decide +kernel
theorem dX9_outcomeBy_106 : decode cX9_outcomeBy 106 = .ok (.iload 5, 2) := by decide +kernel
theorem dX9_outcomeBy_108 : decode cX9_outcomeBy 108 = .ok (.ireturn, 1) := by decide +kernel
theorem dX9_length_0 : decode cX9_length 0 = .ok (.aload_n 0, 1) := by decide +kernel
theorem dX9_length_1 : decode cX9_length 1 = .ok (.getfield 7, 3) := by decide +kernel
theorem dX9_length_4 : decode cX9_length 4 = .ok (.iconst 2, 1) := by decide +kernel
theorem dX9_length_5 : decode cX9_length 5 = .ok (.laload, 1) := by decide +kernel
theorem dX9_length_6 : decode cX9_length 6 = .ok (.l2i, 1) := by decide +kernel
theorem dX9_length_7 : decode cX9_length 7 = .ok (.ireturn, 1) := by decide +kernel
theorem dX9_outcomes_0 : decode cX9_outcomes 0 = .ok (.lconst 0, 1) := by decide +kernel
theorem dX9_outcomes_1 : decode cX9_outcomes 1 = .ok (.lstore_n 3, 1) := by decide +kernel
theorem dX9_outcomes_2 : decode cX9_outcomes 2 = .ok (.iconst 3, 1) := by decide +kernel
theorem dX9_outcomes_3 : decode cX9_outcomes 3 = .ok (.istore 5, 2) := by decide +kernel
theorem dX9_outcomes_5 : decode cX9_outcomes 5 = .ok (.iload 5, 2) := by decide +kernel
theorem dX9_outcomes_7 : decode cX9_outcomes 7 = .ok (.ifCond .lt 25, 3) := by decide +kernel
theorem dX9_outcomes_10 : decode cX9_outcomes 10 = .ok (.ldc2_w 94, 3) := by decide +kernel
theorem dX9_outcomes_13 : decode cX9_outcomes 13 = .ok (.lload_n 3, 1) := by decide +kernel
theorem dX9_outcomes_14 : decode cX9_outcomes 14 = .ok (.lmul, 1) := by decide +kernel
theorem dX9_outcomes_15 : decode cX9_outcomes 15 = .ok (.aload_n 0, 1) := by decide +kernel
theorem dX9_outcomes_16 : decode cX9_outcomes 16 = .ok (.iload_n 1, 1) := by decide +kernel
theorem dX9_outcomes_17 : decode cX9_outcomes 17 = .ok (.iload 5, 2) := by decide +kernel
theorem dX9_outcomes_19 : decode cX9_outcomes 19 = .ok (.iload_n 2, 1) := by decide +kernel
theorem dX9_outcomes_20 : decode cX9_outcomes 20 = .ok (.invokevirtual 96, 3) := by decide +kernel
theorem dX9_outcomes_23 : decode cX9_outcomes 23 = .ok (.i2l, 1) := by decide +kernel
theorem dX9_outcomes_24 : decode cX9_outcomes 24 = .ok (.ladd, 1) := by decide +kernel
theorem dX9_outcomes_25 : decode cX9_outcomes 25 = .ok (.lstore_n 3, 1) := by decide +kernel
theorem dX9_outcomes_26 : decode cX9_outcomes 26 = .ok (.iinc 5 (-1), 3) := by decide +kernel
theorem dX9_outcomes_29 : decode cX9_outcomes 29 = .ok (.goto (-24), 3) := by decide +kernel
theorem dX9_outcomes_32 : decode cX9_outcomes 32 = .ok (.lload_n 3, 1) := by decide +kernel
theorem dX9_outcomes_33 : decode cX9_outcomes 33 = .ok (.lreturn, 1) := by decide +kernel
theorem dX9_outcomeIn_0 : decode cX9_outcomeIn 0 = .ok (.lload_n 0, 1) := by decide +kernel
theorem dX9_outcomeIn_1 : decode cX9_outcomeIn 1 = .ok (.iconst 3, 1) := by decide +kernel
theorem dX9_outcomeIn_2 : decode cX9_outcomeIn 2 = .ok (.iload_n 2, 1) := by decide +kernel
theorem dX9_outcomeIn_3 : decode cX9_outcomeIn 3 = .ok (.imul, 1) := by decide +kernel
theorem dX9_outcomeIn_4 : decode cX9_outcomeIn 4 = .ok (.lshr, 1) := by decide +kernel
theorem dX9_outcomeIn_5 : decode cX9_outcomeIn 5 = .ok (.ldc2_w 99, 3) := by decide +kernel
theorem dX9_outcomeIn_8 : decode cX9_outcomeIn 8 = .ok (.land, 1) := by decide +kernel
theorem dX9_outcomeIn_9 : decode cX9_outcomeIn 9 = .ok (.l2i, 1) := by decide +kernel
theorem dX9_outcomeIn_10 : decode cX9_outcomeIn 10 = .ok (.ireturn, 1) := by decide +kernel
theorem dX9_differences_0 : decode cX9_differences 0 = .ok (.iconst 0, 1) := by decide +kernel
theorem dX9_differences_1 : decode cX9_differences 1 = .ok (.istore 4, 2) := by decide +kernel
theorem dX9_differences_3 : decode cX9_differences 3 = .ok (.iconst 0, 1) := by decide +kernel
theorem dX9_differences_4 : decode cX9_differences 4 = .ok (.istore 5, 2) := by decide +kernel
theorem dX9_differences_6 : decode cX9_differences 6 = .ok (.iload 5, 2) := by decide +kernel
theorem dX9_differences_8 : decode cX9_differences 8 = .ok (.iconst 4, 1) := by decide +kernel
theorem dX9_differences_9 : decode cX9_differences 9 = .ok (.if_icmp .ge 37, 3) := by decide +kernel
theorem dX9_differences_12 : decode cX9_differences 12 = .ok (.iload 4, 2) := by decide +kernel
theorem dX9_differences_14 : decode cX9_differences 14 = .ok (.lload_n 0, 1) := by decide +kernel
theorem dX9_differences_15 : decode cX9_differences 15 = .ok (.iload 5, 2) := by decide +kernel
theorem dX9_differences_17 : decode cX9_differences 17 = .ok (.invokestatic 101, 3) := by decide +kernel
theorem dX9_differences_20 : decode cX9_differences 20 = .ok (.lload_n 2, 1) := by decide +kernel
theorem dX9_differences_21 : decode cX9_differences 21 = .ok (.iload 5, 2) := by decide +kernel
theorem dX9_differences_23 : decode cX9_differences 23 = .ok (.invokestatic 101, 3) := by decide +kernel
theorem dX9_differences_26 : decode cX9_differences 26 = .ok (.if_icmp .eq 10, 3) := by decide +kernel
theorem dX9_differences_29 : decode cX9_differences 29 = .ok (.iconst 1, 1) := by decide +kernel
theorem dX9_differences_30 : decode cX9_differences 30 = .ok (.iload 5, 2) := by decide +kernel
theorem dX9_differences_32 : decode cX9_differences 32 = .ok (.ishl, 1) := by decide +kernel
theorem dX9_differences_33 : decode cX9_differences 33 = .ok (.goto 4, 3) := by decide +kernel
theorem dX9_differences_36 : decode cX9_differences 36 = .ok (.iconst 0, 1) := by decide +kernel
theorem dX9_differences_37 : decode cX9_differences 37 = .ok (.ior, 1) := by decide +kernel
theorem dX9_differences_38 : decode cX9_differences 38 = .ok (.istore 4, 2) := by decide +kernel
theorem dX9_differences_40 : decode cX9_differences 40 = .ok (.iinc 5 1, 3) := by decide +kernel
theorem dX9_differences_43 : decode cX9_differences 43 = .ok (.goto (-37), 3) := by decide +kernel
theorem dX9_differences_46 : decode cX9_differences 46 = .ok (.iload 4, 2) := by decide +kernel
theorem dX9_differences_48 : decode cX9_differences 48 = .ok (.ireturn, 1) := by decide +kernel
theorem dX9_v_0 : decode cX9_v 0 = .ok (.sipush 209, 3) := by decide +kernel
theorem dX9_v_3 : decode cX9_v 3 = .ok (.bipush 41, 2) := by decide +kernel
theorem dX9_v_5 : decode cX9_v 5 = .ok (.iload_n 0, 1) := by decide +kernel
theorem dX9_v_6 : decode cX9_v 6 = .ok (.imul, 1) := by decide +kernel
theorem dX9_v_7 : decode cX9_v 7 = .ok (.iadd, 1) := by decide +kernel
theorem dX9_v_8 : decode cX9_v 8 = .ok (.iload_n 1, 1) := by decide +kernel
theorem dX9_v_9 : decode cX9_v 9 = .ok (.iadd, 1) := by decide +kernel
theorem dX9_v_10 : decode cX9_v 10 = .ok (.ireturn, 1) := by decide +kernel
theorem dX9_isVersion_0 : decode cX9_isVersion 0 = .ok (.iload_n 1, 1) := by decide +kernel
theorem dX9_isVersion_1 : decode cX9_isVersion 1 = .ok (.i2l, 1) := by decide +kernel
theorem dX9_isVersion_2 : decode cX9_isVersion 2 = .ok (.lconst 0, 1) := by decide +kernel
theorem dX9_isVersion_3 : decode cX9_isVersion 3 = .ok (.aload_n 0, 1) := by decide +kernel
theorem dX9_isVersion_4 : decode cX9_isVersion 4 = .ok (.getfield 7, 3) := by decide +kernel
theorem dX9_isVersion_7 : decode cX9_isVersion 7 = .ok (.iconst 1, 1) := by decide +kernel
theorem dX9_isVersion_8 : decode cX9_isVersion 8 = .ok (.laload, 1) := by decide +kernel
theorem dX9_isVersion_9 : decode cX9_isVersion 9 = .ok (.lconst 1, 1) := by decide +kernel
theorem dX9_isVersion_10 : decode cX9_isVersion 10 = .ok (.lsub, 1) := by decide +kernel
theorem dX9_isVersion_11 : decode cX9_isVersion 11 = .ok (.invokestatic 32, 3) := by decide +kernel
theorem dX9_isVersion_14 : decode cX9_isVersion 14 = .ok (.ireturn, 1) := by decide +kernel
theorem dX9_changes_0 : decode cX9_changes 0 = .ok (.aload_n 0, 1) := by decide +kernel
theorem dX9_changes_1 : decode cX9_changes 1 = .ok (.getfield 7, 3) := by decide +kernel
theorem dX9_changes_4 : decode cX9_changes 4 = .ok (.iconst 1, 1) := by decide +kernel
theorem dX9_changes_5 : decode cX9_changes 5 = .ok (.laload, 1) := by decide +kernel
theorem dX9_changes_6 : decode cX9_changes 6 = .ok (.l2i, 1) := by decide +kernel
theorem dX9_changes_7 : decode cX9_changes 7 = .ok (.iconst 1, 1) := by decide +kernel
theorem dX9_changes_8 : decode cX9_changes 8 = .ok (.isub, 1) := by decide +kernel
theorem dX9_changes_9 : decode cX9_changes 9 = .ok (.istore_n 2, 1) := by decide +kernel
theorem dX9_changes_10 : decode cX9_changes 10 = .ok (.iload_n 2, 1) := by decide +kernel
theorem dX9_changes_11 : decode cX9_changes 11 = .ok (.ifCond .lt 19, 3) := by decide +kernel
theorem dX9_changes_14 : decode cX9_changes 14 = .ok (.iload_n 1, 1) := by decide +kernel
theorem dX9_changes_15 : decode cX9_changes 15 = .ok (.i2l, 1) := by decide +kernel
theorem dX9_changes_16 : decode cX9_changes 16 = .ok (.aload_n 0, 1) := by decide +kernel
theorem dX9_changes_17 : decode cX9_changes 17 = .ok (.getfield 7, 3) := by decide +kernel
theorem dX9_changes_20 : decode cX9_changes 20 = .ok (.iload_n 2, 1) := by decide +kernel
theorem dX9_changes_21 : decode cX9_changes 21 = .ok (.iconst 0, 1) := by decide +kernel
theorem dX9_changes_22 : decode cX9_changes 22 = .ok (.invokestatic 104, 3) := by decide +kernel
theorem dX9_changes_25 : decode cX9_changes 25 = .ok (.laload, 1) := by decide +kernel
theorem dX9_changes_26 : decode cX9_changes 26 = .ok (.lcmp, 1) := by decide +kernel
theorem dX9_changes_27 : decode cX9_changes 27 = .ok (.ifCond .lt 5, 3) := by decide +kernel
theorem dX9_changes_30 : decode cX9_changes 30 = .ok (.iconst 0, 1) := by decide +kernel
theorem dX9_changes_31 : decode cX9_changes 31 = .ok (.ireturn, 1) := by decide +kernel
theorem dX9_changes_32 : decode cX9_changes 32 = .ok (.aload_n 0, 1) := by decide +kernel
theorem dX9_changes_33 : decode cX9_changes 33 = .ok (.iload_n 1, 1) := by decide +kernel
theorem dX9_changes_34 : decode cX9_changes 34 = .ok (.aload_n 0, 1) := by decide +kernel
theorem dX9_changes_35 : decode cX9_changes 35 = .ok (.invokevirtual 107, 3) := by decide +kernel
theorem dX9_changes_38 : decode cX9_changes 38 = .ok (.invokevirtual 111, 3) := by decide +kernel
theorem dX9_changes_41 : decode cX9_changes 41 = .ok (.aload_n 0, 1) := by decide +kernel
theorem dX9_changes_42 : decode cX9_changes 42 = .ok (.getfield 7, 3) := by decide +kernel
theorem dX9_changes_45 : decode cX9_changes 45 = .ok (.iload_n 2, 1) := by decide +kernel
theorem dX9_changes_46 : decode cX9_changes 46 = .ok (.iconst 1, 1) := by decide +kernel
theorem dX9_changes_47 : decode cX9_changes 47 = .ok (.iload_n 1, 1) := by decide +kernel
theorem dX9_changes_48 : decode cX9_changes 48 = .ok (.iadd, 1) := by decide +kernel
theorem dX9_changes_49 : decode cX9_changes 49 = .ok (.invokestatic 104, 3) := by decide +kernel
theorem dX9_changes_52 : decode cX9_changes 52 = .ok (.laload, 1) := by decide +kernel
theorem dX9_changes_53 : decode cX9_changes 53 = .ok (.invokestatic 115, 3) := by decide +kernel
theorem dX9_changes_56 : decode cX9_changes 56 = .ok (.ireturn, 1) := by decide +kernel
theorem dX9_doubtful_0 : decode cX9_doubtful 0 = .ok (.iconst 0, 1) := by decide +kernel
theorem dX9_doubtful_1 : decode cX9_doubtful 1 = .ok (.istore_n 2, 1) := by decide +kernel
theorem dX9_doubtful_2 : decode cX9_doubtful 2 = .ok (.iconst 0, 1) := by decide +kernel
theorem dX9_doubtful_3 : decode cX9_doubtful 3 = .ok (.istore_n 3, 1) := by decide +kernel
theorem dX9_doubtful_4 : decode cX9_doubtful 4 = .ok (.iload_n 3, 1) := by decide +kernel
theorem dX9_doubtful_5 : decode cX9_doubtful 5 = .ok (.iconst 4, 1) := by decide +kernel
theorem dX9_doubtful_6 : decode cX9_doubtful 6 = .ok (.if_icmp .ge 33, 3) := by decide +kernel
theorem dX9_doubtful_9 : decode cX9_doubtful 9 = .ok (.iload_n 2, 1) := by decide +kernel
theorem dX9_doubtful_10 : decode cX9_doubtful 10 = .ok (.aload_n 0, 1) := by decide +kernel
theorem dX9_doubtful_11 : decode cX9_doubtful 11 = .ok (.iload_n 1, 1) := by decide +kernel
theorem dX9_doubtful_12 : decode cX9_doubtful 12 = .ok (.iload_n 3, 1) := by decide +kernel
theorem dX9_doubtful_13 : decode cX9_doubtful 13 = .ok (.aload_n 0, 1) := by decide +kernel
theorem dX9_doubtful_14 : decode cX9_doubtful 14 = .ok (.invokevirtual 107, 3) := by decide +kernel
theorem dX9_doubtful_17 : decode cX9_doubtful 17 = .ok (.invokevirtual 96, 3) := by decide +kernel
theorem dX9_doubtful_20 : decode cX9_doubtful 20 = .ok (.iconst 5, 1) := by decide +kernel
theorem dX9_doubtful_21 : decode cX9_doubtful 21 = .ok (.if_icmp .ne 9, 3) := by decide +kernel
theorem dX9_doubtful_24 : decode cX9_doubtful 24 = .ok (.iconst 1, 1) := by decide +kernel
theorem dX9_doubtful_25 : decode cX9_doubtful 25 = .ok (.iload_n 3, 1) := by decide +kernel
theorem dX9_doubtful_26 : decode cX9_doubtful 26 = .ok (.ishl, 1) := by decide +kernel
theorem dX9_doubtful_27 : decode cX9_doubtful 27 = .ok (.goto 4, 3) := by decide +kernel
theorem dX9_doubtful_30 : decode cX9_doubtful 30 = .ok (.iconst 0, 1) := by decide +kernel
theorem dX9_doubtful_31 : decode cX9_doubtful 31 = .ok (.ior, 1) := by decide +kernel
theorem dX9_doubtful_32 : decode cX9_doubtful 32 = .ok (.istore_n 2, 1) := by decide +kernel
theorem dX9_doubtful_33 : decode cX9_doubtful 33 = .ok (.iinc 3 1, 3) := by decide +kernel
theorem dX9_doubtful_36 : decode cX9_doubtful 36 = .ok (.goto (-32), 3) := by decide +kernel
theorem dX9_doubtful_39 : decode cX9_doubtful 39 = .ok (.iload_n 2, 1) := by decide +kernel
theorem dX9_doubtful_40 : decode cX9_doubtful 40 = .ok (.ireturn, 1) := by decide +kernel
theorem dX9_isInPool_0 : decode cX9_isInPool 0 = .ok (.aload_n 0, 1) := by decide +kernel
theorem dX9_isInPool_1 : decode cX9_isInPool 1 = .ok (.getfield 7, 3) := by decide +kernel
theorem dX9_isInPool_4 : decode cX9_isInPool 4 = .ok (.iload_n 1, 1) := by decide +kernel
theorem dX9_isInPool_5 : decode cX9_isInPool 5 = .ok (.iconst 3, 1) := by decide +kernel
theorem dX9_isInPool_6 : decode cX9_isInPool 6 = .ok (.invokestatic 40, 3) := by decide +kernel
theorem dX9_isInPool_9 : decode cX9_isInPool 9 = .ok (.laload, 1) := by decide +kernel
theorem dX9_isInPool_10 : decode cX9_isInPool 10 = .ok (.lconst 0, 1) := by decide +kernel
theorem dX9_isInPool_11 : decode cX9_isInPool 11 = .ok (.lcmp, 1) := by decide +kernel
theorem dX9_isInPool_12 : decode cX9_isInPool 12 = .ok (.ifCond .ne 23, 3) := by decide +kernel
theorem dX9_isInPool_15 : decode cX9_isInPool 15 = .ok (.aload_n 0, 1) := by decide +kernel
theorem dX9_isInPool_16 : decode cX9_isInPool 16 = .ok (.iload_n 1, 1) := by decide +kernel
theorem dX9_isInPool_17 : decode cX9_isInPool 17 = .ok (.invokevirtual 119, 3) := by decide +kernel
theorem dX9_isInPool_20 : decode cX9_isInPool 20 = .ok (.ifCond .ne 11, 3) := by decide +kernel
theorem dX9_isInPool_23 : decode cX9_isInPool 23 = .ok (.aload_n 0, 1) := by decide +kernel
theorem dX9_isInPool_24 : decode cX9_isInPool 24 = .ok (.iload_n 1, 1) := by decide +kernel
theorem dX9_isInPool_25 : decode cX9_isInPool 25 = .ok (.invokevirtual 123, 3) := by decide +kernel
theorem dX9_isInPool_28 : decode cX9_isInPool 28 = .ok (.ifCond .eq 7, 3) := by decide +kernel
theorem dX9_isInPool_31 : decode cX9_isInPool 31 = .ok (.iconst 1, 1) := by decide +kernel
theorem dX9_isInPool_32 : decode cX9_isInPool 32 = .ok (.goto 4, 3) := by decide +kernel
theorem dX9_isInPool_35 : decode cX9_isInPool 35 = .ok (.iconst 0, 1) := by decide +kernel
theorem dX9_isInPool_36 : decode cX9_isInPool 36 = .ok (.ireturn, 1) := by decide +kernel
theorem dX9_laysPool_0 : decode cX9_laysPool 0 = .ok (.iconst 0, 1) := by decide +kernel
theorem dX9_laysPool_1 : decode cX9_laysPool 1 = .ok (.istore_n 1, 1) := by decide +kernel
theorem dX9_laysPool_2 : decode cX9_laysPool 2 = .ok (.iconst 0, 1) := by decide +kernel
theorem dX9_laysPool_3 : decode cX9_laysPool 3 = .ok (.istore_n 2, 1) := by decide +kernel
theorem dX9_laysPool_4 : decode cX9_laysPool 4 = .ok (.iload_n 2, 1) := by decide +kernel
theorem dX9_laysPool_5 : decode cX9_laysPool 5 = .ok (.i2l, 1) := by decide +kernel
theorem dX9_laysPool_6 : decode cX9_laysPool 6 = .ok (.aload_n 0, 1) := by decide +kernel
theorem dX9_laysPool_7 : decode cX9_laysPool 7 = .ok (.getfield 7, 3) := by decide +kernel
theorem dX9_laysPool_10 : decode cX9_laysPool 10 = .ok (.iconst 0, 1) := by decide +kernel
theorem dX9_laysPool_11 : decode cX9_laysPool 11 = .ok (.laload, 1) := by decide +kernel
theorem dX9_laysPool_12 : decode cX9_laysPool 12 = .ok (.lcmp, 1) := by decide +kernel
theorem dX9_laysPool_13 : decode cX9_laysPool 13 = .ok (.ifCond .ge 27, 3) := by decide +kernel
theorem dX9_laysPool_16 : decode cX9_laysPool 16 = .ok (.aload_n 0, 1) := by decide +kernel
theorem dX9_laysPool_17 : decode cX9_laysPool 17 = .ok (.iload_n 2, 1) := by decide +kernel
theorem dX9_laysPool_18 : decode cX9_laysPool 18 = .ok (.invokevirtual 126, 3) := by decide +kernel
theorem dX9_laysPool_21 : decode cX9_laysPool 21 = .ok (.ifCond .eq 13, 3) := by decide +kernel
theorem dX9_laysPool_24 : decode cX9_laysPool 24 = .ok (.aload_n 0, 1) := by decide +kernel
theorem dX9_laysPool_25 : decode cX9_laysPool 25 = .ok (.getfield 19, 3) := by decide +kernel
theorem dX9_laysPool_28 : decode cX9_laysPool 28 = .ok (.iload_n 1, 1) := by decide +kernel
theorem dX9_laysPool_29 : decode cX9_laysPool 29 = .ok (.iload_n 2, 1) := by decide +kernel
theorem dX9_laysPool_30 : decode cX9_laysPool 30 = .ok (.iastore, 1) := by decide +kernel
theorem dX9_laysPool_31 : decode cX9_laysPool 31 = .ok (.iinc 1 1, 3) := by decide +kernel
theorem dX9_laysPool_34 : decode cX9_laysPool 34 = .ok (.iinc 2 1, 3) := by decide +kernel
theorem dX9_laysPool_37 : decode cX9_laysPool 37 = .ok (.goto (-33), 3) := by decide +kernel
theorem dX9_laysPool_40 : decode cX9_laysPool 40 = .ok (.iload_n 1, 1) := by decide +kernel
theorem dX9_laysPool_41 : decode cX9_laysPool 41 = .ok (.ireturn, 1) := by decide +kernel
theorem dX9_changing_0 : decode cX9_changing 0 = .ok (.iconst 0, 1) := by decide +kernel
theorem dX9_changing_1 : decode cX9_changing 1 = .ok (.istore_n 2, 1) := by decide +kernel
theorem dX9_changing_2 : decode cX9_changing 2 = .ok (.iconst 0, 1) := by decide +kernel
theorem dX9_changing_3 : decode cX9_changing 3 = .ok (.istore_n 3, 1) := by decide +kernel
theorem dX9_changing_4 : decode cX9_changing 4 = .ok (.iload_n 3, 1) := by decide +kernel
theorem dX9_changing_5 : decode cX9_changing 5 = .ok (.i2l, 1) := by decide +kernel
theorem dX9_changing_6 : decode cX9_changing 6 = .ok (.aload_n 0, 1) := by decide +kernel
theorem dX9_changing_7 : decode cX9_changing 7 = .ok (.getfield 7, 3) := by decide +kernel
theorem dX9_changing_10 : decode cX9_changing 10 = .ok (.iconst 0, 1) := by decide +kernel
theorem dX9_changing_11 : decode cX9_changing 11 = .ok (.laload, 1) := by decide +kernel
theorem dX9_changing_12 : decode cX9_changing 12 = .ok (.lcmp, 1) := by decide +kernel
theorem dX9_changing_13 : decode cX9_changing 13 = .ok (.ifCond .ge 37, 3) := by decide +kernel
theorem dX9_changing_16 : decode cX9_changing 16 = .ok (.iload_n 2, 1) := by decide +kernel
theorem dX9_changing_17 : decode cX9_changing 17 = .ok (.aload_n 0, 1) := by decide +kernel
theorem dX9_changing_18 : decode cX9_changing 18 = .ok (.iload_n 3, 1) := by decide +kernel
theorem dX9_changing_19 : decode cX9_changing 19 = .ok (.invokevirtual 123, 3) := by decide +kernel
theorem dX9_changing_22 : decode cX9_changing 22 = .ok (.ifCond .eq 19, 3) := by decide +kernel
theorem dX9_changing_25 : decode cX9_changing 25 = .ok (.iload_n 1, 1) := by decide +kernel
theorem dX9_changing_26 : decode cX9_changing 26 = .ok (.ifCond .eq 11, 3) := by decide +kernel
theorem dX9_changing_29 : decode cX9_changing 29 = .ok (.aload_n 0, 1) := by decide +kernel
theorem dX9_changing_30 : decode cX9_changing 30 = .ok (.iload_n 3, 1) := by decide +kernel
theorem dX9_changing_31 : decode cX9_changing 31 = .ok (.invokevirtual 72, 3) := by decide +kernel
theorem dX9_changing_34 : decode cX9_changing 34 = .ok (.ifCond .ne 7, 3) := by decide +kernel
theorem dX9_changing_37 : decode cX9_changing 37 = .ok (.iconst 1, 1) := by decide +kernel
theorem dX9_changing_38 : decode cX9_changing 38 = .ok (.goto 4, 3) := by decide +kernel
theorem dX9_changing_41 : decode cX9_changing 41 = .ok (.iconst 0, 1) := by decide +kernel
theorem dX9_changing_42 : decode cX9_changing 42 = .ok (.iadd, 1) := by decide +kernel
theorem dX9_changing_43 : decode cX9_changing 43 = .ok (.istore_n 2, 1) := by decide +kernel
theorem dX9_changing_44 : decode cX9_changing 44 = .ok (.iinc 3 1, 3) := by decide +kernel
theorem dX9_changing_47 : decode cX9_changing 47 = .ok (.goto (-43), 3) := by decide +kernel
theorem dX9_changing_50 : decode cX9_changing 50 = .ok (.iload_n 2, 1) := by decide +kernel
theorem dX9_changing_51 : decode cX9_changing 51 = .ok (.ireturn, 1) := by decide +kernel
theorem dX9_inState_0 : decode cX9_inState 0 = .ok (.iconst 0, 1) := by decide +kernel
theorem dX9_inState_1 : decode cX9_inState 1 = .ok (.istore_n 2, 1) := by decide +kernel
theorem dX9_inState_2 : decode cX9_inState 2 = .ok (.iconst 0, 1) := by decide +kernel
theorem dX9_inState_3 : decode cX9_inState 3 = .ok (.istore_n 3, 1) := by decide +kernel
theorem dX9_inState_4 : decode cX9_inState 4 = .ok (.iload_n 3, 1) := by decide +kernel
theorem dX9_inState_5 : decode cX9_inState 5 = .ok (.i2l, 1) := by decide +kernel
theorem dX9_inState_6 : decode cX9_inState 6 = .ok (.aload_n 0, 1) := by decide +kernel
theorem dX9_inState_7 : decode cX9_inState 7 = .ok (.getfield 7, 3) := by decide +kernel
theorem dX9_inState_10 : decode cX9_inState 10 = .ok (.iconst 0, 1) := by decide +kernel
theorem dX9_inState_11 : decode cX9_inState 11 = .ok (.laload, 1) := by decide +kernel
theorem dX9_inState_12 : decode cX9_inState 12 = .ok (.lcmp, 1) := by decide +kernel
theorem dX9_inState_13 : decode cX9_inState 13 = .ok (.ifCond .ge 33, 3) := by decide +kernel
theorem dX9_inState_16 : decode cX9_inState 16 = .ok (.iload_n 2, 1) := by decide +kernel
theorem dX9_inState_17 : decode cX9_inState 17 = .ok (.aload_n 0, 1) := by decide +kernel
theorem dX9_inState_18 : decode cX9_inState 18 = .ok (.getfield 7, 3) := by decide +kernel
theorem dX9_inState_21 : decode cX9_inState 21 = .ok (.iload_n 3, 1) := by decide +kernel
theorem dX9_inState_22 : decode cX9_inState 22 = .ok (.iconst 3, 1) := by decide +kernel
theorem dX9_inState_23 : decode cX9_inState 23 = .ok (.invokestatic 40, 3) := by decide +kernel
theorem dX9_inState_26 : decode cX9_inState 26 = .ok (.laload, 1) := by decide +kernel
theorem dX9_inState_27 : decode cX9_inState 27 = .ok (.iload_n 1, 1) := by decide +kernel
theorem dX9_inState_28 : decode cX9_inState 28 = .ok (.i2l, 1) := by decide +kernel
theorem dX9_inState_29 : decode cX9_inState 29 = .ok (.lcmp, 1) := by decide +kernel
theorem dX9_inState_30 : decode cX9_inState 30 = .ok (.ifCond .ne 7, 3) := by decide +kernel
theorem dX9_inState_33 : decode cX9_inState 33 = .ok (.iconst 1, 1) := by decide +kernel
theorem dX9_inState_34 : decode cX9_inState 34 = .ok (.goto 4, 3) := by decide +kernel
theorem dX9_inState_37 : decode cX9_inState 37 = .ok (.iconst 0, 1) := by decide +kernel
theorem dX9_inState_38 : decode cX9_inState 38 = .ok (.iadd, 1) := by decide +kernel
theorem dX9_inState_39 : decode cX9_inState 39 = .ok (.istore_n 2, 1) := by decide +kernel
theorem dX9_inState_40 : decode cX9_inState 40 = .ok (.iinc 3 1, 3) := by decide +kernel
theorem dX9_inState_43 : decode cX9_inState 43 = .ok (.goto (-39), 3) := by decide +kernel
theorem dX9_inState_46 : decode cX9_inState 46 = .ok (.iload_n 2, 1) := by decide +kernel
theorem dX9_inState_47 : decode cX9_inState 47 = .ok (.ireturn, 1) := by decide +kernel
theorem dX9_ofMachine_0 : decode cX9_ofMachine 0 = .ok (.iconst 0, 1) := by decide +kernel
theorem dX9_ofMachine_1 : decode cX9_ofMachine 1 = .ok (.istore_n 2, 1) := by decide +kernel
theorem dX9_ofMachine_2 : decode cX9_ofMachine 2 = .ok (.iconst 0, 1) := by decide +kernel
theorem dX9_ofMachine_3 : decode cX9_ofMachine 3 = .ok (.istore_n 3, 1) := by decide +kernel
theorem dX9_ofMachine_4 : decode cX9_ofMachine 4 = .ok (.iload_n 3, 1) := by decide +kernel
theorem dX9_ofMachine_5 : decode cX9_ofMachine 5 = .ok (.i2l, 1) := by decide +kernel
theorem dX9_ofMachine_6 : decode cX9_ofMachine 6 = .ok (.aload_n 0, 1) := by decide +kernel
theorem dX9_ofMachine_7 : decode cX9_ofMachine 7 = .ok (.getfield 7, 3) := by decide +kernel
theorem dX9_ofMachine_10 : decode cX9_ofMachine 10 = .ok (.iconst 0, 1) := by decide +kernel
theorem dX9_ofMachine_11 : decode cX9_ofMachine 11 = .ok (.laload, 1) := by decide +kernel
theorem dX9_ofMachine_12 : decode cX9_ofMachine 12 = .ok (.lcmp, 1) := by decide +kernel
theorem dX9_ofMachine_13 : decode cX9_ofMachine 13 = .ok (.ifCond .ge 33, 3) := by decide +kernel
theorem dX9_ofMachine_16 : decode cX9_ofMachine 16 = .ok (.iload_n 2, 1) := by decide +kernel
theorem dX9_ofMachine_17 : decode cX9_ofMachine 17 = .ok (.aload_n 0, 1) := by decide +kernel
theorem dX9_ofMachine_18 : decode cX9_ofMachine 18 = .ok (.getfield 7, 3) := by decide +kernel
theorem dX9_ofMachine_21 : decode cX9_ofMachine 21 = .ok (.iload_n 3, 1) := by decide +kernel
theorem dX9_ofMachine_22 : decode cX9_ofMachine 22 = .ok (.iconst 0, 1) := by decide +kernel
theorem dX9_ofMachine_23 : decode cX9_ofMachine 23 = .ok (.invokestatic 40, 3) := by decide +kernel
theorem dX9_ofMachine_26 : decode cX9_ofMachine 26 = .ok (.laload, 1) := by decide +kernel
theorem dX9_ofMachine_27 : decode cX9_ofMachine 27 = .ok (.iload_n 1, 1) := by decide +kernel
theorem dX9_ofMachine_28 : decode cX9_ofMachine 28 = .ok (.i2l, 1) := by decide +kernel
theorem dX9_ofMachine_29 : decode cX9_ofMachine 29 = .ok (.lcmp, 1) := by decide +kernel
theorem dX9_ofMachine_30 : decode cX9_ofMachine 30 = .ok (.ifCond .ne 7, 3) := by decide +kernel
theorem dX9_ofMachine_33 : decode cX9_ofMachine 33 = .ok (.iconst 1, 1) := by decide +kernel
theorem dX9_ofMachine_34 : decode cX9_ofMachine 34 = .ok (.goto 4, 3) := by decide +kernel
theorem dX9_ofMachine_37 : decode cX9_ofMachine 37 = .ok (.iconst 0, 1) := by decide +kernel
theorem dX9_ofMachine_38 : decode cX9_ofMachine 38 = .ok (.iadd, 1) := by decide +kernel
theorem dX9_ofMachine_39 : decode cX9_ofMachine 39 = .ok (.istore_n 2, 1) := by decide +kernel
theorem dX9_ofMachine_40 : decode cX9_ofMachine 40 = .ok (.iinc 3 1, 3) := by decide +kernel
theorem dX9_ofMachine_43 : decode cX9_ofMachine 43 = .ok (.goto (-39), 3) := by decide +kernel
theorem dX9_ofMachine_46 : decode cX9_ofMachine 46 = .ok (.iload_n 2, 1) := by decide +kernel
theorem dX9_ofMachine_47 : decode cX9_ofMachine 47 = .ok (.ireturn, 1) := by decide +kernel
theorem dX9_scans_0 : decode cX9_scans 0 = .ok (.lload_n 1, 1) := by decide +kernel
theorem dX9_scans_1 : decode cX9_scans 1 = .ok (.lconst 0, 1) := by decide +kernel
theorem dX9_scans_2 : decode cX9_scans 2 = .ok (.ldc2_w 48, 3) := by decide +kernel
theorem dX9_scans_5 : decode cX9_scans 5 = .ok (.invokestatic 32, 3) := by decide +kernel
theorem dX9_scans_8 : decode cX9_scans 8 = .ok (.ifCond .eq 10, 3) := by decide +kernel
theorem dX9_scans_11 : decode cX9_scans 11 = .ok (.lload_n 3, 1) := by decide +kernel
theorem dX9_scans_12 : decode cX9_scans 12 = .ok (.invokestatic 129, 3) := by decide +kernel
theorem dX9_scans_15 : decode cX9_scans 15 = .ok (.ifCond .ne 5, 3) := by decide +kernel
theorem dX9_scans_18 : decode cX9_scans 18 = .ok (.iconst (-1), 1) := by decide +kernel
theorem dX9_scans_19 : decode cX9_scans 19 = .ok (.ireturn, 1) := by decide +kernel
theorem dX9_scans_20 : decode cX9_scans 20 = .ok (.aload_n 0, 1) := by decide +kernel
theorem dX9_scans_21 : decode cX9_scans 21 = .ok (.getfield 7, 3) := by decide +kernel
theorem dX9_scans_24 : decode cX9_scans 24 = .ok (.iconst 0, 1) := by decide +kernel
theorem dX9_scans_25 : decode cX9_scans 25 = .ok (.laload, 1) := by decide +kernel
theorem dX9_scans_26 : decode cX9_scans 26 = .ok (.ldc2_w 133, 3) := by decide +kernel
theorem dX9_scans_29 : decode cX9_scans 29 = .ok (.lcmp, 1) := by decide +kernel
theorem dX9_scans_30 : decode cX9_scans 30 = .ok (.ifCond .ne 6, 3) := by decide +kernel
theorem dX9_scans_33 : decode cX9_scans 33 = .ok (.bipush (-3), 2) := by decide +kernel
theorem dX9_scans_35 : decode cX9_scans 35 = .ok (.ireturn, 1) := by decide +kernel
theorem dX9_scans_36 : decode cX9_scans 36 = .ok (.aload_n 0, 1) := by decide +kernel
theorem dX9_scans_37 : decode cX9_scans 37 = .ok (.getfield 7, 3) := by decide +kernel
theorem dX9_scans_40 : decode cX9_scans 40 = .ok (.iconst 0, 1) := by decide +kernel
theorem dX9_scans_41 : decode cX9_scans 41 = .ok (.laload, 1) := by decide +kernel
theorem dX9_scans_42 : decode cX9_scans 42 = .ok (.l2i, 1) := by decide +kernel
theorem dX9_scans_43 : decode cX9_scans 43 = .ok (.istore 5, 2) := by decide +kernel
theorem dX9_scans_45 : decode cX9_scans 45 = .ok (.aload_n 0, 1) := by decide +kernel
theorem dX9_scans_46 : decode cX9_scans 46 = .ok (.getfield 7, 3) := by decide +kernel
theorem dX9_scans_49 : decode cX9_scans 49 = .ok (.iload 5, 2) := by decide +kernel
theorem dX9_scans_51 : decode cX9_scans 51 = .ok (.iconst 0, 1) := by decide +kernel
theorem dX9_scans_52 : decode cX9_scans 52 = .ok (.invokestatic 40, 3) := by decide +kernel
theorem dX9_scans_55 : decode cX9_scans 55 = .ok (.lload_n 1, 1) := by decide +kernel
theorem dX9_scans_56 : decode cX9_scans 56 = .ok (.lastore, 1) := by decide +kernel
theorem dX9_scans_57 : decode cX9_scans 57 = .ok (.aload_n 0, 1) := by decide +kernel
theorem dX9_scans_58 : decode cX9_scans 58 = .ok (.getfield 7, 3) := by decide +kernel
theorem dX9_scans_61 : decode cX9_scans 61 = .ok (.iload 5, 2) := by decide +kernel
theorem dX9_scans_63 : decode cX9_scans 63 = .ok (.iconst 1, 1) := by decide +kernel
theorem dX9_scans_64 : decode cX9_scans 64 = .ok (.invokestatic 40, 3) := by decide +kernel
theorem dX9_scans_67 : decode cX9_scans 67 = .ok (.lload_n 3, 1) := by decide +kernel
theorem dX9_scans_68 : decode cX9_scans 68 = .ok (.lastore, 1) := by decide +kernel
theorem dX9_scans_69 : decode cX9_scans 69 = .ok (.aload_n 0, 1) := by decide +kernel
theorem dX9_scans_70 : decode cX9_scans 70 = .ok (.getfield 7, 3) := by decide +kernel
theorem dX9_scans_73 : decode cX9_scans 73 = .ok (.iload 5, 2) := by decide +kernel
theorem dX9_scans_75 : decode cX9_scans 75 = .ok (.iconst 2, 1) := by decide +kernel
theorem dX9_scans_76 : decode cX9_scans 76 = .ok (.invokestatic 40, 3) := by decide +kernel
theorem dX9_scans_79 : decode cX9_scans 79 = .ok (.aload_n 0, 1) := by decide +kernel
theorem dX9_scans_80 : decode cX9_scans 80 = .ok (.getfield 7, 3) := by decide +kernel
theorem dX9_scans_83 : decode cX9_scans 83 = .ok (.bipush 6, 2) := by decide +kernel
theorem dX9_scans_85 : decode cX9_scans 85 = .ok (.lload_n 1, 1) := by decide +kernel
theorem dX9_scans_86 : decode cX9_scans 86 = .ok (.l2i, 1) := by decide +kernel
theorem dX9_scans_87 : decode cX9_scans 87 = .ok (.iadd, 1) := by decide +kernel
theorem dX9_scans_88 : decode cX9_scans 88 = .ok (.laload, 1) := by decide +kernel
theorem dX9_scans_89 : decode cX9_scans 89 = .ok (.lastore, 1) := by decide +kernel
theorem dX9_scans_90 : decode cX9_scans 90 = .ok (.aload_n 0, 1) := by decide +kernel
theorem dX9_scans_91 : decode cX9_scans 91 = .ok (.getfield 7, 3) := by decide +kernel
theorem dX9_scans_94 : decode cX9_scans 94 = .ok (.iload 5, 2) := by decide +kernel
theorem dX9_scans_96 : decode cX9_scans 96 = .ok (.iconst 3, 1) := by decide +kernel
theorem dX9_scans_97 : decode cX9_scans 97 = .ok (.invokestatic 40, 3) := by decide +kernel
theorem dX9_scans_100 : decode cX9_scans 100 = .ok (.lconst 0, 1) := by decide +kernel
theorem dX9_scans_101 : decode cX9_scans 101 = .ok (.lastore, 1) := by decide +kernel
theorem dX9_scans_102 : decode cX9_scans 102 = .ok (.aload_n 0, 1) := by decide +kernel
theorem dX9_scans_103 : decode cX9_scans 103 = .ok (.getfield 7, 3) := by decide +kernel
theorem dX9_scans_106 : decode cX9_scans 106 = .ok (.iload 5, 2) := by decide +kernel
theorem dX9_scans_108 : decode cX9_scans 108 = .ok (.iconst 4, 1) := by decide +kernel
theorem dX9_scans_109 : decode cX9_scans 109 = .ok (.invokestatic 40, 3) := by decide +kernel
theorem dX9_scans_112 : decode cX9_scans 112 = .ok (.lconst 0, 1) := by decide +kernel
theorem dX9_scans_113 : decode cX9_scans 113 = .ok (.lastore, 1) := by decide +kernel
theorem dX9_scans_114 : decode cX9_scans 114 = .ok (.aload_n 0, 1) := by decide +kernel
theorem dX9_scans_115 : decode cX9_scans 115 = .ok (.getfield 7, 3) := by decide +kernel
theorem dX9_scans_118 : decode cX9_scans 118 = .ok (.iconst 0, 1) := by decide +kernel
theorem dX9_scans_119 : decode cX9_scans 119 = .ok (.dup2, 1) := by decide +kernel
theorem dX9_scans_120 : decode cX9_scans 120 = .ok (.laload, 1) := by decide +kernel
theorem dX9_scans_121 : decode cX9_scans 121 = .ok (.lconst 1, 1) := by decide +kernel
theorem dX9_scans_122 : decode cX9_scans 122 = .ok (.ladd, 1) := by decide +kernel
theorem dX9_scans_123 : decode cX9_scans 123 = .ok (.lastore, 1) := by decide +kernel
theorem dX9_scans_124 : decode cX9_scans 124 = .ok (.iload 5, 2) := by decide +kernel
theorem dX9_scans_126 : decode cX9_scans 126 = .ok (.ireturn, 1) := by decide +kernel
theorem dX9_cleans_0 : decode cX9_cleans 0 = .ok (.lload_n 1, 1) := by decide +kernel
theorem dX9_cleans_1 : decode cX9_cleans 1 = .ok (.lconst 0, 1) := by decide +kernel
theorem dX9_cleans_2 : decode cX9_cleans 2 = .ok (.ldc2_w 48, 3) := by decide +kernel
theorem dX9_cleans_5 : decode cX9_cleans 5 = .ok (.invokestatic 32, 3) := by decide +kernel
theorem dX9_cleans_8 : decode cX9_cleans 8 = .ok (.ifCond .ne 5, 3) := by decide +kernel
theorem dX9_cleans_11 : decode cX9_cleans 11 = .ok (.iconst (-1), 1) := by decide +kernel
theorem dX9_cleans_12 : decode cX9_cleans 12 = .ok (.ireturn, 1) := by decide +kernel
theorem dX9_cleans_13 : decode cX9_cleans 13 = .ok (.aload_n 0, 1) := by decide +kernel
theorem dX9_cleans_14 : decode cX9_cleans 14 = .ok (.getfield 7, 3) := by decide +kernel
theorem dX9_cleans_17 : decode cX9_cleans 17 = .ok (.bipush 6, 2) := by decide +kernel
theorem dX9_cleans_19 : decode cX9_cleans 19 = .ok (.lload_n 1, 1) := by decide +kernel
theorem dX9_cleans_20 : decode cX9_cleans 20 = .ok (.l2i, 1) := by decide +kernel
theorem dX9_cleans_21 : decode cX9_cleans 21 = .ok (.iadd, 1) := by decide +kernel
theorem dX9_cleans_22 : decode cX9_cleans 22 = .ok (.dup2, 1) := by decide +kernel
theorem dX9_cleans_23 : decode cX9_cleans 23 = .ok (.laload, 1) := by decide +kernel
theorem dX9_cleans_24 : decode cX9_cleans 24 = .ok (.lconst 1, 1) := by decide +kernel
theorem dX9_cleans_25 : decode cX9_cleans 25 = .ok (.ladd, 1) := by decide +kernel
theorem dX9_cleans_26 : decode cX9_cleans 26 = .ok (.lastore, 1) := by decide +kernel
theorem dX9_cleans_27 : decode cX9_cleans 27 = .ok (.aload_n 0, 1) := by decide +kernel
theorem dX9_cleans_28 : decode cX9_cleans 28 = .ok (.lload_n 1, 1) := by decide +kernel
theorem dX9_cleans_29 : decode cX9_cleans 29 = .ok (.l2i, 1) := by decide +kernel
theorem dX9_cleans_30 : decode cX9_cleans 30 = .ok (.invokevirtual 135, 3) := by decide +kernel
theorem dX9_cleans_33 : decode cX9_cleans 33 = .ok (.ireturn, 1) := by decide +kernel
theorem dX9_publishes_0 : decode cX9_publishes 0 = .ok (.aload_n 0, 1) := by decide +kernel
theorem dX9_publishes_1 : decode cX9_publishes 1 = .ok (.getfield 7, 3) := by decide +kernel
theorem dX9_publishes_4 : decode cX9_publishes 4 = .ok (.iconst 0, 1) := by decide +kernel
theorem dX9_publishes_5 : decode cX9_publishes 5 = .ok (.laload, 1) := by decide +kernel
theorem dX9_publishes_6 : decode cX9_publishes 6 = .ok (.lconst 0, 1) := by decide +kernel
theorem dX9_publishes_7 : decode cX9_publishes 7 = .ok (.lcmp, 1) := by decide +kernel
theorem dX9_publishes_8 : decode cX9_publishes 8 = .ok (.ifCond .eq 19, 3) := by decide +kernel
theorem dX9_publishes_11 : decode cX9_publishes 11 = .ok (.aload_n 0, 1) := by decide +kernel
theorem dX9_publishes_12 : decode cX9_publishes 12 = .ok (.iconst 1, 1) := by decide +kernel
theorem dX9_publishes_13 : decode cX9_publishes 13 = .ok (.invokevirtual 138, 3) := by decide +kernel
theorem dX9_publishes_16 : decode cX9_publishes 16 = .ok (.i2l, 1) := by decide +kernel
theorem dX9_publishes_17 : decode cX9_publishes 17 = .ok (.aload_n 0, 1) := by decide +kernel
theorem dX9_publishes_18 : decode cX9_publishes 18 = .ok (.getfield 7, 3) := by decide +kernel
theorem dX9_publishes_21 : decode cX9_publishes 21 = .ok (.iconst 5, 1) := by decide +kernel
theorem dX9_publishes_22 : decode cX9_publishes 22 = .ok (.laload, 1) := by decide +kernel
theorem dX9_publishes_23 : decode cX9_publishes 23 = .ok (.lcmp, 1) := by decide +kernel
theorem dX9_publishes_24 : decode cX9_publishes 24 = .ok (.ifCond .le 6, 3) := by decide +kernel
theorem dX9_publishes_27 : decode cX9_publishes 27 = .ok (.bipush (-2), 2) := by decide +kernel
theorem dX9_publishes_29 : decode cX9_publishes 29 = .ok (.ireturn, 1) := by decide +kernel
theorem dX9_publishes_30 : decode cX9_publishes 30 = .ok (.aload_n 0, 1) := by decide +kernel
theorem dX9_publishes_31 : decode cX9_publishes 31 = .ok (.getfield 7, 3) := by decide +kernel
theorem dX9_publishes_34 : decode cX9_publishes 34 = .ok (.iconst 1, 1) := by decide +kernel
theorem dX9_publishes_35 : decode cX9_publishes 35 = .ok (.laload, 1) := by decide +kernel
theorem dX9_publishes_36 : decode cX9_publishes 36 = .ok (.ldc2_w 28, 3) := by decide +kernel
theorem dX9_publishes_39 : decode cX9_publishes 39 = .ok (.lcmp, 1) := by decide +kernel
theorem dX9_publishes_40 : decode cX9_publishes 40 = .ok (.ifCond .ne 6, 3) := by decide +kernel
theorem dX9_publishes_43 : decode cX9_publishes 43 = .ok (.bipush (-3), 2) := by decide +kernel
theorem dX9_publishes_45 : decode cX9_publishes 45 = .ok (.ireturn, 1) := by decide +kernel
theorem dX9_publishes_46 : decode cX9_publishes 46 = .ok (.aload_n 0, 1) := by decide +kernel
theorem dX9_publishes_47 : decode cX9_publishes 47 = .ok (.iconst 0, 1) := by decide +kernel
theorem dX9_publishes_48 : decode cX9_publishes 48 = .ok (.invokevirtual 138, 3) := by decide +kernel
theorem dX9_publishes_51 : decode cX9_publishes 51 = .ok (.istore_n 1, 1) := by decide +kernel
theorem dX9_publishes_52 : decode cX9_publishes 52 = .ok (.aload_n 0, 1) := by decide +kernel
theorem dX9_publishes_53 : decode cX9_publishes 53 = .ok (.getfield 7, 3) := by decide +kernel
theorem dX9_publishes_56 : decode cX9_publishes 56 = .ok (.iconst 1, 1) := by decide +kernel
theorem dX9_publishes_57 : decode cX9_publishes 57 = .ok (.laload, 1) := by decide +kernel
theorem dX9_publishes_58 : decode cX9_publishes 58 = .ok (.l2i, 1) := by decide +kernel
theorem dX9_publishes_59 : decode cX9_publishes 59 = .ok (.istore_n 2, 1) := by decide +kernel
theorem dX9_publishes_60 : decode cX9_publishes 60 = .ok (.aload_n 0, 1) := by decide +kernel
theorem dX9_publishes_61 : decode cX9_publishes 61 = .ok (.getfield 7, 3) := by decide +kernel
theorem dX9_publishes_64 : decode cX9_publishes 64 = .ok (.iload_n 2, 1) := by decide +kernel
theorem dX9_publishes_65 : decode cX9_publishes 65 = .ok (.iconst 0, 1) := by decide +kernel
theorem dX9_publishes_66 : decode cX9_publishes 66 = .ok (.invokestatic 104, 3) := by decide +kernel
theorem dX9_publishes_69 : decode cX9_publishes 69 = .ok (.aload_n 0, 1) := by decide +kernel
theorem dX9_publishes_70 : decode cX9_publishes 70 = .ok (.getfield 7, 3) := by decide +kernel
theorem dX9_publishes_73 : decode cX9_publishes 73 = .ok (.iconst 0, 1) := by decide +kernel
theorem dX9_publishes_74 : decode cX9_publishes 74 = .ok (.laload, 1) := by decide +kernel
theorem dX9_publishes_75 : decode cX9_publishes 75 = .ok (.lastore, 1) := by decide +kernel
theorem dX9_publishes_76 : decode cX9_publishes 76 = .ok (.iconst 0, 1) := by decide +kernel
theorem dX9_publishes_77 : decode cX9_publishes 77 = .ok (.istore_n 3, 1) := by decide +kernel
theorem dX9_publishes_78 : decode cX9_publishes 78 = .ok (.iload_n 3, 1) := by decide +kernel
theorem dX9_publishes_79 : decode cX9_publishes 79 = .ok (.i2l, 1) := by decide +kernel
theorem dX9_publishes_80 : decode cX9_publishes 80 = .ok (.aload_n 0, 1) := by decide +kernel
theorem dX9_publishes_81 : decode cX9_publishes 81 = .ok (.getfield 7, 3) := by decide +kernel
theorem dX9_publishes_84 : decode cX9_publishes 84 = .ok (.iconst 0, 1) := by decide +kernel
theorem dX9_publishes_85 : decode cX9_publishes 85 = .ok (.laload, 1) := by decide +kernel
theorem dX9_publishes_86 : decode cX9_publishes 86 = .ok (.lcmp, 1) := by decide +kernel
theorem dX9_publishes_87 : decode cX9_publishes 87 = .ok (.ifCond .ge 30, 3) := by decide +kernel
theorem dX9_publishes_90 : decode cX9_publishes 90 = .ok (.aload_n 0, 1) := by decide +kernel
theorem dX9_publishes_91 : decode cX9_publishes 91 = .ok (.getfield 7, 3) := by decide +kernel
theorem dX9_publishes_94 : decode cX9_publishes 94 = .ok (.iload_n 2, 1) := by decide +kernel
theorem dX9_publishes_95 : decode cX9_publishes 95 = .ok (.iconst 1, 1) := by decide +kernel
theorem dX9_publishes_96 : decode cX9_publishes 96 = .ok (.iload_n 3, 1) := by decide +kernel
theorem dX9_publishes_97 : decode cX9_publishes 97 = .ok (.iadd, 1) := by decide +kernel
theorem dX9_publishes_98 : decode cX9_publishes 98 = .ok (.invokestatic 104, 3) := by decide +kernel
theorem dX9_publishes_101 : decode cX9_publishes 101 = .ok (.aload_n 0, 1) := by decide +kernel
theorem dX9_publishes_102 : decode cX9_publishes 102 = .ok (.iload_n 3, 1) := by decide +kernel
theorem dX9_publishes_103 : decode cX9_publishes 103 = .ok (.aload_n 0, 1) := by decide +kernel
theorem dX9_publishes_104 : decode cX9_publishes 104 = .ok (.invokevirtual 107, 3) := by decide +kernel
theorem dX9_publishes_107 : decode cX9_publishes 107 = .ok (.invokevirtual 111, 3) := by decide +kernel
theorem dX9_publishes_110 : decode cX9_publishes 110 = .ok (.lastore, 1) := by decide +kernel
theorem dX9_publishes_111 : decode cX9_publishes 111 = .ok (.iinc 3 1, 3) := by decide +kernel
theorem dX9_publishes_114 : decode cX9_publishes 114 = .ok (.goto (-36), 3) := by decide +kernel
theorem dX9_publishes_117 : decode cX9_publishes 117 = .ok (.aload_n 0, 1) := by decide +kernel
theorem dX9_publishes_118 : decode cX9_publishes 118 = .ok (.getfield 7, 3) := by decide +kernel
theorem dX9_publishes_121 : decode cX9_publishes 121 = .ok (.iconst 1, 1) := by decide +kernel
theorem dX9_publishes_122 : decode cX9_publishes 122 = .ok (.dup2, 1) := by decide +kernel
theorem dX9_publishes_123 : decode cX9_publishes 123 = .ok (.laload, 1) := by decide +kernel
theorem dX9_publishes_124 : decode cX9_publishes 124 = .ok (.lconst 1, 1) := by decide +kernel
theorem dX9_publishes_125 : decode cX9_publishes 125 = .ok (.ladd, 1) := by decide +kernel
theorem dX9_publishes_126 : decode cX9_publishes 126 = .ok (.lastore, 1) := by decide +kernel
theorem dX9_publishes_127 : decode cX9_publishes 127 = .ok (.iload_n 1, 1) := by decide +kernel
theorem dX9_publishes_128 : decode cX9_publishes 128 = .ok (.ireturn, 1) := by decide +kernel
theorem dX9_draws_0 : decode cX9_draws 0 = .ok (.lload_n 1, 1) := by decide +kernel
theorem dX9_draws_1 : decode cX9_draws 1 = .ok (.lconst 0, 1) := by decide +kernel
theorem dX9_draws_2 : decode cX9_draws 2 = .ok (.ldc2_w 142, 3) := by decide +kernel
theorem dX9_draws_5 : decode cX9_draws 5 = .ok (.invokestatic 32, 3) := by decide +kernel
theorem dX9_draws_8 : decode cX9_draws 8 = .ok (.ifCond .eq 14, 3) := by decide +kernel
theorem dX9_draws_11 : decode cX9_draws 11 = .ok (.lload_n 3, 1) := by decide +kernel
theorem dX9_draws_12 : decode cX9_draws 12 = .ok (.lconst 1, 1) := by decide +kernel
theorem dX9_draws_13 : decode cX9_draws 13 = .ok (.ldc2_w 133, 3) := by decide +kernel
theorem dX9_draws_16 : decode cX9_draws 16 = .ok (.invokestatic 32, 3) := by decide +kernel
theorem dX9_draws_19 : decode cX9_draws 19 = .ok (.ifCond .ne 5, 3) := by decide +kernel
theorem dX9_draws_22 : decode cX9_draws 22 = .ok (.iconst (-1), 1) := by decide +kernel
theorem dX9_draws_23 : decode cX9_draws 23 = .ok (.ireturn, 1) := by decide +kernel
theorem dX9_draws_24 : decode cX9_draws 24 = .ok (.aload_n 0, 1) := by decide +kernel
theorem dX9_draws_25 : decode cX9_draws 25 = .ok (.invokevirtual 144, 3) := by decide +kernel
theorem dX9_draws_28 : decode cX9_draws 28 = .ok (.istore 5, 2) := by decide +kernel
theorem dX9_draws_30 : decode cX9_draws 30 = .ok (.iload 5, 2) := by decide +kernel
theorem dX9_draws_32 : decode cX9_draws 32 = .ok (.i2l, 1) := by decide +kernel
theorem dX9_draws_33 : decode cX9_draws 33 = .ok (.lload_n 3, 1) := by decide +kernel
theorem dX9_draws_34 : decode cX9_draws 34 = .ok (.lcmp, 1) := by decide +kernel
theorem dX9_draws_35 : decode cX9_draws 35 = .ok (.ifCond .ge 6, 3) := by decide +kernel
theorem dX9_draws_38 : decode cX9_draws 38 = .ok (.bipush (-2), 2) := by decide +kernel
theorem dX9_draws_40 : decode cX9_draws 40 = .ok (.ireturn, 1) := by decide +kernel
theorem dX9_draws_41 : decode cX9_draws 41 = .ok (.lload_n 1, 1) := by decide +kernel
theorem dX9_draws_42 : decode cX9_draws 42 = .ok (.lstore 6, 2) := by decide +kernel
theorem dX9_draws_44 : decode cX9_draws 44 = .ok (.iconst 0, 1) := by decide +kernel
theorem dX9_draws_45 : decode cX9_draws 45 = .ok (.istore 8, 2) := by decide +kernel
theorem dX9_draws_47 : decode cX9_draws 47 = .ok (.iload 8, 2) := by decide +kernel
theorem dX9_draws_49 : decode cX9_draws 49 = .ok (.i2l, 1) := by decide +kernel
theorem dX9_draws_50 : decode cX9_draws 50 = .ok (.lload_n 3, 1) := by decide +kernel
theorem dX9_draws_51 : decode cX9_draws 51 = .ok (.lcmp, 1) := by decide +kernel
theorem dX9_draws_52 : decode cX9_draws 52 = .ok (.ifCond .ge 87, 3) := by decide +kernel
theorem dX9_draws_55 : decode cX9_draws 55 = .ok (.ldc2_w 147, 3) := by decide +kernel
theorem dX9_draws_58 : decode cX9_draws 58 = .ok (.lload 6, 2) := by decide +kernel
theorem dX9_draws_60 : decode cX9_draws 60 = .ok (.lmul, 1) := by decide +kernel
theorem dX9_draws_61 : decode cX9_draws 61 = .ok (.ldc2_w 149, 3) := by decide +kernel
theorem dX9_draws_64 : decode cX9_draws 64 = .ok (.ladd, 1) := by decide +kernel
theorem dX9_draws_65 : decode cX9_draws 65 = .ok (.ldc2_w 151, 3) := by decide +kernel
theorem dX9_draws_68 : decode cX9_draws 68 = .ok (.lrem, 1) := by decide +kernel
theorem dX9_draws_69 : decode cX9_draws 69 = .ok (.lstore 6, 2) := by decide +kernel
theorem dX9_draws_71 : decode cX9_draws 71 = .ok (.lload 6, 2) := by decide +kernel
theorem dX9_draws_73 : decode cX9_draws 73 = .ok (.iload 5, 2) := by decide +kernel
theorem dX9_draws_75 : decode cX9_draws 75 = .ok (.i2l, 1) := by decide +kernel
theorem dX9_draws_76 : decode cX9_draws 76 = .ok (.lrem, 1) := by decide +kernel
theorem dX9_draws_77 : decode cX9_draws 77 = .ok (.l2i, 1) := by decide +kernel
theorem dX9_draws_78 : decode cX9_draws 78 = .ok (.istore 9, 2) := by decide +kernel
theorem dX9_draws_80 : decode cX9_draws 80 = .ok (.aload_n 0, 1) := by decide +kernel
theorem dX9_draws_81 : decode cX9_draws 81 = .ok (.getfield 7, 3) := by decide +kernel
theorem dX9_draws_84 : decode cX9_draws 84 = .ok (.aload_n 0, 1) := by decide +kernel
theorem dX9_draws_85 : decode cX9_draws 85 = .ok (.getfield 19, 3) := by decide +kernel
theorem dX9_draws_88 : decode cX9_draws 88 = .ok (.iload 9, 2) := by decide +kernel
theorem dX9_draws_90 : decode cX9_draws 90 = .ok (.iaload, 1) := by decide +kernel
theorem dX9_draws_91 : decode cX9_draws 91 = .ok (.iconst 3, 1) := by decide +kernel
theorem dX9_draws_92 : decode cX9_draws 92 = .ok (.invokestatic 40, 3) := by decide +kernel
theorem dX9_draws_95 : decode cX9_draws 95 = .ok (.lconst 1, 1) := by decide +kernel
theorem dX9_draws_96 : decode cX9_draws 96 = .ok (.lastore, 1) := by decide +kernel
theorem dX9_draws_97 : decode cX9_draws 97 = .ok (.iinc 5 (-1), 3) := by decide +kernel
theorem dX9_draws_100 : decode cX9_draws 100 = .ok (.iload 9, 2) := by decide +kernel
theorem dX9_draws_102 : decode cX9_draws 102 = .ok (.istore 10, 2) := by decide +kernel
theorem dX9_draws_104 : decode cX9_draws 104 = .ok (.iload 10, 2) := by decide +kernel
theorem dX9_draws_106 : decode cX9_draws 106 = .ok (.iload 5, 2) := by decide +kernel
theorem dX9_draws_108 : decode cX9_draws 108 = .ok (.if_icmp .ge 25, 3) := by decide +kernel
theorem dX9_draws_111 : decode cX9_draws 111 = .ok (.aload_n 0, 1) := by decide +kernel
theorem dX9_draws_112 : decode cX9_draws 112 = .ok (.getfield 19, 3) := by decide +kernel
theorem dX9_draws_115 : decode cX9_draws 115 = .ok (.iload 10, 2) := by decide +kernel
theorem dX9_draws_117 : decode cX9_draws 117 = .ok (.aload_n 0, 1) := by decide +kernel
theorem dX9_draws_118 : decode cX9_draws 118 = .ok (.getfield 19, 3) := by decide +kernel
theorem dX9_draws_121 : decode cX9_draws 121 = .ok (.iload 10, 2) := by decide +kernel
theorem dX9_draws_123 : decode cX9_draws 123 = .ok (.iconst 1, 1) := by decide +kernel
theorem dX9_draws_124 : decode cX9_draws 124 = .ok (.iadd, 1) := by decide +kernel
theorem dX9_draws_125 : decode cX9_draws 125 = .ok (.iaload, 1) := by decide +kernel
theorem dX9_draws_126 : decode cX9_draws 126 = .ok (.iastore, 1) := by decide +kernel
theorem dX9_draws_127 : decode cX9_draws 127 = .ok (.iinc 10 1, 3) := by decide +kernel
theorem dX9_draws_130 : decode cX9_draws 130 = .ok (.goto (-26), 3) := by decide +kernel
theorem dX9_draws_133 : decode cX9_draws 133 = .ok (.iinc 8 1, 3) := by decide +kernel
theorem dX9_draws_136 : decode cX9_draws 136 = .ok (.goto (-89), 3) := by decide +kernel
theorem dX9_draws_139 : decode cX9_draws 139 = .ok (.aload_n 0, 1) := by decide +kernel
theorem dX9_draws_140 : decode cX9_draws 140 = .ok (.iconst 1, 1) := by decide +kernel
theorem dX9_draws_141 : decode cX9_draws 141 = .ok (.invokevirtual 153, 3) := by decide +kernel
theorem dX9_draws_144 : decode cX9_draws 144 = .ok (.ireturn, 1) := by decide +kernel
theorem dX9_looks_0 : decode cX9_looks 0 = .ok (.lload_n 1, 1) := by decide +kernel
theorem dX9_looks_1 : decode cX9_looks 1 = .ok (.lconst 0, 1) := by decide +kernel
theorem dX9_looks_2 : decode cX9_looks 2 = .ok (.aload_n 0, 1) := by decide +kernel
theorem dX9_looks_3 : decode cX9_looks 3 = .ok (.getfield 7, 3) := by decide +kernel
theorem dX9_looks_6 : decode cX9_looks 6 = .ok (.iconst 0, 1) := by decide +kernel
theorem dX9_looks_7 : decode cX9_looks 7 = .ok (.laload, 1) := by decide +kernel
theorem dX9_looks_8 : decode cX9_looks 8 = .ok (.lconst 1, 1) := by decide +kernel
theorem dX9_looks_9 : decode cX9_looks 9 = .ok (.lsub, 1) := by decide +kernel
theorem dX9_looks_10 : decode cX9_looks 10 = .ok (.invokestatic 32, 3) := by decide +kernel
theorem dX9_looks_13 : decode cX9_looks 13 = .ok (.ifCond .eq 10, 3) := by decide +kernel
theorem dX9_looks_16 : decode cX9_looks 16 = .ok (.lload_n 3, 1) := by decide +kernel
theorem dX9_looks_17 : decode cX9_looks 17 = .ok (.invokestatic 129, 3) := by decide +kernel
theorem dX9_looks_20 : decode cX9_looks 20 = .ok (.ifCond .ne 5, 3) := by decide +kernel
theorem dX9_looks_23 : decode cX9_looks 23 = .ok (.iconst (-1), 1) := by decide +kernel
theorem dX9_looks_24 : decode cX9_looks 24 = .ok (.ireturn, 1) := by decide +kernel
theorem dX9_looks_25 : decode cX9_looks 25 = .ok (.lload_n 1, 1) := by decide +kernel
theorem dX9_looks_26 : decode cX9_looks 26 = .ok (.l2i, 1) := by decide +kernel
theorem dX9_looks_27 : decode cX9_looks 27 = .ok (.istore 5, 2) := by decide +kernel
theorem dX9_looks_29 : decode cX9_looks 29 = .ok (.aload_n 0, 1) := by decide +kernel
theorem dX9_looks_30 : decode cX9_looks 30 = .ok (.getfield 7, 3) := by decide +kernel
theorem dX9_looks_33 : decode cX9_looks 33 = .ok (.iload 5, 2) := by decide +kernel
theorem dX9_looks_35 : decode cX9_looks 35 = .ok (.iconst 3, 1) := by decide +kernel
theorem dX9_looks_36 : decode cX9_looks 36 = .ok (.invokestatic 40, 3) := by decide +kernel
theorem dX9_looks_39 : decode cX9_looks 39 = .ok (.laload, 1) := by decide +kernel
theorem dX9_looks_40 : decode cX9_looks 40 = .ok (.lconst 1, 1) := by decide +kernel
theorem dX9_looks_41 : decode cX9_looks 41 = .ok (.lcmp, 1) := by decide +kernel
theorem dX9_looks_42 : decode cX9_looks 42 = .ok (.ifCond .eq 6, 3) := by decide +kernel
theorem dX9_looks_45 : decode cX9_looks 45 = .ok (.bipush (-2), 2) := by decide +kernel
theorem dX9_looks_47 : decode cX9_looks 47 = .ok (.ireturn, 1) := by decide +kernel
theorem dX9_looks_48 : decode cX9_looks 48 = .ok (.aload_n 0, 1) := by decide +kernel
theorem dX9_looks_49 : decode cX9_looks 49 = .ok (.iload 5, 2) := by decide +kernel
theorem dX9_looks_51 : decode cX9_looks 51 = .ok (.aload_n 0, 1) := by decide +kernel
theorem dX9_looks_52 : decode cX9_looks 52 = .ok (.invokevirtual 107, 3) := by decide +kernel
theorem dX9_looks_55 : decode cX9_looks 55 = .ok (.invokevirtual 111, 3) := by decide +kernel
theorem dX9_looks_58 : decode cX9_looks 58 = .ok (.lstore 6, 2) := by decide +kernel
theorem dX9_looks_60 : decode cX9_looks 60 = .ok (.aload_n 0, 1) := by decide +kernel
theorem dX9_looks_61 : decode cX9_looks 61 = .ok (.getfield 7, 3) := by decide +kernel
theorem dX9_looks_64 : decode cX9_looks 64 = .ok (.iload 5, 2) := by decide +kernel
theorem dX9_looks_66 : decode cX9_looks 66 = .ok (.iconst 3, 1) := by decide +kernel
theorem dX9_looks_67 : decode cX9_looks 67 = .ok (.invokestatic 40, 3) := by decide +kernel
theorem dX9_looks_70 : decode cX9_looks 70 = .ok (.ldc2_w 48, 3) := by decide +kernel
theorem dX9_looks_73 : decode cX9_looks 73 = .ok (.lastore, 1) := by decide +kernel
theorem dX9_looks_74 : decode cX9_looks 74 = .ok (.aload_n 0, 1) := by decide +kernel
theorem dX9_looks_75 : decode cX9_looks 75 = .ok (.getfield 7, 3) := by decide +kernel
theorem dX9_looks_78 : decode cX9_looks 78 = .ok (.iload 5, 2) := by decide +kernel
theorem dX9_looks_80 : decode cX9_looks 80 = .ok (.iconst 4, 1) := by decide +kernel
theorem dX9_looks_81 : decode cX9_looks 81 = .ok (.invokestatic 40, 3) := by decide +kernel
theorem dX9_looks_84 : decode cX9_looks 84 = .ok (.lload_n 3, 1) := by decide +kernel
theorem dX9_looks_85 : decode cX9_looks 85 = .ok (.lastore, 1) := by decide +kernel
theorem dX9_looks_86 : decode cX9_looks 86 = .ok (.lload 6, 2) := by decide +kernel
theorem dX9_looks_88 : decode cX9_looks 88 = .ok (.aload_n 0, 1) := by decide +kernel
theorem dX9_looks_89 : decode cX9_looks 89 = .ok (.iload 5, 2) := by decide +kernel
theorem dX9_looks_91 : decode cX9_looks 91 = .ok (.aload_n 0, 1) := by decide +kernel
theorem dX9_looks_92 : decode cX9_looks 92 = .ok (.invokevirtual 107, 3) := by decide +kernel
theorem dX9_looks_95 : decode cX9_looks 95 = .ok (.invokevirtual 111, 3) := by decide +kernel
theorem dX9_looks_98 : decode cX9_looks 98 = .ok (.invokestatic 115, 3) := by decide +kernel
theorem dX9_looks_101 : decode cX9_looks 101 = .ok (.ireturn, 1) := by decide +kernel
theorem dX9_scan_0 : decode cX9_scan 0 = .ok (.aload_n 0, 1) := by decide +kernel
theorem dX9_scan_1 : decode cX9_scan 1 = .ok (.invokevirtual 156, 3) := by decide +kernel
theorem dX9_scan_4 : decode cX9_scan 4 = .ok (.aload_n 0, 1) := by decide +kernel
theorem dX9_scan_5 : decode cX9_scan 5 = .ok (.aload_n 0, 1) := by decide +kernel
theorem dX9_scan_6 : decode cX9_scan 6 = .ok (.iload_n 1, 1) := by decide +kernel
theorem dX9_scan_7 : decode cX9_scan 7 = .ok (.i2l, 1) := by decide +kernel
theorem dX9_scan_8 : decode cX9_scan 8 = .ok (.lload_n 2, 1) := by decide +kernel
theorem dX9_scan_9 : decode cX9_scan 9 = .ok (.invokevirtual 159, 3) := by decide +kernel
theorem dX9_scan_12 : decode cX9_scan 12 = .ok (.invokevirtual 162, 3) := by decide +kernel
theorem dX9_scan_15 : decode cX9_scan 15 = .ok (.ireturn, 1) := by decide +kernel
theorem dX9_clean_0 : decode cX9_clean 0 = .ok (.aload_n 0, 1) := by decide +kernel
theorem dX9_clean_1 : decode cX9_clean 1 = .ok (.invokevirtual 156, 3) := by decide +kernel
theorem dX9_clean_4 : decode cX9_clean 4 = .ok (.aload_n 0, 1) := by decide +kernel
theorem dX9_clean_5 : decode cX9_clean 5 = .ok (.aload_n 0, 1) := by decide +kernel
theorem dX9_clean_6 : decode cX9_clean 6 = .ok (.iload_n 1, 1) := by decide +kernel
theorem dX9_clean_7 : decode cX9_clean 7 = .ok (.i2l, 1) := by decide +kernel
theorem dX9_clean_8 : decode cX9_clean 8 = .ok (.invokevirtual 165, 3) := by decide +kernel
theorem dX9_clean_11 : decode cX9_clean 11 = .ok (.invokevirtual 162, 3) := by decide +kernel
theorem dX9_clean_14 : decode cX9_clean 14 = .ok (.ireturn, 1) := by decide +kernel
theorem dX9_isSetting_0 : decode cX9_isSetting 0 = .ok (.iload_n 0, 1) := by decide +kernel
theorem dX9_isSetting_1 : decode cX9_isSetting 1 = .ok (.tableswitch 73 0 3 #[31, 43, 53, 63], 31) := by decide +kernel
theorem dX9_isSetting_32 : decode cX9_isSetting 32 = .ok (.iload_n 1, 1) := by decide +kernel
theorem dX9_isSetting_33 : decode cX9_isSetting 33 = .ok (.i2l, 1) := by decide +kernel
theorem dX9_isSetting_34 : decode cX9_isSetting 34 = .ok (.ldc2_w 48, 3) := by decide +kernel
theorem dX9_isSetting_37 : decode cX9_isSetting 37 = .ok (.ldc2_w 169, 3) := by decide +kernel
theorem dX9_isSetting_40 : decode cX9_isSetting 40 = .ok (.invokestatic 32, 3) := by decide +kernel
theorem dX9_isSetting_43 : decode cX9_isSetting 43 = .ok (.ireturn, 1) := by decide +kernel
theorem dX9_isSetting_44 : decode cX9_isSetting 44 = .ok (.iload_n 1, 1) := by decide +kernel
theorem dX9_isSetting_45 : decode cX9_isSetting 45 = .ok (.i2l, 1) := by decide +kernel
theorem dX9_isSetting_46 : decode cX9_isSetting 46 = .ok (.lconst 1, 1) := by decide +kernel
theorem dX9_isSetting_47 : decode cX9_isSetting 47 = .ok (.ldc2_w 169, 3) := by decide +kernel
theorem dX9_isSetting_50 : decode cX9_isSetting 50 = .ok (.invokestatic 32, 3) := by decide +kernel
theorem dX9_isSetting_53 : decode cX9_isSetting 53 = .ok (.ireturn, 1) := by decide +kernel
theorem dX9_isSetting_54 : decode cX9_isSetting 54 = .ok (.iload_n 1, 1) := by decide +kernel
theorem dX9_isSetting_55 : decode cX9_isSetting 55 = .ok (.i2l, 1) := by decide +kernel
theorem dX9_isSetting_56 : decode cX9_isSetting 56 = .ok (.lconst 1, 1) := by decide +kernel
theorem dX9_isSetting_57 : decode cX9_isSetting 57 = .ok (.ldc2_w 169, 3) := by decide +kernel
theorem dX9_isSetting_60 : decode cX9_isSetting 60 = .ok (.invokestatic 32, 3) := by decide +kernel
theorem dX9_isSetting_63 : decode cX9_isSetting 63 = .ok (.ireturn, 1) := by decide +kernel
theorem dX9_isSetting_64 : decode cX9_isSetting 64 = .ok (.iload_n 1, 1) := by decide +kernel
theorem dX9_isSetting_65 : decode cX9_isSetting 65 = .ok (.i2l, 1) := by decide +kernel
theorem dX9_isSetting_66 : decode cX9_isSetting 66 = .ok (.lconst 0, 1) := by decide +kernel
theorem dX9_isSetting_67 : decode cX9_isSetting 67 = .ok (.ldc2_w 171, 3) := by decide +kernel
theorem dX9_isSetting_70 : decode cX9_isSetting 70 = .ok (.invokestatic 32, 3) := by decide +kernel
theorem dX9_isSetting_73 : decode cX9_isSetting 73 = .ok (.ireturn, 1) := by decide +kernel
theorem dX9_isSetting_74 : decode cX9_isSetting 74 = .ok (.iconst 0, 1) := by decide +kernel
theorem dX9_isSetting_75 : decode cX9_isSetting 75 = .ok (.ireturn, 1) := by decide +kernel
theorem dX9_set_0 : decode cX9_set 0 = .ok (.iload_n 1, 1) := by decide +kernel
theorem dX9_set_1 : decode cX9_set 1 = .ok (.iload_n 2, 1) := by decide +kernel
theorem dX9_set_2 : decode cX9_set 2 = .ok (.invokestatic 173, 3) := by decide +kernel
theorem dX9_set_5 : decode cX9_set 5 = .ok (.ifCond .ne 5, 3) := by decide +kernel
theorem dX9_set_8 : decode cX9_set 8 = .ok (.iconst (-1), 1) := by decide +kernel
theorem dX9_set_9 : decode cX9_set 9 = .ok (.ireturn, 1) := by decide +kernel
theorem dX9_set_10 : decode cX9_set 10 = .ok (.aload_n 0, 1) := by decide +kernel
theorem dX9_set_11 : decode cX9_set 11 = .ok (.invokevirtual 156, 3) := by decide +kernel
theorem dX9_set_14 : decode cX9_set 14 = .ok (.aload_n 0, 1) := by decide +kernel
theorem dX9_set_15 : decode cX9_set 15 = .ok (.getfield 7, 3) := by decide +kernel
theorem dX9_set_18 : decode cX9_set 18 = .ok (.iconst 2, 1) := by decide +kernel
theorem dX9_set_19 : decode cX9_set 19 = .ok (.iload_n 1, 1) := by decide +kernel
theorem dX9_set_20 : decode cX9_set 20 = .ok (.iadd, 1) := by decide +kernel
theorem dX9_set_21 : decode cX9_set 21 = .ok (.laload, 1) := by decide +kernel
theorem dX9_set_22 : decode cX9_set 22 = .ok (.l2i, 1) := by decide +kernel
theorem dX9_set_23 : decode cX9_set 23 = .ok (.istore_n 3, 1) := by decide +kernel
theorem dX9_set_24 : decode cX9_set 24 = .ok (.aload_n 0, 1) := by decide +kernel
theorem dX9_set_25 : decode cX9_set 25 = .ok (.getfield 7, 3) := by decide +kernel
theorem dX9_set_28 : decode cX9_set 28 = .ok (.iconst 2, 1) := by decide +kernel
theorem dX9_set_29 : decode cX9_set 29 = .ok (.iload_n 1, 1) := by decide +kernel
theorem dX9_set_30 : decode cX9_set 30 = .ok (.iadd, 1) := by decide +kernel
theorem dX9_set_31 : decode cX9_set 31 = .ok (.iload_n 2, 1) := by decide +kernel
theorem dX9_set_32 : decode cX9_set 32 = .ok (.i2l, 1) := by decide +kernel
theorem dX9_set_33 : decode cX9_set 33 = .ok (.lastore, 1) := by decide +kernel
theorem dX9_set_34 : decode cX9_set 34 = .ok (.aload_n 0, 1) := by decide +kernel
theorem dX9_set_35 : decode cX9_set 35 = .ok (.iload_n 3, 1) := by decide +kernel
theorem dX9_set_36 : decode cX9_set 36 = .ok (.invokevirtual 162, 3) := by decide +kernel
theorem dX9_set_39 : decode cX9_set 39 = .ok (.ireturn, 1) := by decide +kernel
theorem dX9_publish_0 : decode cX9_publish 0 = .ok (.aload_n 0, 1) := by decide +kernel
theorem dX9_publish_1 : decode cX9_publish 1 = .ok (.invokevirtual 156, 3) := by decide +kernel
theorem dX9_publish_4 : decode cX9_publish 4 = .ok (.aload_n 0, 1) := by decide +kernel
theorem dX9_publish_5 : decode cX9_publish 5 = .ok (.aload_n 0, 1) := by decide +kernel
theorem dX9_publish_6 : decode cX9_publish 6 = .ok (.invokevirtual 177, 3) := by decide +kernel
theorem dX9_publish_9 : decode cX9_publish 9 = .ok (.invokevirtual 162, 3) := by decide +kernel
theorem dX9_publish_12 : decode cX9_publish 12 = .ok (.ireturn, 1) := by decide +kernel
theorem dX9_draw_0 : decode cX9_draw 0 = .ok (.aload_n 0, 1) := by decide +kernel
theorem dX9_draw_1 : decode cX9_draw 1 = .ok (.invokevirtual 156, 3) := by decide +kernel
theorem dX9_draw_4 : decode cX9_draw 4 = .ok (.aload_n 0, 1) := by decide +kernel
theorem dX9_draw_5 : decode cX9_draw 5 = .ok (.aload_n 0, 1) := by decide +kernel
theorem dX9_draw_6 : decode cX9_draw 6 = .ok (.iload_n 1, 1) := by decide +kernel
theorem dX9_draw_7 : decode cX9_draw 7 = .ok (.i2l, 1) := by decide +kernel
theorem dX9_draw_8 : decode cX9_draw 8 = .ok (.iload_n 2, 1) := by decide +kernel
theorem dX9_draw_9 : decode cX9_draw 9 = .ok (.i2l, 1) := by decide +kernel
theorem dX9_draw_10 : decode cX9_draw 10 = .ok (.invokevirtual 180, 3) := by decide +kernel
theorem dX9_draw_13 : decode cX9_draw 13 = .ok (.invokevirtual 162, 3) := by decide +kernel
theorem dX9_draw_16 : decode cX9_draw 16 = .ok (.ireturn, 1) := by decide +kernel
theorem dX9_look_0 : decode cX9_look 0 = .ok (.aload_n 0, 1) := by decide +kernel
theorem dX9_look_1 : decode cX9_look 1 = .ok (.invokevirtual 156, 3) := by decide +kernel
theorem dX9_look_4 : decode cX9_look 4 = .ok (.aload_n 0, 1) := by decide +kernel
theorem dX9_look_5 : decode cX9_look 5 = .ok (.aload_n 0, 1) := by decide +kernel
theorem dX9_look_6 : decode cX9_look 6 = .ok (.iload_n 1, 1) := by decide +kernel
theorem dX9_look_7 : decode cX9_look 7 = .ok (.i2l, 1) := by decide +kernel
theorem dX9_look_8 : decode cX9_look 8 = .ok (.lload_n 2, 1) := by decide +kernel
theorem dX9_look_9 : decode cX9_look 9 = .ok (.invokevirtual 183, 3) := by decide +kernel
theorem dX9_look_12 : decode cX9_look 12 = .ok (.invokevirtual 162, 3) := by decide +kernel
theorem dX9_look_15 : decode cX9_look 15 = .ok (.ireturn, 1) := by decide +kernel
theorem dX9_slotAt_0 : decode cX9_slotAt 0 = .ok (.sipush 455, 3) := by decide +kernel
theorem dX9_slotAt_3 : decode cX9_slotAt 3 = .ok (.sipush 456, 3) := by decide +kernel
theorem dX9_slotAt_6 : decode cX9_slotAt 6 = .ok (.iload_n 0, 1) := by decide +kernel
theorem dX9_slotAt_7 : decode cX9_slotAt 7 = .ok (.imul, 1) := by decide +kernel
theorem dX9_slotAt_8 : decode cX9_slotAt 8 = .ok (.iadd, 1) := by decide +kernel
theorem dX9_slotAt_9 : decode cX9_slotAt 9 = .ok (.ireturn, 1) := by decide +kernel
theorem dX9_take_0 : decode cX9_take 0 = .ok (.iload_n 1, 1) := by decide +kernel
theorem dX9_take_1 : decode cX9_take 1 = .ok (.i2l, 1) := by decide +kernel
theorem dX9_take_2 : decode cX9_take 2 = .ok (.lconst 0, 1) := by decide +kernel
theorem dX9_take_3 : decode cX9_take 3 = .ok (.lconst 1, 1) := by decide +kernel
theorem dX9_take_4 : decode cX9_take 4 = .ok (.invokestatic 32, 3) := by decide +kernel
theorem dX9_take_7 : decode cX9_take 7 = .ok (.ifCond .ne 5, 3) := by decide +kernel
theorem dX9_take_10 : decode cX9_take 10 = .ok (.iconst (-1), 1) := by decide +kernel
theorem dX9_take_11 : decode cX9_take 11 = .ok (.ireturn, 1) := by decide +kernel
theorem dX9_take_12 : decode cX9_take 12 = .ok (.aload_n 0, 1) := by decide +kernel
theorem dX9_take_13 : decode cX9_take 13 = .ok (.invokevirtual 156, 3) := by decide +kernel
theorem dX9_take_16 : decode cX9_take 16 = .ok (.aload_n 0, 1) := by decide +kernel
theorem dX9_take_17 : decode cX9_take 17 = .ok (.getfield 7, 3) := by decide +kernel
theorem dX9_take_20 : decode cX9_take 20 = .ok (.iload_n 1, 1) := by decide +kernel
theorem dX9_take_21 : decode cX9_take 21 = .ok (.invokestatic 186, 3) := by decide +kernel
theorem dX9_take_24 : decode cX9_take 24 = .ok (.lconst 1, 1) := by decide +kernel
theorem dX9_take_25 : decode cX9_take 25 = .ok (.lastore, 1) := by decide +kernel
theorem dX9_take_26 : decode cX9_take 26 = .ok (.iconst 0, 1) := by decide +kernel
theorem dX9_take_27 : decode cX9_take 27 = .ok (.istore_n 2, 1) := by decide +kernel
theorem dX9_take_28 : decode cX9_take 28 = .ok (.iload_n 2, 1) := by decide +kernel
theorem dX9_take_29 : decode cX9_take 29 = .ok (.sipush 455, 3) := by decide +kernel
theorem dX9_take_32 : decode cX9_take 32 = .ok (.if_icmp .ge 28, 3) := by decide +kernel
theorem dX9_take_35 : decode cX9_take 35 = .ok (.aload_n 0, 1) := by decide +kernel
theorem dX9_take_36 : decode cX9_take 36 = .ok (.getfield 7, 3) := by decide +kernel
theorem dX9_take_39 : decode cX9_take 39 = .ok (.iload_n 1, 1) := by decide +kernel
theorem dX9_take_40 : decode cX9_take 40 = .ok (.invokestatic 186, 3) := by decide +kernel
theorem dX9_take_43 : decode cX9_take 43 = .ok (.iconst 1, 1) := by decide +kernel
theorem dX9_take_44 : decode cX9_take 44 = .ok (.iadd, 1) := by decide +kernel
theorem dX9_take_45 : decode cX9_take 45 = .ok (.iload_n 2, 1) := by decide +kernel
theorem dX9_take_46 : decode cX9_take 46 = .ok (.iadd, 1) := by decide +kernel
theorem dX9_take_47 : decode cX9_take 47 = .ok (.aload_n 0, 1) := by decide +kernel
theorem dX9_take_48 : decode cX9_take 48 = .ok (.getfield 7, 3) := by decide +kernel
theorem dX9_take_51 : decode cX9_take 51 = .ok (.iload_n 2, 1) := by decide +kernel
theorem dX9_take_52 : decode cX9_take 52 = .ok (.laload, 1) := by decide +kernel
theorem dX9_take_53 : decode cX9_take 53 = .ok (.lastore, 1) := by decide +kernel
theorem dX9_take_54 : decode cX9_take 54 = .ok (.iinc 2 1, 3) := by decide +kernel
theorem dX9_take_57 : decode cX9_take 57 = .ok (.goto (-29), 3) := by decide +kernel
theorem dX9_take_60 : decode cX9_take 60 = .ok (.aload_n 0, 1) := by decide +kernel
theorem dX9_take_61 : decode cX9_take 61 = .ok (.aload_n 0, 1) := by decide +kernel
theorem dX9_take_62 : decode cX9_take 62 = .ok (.getfield 7, 3) := by decide +kernel
theorem dX9_take_65 : decode cX9_take 65 = .ok (.iconst 0, 1) := by decide +kernel
theorem dX9_take_66 : decode cX9_take 66 = .ok (.laload, 1) := by decide +kernel
theorem dX9_take_67 : decode cX9_take 67 = .ok (.l2i, 1) := by decide +kernel
theorem dX9_take_68 : decode cX9_take 68 = .ok (.invokevirtual 162, 3) := by decide +kernel
theorem dX9_take_71 : decode cX9_take 71 = .ok (.ireturn, 1) := by decide +kernel
theorem dX9_restore_0 : decode cX9_restore 0 = .ok (.iload_n 1, 1) := by decide +kernel
theorem dX9_restore_1 : decode cX9_restore 1 = .ok (.i2l, 1) := by decide +kernel
theorem dX9_restore_2 : decode cX9_restore 2 = .ok (.lconst 0, 1) := by decide +kernel
theorem dX9_restore_3 : decode cX9_restore 3 = .ok (.lconst 1, 1) := by decide +kernel
theorem dX9_restore_4 : decode cX9_restore 4 = .ok (.invokestatic 32, 3) := by decide +kernel
theorem dX9_restore_7 : decode cX9_restore 7 = .ok (.ifCond .ne 5, 3) := by decide +kernel
theorem dX9_restore_10 : decode cX9_restore 10 = .ok (.iconst (-1), 1) := by decide +kernel
theorem dX9_restore_11 : decode cX9_restore 11 = .ok (.ireturn, 1) := by decide +kernel
theorem dX9_restore_12 : decode cX9_restore 12 = .ok (.aload_n 0, 1) := by decide +kernel
theorem dX9_restore_13 : decode cX9_restore 13 = .ok (.getfield 7, 3) := by decide +kernel
theorem dX9_restore_16 : decode cX9_restore 16 = .ok (.iload_n 1, 1) := by decide +kernel
theorem dX9_restore_17 : decode cX9_restore 17 = .ok (.invokestatic 186, 3) := by decide +kernel
theorem dX9_restore_20 : decode cX9_restore 20 = .ok (.laload, 1) := by decide +kernel
theorem dX9_restore_21 : decode cX9_restore 21 = .ok (.lconst 0, 1) := by decide +kernel
theorem dX9_restore_22 : decode cX9_restore 22 = .ok (.lcmp, 1) := by decide +kernel
theorem dX9_restore_23 : decode cX9_restore 23 = .ok (.ifCond .ne 6, 3) := by decide +kernel
theorem dX9_restore_26 : decode cX9_restore 26 = .ok (.bipush (-2), 2) := by decide +kernel
theorem dX9_restore_28 : decode cX9_restore 28 = .ok (.ireturn, 1) := by decide +kernel
theorem dX9_restore_29 : decode cX9_restore 29 = .ok (.aload_n 0, 1) := by decide +kernel
theorem dX9_restore_30 : decode cX9_restore 30 = .ok (.invokevirtual 156, 3) := by decide +kernel
theorem dX9_restore_33 : decode cX9_restore 33 = .ok (.iconst 0, 1) := by decide +kernel
theorem dX9_restore_34 : decode cX9_restore 34 = .ok (.istore_n 2, 1) := by decide +kernel
theorem dX9_restore_35 : decode cX9_restore 35 = .ok (.iload_n 2, 1) := by decide +kernel
theorem dX9_restore_36 : decode cX9_restore 36 = .ok (.sipush 455, 3) := by decide +kernel
theorem dX9_restore_39 : decode cX9_restore 39 = .ok (.if_icmp .ge 28, 3) := by decide +kernel
theorem dX9_restore_42 : decode cX9_restore 42 = .ok (.aload_n 0, 1) := by decide +kernel
theorem dX9_restore_43 : decode cX9_restore 43 = .ok (.getfield 7, 3) := by decide +kernel
theorem dX9_restore_46 : decode cX9_restore 46 = .ok (.iload_n 2, 1) := by decide +kernel
theorem dX9_restore_47 : decode cX9_restore 47 = .ok (.aload_n 0, 1) := by decide +kernel
theorem dX9_restore_48 : decode cX9_restore 48 = .ok (.getfield 7, 3) := by decide +kernel
theorem dX9_restore_51 : decode cX9_restore 51 = .ok (.iload_n 1, 1) := by decide +kernel
theorem dX9_restore_52 : decode cX9_restore 52 = .ok (.invokestatic 186, 3) := by decide +kernel
theorem dX9_restore_55 : decode cX9_restore 55 = .ok (.iconst 1, 1) := by decide +kernel
theorem dX9_restore_56 : decode cX9_restore 56 = .ok (.iadd, 1) := by decide +kernel
theorem dX9_restore_57 : decode cX9_restore 57 = .ok (.iload_n 2, 1) := by decide +kernel
theorem dX9_restore_58 : decode cX9_restore 58 = .ok (.iadd, 1) := by decide +kernel
theorem dX9_restore_59 : decode cX9_restore 59 = .ok (.laload, 1) := by decide +kernel
theorem dX9_restore_60 : decode cX9_restore 60 = .ok (.lastore, 1) := by decide +kernel
theorem dX9_restore_61 : decode cX9_restore 61 = .ok (.iinc 2 1, 3) := by decide +kernel
theorem dX9_restore_64 : decode cX9_restore 64 = .ok (.goto (-29), 3) := by decide +kernel
theorem dX9_restore_67 : decode cX9_restore 67 = .ok (.aload_n 0, 1) := by decide +kernel
theorem dX9_restore_68 : decode cX9_restore 68 = .ok (.aload_n 0, 1) := by decide +kernel
theorem dX9_restore_69 : decode cX9_restore 69 = .ok (.getfield 7, 3) := by decide +kernel
theorem dX9_restore_72 : decode cX9_restore 72 = .ok (.iconst 0, 1) := by decide +kernel
theorem dX9_restore_73 : decode cX9_restore 73 = .ok (.laload, 1) := by decide +kernel
theorem dX9_restore_74 : decode cX9_restore 74 = .ok (.l2i, 1) := by decide +kernel
theorem dX9_restore_75 : decode cX9_restore 75 = .ok (.invokevirtual 162, 3) := by decide +kernel
theorem dX9_restore_78 : decode cX9_restore 78 = .ok (.ireturn, 1) := by decide +kernel
theorem dX9_undo_0 : decode cX9_undo 0 = .ok (.aload_n 0, 1) := by decide +kernel
theorem dX9_undo_1 : decode cX9_undo 1 = .ok (.getfield 54, 3) := by decide +kernel
theorem dX9_undo_4 : decode cX9_undo 4 = .ok (.ifCond .ne 6, 3) := by decide +kernel
theorem dX9_undo_7 : decode cX9_undo 7 = .ok (.bipush (-2), 2) := by decide +kernel
theorem dX9_undo_9 : decode cX9_undo 9 = .ok (.ireturn, 1) := by decide +kernel
theorem dX9_undo_10 : decode cX9_undo 10 = .ok (.aload_n 0, 1) := by decide +kernel
theorem dX9_undo_11 : decode cX9_undo 11 = .ok (.dup, 1) := by decide +kernel
theorem dX9_undo_12 : decode cX9_undo 12 = .ok (.getfield 54, 3) := by decide +kernel
theorem dX9_undo_15 : decode cX9_undo 15 = .ok (.iconst 1, 1) := by decide +kernel
theorem dX9_undo_16 : decode cX9_undo 16 = .ok (.isub, 1) := by decide +kernel
theorem dX9_undo_17 : decode cX9_undo 17 = .ok (.putfield 54, 3) := by decide +kernel
theorem dX9_undo_20 : decode cX9_undo 20 = .ok (.iconst 0, 1) := by decide +kernel
theorem dX9_undo_21 : decode cX9_undo 21 = .ok (.istore_n 1, 1) := by decide +kernel
theorem dX9_undo_22 : decode cX9_undo 22 = .ok (.iload_n 1, 1) := by decide +kernel
theorem dX9_undo_23 : decode cX9_undo 23 = .ok (.sipush 1367, 3) := by decide +kernel
theorem dX9_undo_26 : decode cX9_undo 26 = .ok (.if_icmp .ge 30, 3) := by decide +kernel
theorem dX9_undo_29 : decode cX9_undo 29 = .ok (.aload_n 0, 1) := by decide +kernel
theorem dX9_undo_30 : decode cX9_undo 30 = .ok (.getfield 7, 3) := by decide +kernel
theorem dX9_undo_33 : decode cX9_undo 33 = .ok (.iload_n 1, 1) := by decide +kernel
theorem dX9_undo_34 : decode cX9_undo 34 = .ok (.aload_n 0, 1) := by decide +kernel
theorem dX9_undo_35 : decode cX9_undo 35 = .ok (.getfield 16, 3) := by decide +kernel
theorem dX9_undo_38 : decode cX9_undo 38 = .ok (.sipush 1367, 3) := by decide +kernel
theorem dX9_undo_41 : decode cX9_undo 41 = .ok (.aload_n 0, 1) := by decide +kernel
theorem dX9_undo_42 : decode cX9_undo 42 = .ok (.getfield 54, 3) := by decide +kernel
theorem dX9_undo_45 : decode cX9_undo 45 = .ok (.imul, 1) := by decide +kernel
theorem dX9_undo_46 : decode cX9_undo 46 = .ok (.iload_n 1, 1) := by decide +kernel
theorem dX9_undo_47 : decode cX9_undo 47 = .ok (.iadd, 1) := by decide +kernel
theorem dX9_undo_48 : decode cX9_undo 48 = .ok (.laload, 1) := by decide +kernel
theorem dX9_undo_49 : decode cX9_undo 49 = .ok (.lastore, 1) := by decide +kernel
theorem dX9_undo_50 : decode cX9_undo 50 = .ok (.iinc 1 1, 3) := by decide +kernel
theorem dX9_undo_53 : decode cX9_undo 53 = .ok (.goto (-31), 3) := by decide +kernel
theorem dX9_undo_56 : decode cX9_undo 56 = .ok (.aload_n 0, 1) := by decide +kernel
theorem dX9_undo_57 : decode cX9_undo 57 = .ok (.getfield 54, 3) := by decide +kernel
theorem dX9_undo_60 : decode cX9_undo 60 = .ok (.ireturn, 1) := by decide +kernel
theorem dX9_append_0 : decode cX9_append 0 = .ok (.iload_n 1, 1) := by decide +kernel
theorem dX9_append_1 : decode cX9_append 1 = .ok (.i2l, 1) := by decide +kernel
theorem dX9_append_2 : decode cX9_append 2 = .ok (.lconst 1, 1) := by decide +kernel
theorem dX9_append_3 : decode cX9_append 3 = .ok (.ldc2_w 189, 3) := by decide +kernel
theorem dX9_append_6 : decode cX9_append 6 = .ok (.invokestatic 32, 3) := by decide +kernel
theorem dX9_append_9 : decode cX9_append 9 = .ok (.ifCond .ne 5, 3) := by decide +kernel
theorem dX9_append_12 : decode cX9_append 12 = .ok (.iconst (-1), 1) := by decide +kernel
theorem dX9_append_13 : decode cX9_append 13 = .ok (.ireturn, 1) := by decide +kernel
theorem dX9_append_14 : decode cX9_append 14 = .ok (.aload_n 0, 1) := by decide +kernel
theorem dX9_append_15 : decode cX9_append 15 = .ok (.getfield 191, 3) := by decide +kernel
theorem dX9_append_18 : decode cX9_append 18 = .ok (.sipush 140, 3) := by decide +kernel
theorem dX9_append_21 : decode cX9_append 21 = .ok (.if_icmp .ne 6, 3) := by decide +kernel
theorem dX9_append_24 : decode cX9_append 24 = .ok (.bipush (-3), 2) := by decide +kernel
theorem dX9_append_26 : decode cX9_append 26 = .ok (.ireturn, 1) := by decide +kernel
theorem dX9_append_27 : decode cX9_append 27 = .ok (.aload_n 0, 1) := by decide +kernel
theorem dX9_append_28 : decode cX9_append 28 = .ok (.getfield 23, 3) := by decide +kernel
theorem dX9_append_31 : decode cX9_append 31 = .ok (.aload_n 0, 1) := by decide +kernel
theorem dX9_append_32 : decode cX9_append 32 = .ok (.getfield 191, 3) := by decide +kernel
theorem dX9_append_35 : decode cX9_append 35 = .ok (.iload_n 1, 1) := by decide +kernel
theorem dX9_append_36 : decode cX9_append 36 = .ok (.iastore, 1) := by decide +kernel
theorem dX9_append_37 : decode cX9_append 37 = .ok (.aload_n 0, 1) := by decide +kernel
theorem dX9_append_38 : decode cX9_append 38 = .ok (.dup, 1) := by decide +kernel
theorem dX9_append_39 : decode cX9_append 39 = .ok (.getfield 191, 3) := by decide +kernel
theorem dX9_append_42 : decode cX9_append 42 = .ok (.iconst 1, 1) := by decide +kernel
theorem dX9_append_43 : decode cX9_append 43 = .ok (.iadd, 1) := by decide +kernel
theorem dX9_append_44 : decode cX9_append 44 = .ok (.putfield 191, 3) := by decide +kernel
theorem dX9_append_47 : decode cX9_append 47 = .ok (.aload_n 0, 1) := by decide +kernel
theorem dX9_append_48 : decode cX9_append 48 = .ok (.getfield 191, 3) := by decide +kernel
theorem dX9_append_51 : decode cX9_append 51 = .ok (.ireturn, 1) := by decide +kernel
theorem dX9_clearText_0 : decode cX9_clearText 0 = .ok (.aload_n 0, 1) := by decide +kernel
theorem dX9_clearText_1 : decode cX9_clearText 1 = .ok (.getfield 191, 3) := by decide +kernel
theorem dX9_clearText_4 : decode cX9_clearText 4 = .ok (.istore_n 1, 1) := by decide +kernel
theorem dX9_clearText_5 : decode cX9_clearText 5 = .ok (.aload_n 0, 1) := by decide +kernel
theorem dX9_clearText_6 : decode cX9_clearText 6 = .ok (.iconst 0, 1) := by decide +kernel
theorem dX9_clearText_7 : decode cX9_clearText 7 = .ok (.putfield 191, 3) := by decide +kernel
theorem dX9_clearText_10 : decode cX9_clearText 10 = .ok (.iload_n 1, 1) := by decide +kernel
theorem dX9_clearText_11 : decode cX9_clearText 11 = .ok (.ireturn, 1) := by decide +kernel
theorem dX9_next_0 : decode cX9_next 0 = .ok (.aload_n 0, 1) := by decide +kernel
theorem dX9_next_1 : decode cX9_next 1 = .ok (.getfield 194, 3) := by decide +kernel
theorem dX9_next_4 : decode cX9_next 4 = .ok (.aload_n 0, 1) := by decide +kernel
theorem dX9_next_5 : decode cX9_next 5 = .ok (.getfield 191, 3) := by decide +kernel
theorem dX9_next_8 : decode cX9_next 8 = .ok (.if_icmp .ge 15, 3) := by decide +kernel
theorem dX9_next_11 : decode cX9_next 11 = .ok (.aload_n 0, 1) := by decide +kernel
theorem dX9_next_12 : decode cX9_next 12 = .ok (.getfield 23, 3) := by decide +kernel
theorem dX9_next_15 : decode cX9_next 15 = .ok (.aload_n 0, 1) := by decide +kernel
theorem dX9_next_16 : decode cX9_next 16 = .ok (.getfield 194, 3) := by decide +kernel
theorem dX9_next_19 : decode cX9_next 19 = .ok (.iaload, 1) := by decide +kernel
theorem dX9_next_20 : decode cX9_next 20 = .ok (.goto 5, 3) := by decide +kernel
theorem dX9_next_23 : decode cX9_next 23 = .ok (.bipush (-9), 2) := by decide +kernel
theorem dX9_next_25 : decode cX9_next 25 = .ok (.ireturn, 1) := by decide +kernel
theorem dX9_isLetter_0 : decode cX9_isLetter 0 = .ok (.iload_n 0, 1) := by decide +kernel
theorem dX9_isLetter_1 : decode cX9_isLetter 1 = .ok (.i2l, 1) := by decide +kernel
theorem dX9_isLetter_2 : decode cX9_isLetter 2 = .ok (.ldc2_w 197, 3) := by decide +kernel
theorem dX9_isLetter_5 : decode cX9_isLetter 5 = .ok (.ldc2_w 199, 3) := by decide +kernel
theorem dX9_isLetter_8 : decode cX9_isLetter 8 = .ok (.invokestatic 32, 3) := by decide +kernel
theorem dX9_isLetter_11 : decode cX9_isLetter 11 = .ok (.ireturn, 1) := by decide +kernel
theorem dX9_isDigit_0 : decode cX9_isDigit 0 = .ok (.iload_n 0, 1) := by decide +kernel
theorem dX9_isDigit_1 : decode cX9_isDigit 1 = .ok (.i2l, 1) := by decide +kernel
theorem dX9_isDigit_2 : decode cX9_isDigit 2 = .ok (.ldc2_w 201, 3) := by decide +kernel
theorem dX9_isDigit_5 : decode cX9_isDigit 5 = .ok (.ldc2_w 203, 3) := by decide +kernel
theorem dX9_isDigit_8 : decode cX9_isDigit 8 = .ok (.invokestatic 32, 3) := by decide +kernel
theorem dX9_isDigit_11 : decode cX9_isDigit 11 = .ok (.ireturn, 1) := by decide +kernel
theorem dX9_begins_0 : decode cX9_begins 0 = .ok (.aload_n 0, 1) := by decide +kernel
theorem dX9_begins_1 : decode cX9_begins 1 = .ok (.invokevirtual 205, 3) := by decide +kernel
theorem dX9_begins_4 : decode cX9_begins 4 = .ok (.bipush 32, 2) := by decide +kernel
theorem dX9_begins_6 : decode cX9_begins 6 = .ok (.if_icmp .ne 16, 3) := by decide +kernel
theorem dX9_begins_9 : decode cX9_begins 9 = .ok (.aload_n 0, 1) := by decide +kernel
theorem dX9_begins_10 : decode cX9_begins 10 = .ok (.dup, 1) := by decide +kernel
theorem dX9_begins_11 : decode cX9_begins 11 = .ok (.getfield 194, 3) := by decide +kernel
theorem dX9_begins_14 : decode cX9_begins 14 = .ok (.iconst 1, 1) := by decide +kernel
theorem dX9_begins_15 : decode cX9_begins 15 = .ok (.iadd, 1) := by decide +kernel
theorem dX9_begins_16 : decode cX9_begins 16 = .ok (.putfield 194, 3) := by decide +kernel
theorem dX9_begins_19 : decode cX9_begins 19 = .ok (.goto (-19), 3) := by decide +kernel
theorem dX9_begins_22 : decode cX9_begins 22 = .ok (.aload_n 0, 1) := by decide +kernel
theorem dX9_begins_23 : decode cX9_begins 23 = .ok (.aload_n 0, 1) := by decide +kernel
theorem dX9_begins_24 : decode cX9_begins 24 = .ok (.getfield 194, 3) := by decide +kernel
theorem dX9_begins_27 : decode cX9_begins 27 = .ok (.putfield 208, 3) := by decide +kernel
theorem dX9_begins_30 : decode cX9_begins 30 = .ok (.return_, 1) := by decide +kernel
theorem dX9_wordNext_0 : decode cX9_wordNext 0 = .ok (.aload_n 0, 1) := by decide +kernel
theorem dX9_wordNext_1 : decode cX9_wordNext 1 = .ok (.invokevirtual 211, 3) := by decide +kernel
theorem dX9_wordNext_4 : decode cX9_wordNext 4 = .ok (.lconst 0, 1) := by decide +kernel
theorem dX9_wordNext_5 : decode cX9_wordNext 5 = .ok (.lstore_n 1, 1) := by decide +kernel
theorem dX9_wordNext_6 : decode cX9_wordNext 6 = .ok (.aload_n 0, 1) := by decide +kernel
theorem dX9_wordNext_7 : decode cX9_wordNext 7 = .ok (.invokevirtual 205, 3) := by decide +kernel
theorem dX9_wordNext_10 : decode cX9_wordNext 10 = .ok (.invokestatic 214, 3) := by decide +kernel
theorem dX9_wordNext_13 : decode cX9_wordNext 13 = .ok (.ifCond .eq 50, 3) := by decide +kernel
theorem dX9_wordNext_16 : decode cX9_wordNext 16 = .ok (.aload_n 0, 1) := by decide +kernel
theorem dX9_wordNext_17 : decode cX9_wordNext 17 = .ok (.getfield 194, 3) := by decide +kernel
theorem dX9_wordNext_20 : decode cX9_wordNext 20 = .ok (.aload_n 0, 1) := by decide +kernel
theorem dX9_wordNext_21 : decode cX9_wordNext 21 = .ok (.getfield 208, 3) := by decide +kernel
theorem dX9_wordNext_24 : decode cX9_wordNext 24 = .ok (.isub, 1) := by decide +kernel
theorem dX9_wordNext_25 : decode cX9_wordNext 25 = .ok (.bipush 8, 2) := by decide +kernel
theorem dX9_wordNext_27 : decode cX9_wordNext 27 = .ok (.if_icmp .ge 21, 3) := by decide +kernel
theorem dX9_wordNext_30 : decode cX9_wordNext 30 = .ok (.ldc2_w 217, 3) := by decide +kernel
theorem dX9_wordNext_33 : decode cX9_wordNext 33 = .ok (.lload_n 1, 1) := by decide +kernel
theorem dX9_wordNext_34 : decode cX9_wordNext 34 = .ok (.lmul, 1) := by decide +kernel
theorem dX9_wordNext_35 : decode cX9_wordNext 35 = .ok (.aload_n 0, 1) := by decide +kernel
theorem dX9_wordNext_36 : decode cX9_wordNext 36 = .ok (.invokevirtual 205, 3) := by decide +kernel
theorem dX9_wordNext_39 : decode cX9_wordNext 39 = .ok (.i2l, 1) := by decide +kernel
theorem dX9_wordNext_40 : decode cX9_wordNext 40 = .ok (.ladd, 1) := by decide +kernel
theorem dX9_wordNext_41 : decode cX9_wordNext 41 = .ok (.ldc2_w 219, 3) := by decide +kernel
theorem dX9_wordNext_44 : decode cX9_wordNext 44 = .ok (.lsub, 1) := by decide +kernel
theorem dX9_wordNext_45 : decode cX9_wordNext 45 = .ok (.goto 4, 3) := by decide +kernel
theorem dX9_wordNext_48 : decode cX9_wordNext 48 = .ok (.lconst 0, 1) := by decide +kernel
theorem dX9_wordNext_49 : decode cX9_wordNext 49 = .ok (.lstore_n 1, 1) := by decide +kernel
theorem dX9_wordNext_50 : decode cX9_wordNext 50 = .ok (.aload_n 0, 1) := by decide +kernel
theorem dX9_wordNext_51 : decode cX9_wordNext 51 = .ok (.dup, 1) := by decide +kernel
theorem dX9_wordNext_52 : decode cX9_wordNext 52 = .ok (.getfield 194, 3) := by decide +kernel
theorem dX9_wordNext_55 : decode cX9_wordNext 55 = .ok (.iconst 1, 1) := by decide +kernel
theorem dX9_wordNext_56 : decode cX9_wordNext 56 = .ok (.iadd, 1) := by decide +kernel
theorem dX9_wordNext_57 : decode cX9_wordNext 57 = .ok (.putfield 194, 3) := by decide +kernel
theorem dX9_wordNext_60 : decode cX9_wordNext 60 = .ok (.goto (-54), 3) := by decide +kernel
theorem dX9_wordNext_63 : decode cX9_wordNext 63 = .ok (.aload_n 0, 1) := by decide +kernel
theorem dX9_wordNext_64 : decode cX9_wordNext 64 = .ok (.getfield 194, 3) := by decide +kernel
theorem dX9_wordNext_67 : decode cX9_wordNext 67 = .ok (.aload_n 0, 1) := by decide +kernel
theorem dX9_wordNext_68 : decode cX9_wordNext 68 = .ok (.getfield 208, 3) := by decide +kernel
theorem dX9_wordNext_71 : decode cX9_wordNext 71 = .ok (.isub, 1) := by decide +kernel
theorem dX9_wordNext_72 : decode cX9_wordNext 72 = .ok (.bipush 8, 2) := by decide +kernel
theorem dX9_wordNext_74 : decode cX9_wordNext 74 = .ok (.if_icmp .ge 7, 3) := by decide +kernel
theorem dX9_wordNext_77 : decode cX9_wordNext 77 = .ok (.lload_n 1, 1) := by decide +kernel
theorem dX9_wordNext_78 : decode cX9_wordNext 78 = .ok (.goto 4, 3) := by decide +kernel
theorem dX9_wordNext_81 : decode cX9_wordNext 81 = .ok (.lconst 0, 1) := by decide +kernel
theorem dX9_wordNext_82 : decode cX9_wordNext 82 = .ok (.lreturn, 1) := by decide +kernel
theorem dX9_numberNext_0 : decode cX9_numberNext 0 = .ok (.aload_n 0, 1) := by decide +kernel
theorem dX9_numberNext_1 : decode cX9_numberNext 1 = .ok (.getfield 221, 3) := by decide +kernel
theorem dX9_numberNext_4 : decode cX9_numberNext 4 = .ok (.ifCond .eq 5, 3) := by decide +kernel
theorem dX9_numberNext_7 : decode cX9_numberNext 7 = .ok (.lconst 0, 1) := by decide +kernel
theorem dX9_numberNext_8 : decode cX9_numberNext 8 = .ok (.lreturn, 1) := by decide +kernel
theorem dX9_numberNext_9 : decode cX9_numberNext 9 = .ok (.aload_n 0, 1) := by decide +kernel
theorem dX9_numberNext_10 : decode cX9_numberNext 10 = .ok (.invokevirtual 211, 3) := by decide +kernel
theorem dX9_numberNext_13 : decode cX9_numberNext 13 = .ok (.lconst 0, 1) := by decide +kernel
theorem dX9_numberNext_14 : decode cX9_numberNext 14 = .ok (.lstore_n 2, 1) := by decide +kernel
theorem dX9_numberNext_15 : decode cX9_numberNext 15 = .ok (.aload_n 0, 1) := by decide +kernel
theorem dX9_numberNext_16 : decode cX9_numberNext 16 = .ok (.invokevirtual 205, 3) := by decide +kernel
theorem dX9_numberNext_19 : decode cX9_numberNext 19 = .ok (.invokestatic 225, 3) := by decide +kernel
theorem dX9_numberNext_22 : decode cX9_numberNext 22 = .ok (.ifCond .eq 50, 3) := by decide +kernel
theorem dX9_numberNext_25 : decode cX9_numberNext 25 = .ok (.aload_n 0, 1) := by decide +kernel
theorem dX9_numberNext_26 : decode cX9_numberNext 26 = .ok (.getfield 194, 3) := by decide +kernel
theorem dX9_numberNext_29 : decode cX9_numberNext 29 = .ok (.aload_n 0, 1) := by decide +kernel
theorem dX9_numberNext_30 : decode cX9_numberNext 30 = .ok (.getfield 208, 3) := by decide +kernel
theorem dX9_numberNext_33 : decode cX9_numberNext 33 = .ok (.isub, 1) := by decide +kernel
theorem dX9_numberNext_34 : decode cX9_numberNext 34 = .ok (.bipush 12, 2) := by decide +kernel
theorem dX9_numberNext_36 : decode cX9_numberNext 36 = .ok (.if_icmp .ge 21, 3) := by decide +kernel
theorem dX9_numberNext_39 : decode cX9_numberNext 39 = .ok (.ldc2_w 38, 3) := by decide +kernel
theorem dX9_numberNext_42 : decode cX9_numberNext 42 = .ok (.lload_n 2, 1) := by decide +kernel
theorem dX9_numberNext_43 : decode cX9_numberNext 43 = .ok (.lmul, 1) := by decide +kernel
theorem dX9_numberNext_44 : decode cX9_numberNext 44 = .ok (.aload_n 0, 1) := by decide +kernel
theorem dX9_numberNext_45 : decode cX9_numberNext 45 = .ok (.invokevirtual 205, 3) := by decide +kernel
theorem dX9_numberNext_48 : decode cX9_numberNext 48 = .ok (.i2l, 1) := by decide +kernel
theorem dX9_numberNext_49 : decode cX9_numberNext 49 = .ok (.ladd, 1) := by decide +kernel
theorem dX9_numberNext_50 : decode cX9_numberNext 50 = .ok (.ldc2_w 201, 3) := by decide +kernel
theorem dX9_numberNext_53 : decode cX9_numberNext 53 = .ok (.lsub, 1) := by decide +kernel
theorem dX9_numberNext_54 : decode cX9_numberNext 54 = .ok (.goto 4, 3) := by decide +kernel
theorem dX9_numberNext_57 : decode cX9_numberNext 57 = .ok (.lload_n 2, 1) := by decide +kernel
theorem dX9_numberNext_58 : decode cX9_numberNext 58 = .ok (.lstore_n 2, 1) := by decide +kernel
theorem dX9_numberNext_59 : decode cX9_numberNext 59 = .ok (.aload_n 0, 1) := by decide +kernel
theorem dX9_numberNext_60 : decode cX9_numberNext 60 = .ok (.dup, 1) := by decide +kernel
theorem dX9_numberNext_61 : decode cX9_numberNext 61 = .ok (.getfield 194, 3) := by decide +kernel
theorem dX9_numberNext_64 : decode cX9_numberNext 64 = .ok (.iconst 1, 1) := by decide +kernel
theorem dX9_numberNext_65 : decode cX9_numberNext 65 = .ok (.iadd, 1) := by decide +kernel
theorem dX9_numberNext_66 : decode cX9_numberNext 66 = .ok (.putfield 194, 3) := by decide +kernel
theorem dX9_numberNext_69 : decode cX9_numberNext 69 = .ok (.goto (-54), 3) := by decide +kernel
theorem dX9_numberNext_72 : decode cX9_numberNext 72 = .ok (.aload_n 0, 1) := by decide +kernel
theorem dX9_numberNext_73 : decode cX9_numberNext 73 = .ok (.getfield 194, 3) := by decide +kernel
theorem dX9_numberNext_76 : decode cX9_numberNext 76 = .ok (.aload_n 0, 1) := by decide +kernel
theorem dX9_numberNext_77 : decode cX9_numberNext 77 = .ok (.getfield 208, 3) := by decide +kernel
theorem dX9_numberNext_80 : decode cX9_numberNext 80 = .ok (.isub, 1) := by decide +kernel
theorem dX9_numberNext_81 : decode cX9_numberNext 81 = .ok (.istore 4, 2) := by decide +kernel
theorem dX9_numberNext_83 : decode cX9_numberNext 83 = .ok (.aload_n 0, 1) := by decide +kernel
theorem dX9_numberNext_84 : decode cX9_numberNext 84 = .ok (.iload_n 1, 1) := by decide +kernel
theorem dX9_numberNext_85 : decode cX9_numberNext 85 = .ok (.ifCond .eq 18, 3) := by decide +kernel
theorem dX9_numberNext_88 : decode cX9_numberNext 88 = .ok (.iload 4, 2) := by decide +kernel
theorem dX9_numberNext_90 : decode cX9_numberNext 90 = .ok (.bipush 12, 2) := by decide +kernel
theorem dX9_numberNext_92 : decode cX9_numberNext 92 = .ok (.if_icmp .eq 7, 3) := by decide +kernel
theorem dX9_numberNext_95 : decode cX9_numberNext 95 = .ok (.iconst 1, 1) := by decide +kernel
theorem dX9_numberNext_96 : decode cX9_numberNext 96 = .ok (.goto 44, 3) := by decide +kernel
theorem dX9_numberNext_99 : decode cX9_numberNext 99 = .ok (.iconst 0, 1) := by decide +kernel
theorem dX9_numberNext_100 : decode cX9_numberNext 100 = .ok (.goto 40, 3) := by decide +kernel
theorem dX9_numberNext_103 : decode cX9_numberNext 103 = .ok (.iload 4, 2) := by decide +kernel
theorem dX9_numberNext_105 : decode cX9_numberNext 105 = .ok (.iconst 1, 1) := by decide +kernel
theorem dX9_numberNext_106 : decode cX9_numberNext 106 = .ok (.if_icmp .lt 29, 3) := by decide +kernel
theorem dX9_numberNext_109 : decode cX9_numberNext 109 = .ok (.iload 4, 2) := by decide +kernel
theorem dX9_numberNext_111 : decode cX9_numberNext 111 = .ok (.iconst 5, 1) := by decide +kernel
theorem dX9_numberNext_112 : decode cX9_numberNext 112 = .ok (.if_icmp .gt 23, 3) := by decide +kernel
theorem dX9_numberNext_115 : decode cX9_numberNext 115 = .ok (.iload 4, 2) := by decide +kernel
theorem dX9_numberNext_117 : decode cX9_numberNext 117 = .ok (.iconst 1, 1) := by decide +kernel
theorem dX9_numberNext_118 : decode cX9_numberNext 118 = .ok (.if_icmp .le 21, 3) := by decide +kernel
theorem dX9_numberNext_121 : decode cX9_numberNext 121 = .ok (.aload_n 0, 1) := by decide +kernel
theorem dX9_numberNext_122 : decode cX9_numberNext 122 = .ok (.getfield 23, 3) := by decide +kernel
theorem dX9_numberNext_125 : decode cX9_numberNext 125 = .ok (.aload_n 0, 1) := by decide +kernel
theorem dX9_numberNext_126 : decode cX9_numberNext 126 = .ok (.getfield 208, 3) := by decide +kernel
theorem dX9_numberNext_129 : decode cX9_numberNext 129 = .ok (.iaload, 1) := by decide +kernel
theorem dX9_numberNext_130 : decode cX9_numberNext 130 = .ok (.bipush 48, 2) := by decide +kernel
theorem dX9_numberNext_132 : decode cX9_numberNext 132 = .ok (.if_icmp .ne 7, 3) := by decide +kernel
theorem dX9_numberNext_135 : decode cX9_numberNext 135 = .ok (.iconst 1, 1) := by decide +kernel
theorem dX9_numberNext_136 : decode cX9_numberNext 136 = .ok (.goto 4, 3) := by decide +kernel
theorem dX9_numberNext_139 : decode cX9_numberNext 139 = .ok (.iconst 0, 1) := by decide +kernel
theorem dX9_numberNext_140 : decode cX9_numberNext 140 = .ok (.putfield 221, 3) := by decide +kernel
theorem dX9_numberNext_143 : decode cX9_numberNext 143 = .ok (.lload_n 2, 1) := by decide +kernel
theorem dX9_numberNext_144 : decode cX9_numberNext 144 = .ok (.lreturn, 1) := by decide +kernel
theorem dX9_readsCommand_0 : decode cX9_readsCommand 0 = .ok (.aload_n 0, 1) := by decide +kernel
theorem dX9_readsCommand_1 : decode cX9_readsCommand 1 = .ok (.invokevirtual 228, 3) := by decide +kernel
theorem dX9_readsCommand_4 : decode cX9_readsCommand 4 = .ok (.lstore_n 1, 1) := by decide +kernel
theorem dX9_readsCommand_5 : decode cX9_readsCommand 5 = .ok (.aload_n 0, 1) := by decide +kernel
theorem dX9_readsCommand_6 : decode cX9_readsCommand 6 = .ok (.aload_n 0, 1) := by decide +kernel
theorem dX9_readsCommand_7 : decode cX9_readsCommand 7 = .ok (.getfield 208, 3) := by decide +kernel
theorem dX9_readsCommand_10 : decode cX9_readsCommand 10 = .ok (.putfield 232, 3) := by decide +kernel
theorem dX9_readsCommand_13 : decode cX9_readsCommand 13 = .ok (.aload_n 0, 1) := by decide +kernel
theorem dX9_readsCommand_14 : decode cX9_readsCommand 14 = .ok (.lload_n 1, 1) := by decide +kernel
theorem dX9_readsCommand_15 : decode cX9_readsCommand 15 = .ok (.ldc2_w 235, 3) := by decide +kernel
theorem dX9_readsCommand_18 : decode cX9_readsCommand 18 = .ok (.lcmp, 1) := by decide +kernel
theorem dX9_readsCommand_19 : decode cX9_readsCommand 19 = .ok (.ifCond .eq 39, 3) := by decide +kernel
theorem dX9_readsCommand_22 : decode cX9_readsCommand 22 = .ok (.lload_n 1, 1) := by decide +kernel
theorem dX9_readsCommand_23 : decode cX9_readsCommand 23 = .ok (.ldc2_w 237, 3) := by decide +kernel
theorem dX9_readsCommand_26 : decode cX9_readsCommand 26 = .ok (.lcmp, 1) := by decide +kernel
theorem dX9_readsCommand_27 : decode cX9_readsCommand 27 = .ok (.ifCond .eq 31, 3) := by decide +kernel
theorem dX9_readsCommand_30 : decode cX9_readsCommand 30 = .ok (.lload_n 1, 1) := by decide +kernel
theorem dX9_readsCommand_31 : decode cX9_readsCommand 31 = .ok (.ldc2_w 239, 3) := by decide +kernel
theorem dX9_readsCommand_34 : decode cX9_readsCommand 34 = .ok (.lcmp, 1) := by decide +kernel
theorem dX9_readsCommand_35 : decode cX9_readsCommand 35 = .ok (.ifCond .eq 23, 3) := by decide +kernel
theorem dX9_readsCommand_38 : decode cX9_readsCommand 38 = .ok (.lload_n 1, 1) := by decide +kernel
theorem dX9_readsCommand_39 : decode cX9_readsCommand 39 = .ok (.ldc2_w 241, 3) := by decide +kernel
theorem dX9_readsCommand_42 : decode cX9_readsCommand 42 = .ok (.lcmp, 1) := by decide +kernel
theorem dX9_readsCommand_43 : decode cX9_readsCommand 43 = .ok (.ifCond .eq 15, 3) := by decide +kernel
theorem dX9_readsCommand_46 : decode cX9_readsCommand 46 = .ok (.lload_n 1, 1) := by decide +kernel
theorem dX9_readsCommand_47 : decode cX9_readsCommand 47 = .ok (.ldc2_w 243, 3) := by decide +kernel
theorem dX9_readsCommand_50 : decode cX9_readsCommand 50 = .ok (.lcmp, 1) := by decide +kernel
theorem dX9_readsCommand_51 : decode cX9_readsCommand 51 = .ok (.ifCond .eq 7, 3) := by decide +kernel
theorem dX9_readsCommand_54 : decode cX9_readsCommand 54 = .ok (.iconst 1, 1) := by decide +kernel
theorem dX9_readsCommand_55 : decode cX9_readsCommand 55 = .ok (.goto 4, 3) := by decide +kernel
theorem dX9_readsCommand_58 : decode cX9_readsCommand 58 = .ok (.iconst 0, 1) := by decide +kernel
theorem dX9_readsCommand_59 : decode cX9_readsCommand 59 = .ok (.putfield 221, 3) := by decide +kernel
theorem dX9_readsCommand_62 : decode cX9_readsCommand 62 = .ok (.aload_n 0, 1) := by decide +kernel
theorem dX9_readsCommand_63 : decode cX9_readsCommand 63 = .ok (.lload_n 1, 1) := by decide +kernel
theorem dX9_readsCommand_64 : decode cX9_readsCommand 64 = .ok (.ldc2_w 243, 3) := by decide +kernel
theorem dX9_readsCommand_67 : decode cX9_readsCommand 67 = .ok (.lcmp, 1) := by decide +kernel
theorem dX9_readsCommand_68 : decode cX9_readsCommand 68 = .ok (.ifCond .ne 7, 3) := by decide +kernel
theorem dX9_readsCommand_71 : decode cX9_readsCommand 71 = .ok (.lconst 0, 1) := by decide +kernel
theorem dX9_readsCommand_72 : decode cX9_readsCommand 72 = .ok (.goto 8, 3) := by decide +kernel
theorem dX9_readsCommand_75 : decode cX9_readsCommand 75 = .ok (.aload_n 0, 1) := by decide +kernel
theorem dX9_readsCommand_76 : decode cX9_readsCommand 76 = .ok (.iconst 0, 1) := by decide +kernel
theorem dX9_readsCommand_77 : decode cX9_readsCommand 77 = .ok (.invokevirtual 245, 3) := by decide +kernel
theorem dX9_readsCommand_80 : decode cX9_readsCommand 80 = .ok (.putfield 249, 3) := by decide +kernel
theorem dX9_readsCommand_83 : decode cX9_readsCommand 83 = .ok (.aload_n 0, 1) := by decide +kernel
theorem dX9_readsCommand_84 : decode cX9_readsCommand 84 = .ok (.lload_n 1, 1) := by decide +kernel
theorem dX9_readsCommand_85 : decode cX9_readsCommand 85 = .ok (.ldc2_w 243, 3) := by decide +kernel
theorem dX9_readsCommand_88 : decode cX9_readsCommand 88 = .ok (.lcmp, 1) := by decide +kernel
theorem dX9_readsCommand_89 : decode cX9_readsCommand 89 = .ok (.ifCond .eq 11, 3) := by decide +kernel
theorem dX9_readsCommand_92 : decode cX9_readsCommand 92 = .ok (.lload_n 1, 1) := by decide +kernel
theorem dX9_readsCommand_93 : decode cX9_readsCommand 93 = .ok (.ldc2_w 237, 3) := by decide +kernel
theorem dX9_readsCommand_96 : decode cX9_readsCommand 96 = .ok (.lcmp, 1) := by decide +kernel
theorem dX9_readsCommand_97 : decode cX9_readsCommand 97 = .ok (.ifCond .ne 7, 3) := by decide +kernel
theorem dX9_readsCommand_100 : decode cX9_readsCommand 100 = .ok (.lconst 0, 1) := by decide +kernel
theorem dX9_readsCommand_101 : decode cX9_readsCommand 101 = .ok (.goto 20, 3) := by decide +kernel
theorem dX9_readsCommand_104 : decode cX9_readsCommand 104 = .ok (.aload_n 0, 1) := by decide +kernel
theorem dX9_readsCommand_105 : decode cX9_readsCommand 105 = .ok (.lload_n 1, 1) := by decide +kernel
theorem dX9_readsCommand_106 : decode cX9_readsCommand 106 = .ok (.ldc2_w 239, 3) := by decide +kernel
theorem dX9_readsCommand_109 : decode cX9_readsCommand 109 = .ok (.lcmp, 1) := by decide +kernel
theorem dX9_readsCommand_110 : decode cX9_readsCommand 110 = .ok (.ifCond .eq 7, 3) := by decide +kernel
theorem dX9_readsCommand_113 : decode cX9_readsCommand 113 = .ok (.iconst 1, 1) := by decide +kernel
theorem dX9_readsCommand_114 : decode cX9_readsCommand 114 = .ok (.goto 4, 3) := by decide +kernel
theorem dX9_readsCommand_117 : decode cX9_readsCommand 117 = .ok (.iconst 0, 1) := by decide +kernel
theorem dX9_readsCommand_118 : decode cX9_readsCommand 118 = .ok (.invokevirtual 245, 3) := by decide +kernel
theorem dX9_readsCommand_121 : decode cX9_readsCommand 121 = .ok (.putfield 253, 3) := by decide +kernel
theorem dX9_readsCommand_124 : decode cX9_readsCommand 124 = .ok (.aload_n 0, 1) := by decide +kernel
theorem dX9_readsCommand_125 : decode cX9_readsCommand 125 = .ok (.getfield 221, 3) := by decide +kernel
theorem dX9_readsCommand_128 : decode cX9_readsCommand 128 = .ok (.ifCond .ne 35, 3) := by decide +kernel
theorem dX9_readsCommand_131 : decode cX9_readsCommand 131 = .ok (.aload_n 0, 1) := by decide +kernel
theorem dX9_readsCommand_132 : decode cX9_readsCommand 132 = .ok (.invokevirtual 211, 3) := by decide +kernel
theorem dX9_readsCommand_135 : decode cX9_readsCommand 135 = .ok (.aload_n 0, 1) := by decide +kernel
theorem dX9_readsCommand_136 : decode cX9_readsCommand 136 = .ok (.aload_n 0, 1) := by decide +kernel
theorem dX9_readsCommand_137 : decode cX9_readsCommand 137 = .ok (.invokevirtual 205, 3) := by decide +kernel
theorem dX9_readsCommand_140 : decode cX9_readsCommand 140 = .ok (.bipush 59, 2) := by decide +kernel
theorem dX9_readsCommand_142 : decode cX9_readsCommand 142 = .ok (.if_icmp .eq 7, 3) := by decide +kernel
theorem dX9_readsCommand_145 : decode cX9_readsCommand 145 = .ok (.iconst 1, 1) := by decide +kernel
theorem dX9_readsCommand_146 : decode cX9_readsCommand 146 = .ok (.goto 4, 3) := by decide +kernel
theorem dX9_readsCommand_149 : decode cX9_readsCommand 149 = .ok (.iconst 0, 1) := by decide +kernel
theorem dX9_readsCommand_150 : decode cX9_readsCommand 150 = .ok (.putfield 221, 3) := by decide +kernel
theorem dX9_readsCommand_153 : decode cX9_readsCommand 153 = .ok (.aload_n 0, 1) := by decide +kernel
theorem dX9_readsCommand_154 : decode cX9_readsCommand 154 = .ok (.dup, 1) := by decide +kernel
theorem dX9_readsCommand_155 : decode cX9_readsCommand 155 = .ok (.getfield 194, 3) := by decide +kernel
theorem dX9_readsCommand_158 : decode cX9_readsCommand 158 = .ok (.iconst 1, 1) := by decide +kernel
theorem dX9_readsCommand_159 : decode cX9_readsCommand 159 = .ok (.iadd, 1) := by decide +kernel
theorem dX9_readsCommand_160 : decode cX9_readsCommand 160 = .ok (.putfield 194, 3) := by decide +kernel
theorem dX9_readsCommand_163 : decode cX9_readsCommand 163 = .ok (.lload_n 1, 1) := by decide +kernel
theorem dX9_readsCommand_164 : decode cX9_readsCommand 164 = .ok (.lreturn, 1) := by decide +kernel
theorem dX9_does_0 : decode cX9_does 0 = .ok (.lload_n 1, 1) := by decide +kernel
theorem dX9_does_1 : decode cX9_does 1 = .ok (.ldc2_w 235, 3) := by decide +kernel
theorem dX9_does_4 : decode cX9_does 4 = .ok (.lcmp, 1) := by decide +kernel
theorem dX9_does_5 : decode cX9_does 5 = .ok (.ifCond .ne 16, 3) := by decide +kernel
theorem dX9_does_8 : decode cX9_does 8 = .ok (.aload_n 0, 1) := by decide +kernel
theorem dX9_does_9 : decode cX9_does 9 = .ok (.aload_n 0, 1) := by decide +kernel
theorem dX9_does_10 : decode cX9_does 10 = .ok (.getfield 249, 3) := by decide +kernel
theorem dX9_does_13 : decode cX9_does 13 = .ok (.aload_n 0, 1) := by decide +kernel
theorem dX9_does_14 : decode cX9_does 14 = .ok (.getfield 253, 3) := by decide +kernel
theorem dX9_does_17 : decode cX9_does 17 = .ok (.invokevirtual 159, 3) := by decide +kernel
theorem dX9_does_20 : decode cX9_does 20 = .ok (.ireturn, 1) := by decide +kernel
theorem dX9_does_21 : decode cX9_does 21 = .ok (.lload_n 1, 1) := by decide +kernel
theorem dX9_does_22 : decode cX9_does 22 = .ok (.ldc2_w 237, 3) := by decide +kernel
theorem dX9_does_25 : decode cX9_does 25 = .ok (.lcmp, 1) := by decide +kernel
theorem dX9_does_26 : decode cX9_does 26 = .ok (.ifCond .ne 12, 3) := by decide +kernel
theorem dX9_does_29 : decode cX9_does 29 = .ok (.aload_n 0, 1) := by decide +kernel
theorem dX9_does_30 : decode cX9_does 30 = .ok (.aload_n 0, 1) := by decide +kernel
theorem dX9_does_31 : decode cX9_does 31 = .ok (.getfield 249, 3) := by decide +kernel
theorem dX9_does_34 : decode cX9_does 34 = .ok (.invokevirtual 165, 3) := by decide +kernel
theorem dX9_does_37 : decode cX9_does 37 = .ok (.ireturn, 1) := by decide +kernel
theorem dX9_does_38 : decode cX9_does 38 = .ok (.lload_n 1, 1) := by decide +kernel
theorem dX9_does_39 : decode cX9_does 39 = .ok (.ldc2_w 239, 3) := by decide +kernel
theorem dX9_does_42 : decode cX9_does 42 = .ok (.lcmp, 1) := by decide +kernel
theorem dX9_does_43 : decode cX9_does 43 = .ok (.ifCond .ne 16, 3) := by decide +kernel
theorem dX9_does_46 : decode cX9_does 46 = .ok (.aload_n 0, 1) := by decide +kernel
theorem dX9_does_47 : decode cX9_does 47 = .ok (.aload_n 0, 1) := by decide +kernel
theorem dX9_does_48 : decode cX9_does 48 = .ok (.getfield 249, 3) := by decide +kernel
theorem dX9_does_51 : decode cX9_does 51 = .ok (.aload_n 0, 1) := by decide +kernel
theorem dX9_does_52 : decode cX9_does 52 = .ok (.getfield 253, 3) := by decide +kernel
theorem dX9_does_55 : decode cX9_does 55 = .ok (.invokevirtual 180, 3) := by decide +kernel
theorem dX9_does_58 : decode cX9_does 58 = .ok (.ireturn, 1) := by decide +kernel
theorem dX9_does_59 : decode cX9_does 59 = .ok (.lload_n 1, 1) := by decide +kernel
theorem dX9_does_60 : decode cX9_does 60 = .ok (.ldc2_w 241, 3) := by decide +kernel
theorem dX9_does_63 : decode cX9_does 63 = .ok (.lcmp, 1) := by decide +kernel
theorem dX9_does_64 : decode cX9_does 64 = .ok (.ifCond .ne 18, 3) := by decide +kernel
theorem dX9_does_67 : decode cX9_does 67 = .ok (.aload_n 0, 1) := by decide +kernel
theorem dX9_does_68 : decode cX9_does 68 = .ok (.aload_n 0, 1) := by decide +kernel
theorem dX9_does_69 : decode cX9_does 69 = .ok (.getfield 249, 3) := by decide +kernel
theorem dX9_does_72 : decode cX9_does 72 = .ok (.aload_n 0, 1) := by decide +kernel
theorem dX9_does_73 : decode cX9_does 73 = .ok (.getfield 253, 3) := by decide +kernel
theorem dX9_does_76 : decode cX9_does 76 = .ok (.invokevirtual 183, 3) := by decide +kernel
theorem dX9_does_79 : decode cX9_does 79 = .ok (.goto 7, 3) := by decide +kernel
theorem dX9_does_82 : decode cX9_does 82 = .ok (.aload_n 0, 1) := by decide +kernel
theorem dX9_does_83 : decode cX9_does 83 = .ok (.invokevirtual 177, 3) := by decide +kernel
theorem dX9_does_86 : decode cX9_does 86 = .ok (.ireturn, 1) := by decide +kernel
theorem dX9_fails_0 : decode cX9_fails 0 = .ok (.aload_n 0, 1) := by decide +kernel
theorem dX9_fails_1 : decode cX9_fails 1 = .ok (.iload_n 1, 1) := by decide +kernel
theorem dX9_fails_2 : decode cX9_fails 2 = .ok (.putfield 256, 3) := by decide +kernel
theorem dX9_fails_5 : decode cX9_fails 5 = .ok (.aload_n 0, 1) := by decide +kernel
theorem dX9_fails_6 : decode cX9_fails 6 = .ok (.iload_n 2, 1) := by decide +kernel
theorem dX9_fails_7 : decode cX9_fails 7 = .ok (.putfield 259, 3) := by decide +kernel
theorem dX9_fails_10 : decode cX9_fails 10 = .ok (.aload_n 0, 1) := by decide +kernel
theorem dX9_fails_11 : decode cX9_fails 11 = .ok (.iload_n 3, 1) := by decide +kernel
theorem dX9_fails_12 : decode cX9_fails 12 = .ok (.putfield 262, 3) := by decide +kernel
theorem dX9_fails_15 : decode cX9_fails 15 = .ok (.aload_n 0, 1) := by decide +kernel
theorem dX9_fails_16 : decode cX9_fails 16 = .ok (.iload 4, 2) := by decide +kernel
theorem dX9_fails_18 : decode cX9_fails 18 = .ok (.putfield 265, 3) := by decide +kernel
theorem dX9_fails_21 : decode cX9_fails 21 = .ok (.iconst 0, 1) := by decide +kernel
theorem dX9_fails_22 : decode cX9_fails 22 = .ok (.istore 5, 2) := by decide +kernel
theorem dX9_fails_24 : decode cX9_fails 24 = .ok (.iload 5, 2) := by decide +kernel
theorem dX9_fails_26 : decode cX9_fails 26 = .ok (.sipush 1367, 3) := by decide +kernel
theorem dX9_fails_29 : decode cX9_fails 29 = .ok (.if_icmp .ge 23, 3) := by decide +kernel
theorem dX9_fails_32 : decode cX9_fails 32 = .ok (.aload_n 0, 1) := by decide +kernel
theorem dX9_fails_33 : decode cX9_fails 33 = .ok (.getfield 7, 3) := by decide +kernel
theorem dX9_fails_36 : decode cX9_fails 36 = .ok (.iload 5, 2) := by decide +kernel
theorem dX9_fails_38 : decode cX9_fails 38 = .ok (.aload_n 0, 1) := by decide +kernel
theorem dX9_fails_39 : decode cX9_fails 39 = .ok (.getfield 13, 3) := by decide +kernel
theorem dX9_fails_42 : decode cX9_fails 42 = .ok (.iload 5, 2) := by decide +kernel
theorem dX9_fails_44 : decode cX9_fails 44 = .ok (.laload, 1) := by decide +kernel
theorem dX9_fails_45 : decode cX9_fails 45 = .ok (.lastore, 1) := by decide +kernel
theorem dX9_fails_46 : decode cX9_fails 46 = .ok (.iinc 5 1, 3) := by decide +kernel
theorem dX9_fails_49 : decode cX9_fails 49 = .ok (.goto (-25), 3) := by decide +kernel
theorem dX9_fails_52 : decode cX9_fails 52 = .ok (.sipush (-1000), 3) := by decide +kernel
theorem dX9_fails_55 : decode cX9_fails 55 = .ok (.iload_n 2, 1) := by decide +kernel
theorem dX9_fails_56 : decode cX9_fails 56 = .ok (.isub, 1) := by decide +kernel
theorem dX9_fails_57 : decode cX9_fails 57 = .ok (.ireturn, 1) := by decide +kernel
theorem dX9_run_0 : decode cX9_run 0 = .ok (.aload_n 0, 1) := by decide +kernel
theorem dX9_run_1 : decode cX9_run 1 = .ok (.invokevirtual 156, 3) := by decide +kernel
theorem dX9_run_4 : decode cX9_run 4 = .ok (.aload_n 0, 1) := by decide +kernel
theorem dX9_run_5 : decode cX9_run 5 = .ok (.iconst 0, 1) := by decide +kernel
theorem dX9_run_6 : decode cX9_run 6 = .ok (.putfield 194, 3) := by decide +kernel
theorem dX9_run_9 : decode cX9_run 9 = .ok (.iconst 0, 1) := by decide +kernel
theorem dX9_run_10 : decode cX9_run 10 = .ok (.istore_n 1, 1) := by decide +kernel
theorem dX9_run_11 : decode cX9_run 11 = .ok (.aload_n 0, 1) := by decide +kernel
theorem dX9_run_12 : decode cX9_run 12 = .ok (.invokevirtual 211, 3) := by decide +kernel
theorem dX9_run_15 : decode cX9_run 15 = .ok (.aload_n 0, 1) := by decide +kernel
theorem dX9_run_16 : decode cX9_run 16 = .ok (.getfield 194, 3) := by decide +kernel
theorem dX9_run_19 : decode cX9_run 19 = .ok (.aload_n 0, 1) := by decide +kernel
theorem dX9_run_20 : decode cX9_run 20 = .ok (.getfield 191, 3) := by decide +kernel
theorem dX9_run_23 : decode cX9_run 23 = .ok (.if_icmp .ge 73, 3) := by decide +kernel
theorem dX9_run_26 : decode cX9_run 26 = .ok (.aload_n 0, 1) := by decide +kernel
theorem dX9_run_27 : decode cX9_run 27 = .ok (.invokevirtual 268, 3) := by decide +kernel
theorem dX9_run_30 : decode cX9_run 30 = .ok (.lstore_n 2, 1) := by decide +kernel
theorem dX9_run_31 : decode cX9_run 31 = .ok (.aload_n 0, 1) := by decide +kernel
theorem dX9_run_32 : decode cX9_run 32 = .ok (.getfield 221, 3) := by decide +kernel
theorem dX9_run_35 : decode cX9_run 35 = .ok (.ifCond .eq 16, 3) := by decide +kernel
theorem dX9_run_38 : decode cX9_run 38 = .ok (.aload_n 0, 1) := by decide +kernel
theorem dX9_run_39 : decode cX9_run 39 = .ok (.iconst 1, 1) := by decide +kernel
theorem dX9_run_40 : decode cX9_run 40 = .ok (.aload_n 0, 1) := by decide +kernel
theorem dX9_run_41 : decode cX9_run 41 = .ok (.getfield 208, 3) := by decide +kernel
theorem dX9_run_44 : decode cX9_run 44 = .ok (.iload_n 1, 1) := by decide +kernel
theorem dX9_run_45 : decode cX9_run 45 = .ok (.bipush (-9), 2) := by decide +kernel
theorem dX9_run_47 : decode cX9_run 47 = .ok (.invokevirtual 271, 3) := by decide +kernel
theorem dX9_run_50 : decode cX9_run 50 = .ok (.ireturn, 1) := by decide +kernel
theorem dX9_run_51 : decode cX9_run 51 = .ok (.aload_n 0, 1) := by decide +kernel
theorem dX9_run_52 : decode cX9_run 52 = .ok (.lload_n 2, 1) := by decide +kernel
theorem dX9_run_53 : decode cX9_run 53 = .ok (.invokevirtual 275, 3) := by decide +kernel
theorem dX9_run_56 : decode cX9_run 56 = .ok (.istore 4, 2) := by decide +kernel
theorem dX9_run_58 : decode cX9_run 58 = .ok (.iload 4, 2) := by decide +kernel
theorem dX9_run_60 : decode cX9_run 60 = .ok (.i2l, 1) := by decide +kernel
theorem dX9_run_61 : decode cX9_run 61 = .ok (.ldc2_w 50, 3) := by decide +kernel
theorem dX9_run_64 : decode cX9_run 64 = .ok (.ldc2_w 52, 3) := by decide +kernel
theorem dX9_run_67 : decode cX9_run 67 = .ok (.invokestatic 32, 3) := by decide +kernel
theorem dX9_run_70 : decode cX9_run 70 = .ok (.ifCond .eq 16, 3) := by decide +kernel
theorem dX9_run_73 : decode cX9_run 73 = .ok (.aload_n 0, 1) := by decide +kernel
theorem dX9_run_74 : decode cX9_run 74 = .ok (.iconst 2, 1) := by decide +kernel
theorem dX9_run_75 : decode cX9_run 75 = .ok (.aload_n 0, 1) := by decide +kernel
theorem dX9_run_76 : decode cX9_run 76 = .ok (.getfield 232, 3) := by decide +kernel
theorem dX9_run_79 : decode cX9_run 79 = .ok (.iload_n 1, 1) := by decide +kernel
theorem dX9_run_80 : decode cX9_run 80 = .ok (.iload 4, 2) := by decide +kernel
theorem dX9_run_82 : decode cX9_run 82 = .ok (.invokevirtual 271, 3) := by decide +kernel
theorem dX9_run_85 : decode cX9_run 85 = .ok (.ireturn, 1) := by decide +kernel
theorem dX9_run_86 : decode cX9_run 86 = .ok (.iinc 1 1, 3) := by decide +kernel
theorem dX9_run_89 : decode cX9_run 89 = .ok (.aload_n 0, 1) := by decide +kernel
theorem dX9_run_90 : decode cX9_run 90 = .ok (.invokevirtual 211, 3) := by decide +kernel
theorem dX9_run_93 : decode cX9_run 93 = .ok (.goto (-78), 3) := by decide +kernel
theorem dX9_run_96 : decode cX9_run 96 = .ok (.aload_n 0, 1) := by decide +kernel
theorem dX9_run_97 : decode cX9_run 97 = .ok (.iconst 0, 1) := by decide +kernel
theorem dX9_run_98 : decode cX9_run 98 = .ok (.putfield 191, 3) := by decide +kernel
theorem dX9_run_101 : decode cX9_run 101 = .ok (.aload_n 0, 1) := by decide +kernel
theorem dX9_run_102 : decode cX9_run 102 = .ok (.iload_n 1, 1) := by decide +kernel
theorem dX9_run_103 : decode cX9_run 103 = .ok (.invokevirtual 162, 3) := by decide +kernel
theorem dX9_run_106 : decode cX9_run 106 = .ok (.ireturn, 1) := by decide +kernel
theorem dX9_failure_0 : decode cX9_failure 0 = .ok (.iload_n 1, 1) := by decide +kernel
theorem dX9_failure_1 : decode cX9_failure 1 = .ok (.i2l, 1) := by decide +kernel
theorem dX9_failure_2 : decode cX9_failure 2 = .ok (.lconst 0, 1) := by decide +kernel
theorem dX9_failure_3 : decode cX9_failure 3 = .ok (.ldc2_w 278, 3) := by decide +kernel
theorem dX9_failure_6 : decode cX9_failure 6 = .ok (.invokestatic 32, 3) := by decide +kernel
theorem dX9_failure_9 : decode cX9_failure 9 = .ok (.ifCond .ne 5, 3) := by decide +kernel
theorem dX9_failure_12 : decode cX9_failure 12 = .ok (.iconst (-1), 1) := by decide +kernel
theorem dX9_failure_13 : decode cX9_failure 13 = .ok (.ireturn, 1) := by decide +kernel
theorem dX9_failure_14 : decode cX9_failure 14 = .ok (.aload_n 0, 1) := by decide +kernel
theorem dX9_failure_15 : decode cX9_failure 15 = .ok (.getfield 256, 3) := by decide +kernel
theorem dX9_failure_18 : decode cX9_failure 18 = .ok (.ifCond .ne 6, 3) := by decide +kernel
theorem dX9_failure_21 : decode cX9_failure 21 = .ok (.bipush (-9), 2) := by decide +kernel
theorem dX9_failure_23 : decode cX9_failure 23 = .ok (.ireturn, 1) := by decide +kernel
theorem dX9_failure_24 : decode cX9_failure 24 = .ok (.iload_n 1, 1) := by decide +kernel
theorem dX9_failure_25 : decode cX9_failure 25 = .ok (.ifCond .ne 10, 3) := by decide +kernel
theorem dX9_failure_28 : decode cX9_failure 28 = .ok (.aload_n 0, 1) := by decide +kernel
theorem dX9_failure_29 : decode cX9_failure 29 = .ok (.getfield 256, 3) := by decide +kernel
theorem dX9_failure_32 : decode cX9_failure 32 = .ok (.goto 31, 3) := by decide +kernel
theorem dX9_failure_35 : decode cX9_failure 35 = .ok (.iload_n 1, 1) := by decide +kernel
theorem dX9_failure_36 : decode cX9_failure 36 = .ok (.iconst 1, 1) := by decide +kernel
theorem dX9_failure_37 : decode cX9_failure 37 = .ok (.if_icmp .ne 10, 3) := by decide +kernel
theorem dX9_failure_40 : decode cX9_failure 40 = .ok (.aload_n 0, 1) := by decide +kernel
theorem dX9_failure_41 : decode cX9_failure 41 = .ok (.getfield 259, 3) := by decide +kernel
theorem dX9_failure_44 : decode cX9_failure 44 = .ok (.goto 19, 3) := by decide +kernel
theorem dX9_failure_47 : decode cX9_failure 47 = .ok (.iload_n 1, 1) := by decide +kernel
theorem dX9_failure_48 : decode cX9_failure 48 = .ok (.iconst 2, 1) := by decide +kernel
theorem dX9_failure_49 : decode cX9_failure 49 = .ok (.if_icmp .ne 10, 3) := by decide +kernel
theorem dX9_failure_52 : decode cX9_failure 52 = .ok (.aload_n 0, 1) := by decide +kernel
theorem dX9_failure_53 : decode cX9_failure 53 = .ok (.getfield 262, 3) := by decide +kernel
theorem dX9_failure_56 : decode cX9_failure 56 = .ok (.goto 7, 3) := by decide +kernel
theorem dX9_failure_59 : decode cX9_failure 59 = .ok (.aload_n 0, 1) := by decide +kernel
theorem dX9_failure_60 : decode cX9_failure 60 = .ok (.getfield 265, 3) := by decide +kernel
theorem dX9_failure_63 : decode cX9_failure 63 = .ok (.ireturn, 1) := by decide +kernel
theorem dX9_streaks_0 : decode cX9_streaks 0 = .ok (.iconst 0, 1) := by decide +kernel
theorem dX9_streaks_1 : decode cX9_streaks 1 = .ok (.istore_n 1, 1) := by decide +kernel
theorem dX9_streaks_2 : decode cX9_streaks 2 = .ok (.iconst 0, 1) := by decide +kernel
theorem dX9_streaks_3 : decode cX9_streaks 3 = .ok (.istore_n 2, 1) := by decide +kernel
theorem dX9_streaks_4 : decode cX9_streaks 4 = .ok (.iload_n 2, 1) := by decide +kernel
theorem dX9_streaks_5 : decode cX9_streaks 5 = .ok (.i2l, 1) := by decide +kernel
theorem dX9_streaks_6 : decode cX9_streaks 6 = .ok (.ldc2_w 280, 3) := by decide +kernel
theorem dX9_streaks_9 : decode cX9_streaks 9 = .ok (.aload_n 0, 1) := by decide +kernel
theorem dX9_streaks_10 : decode cX9_streaks 10 = .ok (.getfield 7, 3) := by decide +kernel
theorem dX9_streaks_13 : decode cX9_streaks 13 = .ok (.iconst 0, 1) := by decide +kernel
theorem dX9_streaks_14 : decode cX9_streaks 14 = .ok (.laload, 1) := by decide +kernel
theorem dX9_streaks_15 : decode cX9_streaks 15 = .ok (.lmul, 1) := by decide +kernel
theorem dX9_streaks_16 : decode cX9_streaks 16 = .ok (.lcmp, 1) := by decide +kernel
theorem dX9_streaks_17 : decode cX9_streaks 17 = .ok (.ifCond .ge 76, 3) := by decide +kernel
theorem dX9_streaks_20 : decode cX9_streaks 20 = .ok (.iload_n 2, 1) := by decide +kernel
theorem dX9_streaks_21 : decode cX9_streaks 21 = .ok (.bipush 12, 2) := by decide +kernel
theorem dX9_streaks_23 : decode cX9_streaks 23 = .ok (.idiv, 1) := by decide +kernel
theorem dX9_streaks_24 : decode cX9_streaks 24 = .ok (.istore_n 3, 1) := by decide +kernel
theorem dX9_streaks_25 : decode cX9_streaks 25 = .ok (.iload_n 2, 1) := by decide +kernel
theorem dX9_streaks_26 : decode cX9_streaks 26 = .ok (.bipush 12, 2) := by decide +kernel
theorem dX9_streaks_28 : decode cX9_streaks 28 = .ok (.irem, 1) := by decide +kernel
theorem dX9_streaks_29 : decode cX9_streaks 29 = .ok (.istore 4, 2) := by decide +kernel
theorem dX9_streaks_31 : decode cX9_streaks 31 = .ok (.aload_n 0, 1) := by decide +kernel
theorem dX9_streaks_32 : decode cX9_streaks 32 = .ok (.iload_n 3, 1) := by decide +kernel
theorem dX9_streaks_33 : decode cX9_streaks 33 = .ok (.iload 4, 2) := by decide +kernel
theorem dX9_streaks_35 : decode cX9_streaks 35 = .ok (.invokevirtual 58, 3) := by decide +kernel
theorem dX9_streaks_38 : decode cX9_streaks 38 = .ok (.ifCond .le 19, 3) := by decide +kernel
theorem dX9_streaks_41 : decode cX9_streaks 41 = .ok (.aload_n 0, 1) := by decide +kernel
theorem dX9_streaks_42 : decode cX9_streaks 42 = .ok (.iload_n 3, 1) := by decide +kernel
theorem dX9_streaks_43 : decode cX9_streaks 43 = .ok (.iload 4, 2) := by decide +kernel
theorem dX9_streaks_45 : decode cX9_streaks 45 = .ok (.iconst (-1), 1) := by decide +kernel
theorem dX9_streaks_46 : decode cX9_streaks 46 = .ok (.invokevirtual 68, 3) := by decide +kernel
theorem dX9_streaks_49 : decode cX9_streaks 49 = .ok (.iload_n 3, 1) := by decide +kernel
theorem dX9_streaks_50 : decode cX9_streaks 50 = .ok (.if_icmp .ne 7, 3) := by decide +kernel
theorem dX9_streaks_53 : decode cX9_streaks 53 = .ok (.iconst 1, 1) := by decide +kernel
theorem dX9_streaks_54 : decode cX9_streaks 54 = .ok (.goto 4, 3) := by decide +kernel
theorem dX9_streaks_57 : decode cX9_streaks 57 = .ok (.iconst 0, 1) := by decide +kernel
theorem dX9_streaks_58 : decode cX9_streaks 58 = .ok (.istore 5, 2) := by decide +kernel
theorem dX9_streaks_60 : decode cX9_streaks 60 = .ok (.iload_n 1, 1) := by decide +kernel
theorem dX9_streaks_61 : decode cX9_streaks 61 = .ok (.iload 5, 2) := by decide +kernel
theorem dX9_streaks_63 : decode cX9_streaks 63 = .ok (.ifCond .eq 21, 3) := by decide +kernel
theorem dX9_streaks_66 : decode cX9_streaks 66 = .ok (.aload_n 0, 1) := by decide +kernel
theorem dX9_streaks_67 : decode cX9_streaks 67 = .ok (.iload_n 3, 1) := by decide +kernel
theorem dX9_streaks_68 : decode cX9_streaks 68 = .ok (.iload 4, 2) := by decide +kernel
theorem dX9_streaks_70 : decode cX9_streaks 70 = .ok (.invokevirtual 76, 3) := by decide +kernel
theorem dX9_streaks_73 : decode cX9_streaks 73 = .ok (.aload_n 0, 1) := by decide +kernel
theorem dX9_streaks_74 : decode cX9_streaks 74 = .ok (.invokevirtual 107, 3) := by decide +kernel
theorem dX9_streaks_77 : decode cX9_streaks 77 = .ok (.if_icmp .lt 7, 3) := by decide +kernel
theorem dX9_streaks_80 : decode cX9_streaks 80 = .ok (.iconst 1, 1) := by decide +kernel
theorem dX9_streaks_81 : decode cX9_streaks 81 = .ok (.goto 4, 3) := by decide +kernel
theorem dX9_streaks_84 : decode cX9_streaks 84 = .ok (.iconst 0, 1) := by decide +kernel
theorem dX9_streaks_85 : decode cX9_streaks 85 = .ok (.iadd, 1) := by decide +kernel
theorem dX9_streaks_86 : decode cX9_streaks 86 = .ok (.istore_n 1, 1) := by decide +kernel
theorem dX9_streaks_87 : decode cX9_streaks 87 = .ok (.iinc 2 1, 3) := by decide +kernel
theorem dX9_streaks_90 : decode cX9_streaks 90 = .ok (.goto (-86), 3) := by decide +kernel
theorem dX9_streaks_93 : decode cX9_streaks 93 = .ok (.iload_n 1, 1) := by decide +kernel
theorem dX9_streaks_94 : decode cX9_streaks 94 = .ok (.ireturn, 1) := by decide +kernel
theorem dX9_count_0 : decode cX9_count 0 = .ok (.iload_n 1, 1) := by decide +kernel
theorem dX9_count_1 : decode cX9_count 1 = .ok (.tableswitch 140 0 10 #[59, 67, 73, 79, 84, 92, 98, 104, 109, 130, 135], 59) := by decide +kernel
theorem dX9_count_60 : decode cX9_count 60 = .ok (.aload_n 0, 1) := by decide +kernel
theorem dX9_count_61 : decode cX9_count 61 = .ok (.getfield 7, 3) := by decide +kernel
theorem dX9_count_64 : decode cX9_count 64 = .ok (.iconst 0, 1) := by decide +kernel
theorem dX9_count_65 : decode cX9_count 65 = .ok (.laload, 1) := by decide +kernel
theorem dX9_count_66 : decode cX9_count 66 = .ok (.l2i, 1) := by decide +kernel
theorem dX9_count_67 : decode cX9_count 67 = .ok (.ireturn, 1) := by decide +kernel
theorem dX9_count_68 : decode cX9_count 68 = .ok (.aload_n 0, 1) := by decide +kernel
theorem dX9_count_69 : decode cX9_count 69 = .ok (.iconst 2, 1) := by decide +kernel
theorem dX9_count_70 : decode cX9_count 70 = .ok (.invokevirtual 153, 3) := by decide +kernel
theorem dX9_count_73 : decode cX9_count 73 = .ok (.ireturn, 1) := by decide +kernel
theorem dX9_count_74 : decode cX9_count 74 = .ok (.aload_n 0, 1) := by decide +kernel
theorem dX9_count_75 : decode cX9_count 75 = .ok (.iconst 1, 1) := by decide +kernel
theorem dX9_count_76 : decode cX9_count 76 = .ok (.invokevirtual 153, 3) := by decide +kernel
theorem dX9_count_79 : decode cX9_count 79 = .ok (.ireturn, 1) := by decide +kernel
theorem dX9_count_80 : decode cX9_count 80 = .ok (.aload_n 0, 1) := by decide +kernel
theorem dX9_count_81 : decode cX9_count 81 = .ok (.invokevirtual 144, 3) := by decide +kernel
theorem dX9_count_84 : decode cX9_count 84 = .ok (.ireturn, 1) := by decide +kernel
theorem dX9_count_85 : decode cX9_count 85 = .ok (.aload_n 0, 1) := by decide +kernel
theorem dX9_count_86 : decode cX9_count 86 = .ok (.getfield 7, 3) := by decide +kernel
theorem dX9_count_89 : decode cX9_count 89 = .ok (.iconst 1, 1) := by decide +kernel
theorem dX9_count_90 : decode cX9_count 90 = .ok (.laload, 1) := by decide +kernel
theorem dX9_count_91 : decode cX9_count 91 = .ok (.l2i, 1) := by decide +kernel
theorem dX9_count_92 : decode cX9_count 92 = .ok (.ireturn, 1) := by decide +kernel
theorem dX9_count_93 : decode cX9_count 93 = .ok (.aload_n 0, 1) := by decide +kernel
theorem dX9_count_94 : decode cX9_count 94 = .ok (.iconst 0, 1) := by decide +kernel
theorem dX9_count_95 : decode cX9_count 95 = .ok (.invokevirtual 138, 3) := by decide +kernel
theorem dX9_count_98 : decode cX9_count 98 = .ok (.ireturn, 1) := by decide +kernel
theorem dX9_count_99 : decode cX9_count 99 = .ok (.aload_n 0, 1) := by decide +kernel
theorem dX9_count_100 : decode cX9_count 100 = .ok (.iconst 1, 1) := by decide +kernel
theorem dX9_count_101 : decode cX9_count 101 = .ok (.invokevirtual 138, 3) := by decide +kernel
theorem dX9_count_104 : decode cX9_count 104 = .ok (.ireturn, 1) := by decide +kernel
theorem dX9_count_105 : decode cX9_count 105 = .ok (.aload_n 0, 1) := by decide +kernel
theorem dX9_count_106 : decode cX9_count 106 = .ok (.invokevirtual 282, 3) := by decide +kernel
theorem dX9_count_109 : decode cX9_count 109 = .ok (.ireturn, 1) := by decide +kernel
theorem dX9_count_110 : decode cX9_count 110 = .ok (.aload_n 0, 1) := by decide +kernel
theorem dX9_count_111 : decode cX9_count 111 = .ok (.getfield 7, 3) := by decide +kernel
theorem dX9_count_114 : decode cX9_count 114 = .ok (.iconst 0, 1) := by decide +kernel
theorem dX9_count_115 : decode cX9_count 115 = .ok (.invokestatic 186, 3) := by decide +kernel
theorem dX9_count_118 : decode cX9_count 118 = .ok (.laload, 1) := by decide +kernel
theorem dX9_count_119 : decode cX9_count 119 = .ok (.aload_n 0, 1) := by decide +kernel
theorem dX9_count_120 : decode cX9_count 120 = .ok (.getfield 7, 3) := by decide +kernel
theorem dX9_count_123 : decode cX9_count 123 = .ok (.iconst 1, 1) := by decide +kernel
theorem dX9_count_124 : decode cX9_count 124 = .ok (.invokestatic 186, 3) := by decide +kernel
theorem dX9_count_127 : decode cX9_count 127 = .ok (.laload, 1) := by decide +kernel
theorem dX9_count_128 : decode cX9_count 128 = .ok (.ladd, 1) := by decide +kernel
theorem dX9_count_129 : decode cX9_count 129 = .ok (.l2i, 1) := by decide +kernel
theorem dX9_count_130 : decode cX9_count 130 = .ok (.ireturn, 1) := by decide +kernel
theorem dX9_count_131 : decode cX9_count 131 = .ok (.aload_n 0, 1) := by decide +kernel
theorem dX9_count_132 : decode cX9_count 132 = .ok (.getfield 54, 3) := by decide +kernel
theorem dX9_count_135 : decode cX9_count 135 = .ok (.ireturn, 1) := by decide +kernel
theorem dX9_count_136 : decode cX9_count 136 = .ok (.aload_n 0, 1) := by decide +kernel
theorem dX9_count_137 : decode cX9_count 137 = .ok (.getfield 191, 3) := by decide +kernel
theorem dX9_count_140 : decode cX9_count 140 = .ok (.ireturn, 1) := by decide +kernel
theorem dX9_count_141 : decode cX9_count 141 = .ok (.iload_n 1, 1) := by decide +kernel
theorem dX9_count_142 : decode cX9_count 142 = .ok (.i2l, 1) := by decide +kernel
theorem dX9_count_143 : decode cX9_count 143 = .ok (.ldc2_w 285, 3) := by decide +kernel
theorem dX9_count_146 : decode cX9_count 146 = .ok (.ldc2_w 287, 3) := by decide +kernel
theorem dX9_count_149 : decode cX9_count 149 = .ok (.invokestatic 32, 3) := by decide +kernel
theorem dX9_count_152 : decode cX9_count 152 = .ok (.ifCond .eq 18, 3) := by decide +kernel
theorem dX9_count_155 : decode cX9_count 155 = .ok (.aload_n 0, 1) := by decide +kernel
theorem dX9_count_156 : decode cX9_count 156 = .ok (.getfield 7, 3) := by decide +kernel
theorem dX9_count_159 : decode cX9_count 159 = .ok (.iconst 2, 1) := by decide +kernel
theorem dX9_count_160 : decode cX9_count 160 = .ok (.iload_n 1, 1) := by decide +kernel
theorem dX9_count_161 : decode cX9_count 161 = .ok (.iadd, 1) := by decide +kernel
theorem dX9_count_162 : decode cX9_count 162 = .ok (.bipush 11, 2) := by decide +kernel
theorem dX9_count_164 : decode cX9_count 164 = .ok (.isub, 1) := by decide +kernel
theorem dX9_count_165 : decode cX9_count 165 = .ok (.laload, 1) := by decide +kernel
theorem dX9_count_166 : decode cX9_count 166 = .ok (.l2i, 1) := by decide +kernel
theorem dX9_count_167 : decode cX9_count 167 = .ok (.goto 4, 3) := by decide +kernel
theorem dX9_count_170 : decode cX9_count 170 = .ok (.iconst (-1), 1) := by decide +kernel
theorem dX9_count_171 : decode cX9_count 171 = .ok (.ireturn, 1) := by decide +kernel
theorem dX9_placeOf_0 : decode cX9_placeOf 0 = .ok (.iconst 0, 1) := by decide +kernel
theorem dX9_placeOf_1 : decode cX9_placeOf 1 = .ok (.istore_n 2, 1) := by decide +kernel
theorem dX9_placeOf_2 : decode cX9_placeOf 2 = .ok (.iconst 0, 1) := by decide +kernel
theorem dX9_placeOf_3 : decode cX9_placeOf 3 = .ok (.istore_n 3, 1) := by decide +kernel
theorem dX9_placeOf_4 : decode cX9_placeOf 4 = .ok (.iload_n 3, 1) := by decide +kernel
theorem dX9_placeOf_5 : decode cX9_placeOf 5 = .ok (.iload_n 1, 1) := by decide +kernel
theorem dX9_placeOf_6 : decode cX9_placeOf 6 = .ok (.if_icmp .ge 41, 3) := by decide +kernel
theorem dX9_placeOf_9 : decode cX9_placeOf 9 = .ok (.iload_n 2, 1) := by decide +kernel
theorem dX9_placeOf_10 : decode cX9_placeOf 10 = .ok (.aload_n 0, 1) := by decide +kernel
theorem dX9_placeOf_11 : decode cX9_placeOf 11 = .ok (.getfield 7, 3) := by decide +kernel
theorem dX9_placeOf_14 : decode cX9_placeOf 14 = .ok (.iload_n 3, 1) := by decide +kernel
theorem dX9_placeOf_15 : decode cX9_placeOf 15 = .ok (.iconst 0, 1) := by decide +kernel
theorem dX9_placeOf_16 : decode cX9_placeOf 16 = .ok (.invokestatic 40, 3) := by decide +kernel
theorem dX9_placeOf_19 : decode cX9_placeOf 19 = .ok (.laload, 1) := by decide +kernel
theorem dX9_placeOf_20 : decode cX9_placeOf 20 = .ok (.aload_n 0, 1) := by decide +kernel
theorem dX9_placeOf_21 : decode cX9_placeOf 21 = .ok (.getfield 7, 3) := by decide +kernel
theorem dX9_placeOf_24 : decode cX9_placeOf 24 = .ok (.iload_n 1, 1) := by decide +kernel
theorem dX9_placeOf_25 : decode cX9_placeOf 25 = .ok (.iconst 0, 1) := by decide +kernel
theorem dX9_placeOf_26 : decode cX9_placeOf 26 = .ok (.invokestatic 40, 3) := by decide +kernel
theorem dX9_placeOf_29 : decode cX9_placeOf 29 = .ok (.laload, 1) := by decide +kernel
theorem dX9_placeOf_30 : decode cX9_placeOf 30 = .ok (.lcmp, 1) := by decide +kernel
theorem dX9_placeOf_31 : decode cX9_placeOf 31 = .ok (.ifCond .ne 7, 3) := by decide +kernel
theorem dX9_placeOf_34 : decode cX9_placeOf 34 = .ok (.iconst 1, 1) := by decide +kernel
theorem dX9_placeOf_35 : decode cX9_placeOf 35 = .ok (.goto 4, 3) := by decide +kernel
theorem dX9_placeOf_38 : decode cX9_placeOf 38 = .ok (.iconst 0, 1) := by decide +kernel
theorem dX9_placeOf_39 : decode cX9_placeOf 39 = .ok (.iadd, 1) := by decide +kernel
theorem dX9_placeOf_40 : decode cX9_placeOf 40 = .ok (.istore_n 2, 1) := by decide +kernel
theorem dX9_placeOf_41 : decode cX9_placeOf 41 = .ok (.iinc 3 1, 3) := by decide +kernel
theorem dX9_placeOf_44 : decode cX9_placeOf 44 = .ok (.goto (-40), 3) := by decide +kernel
theorem dX9_placeOf_47 : decode cX9_placeOf 47 = .ok (.iload_n 2, 1) := by decide +kernel
theorem dX9_placeOf_48 : decode cX9_placeOf 48 = .ok (.ireturn, 1) := by decide +kernel
theorem dX9_card_0 : decode cX9_card 0 = .ok (.aload_n 0, 1) := by decide +kernel
theorem dX9_card_1 : decode cX9_card 1 = .ok (.iload_n 1, 1) := by decide +kernel
theorem dX9_card_2 : decode cX9_card 2 = .ok (.invokevirtual 289, 3) := by decide +kernel
theorem dX9_card_5 : decode cX9_card 5 = .ok (.ifCond .ne 5, 3) := by decide +kernel
theorem dX9_card_8 : decode cX9_card 8 = .ok (.iconst (-1), 1) := by decide +kernel
theorem dX9_card_9 : decode cX9_card 9 = .ok (.ireturn, 1) := by decide +kernel
theorem dX9_card_10 : decode cX9_card 10 = .ok (.iload_n 2, 1) := by decide +kernel
theorem dX9_card_11 : decode cX9_card 11 = .ok (.tableswitch 99 0 5 #[37, 49, 55, 67, 79, 85], 37) := by decide +kernel
theorem dX9_card_48 : decode cX9_card 48 = .ok (.aload_n 0, 1) := by decide +kernel
theorem dX9_card_49 : decode cX9_card 49 = .ok (.getfield 7, 3) := by decide +kernel
theorem dX9_card_52 : decode cX9_card 52 = .ok (.iload_n 1, 1) := by decide +kernel
theorem dX9_card_53 : decode cX9_card 53 = .ok (.iconst 0, 1) := by decide +kernel
theorem dX9_card_54 : decode cX9_card 54 = .ok (.invokestatic 40, 3) := by decide +kernel
theorem dX9_card_57 : decode cX9_card 57 = .ok (.laload, 1) := by decide +kernel
theorem dX9_card_58 : decode cX9_card 58 = .ok (.l2i, 1) := by decide +kernel
theorem dX9_card_59 : decode cX9_card 59 = .ok (.ireturn, 1) := by decide +kernel
theorem dX9_card_60 : decode cX9_card 60 = .ok (.aload_n 0, 1) := by decide +kernel
theorem dX9_card_61 : decode cX9_card 61 = .ok (.iload_n 1, 1) := by decide +kernel
theorem dX9_card_62 : decode cX9_card 62 = .ok (.invokevirtual 292, 3) := by decide +kernel
theorem dX9_card_65 : decode cX9_card 65 = .ok (.ireturn, 1) := by decide +kernel
theorem dX9_card_66 : decode cX9_card 66 = .ok (.aload_n 0, 1) := by decide +kernel
theorem dX9_card_67 : decode cX9_card 67 = .ok (.getfield 7, 3) := by decide +kernel
theorem dX9_card_70 : decode cX9_card 70 = .ok (.iload_n 1, 1) := by decide +kernel
theorem dX9_card_71 : decode cX9_card 71 = .ok (.iconst 2, 1) := by decide +kernel
theorem dX9_card_72 : decode cX9_card 72 = .ok (.invokestatic 40, 3) := by decide +kernel
theorem dX9_card_75 : decode cX9_card 75 = .ok (.laload, 1) := by decide +kernel
theorem dX9_card_76 : decode cX9_card 76 = .ok (.l2i, 1) := by decide +kernel
theorem dX9_card_77 : decode cX9_card 77 = .ok (.ireturn, 1) := by decide +kernel
theorem dX9_card_78 : decode cX9_card 78 = .ok (.aload_n 0, 1) := by decide +kernel
theorem dX9_card_79 : decode cX9_card 79 = .ok (.getfield 7, 3) := by decide +kernel
theorem dX9_card_82 : decode cX9_card 82 = .ok (.iload_n 1, 1) := by decide +kernel
theorem dX9_card_83 : decode cX9_card 83 = .ok (.iconst 3, 1) := by decide +kernel
theorem dX9_card_84 : decode cX9_card 84 = .ok (.invokestatic 40, 3) := by decide +kernel
theorem dX9_card_87 : decode cX9_card 87 = .ok (.laload, 1) := by decide +kernel
theorem dX9_card_88 : decode cX9_card 88 = .ok (.l2i, 1) := by decide +kernel
theorem dX9_card_89 : decode cX9_card 89 = .ok (.ireturn, 1) := by decide +kernel
theorem dX9_card_90 : decode cX9_card 90 = .ok (.aload_n 0, 1) := by decide +kernel
theorem dX9_card_91 : decode cX9_card 91 = .ok (.iload_n 1, 1) := by decide +kernel
theorem dX9_card_92 : decode cX9_card 92 = .ok (.invokevirtual 119, 3) := by decide +kernel
theorem dX9_card_95 : decode cX9_card 95 = .ok (.ireturn, 1) := by decide +kernel
theorem dX9_card_96 : decode cX9_card 96 = .ok (.aload_n 0, 1) := by decide +kernel
theorem dX9_card_97 : decode cX9_card 97 = .ok (.iload_n 1, 1) := by decide +kernel
theorem dX9_card_98 : decode cX9_card 98 = .ok (.invokevirtual 126, 3) := by decide +kernel
theorem dX9_card_101 : decode cX9_card 101 = .ok (.ifCond .eq 7, 3) := by decide +kernel
theorem dX9_card_104 : decode cX9_card 104 = .ok (.iconst 1, 1) := by decide +kernel
theorem dX9_card_105 : decode cX9_card 105 = .ok (.goto 4, 3) := by decide +kernel
theorem dX9_card_108 : decode cX9_card 108 = .ok (.iconst 0, 1) := by decide +kernel
theorem dX9_card_109 : decode cX9_card 109 = .ok (.ireturn, 1) := by decide +kernel
theorem dX9_card_110 : decode cX9_card 110 = .ok (.iconst (-1), 1) := by decide +kernel
theorem dX9_card_111 : decode cX9_card 111 = .ok (.ireturn, 1) := by decide +kernel
theorem dX9_isPlace_0 : decode cX9_isPlace 0 = .ok (.iload_n 0, 1) := by decide +kernel
theorem dX9_isPlace_1 : decode cX9_isPlace 1 = .ok (.i2l, 1) := by decide +kernel
theorem dX9_isPlace_2 : decode cX9_isPlace 2 = .ok (.lconst 0, 1) := by decide +kernel
theorem dX9_isPlace_3 : decode cX9_isPlace 3 = .ok (.ldc2_w 285, 3) := by decide +kernel
theorem dX9_isPlace_6 : decode cX9_isPlace 6 = .ok (.invokestatic 32, 3) := by decide +kernel
theorem dX9_isPlace_9 : decode cX9_isPlace 9 = .ok (.ireturn, 1) := by decide +kernel
theorem dX9_place_0 : decode cX9_place 0 = .ok (.aload_n 0, 1) := by decide +kernel
theorem dX9_place_1 : decode cX9_place 1 = .ok (.iload_n 1, 1) := by decide +kernel
theorem dX9_place_2 : decode cX9_place 2 = .ok (.invokevirtual 289, 3) := by decide +kernel
theorem dX9_place_5 : decode cX9_place 5 = .ok (.ifCond .eq 10, 3) := by decide +kernel
theorem dX9_place_8 : decode cX9_place 8 = .ok (.iload_n 2, 1) := by decide +kernel
theorem dX9_place_9 : decode cX9_place 9 = .ok (.invokestatic 295, 3) := by decide +kernel
theorem dX9_place_12 : decode cX9_place 12 = .ok (.ifCond .ne 5, 3) := by decide +kernel
theorem dX9_place_15 : decode cX9_place 15 = .ok (.iconst (-1), 1) := by decide +kernel
theorem dX9_place_16 : decode cX9_place 16 = .ok (.ireturn, 1) := by decide +kernel
theorem dX9_place_17 : decode cX9_place 17 = .ok (.iload_n 3, 1) := by decide +kernel
theorem dX9_place_18 : decode cX9_place 18 = .ok (.tableswitch 102 0 4 #[34, 41, 52, 80, 91], 34) := by decide +kernel
theorem dX9_place_52 : decode cX9_place 52 = .ok (.aload_n 0, 1) := by decide +kernel
theorem dX9_place_53 : decode cX9_place 53 = .ok (.iload_n 1, 1) := by decide +kernel
theorem dX9_place_54 : decode cX9_place 54 = .ok (.iload_n 2, 1) := by decide +kernel
theorem dX9_place_55 : decode cX9_place 55 = .ok (.invokevirtual 58, 3) := by decide +kernel
theorem dX9_place_58 : decode cX9_place 58 = .ok (.ireturn, 1) := by decide +kernel
theorem dX9_place_59 : decode cX9_place 59 = .ok (.aload_n 0, 1) := by decide +kernel
theorem dX9_place_60 : decode cX9_place 60 = .ok (.iload_n 1, 1) := by decide +kernel
theorem dX9_place_61 : decode cX9_place 61 = .ok (.iload_n 2, 1) := by decide +kernel
theorem dX9_place_62 : decode cX9_place 62 = .ok (.aload_n 0, 1) := by decide +kernel
theorem dX9_place_63 : decode cX9_place 63 = .ok (.invokevirtual 107, 3) := by decide +kernel
theorem dX9_place_66 : decode cX9_place 66 = .ok (.invokevirtual 85, 3) := by decide +kernel
theorem dX9_place_69 : decode cX9_place 69 = .ok (.ireturn, 1) := by decide +kernel
theorem dX9_place_70 : decode cX9_place 70 = .ok (.aload_n 0, 1) := by decide +kernel
theorem dX9_place_71 : decode cX9_place 71 = .ok (.iload_n 1, 1) := by decide +kernel
theorem dX9_place_72 : decode cX9_place 72 = .ok (.invokevirtual 72, 3) := by decide +kernel
theorem dX9_place_75 : decode cX9_place 75 = .ok (.ifCond .eq 20, 3) := by decide +kernel
theorem dX9_place_78 : decode cX9_place 78 = .ok (.aload_n 0, 1) := by decide +kernel
theorem dX9_place_79 : decode cX9_place 79 = .ok (.getfield 7, 3) := by decide +kernel
theorem dX9_place_82 : decode cX9_place 82 = .ok (.iload_n 1, 1) := by decide +kernel
theorem dX9_place_83 : decode cX9_place 83 = .ok (.iconst 4, 1) := by decide +kernel
theorem dX9_place_84 : decode cX9_place 84 = .ok (.invokestatic 40, 3) := by decide +kernel
theorem dX9_place_87 : decode cX9_place 87 = .ok (.laload, 1) := by decide +kernel
theorem dX9_place_88 : decode cX9_place 88 = .ok (.iload_n 2, 1) := by decide +kernel
theorem dX9_place_89 : decode cX9_place 89 = .ok (.invokestatic 44, 3) := by decide +kernel
theorem dX9_place_92 : decode cX9_place 92 = .ok (.goto 5, 3) := by decide +kernel
theorem dX9_place_95 : decode cX9_place 95 = .ok (.bipush (-9), 2) := by decide +kernel
theorem dX9_place_97 : decode cX9_place 97 = .ok (.ireturn, 1) := by decide +kernel
theorem dX9_place_98 : decode cX9_place 98 = .ok (.aload_n 0, 1) := by decide +kernel
theorem dX9_place_99 : decode cX9_place 99 = .ok (.iload_n 1, 1) := by decide +kernel
theorem dX9_place_100 : decode cX9_place 100 = .ok (.iload_n 2, 1) := by decide +kernel
theorem dX9_place_101 : decode cX9_place 101 = .ok (.aload_n 0, 1) := by decide +kernel
theorem dX9_place_102 : decode cX9_place 102 = .ok (.invokevirtual 107, 3) := by decide +kernel
theorem dX9_place_105 : decode cX9_place 105 = .ok (.invokevirtual 88, 3) := by decide +kernel
theorem dX9_place_108 : decode cX9_place 108 = .ok (.ireturn, 1) := by decide +kernel
theorem dX9_place_109 : decode cX9_place 109 = .ok (.aload_n 0, 1) := by decide +kernel
theorem dX9_place_110 : decode cX9_place 110 = .ok (.iload_n 1, 1) := by decide +kernel
theorem dX9_place_111 : decode cX9_place 111 = .ok (.iload_n 2, 1) := by decide +kernel
theorem dX9_place_112 : decode cX9_place 112 = .ok (.aload_n 0, 1) := by decide +kernel
theorem dX9_place_113 : decode cX9_place 113 = .ok (.invokevirtual 107, 3) := by decide +kernel
theorem dX9_place_116 : decode cX9_place 116 = .ok (.invokevirtual 91, 3) := by decide +kernel
theorem dX9_place_119 : decode cX9_place 119 = .ok (.ireturn, 1) := by decide +kernel
theorem dX9_place_120 : decode cX9_place 120 = .ok (.iconst (-1), 1) := by decide +kernel
theorem dX9_place_121 : decode cX9_place 121 = .ok (.ireturn, 1) := by decide +kernel
theorem dX9_runAt_0 : decode cX9_runAt 0 = .ok (.aload_n 0, 1) := by decide +kernel
theorem dX9_runAt_1 : decode cX9_runAt 1 = .ok (.iload_n 1, 1) := by decide +kernel
theorem dX9_runAt_2 : decode cX9_runAt 2 = .ok (.invokevirtual 289, 3) := by decide +kernel
theorem dX9_runAt_5 : decode cX9_runAt 5 = .ok (.ifCond .eq 22, 3) := by decide +kernel
theorem dX9_runAt_8 : decode cX9_runAt 8 = .ok (.iload_n 2, 1) := by decide +kernel
theorem dX9_runAt_9 : decode cX9_runAt 9 = .ok (.invokestatic 295, 3) := by decide +kernel
theorem dX9_runAt_12 : decode cX9_runAt 12 = .ok (.ifCond .eq 15, 3) := by decide +kernel
theorem dX9_runAt_15 : decode cX9_runAt 15 = .ok (.iload_n 3, 1) := by decide +kernel
theorem dX9_runAt_16 : decode cX9_runAt 16 = .ok (.i2l, 1) := by decide +kernel
theorem dX9_runAt_17 : decode cX9_runAt 17 = .ok (.lconst 0, 1) := by decide +kernel
theorem dX9_runAt_18 : decode cX9_runAt 18 = .ok (.ldc2_w 48, 3) := by decide +kernel
theorem dX9_runAt_21 : decode cX9_runAt 21 = .ok (.invokestatic 32, 3) := by decide +kernel
theorem dX9_runAt_24 : decode cX9_runAt 24 = .ok (.ifCond .ne 5, 3) := by decide +kernel
theorem dX9_runAt_27 : decode cX9_runAt 27 = .ok (.iconst (-1), 1) := by decide +kernel
theorem dX9_runAt_28 : decode cX9_runAt 28 = .ok (.ireturn, 1) := by decide +kernel
theorem dX9_runAt_29 : decode cX9_runAt 29 = .ok (.aload_n 0, 1) := by decide +kernel
theorem dX9_runAt_30 : decode cX9_runAt 30 = .ok (.iload_n 1, 1) := by decide +kernel
theorem dX9_runAt_31 : decode cX9_runAt 31 = .ok (.iload_n 2, 1) := by decide +kernel
theorem dX9_runAt_32 : decode cX9_runAt 32 = .ok (.invokevirtual 58, 3) := by decide +kernel
theorem dX9_runAt_35 : decode cX9_runAt 35 = .ok (.ifCond .ne 6, 3) := by decide +kernel
theorem dX9_runAt_38 : decode cX9_runAt 38 = .ok (.bipush (-9), 2) := by decide +kernel
theorem dX9_runAt_40 : decode cX9_runAt 40 = .ok (.ireturn, 1) := by decide +kernel
theorem dX9_runAt_41 : decode cX9_runAt 41 = .ok (.aload_n 0, 1) := by decide +kernel
theorem dX9_runAt_42 : decode cX9_runAt 42 = .ok (.iload_n 1, 1) := by decide +kernel
theorem dX9_runAt_43 : decode cX9_runAt 43 = .ok (.iload_n 2, 1) := by decide +kernel
theorem dX9_runAt_44 : decode cX9_runAt 44 = .ok (.iconst (-1), 1) := by decide +kernel
theorem dX9_runAt_45 : decode cX9_runAt 45 = .ok (.invokevirtual 68, 3) := by decide +kernel
theorem dX9_runAt_48 : decode cX9_runAt 48 = .ok (.istore 4, 2) := by decide +kernel
theorem dX9_runAt_50 : decode cX9_runAt 50 = .ok (.iload_n 3, 1) := by decide +kernel
theorem dX9_runAt_51 : decode cX9_runAt 51 = .ok (.ifCond .ne 8, 3) := by decide +kernel
theorem dX9_runAt_54 : decode cX9_runAt 54 = .ok (.iload 4, 2) := by decide +kernel
theorem dX9_runAt_56 : decode cX9_runAt 56 = .ok (.goto 25, 3) := by decide +kernel
theorem dX9_runAt_59 : decode cX9_runAt 59 = .ok (.iload_n 3, 1) := by decide +kernel
theorem dX9_runAt_60 : decode cX9_runAt 60 = .ok (.iconst 1, 1) := by decide +kernel
theorem dX9_runAt_61 : decode cX9_runAt 61 = .ok (.if_icmp .ne 13, 3) := by decide +kernel
theorem dX9_runAt_64 : decode cX9_runAt 64 = .ok (.aload_n 0, 1) := by decide +kernel
theorem dX9_runAt_65 : decode cX9_runAt 65 = .ok (.iload_n 1, 1) := by decide +kernel
theorem dX9_runAt_66 : decode cX9_runAt 66 = .ok (.iload_n 2, 1) := by decide +kernel
theorem dX9_runAt_67 : decode cX9_runAt 67 = .ok (.iconst 1, 1) := by decide +kernel
theorem dX9_runAt_68 : decode cX9_runAt 68 = .ok (.invokevirtual 68, 3) := by decide +kernel
theorem dX9_runAt_71 : decode cX9_runAt 71 = .ok (.goto 10, 3) := by decide +kernel
theorem dX9_runAt_74 : decode cX9_runAt 74 = .ok (.aload_n 0, 1) := by decide +kernel
theorem dX9_runAt_75 : decode cX9_runAt 75 = .ok (.iload 4, 2) := by decide +kernel
theorem dX9_runAt_77 : decode cX9_runAt 77 = .ok (.iload_n 2, 1) := by decide +kernel
theorem dX9_runAt_78 : decode cX9_runAt 78 = .ok (.invokevirtual 76, 3) := by decide +kernel
theorem dX9_runAt_81 : decode cX9_runAt 81 = .ok (.ireturn, 1) := by decide +kernel
theorem dX9_outcomeOf_0 : decode cX9_outcomeOf 0 = .ok (.iload_n 3, 1) := by decide +kernel
theorem dX9_outcomeOf_1 : decode cX9_outcomeOf 1 = .ok (.ifCond .ge 14, 3) := by decide +kernel
theorem dX9_outcomeOf_4 : decode cX9_outcomeOf 4 = .ok (.aload_n 0, 1) := by decide +kernel
theorem dX9_outcomeOf_5 : decode cX9_outcomeOf 5 = .ok (.iload_n 1, 1) := by decide +kernel
theorem dX9_outcomeOf_6 : decode cX9_outcomeOf 6 = .ok (.iload_n 2, 1) := by decide +kernel
theorem dX9_outcomeOf_7 : decode cX9_outcomeOf 7 = .ok (.aload_n 0, 1) := by decide +kernel
theorem dX9_outcomeOf_8 : decode cX9_outcomeOf 8 = .ok (.invokevirtual 107, 3) := by decide +kernel
theorem dX9_outcomeOf_11 : decode cX9_outcomeOf 11 = .ok (.invokevirtual 96, 3) := by decide +kernel
theorem dX9_outcomeOf_14 : decode cX9_outcomeOf 14 = .ok (.ireturn, 1) := by decide +kernel
theorem dX9_outcomeOf_15 : decode cX9_outcomeOf 15 = .ok (.iload_n 1, 1) := by decide +kernel
theorem dX9_outcomeOf_16 : decode cX9_outcomeOf 16 = .ok (.i2l, 1) := by decide +kernel
theorem dX9_outcomeOf_17 : decode cX9_outcomeOf 17 = .ok (.aload_n 0, 1) := by decide +kernel
theorem dX9_outcomeOf_18 : decode cX9_outcomeOf 18 = .ok (.getfield 7, 3) := by decide +kernel
theorem dX9_outcomeOf_21 : decode cX9_outcomeOf 21 = .ok (.iload_n 3, 1) := by decide +kernel
theorem dX9_outcomeOf_22 : decode cX9_outcomeOf 22 = .ok (.iconst 0, 1) := by decide +kernel
theorem dX9_outcomeOf_23 : decode cX9_outcomeOf 23 = .ok (.invokestatic 104, 3) := by decide +kernel
theorem dX9_outcomeOf_26 : decode cX9_outcomeOf 26 = .ok (.laload, 1) := by decide +kernel
theorem dX9_outcomeOf_27 : decode cX9_outcomeOf 27 = .ok (.lcmp, 1) := by decide +kernel
theorem dX9_outcomeOf_28 : decode cX9_outcomeOf 28 = .ok (.ifCond .ge 22, 3) := by decide +kernel
theorem dX9_outcomeOf_31 : decode cX9_outcomeOf 31 = .ok (.aload_n 0, 1) := by decide +kernel
theorem dX9_outcomeOf_32 : decode cX9_outcomeOf 32 = .ok (.getfield 7, 3) := by decide +kernel
theorem dX9_outcomeOf_35 : decode cX9_outcomeOf 35 = .ok (.iload_n 3, 1) := by decide +kernel
theorem dX9_outcomeOf_36 : decode cX9_outcomeOf 36 = .ok (.iconst 1, 1) := by decide +kernel
theorem dX9_outcomeOf_37 : decode cX9_outcomeOf 37 = .ok (.iload_n 1, 1) := by decide +kernel
theorem dX9_outcomeOf_38 : decode cX9_outcomeOf 38 = .ok (.iadd, 1) := by decide +kernel
theorem dX9_outcomeOf_39 : decode cX9_outcomeOf 39 = .ok (.invokestatic 104, 3) := by decide +kernel
theorem dX9_outcomeOf_42 : decode cX9_outcomeOf 42 = .ok (.laload, 1) := by decide +kernel
theorem dX9_outcomeOf_43 : decode cX9_outcomeOf 43 = .ok (.iload_n 2, 1) := by decide +kernel
theorem dX9_outcomeOf_44 : decode cX9_outcomeOf 44 = .ok (.invokestatic 101, 3) := by decide +kernel
theorem dX9_outcomeOf_47 : decode cX9_outcomeOf 47 = .ok (.goto 5, 3) := by decide +kernel
theorem dX9_outcomeOf_50 : decode cX9_outcomeOf 50 = .ok (.bipush (-9), 2) := by decide +kernel
theorem dX9_outcomeOf_52 : decode cX9_outcomeOf 52 = .ok (.ireturn, 1) := by decide +kernel
theorem dX9_isAsked_0 : decode cX9_isAsked 0 = .ok (.iload_n 1, 1) := by decide +kernel
theorem dX9_isAsked_1 : decode cX9_isAsked 1 = .ok (.i2l, 1) := by decide +kernel
theorem dX9_isAsked_2 : decode cX9_isAsked 2 = .ok (.lconst 0, 1) := by decide +kernel
theorem dX9_isAsked_3 : decode cX9_isAsked 3 = .ok (.ldc2_w 278, 3) := by decide +kernel
theorem dX9_isAsked_6 : decode cX9_isAsked 6 = .ok (.invokestatic 32, 3) := by decide +kernel
theorem dX9_isAsked_9 : decode cX9_isAsked 9 = .ok (.ifCond .eq 20, 3) := by decide +kernel
theorem dX9_isAsked_12 : decode cX9_isAsked 12 = .ok (.iload_n 2, 1) := by decide +kernel
theorem dX9_isAsked_13 : decode cX9_isAsked 13 = .ok (.iconst (-1), 1) := by decide +kernel
theorem dX9_isAsked_14 : decode cX9_isAsked 14 = .ok (.if_icmp .eq 11, 3) := by decide +kernel
theorem dX9_isAsked_17 : decode cX9_isAsked 17 = .ok (.aload_n 0, 1) := by decide +kernel
theorem dX9_isAsked_18 : decode cX9_isAsked 18 = .ok (.iload_n 2, 1) := by decide +kernel
theorem dX9_isAsked_19 : decode cX9_isAsked 19 = .ok (.invokevirtual 298, 3) := by decide +kernel
theorem dX9_isAsked_22 : decode cX9_isAsked 22 = .ok (.ifCond .eq 7, 3) := by decide +kernel
theorem dX9_isAsked_25 : decode cX9_isAsked 25 = .ok (.iconst 1, 1) := by decide +kernel
theorem dX9_isAsked_26 : decode cX9_isAsked 26 = .ok (.goto 4, 3) := by decide +kernel
theorem dX9_isAsked_29 : decode cX9_isAsked 29 = .ok (.iconst 0, 1) := by decide +kernel
theorem dX9_isAsked_30 : decode cX9_isAsked 30 = .ok (.ireturn, 1) := by decide +kernel
theorem dX9_outcome_0 : decode cX9_outcome 0 = .ok (.aload_n 0, 1) := by decide +kernel
theorem dX9_outcome_1 : decode cX9_outcome 1 = .ok (.iload_n 1, 1) := by decide +kernel
theorem dX9_outcome_2 : decode cX9_outcome 2 = .ok (.invokevirtual 289, 3) := by decide +kernel
theorem dX9_outcome_5 : decode cX9_outcome 5 = .ok (.ifCond .eq 22, 3) := by decide +kernel
theorem dX9_outcome_8 : decode cX9_outcome 8 = .ok (.aload_n 0, 1) := by decide +kernel
theorem dX9_outcome_9 : decode cX9_outcome 9 = .ok (.iload_n 2, 1) := by decide +kernel
theorem dX9_outcome_10 : decode cX9_outcome 10 = .ok (.iload_n 3, 1) := by decide +kernel
theorem dX9_outcome_11 : decode cX9_outcome 11 = .ok (.invokevirtual 301, 3) := by decide +kernel
theorem dX9_outcome_14 : decode cX9_outcome 14 = .ok (.ifCond .eq 13, 3) := by decide +kernel
theorem dX9_outcome_17 : decode cX9_outcome 17 = .ok (.aload_n 0, 1) := by decide +kernel
theorem dX9_outcome_18 : decode cX9_outcome 18 = .ok (.iload_n 1, 1) := by decide +kernel
theorem dX9_outcome_19 : decode cX9_outcome 19 = .ok (.iload_n 2, 1) := by decide +kernel
theorem dX9_outcome_20 : decode cX9_outcome 20 = .ok (.iload_n 3, 1) := by decide +kernel
theorem dX9_outcome_21 : decode cX9_outcome 21 = .ok (.invokevirtual 304, 3) := by decide +kernel
theorem dX9_outcome_24 : decode cX9_outcome 24 = .ok (.goto 4, 3) := by decide +kernel
theorem dX9_outcome_27 : decode cX9_outcome 27 = .ok (.iconst (-1), 1) := by decide +kernel
theorem dX9_outcome_28 : decode cX9_outcome 28 = .ok (.ireturn, 1) := by decide +kernel
theorem dX9_tallied_0 : decode cX9_tallied 0 = .ok (.iconst 0, 1) := by decide +kernel
theorem dX9_tallied_1 : decode cX9_tallied 1 = .ok (.istore 5, 2) := by decide +kernel
theorem dX9_tallied_3 : decode cX9_tallied 3 = .ok (.iconst 0, 1) := by decide +kernel
theorem dX9_tallied_4 : decode cX9_tallied 4 = .ok (.istore 6, 2) := by decide +kernel
theorem dX9_tallied_6 : decode cX9_tallied 6 = .ok (.iload 6, 2) := by decide +kernel
theorem dX9_tallied_8 : decode cX9_tallied 8 = .ok (.i2l, 1) := by decide +kernel
theorem dX9_tallied_9 : decode cX9_tallied 9 = .ok (.aload_n 0, 1) := by decide +kernel
theorem dX9_tallied_10 : decode cX9_tallied 10 = .ok (.getfield 7, 3) := by decide +kernel
theorem dX9_tallied_13 : decode cX9_tallied 13 = .ok (.iconst 0, 1) := by decide +kernel
theorem dX9_tallied_14 : decode cX9_tallied 14 = .ok (.laload, 1) := by decide +kernel
theorem dX9_tallied_15 : decode cX9_tallied 15 = .ok (.lcmp, 1) := by decide +kernel
theorem dX9_tallied_16 : decode cX9_tallied 16 = .ok (.ifCond .ge 67, 3) := by decide +kernel
theorem dX9_tallied_19 : decode cX9_tallied 19 = .ok (.iload 4, 2) := by decide +kernel
theorem dX9_tallied_21 : decode cX9_tallied 21 = .ok (.iconst (-1), 1) := by decide +kernel
theorem dX9_tallied_22 : decode cX9_tallied 22 = .ok (.if_icmp .eq 21, 3) := by decide +kernel
theorem dX9_tallied_25 : decode cX9_tallied 25 = .ok (.aload_n 0, 1) := by decide +kernel
theorem dX9_tallied_26 : decode cX9_tallied 26 = .ok (.getfield 7, 3) := by decide +kernel
theorem dX9_tallied_29 : decode cX9_tallied 29 = .ok (.iload 6, 2) := by decide +kernel
theorem dX9_tallied_31 : decode cX9_tallied 31 = .ok (.iconst 0, 1) := by decide +kernel
theorem dX9_tallied_32 : decode cX9_tallied 32 = .ok (.invokestatic 40, 3) := by decide +kernel
theorem dX9_tallied_35 : decode cX9_tallied 35 = .ok (.laload, 1) := by decide +kernel
theorem dX9_tallied_36 : decode cX9_tallied 36 = .ok (.iload 4, 2) := by decide +kernel
theorem dX9_tallied_38 : decode cX9_tallied 38 = .ok (.i2l, 1) := by decide +kernel
theorem dX9_tallied_39 : decode cX9_tallied 39 = .ok (.lcmp, 1) := by decide +kernel
theorem dX9_tallied_40 : decode cX9_tallied 40 = .ok (.ifCond .ne 7, 3) := by decide +kernel
theorem dX9_tallied_43 : decode cX9_tallied 43 = .ok (.iconst 1, 1) := by decide +kernel
theorem dX9_tallied_44 : decode cX9_tallied 44 = .ok (.goto 4, 3) := by decide +kernel
theorem dX9_tallied_47 : decode cX9_tallied 47 = .ok (.iconst 0, 1) := by decide +kernel
theorem dX9_tallied_48 : decode cX9_tallied 48 = .ok (.istore 7, 2) := by decide +kernel
theorem dX9_tallied_50 : decode cX9_tallied 50 = .ok (.iload 5, 2) := by decide +kernel
theorem dX9_tallied_52 : decode cX9_tallied 52 = .ok (.iload 7, 2) := by decide +kernel
theorem dX9_tallied_54 : decode cX9_tallied 54 = .ok (.ifCond .eq 19, 3) := by decide +kernel
theorem dX9_tallied_57 : decode cX9_tallied 57 = .ok (.aload_n 0, 1) := by decide +kernel
theorem dX9_tallied_58 : decode cX9_tallied 58 = .ok (.iload 6, 2) := by decide +kernel
theorem dX9_tallied_60 : decode cX9_tallied 60 = .ok (.iload_n 1, 1) := by decide +kernel
theorem dX9_tallied_61 : decode cX9_tallied 61 = .ok (.iload_n 3, 1) := by decide +kernel
theorem dX9_tallied_62 : decode cX9_tallied 62 = .ok (.invokevirtual 304, 3) := by decide +kernel
theorem dX9_tallied_65 : decode cX9_tallied 65 = .ok (.iload_n 2, 1) := by decide +kernel
theorem dX9_tallied_66 : decode cX9_tallied 66 = .ok (.if_icmp .ne 7, 3) := by decide +kernel
theorem dX9_tallied_69 : decode cX9_tallied 69 = .ok (.iconst 1, 1) := by decide +kernel
theorem dX9_tallied_70 : decode cX9_tallied 70 = .ok (.goto 4, 3) := by decide +kernel
theorem dX9_tallied_73 : decode cX9_tallied 73 = .ok (.iconst 0, 1) := by decide +kernel
theorem dX9_tallied_74 : decode cX9_tallied 74 = .ok (.iadd, 1) := by decide +kernel
theorem dX9_tallied_75 : decode cX9_tallied 75 = .ok (.istore 5, 2) := by decide +kernel
theorem dX9_tallied_77 : decode cX9_tallied 77 = .ok (.iinc 6 1, 3) := by decide +kernel
theorem dX9_tallied_80 : decode cX9_tallied 80 = .ok (.goto (-74), 3) := by decide +kernel
theorem dX9_tallied_83 : decode cX9_tallied 83 = .ok (.iload 5, 2) := by decide +kernel
theorem dX9_tallied_85 : decode cX9_tallied 85 = .ok (.ireturn, 1) := by decide +kernel
theorem dX9_tally_0 : decode cX9_tally 0 = .ok (.aload_n 0, 1) := by decide +kernel
theorem dX9_tally_1 : decode cX9_tally 1 = .ok (.iload_n 1, 1) := by decide +kernel
theorem dX9_tally_2 : decode cX9_tally 2 = .ok (.iload_n 3, 1) := by decide +kernel
theorem dX9_tally_3 : decode cX9_tally 3 = .ok (.invokevirtual 301, 3) := by decide +kernel
theorem dX9_tally_6 : decode cX9_tally 6 = .ok (.ifCond .eq 34, 3) := by decide +kernel
theorem dX9_tally_9 : decode cX9_tally 9 = .ok (.iload_n 2, 1) := by decide +kernel
theorem dX9_tally_10 : decode cX9_tally 10 = .ok (.i2l, 1) := by decide +kernel
theorem dX9_tally_11 : decode cX9_tally 11 = .ok (.lconst 0, 1) := by decide +kernel
theorem dX9_tally_12 : decode cX9_tally 12 = .ok (.ldc2_w 30, 3) := by decide +kernel
theorem dX9_tally_15 : decode cX9_tally 15 = .ok (.invokestatic 32, 3) := by decide +kernel
theorem dX9_tally_18 : decode cX9_tally 18 = .ok (.ifCond .eq 22, 3) := by decide +kernel
theorem dX9_tally_21 : decode cX9_tally 21 = .ok (.iload 4, 2) := by decide +kernel
theorem dX9_tally_23 : decode cX9_tally 23 = .ok (.i2l, 1) := by decide +kernel
theorem dX9_tally_24 : decode cX9_tally 24 = .ok (.ldc2_w 52, 3) := by decide +kernel
theorem dX9_tally_27 : decode cX9_tally 27 = .ok (.ldc2_w 48, 3) := by decide +kernel
theorem dX9_tally_30 : decode cX9_tally 30 = .ok (.invokestatic 32, 3) := by decide +kernel
theorem dX9_tally_33 : decode cX9_tally 33 = .ok (.ifCond .eq 7, 3) := by decide +kernel
theorem dX9_tally_36 : decode cX9_tally 36 = .ok (.iconst 1, 1) := by decide +kernel
theorem dX9_tally_37 : decode cX9_tally 37 = .ok (.goto 4, 3) := by decide +kernel
theorem dX9_tally_40 : decode cX9_tally 40 = .ok (.iconst 0, 1) := by decide +kernel
theorem dX9_tally_41 : decode cX9_tally 41 = .ok (.istore 5, 2) := by decide +kernel
theorem dX9_tally_43 : decode cX9_tally 43 = .ok (.iload 5, 2) := by decide +kernel
theorem dX9_tally_45 : decode cX9_tally 45 = .ok (.ifCond .eq 15, 3) := by decide +kernel
theorem dX9_tally_48 : decode cX9_tally 48 = .ok (.aload_n 0, 1) := by decide +kernel
theorem dX9_tally_49 : decode cX9_tally 49 = .ok (.iload_n 1, 1) := by decide +kernel
theorem dX9_tally_50 : decode cX9_tally 50 = .ok (.iload_n 2, 1) := by decide +kernel
theorem dX9_tally_51 : decode cX9_tally 51 = .ok (.iload_n 3, 1) := by decide +kernel
theorem dX9_tally_52 : decode cX9_tally 52 = .ok (.iload 4, 2) := by decide +kernel
theorem dX9_tally_54 : decode cX9_tally 54 = .ok (.invokevirtual 307, 3) := by decide +kernel
theorem dX9_tally_57 : decode cX9_tally 57 = .ok (.goto 4, 3) := by decide +kernel
theorem dX9_tally_60 : decode cX9_tally 60 = .ok (.iconst (-1), 1) := by decide +kernel
theorem dX9_tally_61 : decode cX9_tally 61 = .ok (.ireturn, 1) := by decide +kernel
theorem dX9_changed_0 : decode cX9_changed 0 = .ok (.aload_n 0, 1) := by decide +kernel
theorem dX9_changed_1 : decode cX9_changed 1 = .ok (.iload_n 1, 1) := by decide +kernel
theorem dX9_changed_2 : decode cX9_changed 2 = .ok (.invokevirtual 298, 3) := by decide +kernel
theorem dX9_changed_5 : decode cX9_changed 5 = .ok (.ifCond .eq 17, 3) := by decide +kernel
theorem dX9_changed_8 : decode cX9_changed 8 = .ok (.iload_n 2, 1) := by decide +kernel
theorem dX9_changed_9 : decode cX9_changed 9 = .ok (.ifCond .lt 13, 3) := by decide +kernel
theorem dX9_changed_12 : decode cX9_changed 12 = .ok (.iload_n 3, 1) := by decide +kernel
theorem dX9_changed_13 : decode cX9_changed 13 = .ok (.i2l, 1) := by decide +kernel
theorem dX9_changed_14 : decode cX9_changed 14 = .ok (.lconst 0, 1) := by decide +kernel
theorem dX9_changed_15 : decode cX9_changed 15 = .ok (.lconst 1, 1) := by decide +kernel
theorem dX9_changed_16 : decode cX9_changed 16 = .ok (.invokestatic 32, 3) := by decide +kernel
theorem dX9_changed_19 : decode cX9_changed 19 = .ok (.ifCond .ne 5, 3) := by decide +kernel
theorem dX9_changed_22 : decode cX9_changed 22 = .ok (.iconst (-1), 1) := by decide +kernel
theorem dX9_changed_23 : decode cX9_changed 23 = .ok (.ireturn, 1) := by decide +kernel
theorem dX9_changed_24 : decode cX9_changed 24 = .ok (.iconst 0, 1) := by decide +kernel
theorem dX9_changed_25 : decode cX9_changed 25 = .ok (.istore 4, 2) := by decide +kernel
theorem dX9_changed_27 : decode cX9_changed 27 = .ok (.iconst 0, 1) := by decide +kernel
theorem dX9_changed_28 : decode cX9_changed 28 = .ok (.istore 5, 2) := by decide +kernel
theorem dX9_changed_30 : decode cX9_changed 30 = .ok (.iload_n 1, 1) := by decide +kernel
theorem dX9_changed_31 : decode cX9_changed 31 = .ok (.ifCond .le 99, 3) := by decide +kernel
theorem dX9_changed_34 : decode cX9_changed 34 = .ok (.iload 5, 2) := by decide +kernel
theorem dX9_changed_36 : decode cX9_changed 36 = .ok (.i2l, 1) := by decide +kernel
theorem dX9_changed_37 : decode cX9_changed 37 = .ok (.aload_n 0, 1) := by decide +kernel
theorem dX9_changed_38 : decode cX9_changed 38 = .ok (.getfield 7, 3) := by decide +kernel
theorem dX9_changed_41 : decode cX9_changed 41 = .ok (.iload_n 1, 1) := by decide +kernel
theorem dX9_changed_42 : decode cX9_changed 42 = .ok (.iconst 1, 1) := by decide +kernel
theorem dX9_changed_43 : decode cX9_changed 43 = .ok (.isub, 1) := by decide +kernel
theorem dX9_changed_44 : decode cX9_changed 44 = .ok (.iconst 0, 1) := by decide +kernel
theorem dX9_changed_45 : decode cX9_changed 45 = .ok (.invokestatic 104, 3) := by decide +kernel
theorem dX9_changed_48 : decode cX9_changed 48 = .ok (.laload, 1) := by decide +kernel
theorem dX9_changed_49 : decode cX9_changed 49 = .ok (.lcmp, 1) := by decide +kernel
theorem dX9_changed_50 : decode cX9_changed 50 = .ok (.ifCond .ge 80, 3) := by decide +kernel
theorem dX9_changed_53 : decode cX9_changed 53 = .ok (.aload_n 0, 1) := by decide +kernel
theorem dX9_changed_54 : decode cX9_changed 54 = .ok (.getfield 7, 3) := by decide +kernel
theorem dX9_changed_57 : decode cX9_changed 57 = .ok (.iload_n 1, 1) := by decide +kernel
theorem dX9_changed_58 : decode cX9_changed 58 = .ok (.iconst 1, 1) := by decide +kernel
theorem dX9_changed_59 : decode cX9_changed 59 = .ok (.isub, 1) := by decide +kernel
theorem dX9_changed_60 : decode cX9_changed 60 = .ok (.iconst 1, 1) := by decide +kernel
theorem dX9_changed_61 : decode cX9_changed 61 = .ok (.iload 5, 2) := by decide +kernel
theorem dX9_changed_63 : decode cX9_changed 63 = .ok (.iadd, 1) := by decide +kernel
theorem dX9_changed_64 : decode cX9_changed 64 = .ok (.invokestatic 104, 3) := by decide +kernel
theorem dX9_changed_67 : decode cX9_changed 67 = .ok (.laload, 1) := by decide +kernel
theorem dX9_changed_68 : decode cX9_changed 68 = .ok (.aload_n 0, 1) := by decide +kernel
theorem dX9_changed_69 : decode cX9_changed 69 = .ok (.getfield 7, 3) := by decide +kernel
theorem dX9_changed_72 : decode cX9_changed 72 = .ok (.iload_n 1, 1) := by decide +kernel
theorem dX9_changed_73 : decode cX9_changed 73 = .ok (.iconst 1, 1) := by decide +kernel
theorem dX9_changed_74 : decode cX9_changed 74 = .ok (.iload 5, 2) := by decide +kernel
theorem dX9_changed_76 : decode cX9_changed 76 = .ok (.iadd, 1) := by decide +kernel
theorem dX9_changed_77 : decode cX9_changed 77 = .ok (.invokestatic 104, 3) := by decide +kernel
theorem dX9_changed_80 : decode cX9_changed 80 = .ok (.laload, 1) := by decide +kernel
theorem dX9_changed_81 : decode cX9_changed 81 = .ok (.invokestatic 115, 3) := by decide +kernel
theorem dX9_changed_84 : decode cX9_changed 84 = .ok (.istore 6, 2) := by decide +kernel
theorem dX9_changed_86 : decode cX9_changed 86 = .ok (.iload 6, 2) := by decide +kernel
theorem dX9_changed_88 : decode cX9_changed 88 = .ok (.ifCond .eq 21, 3) := by decide +kernel
theorem dX9_changed_91 : decode cX9_changed 91 = .ok (.iload 4, 2) := by decide +kernel
theorem dX9_changed_93 : decode cX9_changed 93 = .ok (.iload_n 2, 1) := by decide +kernel
theorem dX9_changed_94 : decode cX9_changed 94 = .ok (.if_icmp .ne 15, 3) := by decide +kernel
theorem dX9_changed_97 : decode cX9_changed 97 = .ok (.iload_n 3, 1) := by decide +kernel
theorem dX9_changed_98 : decode cX9_changed 98 = .ok (.ifCond .ne 8, 3) := by decide +kernel
theorem dX9_changed_101 : decode cX9_changed 101 = .ok (.iload 5, 2) := by decide +kernel
theorem dX9_changed_103 : decode cX9_changed 103 = .ok (.goto 5, 3) := by decide +kernel
theorem dX9_changed_106 : decode cX9_changed 106 = .ok (.iload 6, 2) := by decide +kernel
theorem dX9_changed_108 : decode cX9_changed 108 = .ok (.ireturn, 1) := by decide +kernel
theorem dX9_changed_109 : decode cX9_changed 109 = .ok (.iload 4, 2) := by decide +kernel
theorem dX9_changed_111 : decode cX9_changed 111 = .ok (.iload 6, 2) := by decide +kernel
theorem dX9_changed_113 : decode cX9_changed 113 = .ok (.ifCond .eq 7, 3) := by decide +kernel
theorem dX9_changed_116 : decode cX9_changed 116 = .ok (.iconst 1, 1) := by decide +kernel
theorem dX9_changed_117 : decode cX9_changed 117 = .ok (.goto 4, 3) := by decide +kernel
theorem dX9_changed_120 : decode cX9_changed 120 = .ok (.iconst 0, 1) := by decide +kernel
theorem dX9_changed_121 : decode cX9_changed 121 = .ok (.iadd, 1) := by decide +kernel
theorem dX9_changed_122 : decode cX9_changed 122 = .ok (.istore 4, 2) := by decide +kernel
theorem dX9_changed_124 : decode cX9_changed 124 = .ok (.iinc 5 1, 3) := by decide +kernel
theorem dX9_changed_127 : decode cX9_changed 127 = .ok (.goto (-97), 3) := by decide +kernel
theorem dX9_changed_130 : decode cX9_changed 130 = .ok (.bipush (-9), 2) := by decide +kernel
theorem dX9_changed_132 : decode cX9_changed 132 = .ok (.ireturn, 1) := by decide +kernel
theorem dX9_leader_0 : decode cX9_leader 0 = .ok (.iload_n 1, 1) := by decide +kernel
theorem dX9_leader_1 : decode cX9_leader 1 = .ok (.i2l, 1) := by decide +kernel
theorem dX9_leader_2 : decode cX9_leader 2 = .ok (.lconst 0, 1) := by decide +kernel
theorem dX9_leader_3 : decode cX9_leader 3 = .ok (.ldc2_w 278, 3) := by decide +kernel
theorem dX9_leader_6 : decode cX9_leader 6 = .ok (.invokestatic 32, 3) := by decide +kernel
theorem dX9_leader_9 : decode cX9_leader 9 = .ok (.ifCond .eq 15, 3) := by decide +kernel
theorem dX9_leader_12 : decode cX9_leader 12 = .ok (.iload_n 2, 1) := by decide +kernel
theorem dX9_leader_13 : decode cX9_leader 13 = .ok (.i2l, 1) := by decide +kernel
theorem dX9_leader_14 : decode cX9_leader 14 = .ok (.lconst 0, 1) := by decide +kernel
theorem dX9_leader_15 : decode cX9_leader 15 = .ok (.ldc2_w 278, 3) := by decide +kernel
theorem dX9_leader_18 : decode cX9_leader 18 = .ok (.invokestatic 32, 3) := by decide +kernel
theorem dX9_leader_21 : decode cX9_leader 21 = .ok (.ifCond .ne 5, 3) := by decide +kernel
theorem dX9_leader_24 : decode cX9_leader 24 = .ok (.iconst (-1), 1) := by decide +kernel
theorem dX9_leader_25 : decode cX9_leader 25 = .ok (.ireturn, 1) := by decide +kernel
theorem dX9_leader_26 : decode cX9_leader 26 = .ok (.iconst 0, 1) := by decide +kernel
theorem dX9_leader_27 : decode cX9_leader 27 = .ok (.istore_n 3, 1) := by decide +kernel
theorem dX9_leader_28 : decode cX9_leader 28 = .ok (.iconst 1, 1) := by decide +kernel
theorem dX9_leader_29 : decode cX9_leader 29 = .ok (.istore 4, 2) := by decide +kernel
theorem dX9_leader_31 : decode cX9_leader 31 = .ok (.iload 4, 2) := by decide +kernel
theorem dX9_leader_33 : decode cX9_leader 33 = .ok (.iconst 3, 1) := by decide +kernel
theorem dX9_leader_34 : decode cX9_leader 34 = .ok (.if_icmp .ge 36, 3) := by decide +kernel
theorem dX9_leader_37 : decode cX9_leader 37 = .ok (.aload_n 0, 1) := by decide +kernel
theorem dX9_leader_38 : decode cX9_leader 38 = .ok (.iload_n 1, 1) := by decide +kernel
theorem dX9_leader_39 : decode cX9_leader 39 = .ok (.iload 4, 2) := by decide +kernel
theorem dX9_leader_41 : decode cX9_leader 41 = .ok (.iconst (-1), 1) := by decide +kernel
theorem dX9_leader_42 : decode cX9_leader 42 = .ok (.iconst (-1), 1) := by decide +kernel
theorem dX9_leader_43 : decode cX9_leader 43 = .ok (.invokevirtual 307, 3) := by decide +kernel
theorem dX9_leader_46 : decode cX9_leader 46 = .ok (.aload_n 0, 1) := by decide +kernel
theorem dX9_leader_47 : decode cX9_leader 47 = .ok (.iload_n 1, 1) := by decide +kernel
theorem dX9_leader_48 : decode cX9_leader 48 = .ok (.iload_n 3, 1) := by decide +kernel
theorem dX9_leader_49 : decode cX9_leader 49 = .ok (.iconst (-1), 1) := by decide +kernel
theorem dX9_leader_50 : decode cX9_leader 50 = .ok (.iconst (-1), 1) := by decide +kernel
theorem dX9_leader_51 : decode cX9_leader 51 = .ok (.invokevirtual 307, 3) := by decide +kernel
theorem dX9_leader_54 : decode cX9_leader 54 = .ok (.if_icmp .le 8, 3) := by decide +kernel
theorem dX9_leader_57 : decode cX9_leader 57 = .ok (.iload 4, 2) := by decide +kernel
theorem dX9_leader_59 : decode cX9_leader 59 = .ok (.goto 4, 3) := by decide +kernel
theorem dX9_leader_62 : decode cX9_leader 62 = .ok (.iload_n 3, 1) := by decide +kernel
theorem dX9_leader_63 : decode cX9_leader 63 = .ok (.istore_n 3, 1) := by decide +kernel
theorem dX9_leader_64 : decode cX9_leader 64 = .ok (.iinc 4 1, 3) := by decide +kernel
theorem dX9_leader_67 : decode cX9_leader 67 = .ok (.goto (-36), 3) := by decide +kernel
theorem dX9_leader_70 : decode cX9_leader 70 = .ok (.iconst 0, 1) := by decide +kernel
theorem dX9_leader_71 : decode cX9_leader 71 = .ok (.istore 4, 2) := by decide +kernel
theorem dX9_leader_73 : decode cX9_leader 73 = .ok (.iconst 0, 1) := by decide +kernel
theorem dX9_leader_74 : decode cX9_leader 74 = .ok (.istore 5, 2) := by decide +kernel
theorem dX9_leader_76 : decode cX9_leader 76 = .ok (.iload 5, 2) := by decide +kernel
theorem dX9_leader_78 : decode cX9_leader 78 = .ok (.iconst 3, 1) := by decide +kernel
theorem dX9_leader_79 : decode cX9_leader 79 = .ok (.if_icmp .ge 46, 3) := by decide +kernel
theorem dX9_leader_82 : decode cX9_leader 82 = .ok (.iload 5, 2) := by decide +kernel
theorem dX9_leader_84 : decode cX9_leader 84 = .ok (.iload_n 3, 1) := by decide +kernel
theorem dX9_leader_85 : decode cX9_leader 85 = .ok (.if_icmp .ne 7, 3) := by decide +kernel
theorem dX9_leader_88 : decode cX9_leader 88 = .ok (.iconst 0, 1) := by decide +kernel
theorem dX9_leader_89 : decode cX9_leader 89 = .ok (.goto 12, 3) := by decide +kernel
theorem dX9_leader_92 : decode cX9_leader 92 = .ok (.aload_n 0, 1) := by decide +kernel
theorem dX9_leader_93 : decode cX9_leader 93 = .ok (.iload_n 1, 1) := by decide +kernel
theorem dX9_leader_94 : decode cX9_leader 94 = .ok (.iload 5, 2) := by decide +kernel
theorem dX9_leader_96 : decode cX9_leader 96 = .ok (.iconst (-1), 1) := by decide +kernel
theorem dX9_leader_97 : decode cX9_leader 97 = .ok (.iconst (-1), 1) := by decide +kernel
theorem dX9_leader_98 : decode cX9_leader 98 = .ok (.invokevirtual 307, 3) := by decide +kernel
theorem dX9_leader_101 : decode cX9_leader 101 = .ok (.istore 6, 2) := by decide +kernel
theorem dX9_leader_103 : decode cX9_leader 103 = .ok (.iload 6, 2) := by decide +kernel
theorem dX9_leader_105 : decode cX9_leader 105 = .ok (.iload 4, 2) := by decide +kernel
theorem dX9_leader_107 : decode cX9_leader 107 = .ok (.if_icmp .le 8, 3) := by decide +kernel
theorem dX9_leader_110 : decode cX9_leader 110 = .ok (.iload 6, 2) := by decide +kernel
theorem dX9_leader_112 : decode cX9_leader 112 = .ok (.goto 5, 3) := by decide +kernel
theorem dX9_leader_115 : decode cX9_leader 115 = .ok (.iload 4, 2) := by decide +kernel
theorem dX9_leader_117 : decode cX9_leader 117 = .ok (.istore 4, 2) := by decide +kernel
theorem dX9_leader_119 : decode cX9_leader 119 = .ok (.iinc 5 1, 3) := by decide +kernel
theorem dX9_leader_122 : decode cX9_leader 122 = .ok (.goto (-46), 3) := by decide +kernel
theorem dX9_leader_125 : decode cX9_leader 125 = .ok (.aload_n 0, 1) := by decide +kernel
theorem dX9_leader_126 : decode cX9_leader 126 = .ok (.iload_n 1, 1) := by decide +kernel
theorem dX9_leader_127 : decode cX9_leader 127 = .ok (.iload_n 3, 1) := by decide +kernel
theorem dX9_leader_128 : decode cX9_leader 128 = .ok (.iconst (-1), 1) := by decide +kernel
theorem dX9_leader_129 : decode cX9_leader 129 = .ok (.iconst (-1), 1) := by decide +kernel
theorem dX9_leader_130 : decode cX9_leader 130 = .ok (.invokevirtual 307, 3) := by decide +kernel
theorem dX9_leader_133 : decode cX9_leader 133 = .ok (.iload 4, 2) := by decide +kernel
theorem dX9_leader_135 : decode cX9_leader 135 = .ok (.isub, 1) := by decide +kernel
theorem dX9_leader_136 : decode cX9_leader 136 = .ok (.istore 5, 2) := by decide +kernel
theorem dX9_leader_138 : decode cX9_leader 138 = .ok (.aload_n 0, 1) := by decide +kernel
theorem dX9_leader_139 : decode cX9_leader 139 = .ok (.iload_n 1, 1) := by decide +kernel
theorem dX9_leader_140 : decode cX9_leader 140 = .ok (.iconst 5, 1) := by decide +kernel
theorem dX9_leader_141 : decode cX9_leader 141 = .ok (.iconst (-1), 1) := by decide +kernel
theorem dX9_leader_142 : decode cX9_leader 142 = .ok (.iconst (-1), 1) := by decide +kernel
theorem dX9_leader_143 : decode cX9_leader 143 = .ok (.invokevirtual 307, 3) := by decide +kernel
theorem dX9_leader_146 : decode cX9_leader 146 = .ok (.istore 6, 2) := by decide +kernel
theorem dX9_leader_148 : decode cX9_leader 148 = .ok (.iload_n 2, 1) := by decide +kernel
theorem dX9_leader_149 : decode cX9_leader 149 = .ok (.ifCond .ne 7, 3) := by decide +kernel
theorem dX9_leader_152 : decode cX9_leader 152 = .ok (.iload_n 3, 1) := by decide +kernel
theorem dX9_leader_153 : decode cX9_leader 153 = .ok (.goto 35, 3) := by decide +kernel
theorem dX9_leader_156 : decode cX9_leader 156 = .ok (.iload_n 2, 1) := by decide +kernel
theorem dX9_leader_157 : decode cX9_leader 157 = .ok (.iconst 1, 1) := by decide +kernel
theorem dX9_leader_158 : decode cX9_leader 158 = .ok (.if_icmp .ne 8, 3) := by decide +kernel
theorem dX9_leader_161 : decode cX9_leader 161 = .ok (.iload 5, 2) := by decide +kernel
theorem dX9_leader_163 : decode cX9_leader 163 = .ok (.goto 25, 3) := by decide +kernel
theorem dX9_leader_166 : decode cX9_leader 166 = .ok (.iload_n 2, 1) := by decide +kernel
theorem dX9_leader_167 : decode cX9_leader 167 = .ok (.iconst 2, 1) := by decide +kernel
theorem dX9_leader_168 : decode cX9_leader 168 = .ok (.if_icmp .ne 8, 3) := by decide +kernel
theorem dX9_leader_171 : decode cX9_leader 171 = .ok (.iload 6, 2) := by decide +kernel
theorem dX9_leader_173 : decode cX9_leader 173 = .ok (.goto 15, 3) := by decide +kernel
theorem dX9_leader_176 : decode cX9_leader 176 = .ok (.iload 5, 2) := by decide +kernel
theorem dX9_leader_178 : decode cX9_leader 178 = .ok (.iload 6, 2) := by decide +kernel
theorem dX9_leader_180 : decode cX9_leader 180 = .ok (.if_icmp .le 7, 3) := by decide +kernel
theorem dX9_leader_183 : decode cX9_leader 183 = .ok (.iconst 1, 1) := by decide +kernel
theorem dX9_leader_184 : decode cX9_leader 184 = .ok (.goto 4, 3) := by decide +kernel
theorem dX9_leader_187 : decode cX9_leader 187 = .ok (.iconst 0, 1) := by decide +kernel
theorem dX9_leader_188 : decode cX9_leader 188 = .ok (.ireturn, 1) := by decide +kernel
theorem dX9_size_0 : decode cX9_size 0 = .ok (.iload_n 0, 1) := by decide +kernel
theorem dX9_size_1 : decode cX9_size 1 = .ok (.ifCond .ge 8, 3) := by decide +kernel
theorem dX9_size_4 : decode cX9_size 4 = .ok (.iload_n 0, 1) := by decide +kernel
theorem dX9_size_5 : decode cX9_size 5 = .ok (.ineg, 1) := by decide +kernel
theorem dX9_size_6 : decode cX9_size 6 = .ok (.goto 4, 3) := by decide +kernel
theorem dX9_size_9 : decode cX9_size 9 = .ok (.iload_n 0, 1) := by decide +kernel
theorem dX9_size_10 : decode cX9_size 10 = .ok (.ireturn, 1) := by decide +kernel
theorem dX9_error_0 : decode cX9_error 0 = .ok (.iload_n 1, 1) := by decide +kernel
theorem dX9_error_1 : decode cX9_error 1 = .ok (.i2l, 1) := by decide +kernel
theorem dX9_error_2 : decode cX9_error 2 = .ok (.lconst 0, 1) := by decide +kernel
theorem dX9_error_3 : decode cX9_error 3 = .ok (.ldc2_w 48, 3) := by decide +kernel
theorem dX9_error_6 : decode cX9_error 6 = .ok (.invokestatic 32, 3) := by decide +kernel
theorem dX9_error_9 : decode cX9_error 9 = .ok (.ifCond .eq 15, 3) := by decide +kernel
theorem dX9_error_12 : decode cX9_error 12 = .ok (.iload_n 2, 1) := by decide +kernel
theorem dX9_error_13 : decode cX9_error 13 = .ok (.i2l, 1) := by decide +kernel
theorem dX9_error_14 : decode cX9_error 14 = .ok (.lconst 0, 1) := by decide +kernel
theorem dX9_error_15 : decode cX9_error 15 = .ok (.ldc2_w 48, 3) := by decide +kernel
theorem dX9_error_18 : decode cX9_error 18 = .ok (.invokestatic 32, 3) := by decide +kernel
theorem dX9_error_21 : decode cX9_error 21 = .ok (.ifCond .ne 5, 3) := by decide +kernel
theorem dX9_error_24 : decode cX9_error 24 = .ok (.iconst (-1), 1) := by decide +kernel
theorem dX9_error_25 : decode cX9_error 25 = .ok (.ireturn, 1) := by decide +kernel
theorem dX9_error_26 : decode cX9_error 26 = .ok (.iconst 0, 1) := by decide +kernel
theorem dX9_error_27 : decode cX9_error 27 = .ok (.istore_n 3, 1) := by decide +kernel
theorem dX9_error_28 : decode cX9_error 28 = .ok (.iconst 0, 1) := by decide +kernel
theorem dX9_error_29 : decode cX9_error 29 = .ok (.istore 4, 2) := by decide +kernel
theorem dX9_error_31 : decode cX9_error 31 = .ok (.iload 4, 2) := by decide +kernel
theorem dX9_error_33 : decode cX9_error 33 = .ok (.i2l, 1) := by decide +kernel
theorem dX9_error_34 : decode cX9_error 34 = .ok (.ldc2_w 280, 3) := by decide +kernel
theorem dX9_error_37 : decode cX9_error 37 = .ok (.aload_n 0, 1) := by decide +kernel
theorem dX9_error_38 : decode cX9_error 38 = .ok (.getfield 7, 3) := by decide +kernel
theorem dX9_error_41 : decode cX9_error 41 = .ok (.iconst 0, 1) := by decide +kernel
theorem dX9_error_42 : decode cX9_error 42 = .ok (.laload, 1) := by decide +kernel
theorem dX9_error_43 : decode cX9_error 43 = .ok (.lmul, 1) := by decide +kernel
theorem dX9_error_44 : decode cX9_error 44 = .ok (.lcmp, 1) := by decide +kernel
theorem dX9_error_45 : decode cX9_error 45 = .ok (.ifCond .ge 131, 3) := by decide +kernel
theorem dX9_error_48 : decode cX9_error 48 = .ok (.iload 4, 2) := by decide +kernel
theorem dX9_error_50 : decode cX9_error 50 = .ok (.bipush 12, 2) := by decide +kernel
theorem dX9_error_52 : decode cX9_error 52 = .ok (.idiv, 1) := by decide +kernel
theorem dX9_error_53 : decode cX9_error 53 = .ok (.istore 5, 2) := by decide +kernel
theorem dX9_error_55 : decode cX9_error 55 = .ok (.iload 4, 2) := by decide +kernel
theorem dX9_error_57 : decode cX9_error 57 = .ok (.bipush 12, 2) := by decide +kernel
theorem dX9_error_59 : decode cX9_error 59 = .ok (.irem, 1) := by decide +kernel
theorem dX9_error_60 : decode cX9_error 60 = .ok (.istore 6, 2) := by decide +kernel
theorem dX9_error_62 : decode cX9_error 62 = .ok (.aload_n 0, 1) := by decide +kernel
theorem dX9_error_63 : decode cX9_error 63 = .ok (.getfield 7, 3) := by decide +kernel
theorem dX9_error_66 : decode cX9_error 66 = .ok (.iload 5, 2) := by decide +kernel
theorem dX9_error_68 : decode cX9_error 68 = .ok (.iconst 0, 1) := by decide +kernel
theorem dX9_error_69 : decode cX9_error 69 = .ok (.invokestatic 40, 3) := by decide +kernel
theorem dX9_error_72 : decode cX9_error 72 = .ok (.laload, 1) := by decide +kernel
theorem dX9_error_73 : decode cX9_error 73 = .ok (.iload_n 1, 1) := by decide +kernel
theorem dX9_error_74 : decode cX9_error 74 = .ok (.i2l, 1) := by decide +kernel
theorem dX9_error_75 : decode cX9_error 75 = .ok (.lcmp, 1) := by decide +kernel
theorem dX9_error_76 : decode cX9_error 76 = .ok (.ifCond .ne 94, 3) := by decide +kernel
theorem dX9_error_79 : decode cX9_error 79 = .ok (.aload_n 0, 1) := by decide +kernel
theorem dX9_error_80 : decode cX9_error 80 = .ok (.iload 5, 2) := by decide +kernel
theorem dX9_error_82 : decode cX9_error 82 = .ok (.invokevirtual 72, 3) := by decide +kernel
theorem dX9_error_85 : decode cX9_error 85 = .ok (.ifCond .eq 85, 3) := by decide +kernel
theorem dX9_error_88 : decode cX9_error 88 = .ok (.aload_n 0, 1) := by decide +kernel
theorem dX9_error_89 : decode cX9_error 89 = .ok (.getfield 7, 3) := by decide +kernel
theorem dX9_error_92 : decode cX9_error 92 = .ok (.iload 5, 2) := by decide +kernel
theorem dX9_error_94 : decode cX9_error 94 = .ok (.iconst 4, 1) := by decide +kernel
theorem dX9_error_95 : decode cX9_error 95 = .ok (.invokestatic 40, 3) := by decide +kernel
theorem dX9_error_98 : decode cX9_error 98 = .ok (.laload, 1) := by decide +kernel
theorem dX9_error_99 : decode cX9_error 99 = .ok (.iload 6, 2) := by decide +kernel
theorem dX9_error_101 : decode cX9_error 101 = .ok (.invokestatic 44, 3) := by decide +kernel
theorem dX9_error_104 : decode cX9_error 104 = .ok (.aload_n 0, 1) := by decide +kernel
theorem dX9_error_105 : decode cX9_error 105 = .ok (.iload 5, 2) := by decide +kernel
theorem dX9_error_107 : decode cX9_error 107 = .ok (.iload 6, 2) := by decide +kernel
theorem dX9_error_109 : decode cX9_error 109 = .ok (.invokevirtual 58, 3) := by decide +kernel
theorem dX9_error_112 : decode cX9_error 112 = .ok (.isub, 1) := by decide +kernel
theorem dX9_error_113 : decode cX9_error 113 = .ok (.istore 7, 2) := by decide +kernel
theorem dX9_error_115 : decode cX9_error 115 = .ok (.iload 7, 2) := by decide +kernel
theorem dX9_error_117 : decode cX9_error 117 = .ok (.aload_n 0, 1) := by decide +kernel
theorem dX9_error_118 : decode cX9_error 118 = .ok (.iload 5, 2) := by decide +kernel
theorem dX9_error_120 : decode cX9_error 120 = .ok (.iload 6, 2) := by decide +kernel
theorem dX9_error_122 : decode cX9_error 122 = .ok (.aload_n 0, 1) := by decide +kernel
theorem dX9_error_123 : decode cX9_error 123 = .ok (.invokevirtual 107, 3) := by decide +kernel
theorem dX9_error_126 : decode cX9_error 126 = .ok (.invokevirtual 85, 3) := by decide +kernel
theorem dX9_error_129 : decode cX9_error 129 = .ok (.iadd, 1) := by decide +kernel
theorem dX9_error_130 : decode cX9_error 130 = .ok (.istore 8, 2) := by decide +kernel
theorem dX9_error_132 : decode cX9_error 132 = .ok (.iload_n 3, 1) := by decide +kernel
theorem dX9_error_133 : decode cX9_error 133 = .ok (.iload_n 2, 1) := by decide +kernel
theorem dX9_error_134 : decode cX9_error 134 = .ok (.ifCond .ne 16, 3) := by decide +kernel
theorem dX9_error_137 : decode cX9_error 137 = .ok (.aload_n 0, 1) := by decide +kernel
theorem dX9_error_138 : decode cX9_error 138 = .ok (.iconst 1, 1) := by decide +kernel
theorem dX9_error_139 : decode cX9_error 139 = .ok (.iload 7, 2) := by decide +kernel
theorem dX9_error_141 : decode cX9_error 141 = .ok (.invokestatic 310, 3) := by decide +kernel
theorem dX9_error_144 : decode cX9_error 144 = .ok (.invokevirtual 82, 3) := by decide +kernel
theorem dX9_error_147 : decode cX9_error 147 = .ok (.goto 21, 3) := by decide +kernel
theorem dX9_error_150 : decode cX9_error 150 = .ok (.iload_n 2, 1) := by decide +kernel
theorem dX9_error_151 : decode cX9_error 151 = .ok (.iconst 1, 1) := by decide +kernel
theorem dX9_error_152 : decode cX9_error 152 = .ok (.if_icmp .ne 11, 3) := by decide +kernel
theorem dX9_error_155 : decode cX9_error 155 = .ok (.iload 7, 2) := by decide +kernel
theorem dX9_error_157 : decode cX9_error 157 = .ok (.invokestatic 310, 3) := by decide +kernel
theorem dX9_error_160 : decode cX9_error 160 = .ok (.goto 8, 3) := by decide +kernel
theorem dX9_error_163 : decode cX9_error 163 = .ok (.iload 8, 2) := by decide +kernel
theorem dX9_error_165 : decode cX9_error 165 = .ok (.invokestatic 310, 3) := by decide +kernel
theorem dX9_error_168 : decode cX9_error 168 = .ok (.iadd, 1) := by decide +kernel
theorem dX9_error_169 : decode cX9_error 169 = .ok (.istore_n 3, 1) := by decide +kernel
theorem dX9_error_170 : decode cX9_error 170 = .ok (.iinc 4 1, 3) := by decide +kernel
theorem dX9_error_173 : decode cX9_error 173 = .ok (.goto (-142), 3) := by decide +kernel
theorem dX9_error_176 : decode cX9_error 176 = .ok (.iload_n 3, 1) := by decide +kernel
theorem dX9_error_177 : decode cX9_error 177 = .ok (.ireturn, 1) := by decide +kernel
theorem dX9_byLength_0 : decode cX9_byLength 0 = .ok (.iload_n 1, 1) := by decide +kernel
theorem dX9_byLength_1 : decode cX9_byLength 1 = .ok (.i2l, 1) := by decide +kernel
theorem dX9_byLength_2 : decode cX9_byLength 2 = .ok (.ldc2_w 48, 3) := by decide +kernel
theorem dX9_byLength_5 : decode cX9_byLength 5 = .ok (.ldc2_w 169, 3) := by decide +kernel
theorem dX9_byLength_8 : decode cX9_byLength 8 = .ok (.invokestatic 32, 3) := by decide +kernel
theorem dX9_byLength_11 : decode cX9_byLength 11 = .ok (.ifCond .ne 5, 3) := by decide +kernel
theorem dX9_byLength_14 : decode cX9_byLength 14 = .ok (.iconst (-1), 1) := by decide +kernel
theorem dX9_byLength_15 : decode cX9_byLength 15 = .ok (.ireturn, 1) := by decide +kernel
theorem dX9_byLength_16 : decode cX9_byLength 16 = .ok (.iconst 0, 1) := by decide +kernel
theorem dX9_byLength_17 : decode cX9_byLength 17 = .ok (.istore_n 2, 1) := by decide +kernel
theorem dX9_byLength_18 : decode cX9_byLength 18 = .ok (.iconst 0, 1) := by decide +kernel
theorem dX9_byLength_19 : decode cX9_byLength 19 = .ok (.istore_n 3, 1) := by decide +kernel
theorem dX9_byLength_20 : decode cX9_byLength 20 = .ok (.iload_n 3, 1) := by decide +kernel
theorem dX9_byLength_21 : decode cX9_byLength 21 = .ok (.i2l, 1) := by decide +kernel
theorem dX9_byLength_22 : decode cX9_byLength 22 = .ok (.aload_n 0, 1) := by decide +kernel
theorem dX9_byLength_23 : decode cX9_byLength 23 = .ok (.getfield 7, 3) := by decide +kernel
theorem dX9_byLength_26 : decode cX9_byLength 26 = .ok (.iconst 0, 1) := by decide +kernel
theorem dX9_byLength_27 : decode cX9_byLength 27 = .ok (.laload, 1) := by decide +kernel
theorem dX9_byLength_28 : decode cX9_byLength 28 = .ok (.lcmp, 1) := by decide +kernel
theorem dX9_byLength_29 : decode cX9_byLength 29 = .ok (.ifCond .ge 36, 3) := by decide +kernel
theorem dX9_byLength_32 : decode cX9_byLength 32 = .ok (.iload_n 2, 1) := by decide +kernel
theorem dX9_byLength_33 : decode cX9_byLength 33 = .ok (.aload_n 0, 1) := by decide +kernel
theorem dX9_byLength_34 : decode cX9_byLength 34 = .ok (.iload_n 3, 1) := by decide +kernel
theorem dX9_byLength_35 : decode cX9_byLength 35 = .ok (.iload_n 1, 1) := by decide +kernel
theorem dX9_byLength_36 : decode cX9_byLength 36 = .ok (.invokevirtual 111, 3) := by decide +kernel
theorem dX9_byLength_39 : decode cX9_byLength 39 = .ok (.aload_n 0, 1) := by decide +kernel
theorem dX9_byLength_40 : decode cX9_byLength 40 = .ok (.iload_n 3, 1) := by decide +kernel
theorem dX9_byLength_41 : decode cX9_byLength 41 = .ok (.aload_n 0, 1) := by decide +kernel
theorem dX9_byLength_42 : decode cX9_byLength 42 = .ok (.invokevirtual 107, 3) := by decide +kernel
theorem dX9_byLength_45 : decode cX9_byLength 45 = .ok (.invokevirtual 111, 3) := by decide +kernel
theorem dX9_byLength_48 : decode cX9_byLength 48 = .ok (.lcmp, 1) := by decide +kernel
theorem dX9_byLength_49 : decode cX9_byLength 49 = .ok (.ifCond .eq 7, 3) := by decide +kernel
theorem dX9_byLength_52 : decode cX9_byLength 52 = .ok (.iconst 1, 1) := by decide +kernel
theorem dX9_byLength_53 : decode cX9_byLength 53 = .ok (.goto 4, 3) := by decide +kernel
theorem dX9_byLength_56 : decode cX9_byLength 56 = .ok (.iconst 0, 1) := by decide +kernel
theorem dX9_byLength_57 : decode cX9_byLength 57 = .ok (.iadd, 1) := by decide +kernel
theorem dX9_byLength_58 : decode cX9_byLength 58 = .ok (.istore_n 2, 1) := by decide +kernel
theorem dX9_byLength_59 : decode cX9_byLength 59 = .ok (.iinc 3 1, 3) := by decide +kernel
theorem dX9_byLength_62 : decode cX9_byLength 62 = .ok (.goto (-42), 3) := by decide +kernel
theorem dX9_byLength_65 : decode cX9_byLength 65 = .ok (.iload_n 2, 1) := by decide +kernel
theorem dX9_byLength_66 : decode cX9_byLength 66 = .ok (.ireturn, 1) := by decide +kernel
theorem dX9_drawn_0 : decode cX9_drawn 0 = .ok (.iload_n 1, 1) := by decide +kernel
theorem dX9_drawn_1 : decode cX9_drawn 1 = .ok (.i2l, 1) := by decide +kernel
theorem dX9_drawn_2 : decode cX9_drawn 2 = .ok (.lconst 0, 1) := by decide +kernel
theorem dX9_drawn_3 : decode cX9_drawn 3 = .ok (.ldc2_w 142, 3) := by decide +kernel
theorem dX9_drawn_6 : decode cX9_drawn 6 = .ok (.invokestatic 32, 3) := by decide +kernel
theorem dX9_drawn_9 : decode cX9_drawn 9 = .ok (.ifCond .ne 5, 3) := by decide +kernel
theorem dX9_drawn_12 : decode cX9_drawn 12 = .ok (.iconst (-1), 1) := by decide +kernel
theorem dX9_drawn_13 : decode cX9_drawn 13 = .ok (.ireturn, 1) := by decide +kernel
theorem dX9_drawn_14 : decode cX9_drawn 14 = .ok (.aload_n 0, 1) := by decide +kernel
theorem dX9_drawn_15 : decode cX9_drawn 15 = .ok (.invokevirtual 144, 3) := by decide +kernel
theorem dX9_drawn_18 : decode cX9_drawn 18 = .ok (.istore_n 2, 1) := by decide +kernel
theorem dX9_drawn_19 : decode cX9_drawn 19 = .ok (.iload_n 2, 1) := by decide +kernel
theorem dX9_drawn_20 : decode cX9_drawn 20 = .ok (.ifCond .ne 8, 3) := by decide +kernel
theorem dX9_drawn_23 : decode cX9_drawn 23 = .ok (.bipush (-9), 2) := by decide +kernel
theorem dX9_drawn_25 : decode cX9_drawn 25 = .ok (.goto 26, 3) := by decide +kernel
theorem dX9_drawn_28 : decode cX9_drawn 28 = .ok (.aload_n 0, 1) := by decide +kernel
theorem dX9_drawn_29 : decode cX9_drawn 29 = .ok (.getfield 19, 3) := by decide +kernel
theorem dX9_drawn_32 : decode cX9_drawn 32 = .ok (.ldc2_w 147, 3) := by decide +kernel
theorem dX9_drawn_35 : decode cX9_drawn 35 = .ok (.iload_n 1, 1) := by decide +kernel
theorem dX9_drawn_36 : decode cX9_drawn 36 = .ok (.i2l, 1) := by decide +kernel
theorem dX9_drawn_37 : decode cX9_drawn 37 = .ok (.lmul, 1) := by decide +kernel
theorem dX9_drawn_38 : decode cX9_drawn 38 = .ok (.ldc2_w 149, 3) := by decide +kernel
theorem dX9_drawn_41 : decode cX9_drawn 41 = .ok (.ladd, 1) := by decide +kernel
theorem dX9_drawn_42 : decode cX9_drawn 42 = .ok (.ldc2_w 151, 3) := by decide +kernel
theorem dX9_drawn_45 : decode cX9_drawn 45 = .ok (.lrem, 1) := by decide +kernel
theorem dX9_drawn_46 : decode cX9_drawn 46 = .ok (.iload_n 2, 1) := by decide +kernel
theorem dX9_drawn_47 : decode cX9_drawn 47 = .ok (.i2l, 1) := by decide +kernel
theorem dX9_drawn_48 : decode cX9_drawn 48 = .ok (.lrem, 1) := by decide +kernel
theorem dX9_drawn_49 : decode cX9_drawn 49 = .ok (.l2i, 1) := by decide +kernel
theorem dX9_drawn_50 : decode cX9_drawn 50 = .ok (.iaload, 1) := by decide +kernel
theorem dX9_drawn_51 : decode cX9_drawn 51 = .ok (.ireturn, 1) := by decide +kernel
theorem dX9_seedFor_0 : decode cX9_seedFor 0 = .ok (.aload_n 0, 1) := by decide +kernel
theorem dX9_seedFor_1 : decode cX9_seedFor 1 = .ok (.iload_n 1, 1) := by decide +kernel
theorem dX9_seedFor_2 : decode cX9_seedFor 2 = .ok (.invokevirtual 289, 3) := by decide +kernel
theorem dX9_seedFor_5 : decode cX9_seedFor 5 = .ok (.ifCond .ne 5, 3) := by decide +kernel
theorem dX9_seedFor_8 : decode cX9_seedFor 8 = .ok (.iconst (-1), 1) := by decide +kernel
theorem dX9_seedFor_9 : decode cX9_seedFor 9 = .ok (.ireturn, 1) := by decide +kernel
theorem dX9_seedFor_10 : decode cX9_seedFor 10 = .ok (.aload_n 0, 1) := by decide +kernel
theorem dX9_seedFor_11 : decode cX9_seedFor 11 = .ok (.invokevirtual 144, 3) := by decide +kernel
theorem dX9_seedFor_14 : decode cX9_seedFor 14 = .ok (.istore_n 2, 1) := by decide +kernel
theorem dX9_seedFor_15 : decode cX9_seedFor 15 = .ok (.aload_n 0, 1) := by decide +kernel
theorem dX9_seedFor_16 : decode cX9_seedFor 16 = .ok (.iload_n 1, 1) := by decide +kernel
theorem dX9_seedFor_17 : decode cX9_seedFor 17 = .ok (.invokevirtual 126, 3) := by decide +kernel
theorem dX9_seedFor_20 : decode cX9_seedFor 20 = .ok (.ifCond .ne 6, 3) := by decide +kernel
theorem dX9_seedFor_23 : decode cX9_seedFor 23 = .ok (.bipush (-9), 2) := by decide +kernel
theorem dX9_seedFor_25 : decode cX9_seedFor 25 = .ok (.ireturn, 1) := by decide +kernel
theorem dX9_seedFor_26 : decode cX9_seedFor 26 = .ok (.iconst 0, 1) := by decide +kernel
theorem dX9_seedFor_27 : decode cX9_seedFor 27 = .ok (.istore_n 3, 1) := by decide +kernel
theorem dX9_seedFor_28 : decode cX9_seedFor 28 = .ok (.aload_n 0, 1) := by decide +kernel
theorem dX9_seedFor_29 : decode cX9_seedFor 29 = .ok (.getfield 19, 3) := by decide +kernel
theorem dX9_seedFor_32 : decode cX9_seedFor 32 = .ok (.ldc2_w 147, 3) := by decide +kernel
theorem dX9_seedFor_35 : decode cX9_seedFor 35 = .ok (.iload_n 3, 1) := by decide +kernel
theorem dX9_seedFor_36 : decode cX9_seedFor 36 = .ok (.i2l, 1) := by decide +kernel
theorem dX9_seedFor_37 : decode cX9_seedFor 37 = .ok (.lmul, 1) := by decide +kernel
theorem dX9_seedFor_38 : decode cX9_seedFor 38 = .ok (.ldc2_w 149, 3) := by decide +kernel
theorem dX9_seedFor_41 : decode cX9_seedFor 41 = .ok (.ladd, 1) := by decide +kernel
theorem dX9_seedFor_42 : decode cX9_seedFor 42 = .ok (.ldc2_w 151, 3) := by decide +kernel
theorem dX9_seedFor_45 : decode cX9_seedFor 45 = .ok (.lrem, 1) := by decide +kernel
theorem dX9_seedFor_46 : decode cX9_seedFor 46 = .ok (.iload_n 2, 1) := by decide +kernel
theorem dX9_seedFor_47 : decode cX9_seedFor 47 = .ok (.i2l, 1) := by decide +kernel
theorem dX9_seedFor_48 : decode cX9_seedFor 48 = .ok (.lrem, 1) := by decide +kernel
theorem dX9_seedFor_49 : decode cX9_seedFor 49 = .ok (.l2i, 1) := by decide +kernel
theorem dX9_seedFor_50 : decode cX9_seedFor 50 = .ok (.iaload, 1) := by decide +kernel
theorem dX9_seedFor_51 : decode cX9_seedFor 51 = .ok (.iload_n 1, 1) := by decide +kernel
theorem dX9_seedFor_52 : decode cX9_seedFor 52 = .ok (.if_icmp .eq 9, 3) := by decide +kernel
theorem dX9_seedFor_55 : decode cX9_seedFor 55 = .ok (.iinc 3 1, 3) := by decide +kernel
theorem dX9_seedFor_58 : decode cX9_seedFor 58 = .ok (.goto (-30), 3) := by decide +kernel
theorem dX9_seedFor_61 : decode cX9_seedFor 61 = .ok (.iload_n 3, 1) := by decide +kernel
theorem dX9_seedFor_62 : decode cX9_seedFor 62 = .ok (.ireturn, 1) := by decide +kernel
theorem dJ0_length_8abf5_0 : decode cJ0_length_8abf5 0 = .ok (.aload_n 0, 1) := by decide +kernel
theorem dJ0_length_8abf5_1 : decode cJ0_length_8abf5 1 = .ok (.getfield 9, 3) := by decide +kernel
theorem dJ0_length_8abf5_4 : decode cJ0_length_8abf5 4 = .ok (.arraylength, 1) := by decide +kernel
theorem dJ0_length_8abf5_5 : decode cJ0_length_8abf5 5 = .ok (.aload_n 0, 1) := by decide +kernel
theorem dJ0_length_8abf5_6 : decode cJ0_length_8abf5 6 = .ok (.invokevirtual 335, 3) := by decide +kernel
theorem dJ0_length_8abf5_9 : decode cJ0_length_8abf5 9 = .ok (.ishr, 1) := by decide +kernel
theorem dJ0_length_8abf5_10 : decode cJ0_length_8abf5 10 = .ok (.ireturn, 1) := by decide +kernel
theorem dJ0_charAt_5068e_0 : decode cJ0_charAt_5068e 0 = .ok (.aload_n 0, 1) := by decide +kernel
theorem dJ0_charAt_5068e_1 : decode cJ0_charAt_5068e 1 = .ok (.invokevirtual 492, 3) := by decide +kernel
theorem dJ0_charAt_5068e_4 : decode cJ0_charAt_5068e 4 = .ok (.ifCond .eq 12, 3) := by decide +kernel
theorem dJ0_charAt_5068e_7 : decode cJ0_charAt_5068e 7 = .ok (.aload_n 0, 1) := by decide +kernel
theorem dJ0_charAt_5068e_8 : decode cJ0_charAt_5068e 8 = .ok (.getfield 9, 3) := by decide +kernel
theorem dJ0_charAt_5068e_11 : decode cJ0_charAt_5068e 11 = .ok (.iload_n 1, 1) := by decide +kernel
theorem dJ0_charAt_5068e_12 : decode cJ0_charAt_5068e 12 = .ok (.invokestatic 495, 3) := by decide +kernel
theorem dJ0_charAt_5068e_15 : decode cJ0_charAt_5068e 15 = .ok (.ireturn, 1) := by decide +kernel
theorem dJ0_charAt_5068e_16 : decode cJ0_charAt_5068e 16 = .ok (.aload_n 0, 1) := by decide +kernel
theorem dJ0_charAt_5068e_17 : decode cJ0_charAt_5068e 17 = .ok (.getfield 9, 3) := by decide +kernel
theorem dJ0_charAt_5068e_20 : decode cJ0_charAt_5068e 20 = .ok (.iload_n 1, 1) := by decide +kernel
theorem dJ0_charAt_5068e_21 : decode cJ0_charAt_5068e 21 = .ok (.invokestatic 498, 3) := by decide +kernel
theorem dJ0_charAt_5068e_24 : decode cJ0_charAt_5068e 24 = .ok (.ireturn, 1) := by decide +kernel
theorem dJ0_coder_7d493_0 : decode cJ0_coder_7d493 0 = .ok (.getstatic 38, 3) := by decide +kernel
theorem dJ0_coder_7d493_3 : decode cJ0_coder_7d493 3 = .ok (.ifCond .eq 10, 3) := by decide +kernel
theorem dJ0_coder_7d493_6 : decode cJ0_coder_7d493 6 = .ok (.aload_n 0, 1) := by decide +kernel
theorem dJ0_coder_7d493_7 : decode cJ0_coder_7d493 7 = .ok (.getfield 15, 3) := by decide +kernel
theorem dJ0_coder_7d493_10 : decode cJ0_coder_7d493 10 = .ok (.goto 4, 3) := by decide +kernel
theorem dJ0_coder_7d493_13 : decode cJ0_coder_7d493 13 = .ok (.iconst 1, 1) := by decide +kernel
theorem dJ0_coder_7d493_14 : decode cJ0_coder_7d493 14 = .ok (.ireturn, 1) := by decide +kernel
theorem dJ0_isLatin1_aae02_0 : decode cJ0_isLatin1_aae02 0 = .ok (.getstatic 38, 3) := by decide +kernel
theorem dJ0_isLatin1_aae02_3 : decode cJ0_isLatin1_aae02 3 = .ok (.ifCond .eq 14, 3) := by decide +kernel
theorem dJ0_isLatin1_aae02_6 : decode cJ0_isLatin1_aae02 6 = .ok (.aload_n 0, 1) := by decide +kernel
theorem dJ0_isLatin1_aae02_7 : decode cJ0_isLatin1_aae02 7 = .ok (.getfield 15, 3) := by decide +kernel
theorem dJ0_isLatin1_aae02_10 : decode cJ0_isLatin1_aae02 10 = .ok (.ifCond .ne 7, 3) := by decide +kernel
theorem dJ0_isLatin1_aae02_13 : decode cJ0_isLatin1_aae02 13 = .ok (.iconst 1, 1) := by decide +kernel
theorem dJ0_isLatin1_aae02_14 : decode cJ0_isLatin1_aae02 14 = .ok (.goto 4, 3) := by decide +kernel
theorem dJ0_isLatin1_aae02_17 : decode cJ0_isLatin1_aae02 17 = .ok (.iconst 0, 1) := by decide +kernel
theorem dJ0_isLatin1_aae02_18 : decode cJ0_isLatin1_aae02 18 = .ok (.ireturn, 1) := by decide +kernel
theorem dJ0_checkIndex_df160_0 : decode cJ0_checkIndex_df160 0 = .ok (.iload_n 0, 1) := by decide +kernel
theorem dJ0_checkIndex_df160_1 : decode cJ0_checkIndex_df160 1 = .ok (.iload_n 1, 1) := by decide +kernel
theorem dJ0_checkIndex_df160_2 : decode cJ0_checkIndex_df160 2 = .ok (.getstatic 1053, 3) := by decide +kernel
theorem dJ0_checkIndex_df160_5 : decode cJ0_checkIndex_df160 5 = .ok (.invokestatic 1059, 3) := by decide +kernel
theorem dJ0_checkIndex_df160_8 : decode cJ0_checkIndex_df160 8 = .ok (.pop, 1) := by decide +kernel
theorem dJ0_checkIndex_df160_9 : decode cJ0_checkIndex_df160 9 = .ok (.return_, 1) := by decide +kernel
theorem dJ1_charAt_3b067_0 : decode cJ1_charAt_3b067 0 = .ok (.iload_n 1, 1) := by decide +kernel
theorem dJ1_charAt_3b067_1 : decode cJ1_charAt_3b067 1 = .ok (.aload_n 0, 1) := by decide +kernel
theorem dJ1_charAt_3b067_2 : decode cJ1_charAt_3b067 2 = .ok (.arraylength, 1) := by decide +kernel
theorem dJ1_charAt_3b067_3 : decode cJ1_charAt_3b067 3 = .ok (.invokestatic 9, 3) := by decide +kernel
theorem dJ1_charAt_3b067_6 : decode cJ1_charAt_3b067 6 = .ok (.aload_n 0, 1) := by decide +kernel
theorem dJ1_charAt_3b067_7 : decode cJ1_charAt_3b067 7 = .ok (.iload_n 1, 1) := by decide +kernel
theorem dJ1_charAt_3b067_8 : decode cJ1_charAt_3b067 8 = .ok (.baload, 1) := by decide +kernel
theorem dJ1_charAt_3b067_9 : decode cJ1_charAt_3b067 9 = .ok (.sipush 255, 3) := by decide +kernel
theorem dJ1_charAt_3b067_12 : decode cJ1_charAt_3b067 12 = .ok (.iand, 1) := by decide +kernel
theorem dJ1_charAt_3b067_13 : decode cJ1_charAt_3b067 13 = .ok (.i2c, 1) := by decide +kernel
theorem dJ1_charAt_3b067_14 : decode cJ1_charAt_3b067 14 = .ok (.ireturn, 1) := by decide +kernel
theorem dJ2_getChar_3b067_0 : decode cJ2_getChar_3b067 0 = .ok (.getstatic 44, 3) := by decide +kernel
theorem dJ2_getChar_3b067_3 : decode cJ2_getChar_3b067 3 = .ok (.ifCond .ne 25, 3) := by decide +kernel
theorem dJ2_getChar_3b067_6 : decode cJ2_getChar_3b067 6 = .ok (.iload_n 1, 1) := by decide +kernel
theorem dJ2_getChar_3b067_7 : decode cJ2_getChar_3b067 7 = .ok (.ifCond .lt 11, 3) := by decide +kernel
theorem dJ2_getChar_3b067_10 : decode cJ2_getChar_3b067 10 = .ok (.iload_n 1, 1) := by decide +kernel
theorem dJ2_getChar_3b067_11 : decode cJ2_getChar_3b067 11 = .ok (.aload_n 0, 1) := by decide +kernel
theorem dJ2_getChar_3b067_12 : decode cJ2_getChar_3b067 12 = .ok (.invokestatic 48, 3) := by decide +kernel
theorem dJ2_getChar_3b067_15 : decode cJ2_getChar_3b067 15 = .ok (.if_icmp .lt 13, 3) := by decide +kernel
theorem dJ2_getChar_3b067_18 : decode cJ2_getChar_3b067 18 = .ok (.new 52, 3) := by decide +kernel
theorem dJ2_getChar_3b067_21 : decode cJ2_getChar_3b067 21 = .ok (.dup, 1) := by decide +kernel
theorem dJ2_getChar_3b067_22 : decode cJ2_getChar_3b067 22 = .ok (.ldc 54, 2) := by decide +kernel
theorem dJ2_getChar_3b067_24 : decode cJ2_getChar_3b067 24 = .ok (.invokespecial 56, 3) := by decide +kernel
theorem dJ2_getChar_3b067_27 : decode cJ2_getChar_3b067 27 = .ok (.athrow, 1) := by decide +kernel
theorem dJ2_getChar_3b067_28 : decode cJ2_getChar_3b067 28 = .ok (.iload_n 1, 1) := by decide +kernel
theorem dJ2_getChar_3b067_29 : decode cJ2_getChar_3b067 29 = .ok (.iconst 1, 1) := by decide +kernel
theorem dJ2_getChar_3b067_30 : decode cJ2_getChar_3b067 30 = .ok (.ishl, 1) := by decide +kernel
theorem dJ2_getChar_3b067_31 : decode cJ2_getChar_3b067 31 = .ok (.istore_n 1, 1) := by decide +kernel
theorem dJ2_getChar_3b067_32 : decode cJ2_getChar_3b067 32 = .ok (.aload_n 0, 1) := by decide +kernel
theorem dJ2_getChar_3b067_33 : decode cJ2_getChar_3b067 33 = .ok (.iload_n 1, 1) := by decide +kernel
theorem dJ2_getChar_3b067_34 : decode cJ2_getChar_3b067 34 = .ok (.iinc 1 1, 3) := by decide +kernel
theorem dJ2_getChar_3b067_37 : decode cJ2_getChar_3b067 37 = .ok (.baload, 1) := by decide +kernel
theorem dJ2_getChar_3b067_38 : decode cJ2_getChar_3b067 38 = .ok (.sipush 255, 3) := by decide +kernel
theorem dJ2_getChar_3b067_41 : decode cJ2_getChar_3b067 41 = .ok (.iand, 1) := by decide +kernel
theorem dJ2_getChar_3b067_42 : decode cJ2_getChar_3b067 42 = .ok (.getstatic 59, 3) := by decide +kernel
theorem dJ2_getChar_3b067_45 : decode cJ2_getChar_3b067 45 = .ok (.ishl, 1) := by decide +kernel
theorem dJ2_getChar_3b067_46 : decode cJ2_getChar_3b067 46 = .ok (.aload_n 0, 1) := by decide +kernel
theorem dJ2_getChar_3b067_47 : decode cJ2_getChar_3b067 47 = .ok (.iload_n 1, 1) := by decide +kernel
theorem dJ2_getChar_3b067_48 : decode cJ2_getChar_3b067 48 = .ok (.baload, 1) := by decide +kernel
theorem dJ2_getChar_3b067_49 : decode cJ2_getChar_3b067 49 = .ok (.sipush 255, 3) := by decide +kernel
theorem dJ2_getChar_3b067_52 : decode cJ2_getChar_3b067 52 = .ok (.iand, 1) := by decide +kernel
theorem dJ2_getChar_3b067_53 : decode cJ2_getChar_3b067 53 = .ok (.getstatic 63, 3) := by decide +kernel
theorem dJ2_getChar_3b067_56 : decode cJ2_getChar_3b067 56 = .ok (.ishl, 1) := by decide +kernel
theorem dJ2_getChar_3b067_57 : decode cJ2_getChar_3b067 57 = .ok (.ior, 1) := by decide +kernel
theorem dJ2_getChar_3b067_58 : decode cJ2_getChar_3b067 58 = .ok (.i2c, 1) := by decide +kernel
theorem dJ2_getChar_3b067_59 : decode cJ2_getChar_3b067 59 = .ok (.ireturn, 1) := by decide +kernel
theorem dJ2_length_9d52b_0 : decode cJ2_length_9d52b 0 = .ok (.aload_n 0, 1) := by decide +kernel
theorem dJ2_length_9d52b_1 : decode cJ2_length_9d52b 1 = .ok (.arraylength, 1) := by decide +kernel
theorem dJ2_length_9d52b_2 : decode cJ2_length_9d52b 2 = .ok (.iconst 1, 1) := by decide +kernel
theorem dJ2_length_9d52b_3 : decode cJ2_length_9d52b 3 = .ok (.ishr, 1) := by decide +kernel
theorem dJ2_length_9d52b_4 : decode cJ2_length_9d52b 4 = .ok (.ireturn, 1) := by decide +kernel
theorem dJ2_charAt_3b067_0 : decode cJ2_charAt_3b067 0 = .ok (.iload_n 1, 1) := by decide +kernel
theorem dJ2_charAt_3b067_1 : decode cJ2_charAt_3b067 1 = .ok (.aload_n 0, 1) := by decide +kernel
theorem dJ2_charAt_3b067_2 : decode cJ2_charAt_3b067 2 = .ok (.invokestatic 67, 3) := by decide +kernel
theorem dJ2_charAt_3b067_5 : decode cJ2_charAt_3b067 5 = .ok (.aload_n 0, 1) := by decide +kernel
theorem dJ2_charAt_3b067_6 : decode cJ2_charAt_3b067 6 = .ok (.iload_n 1, 1) := by decide +kernel
theorem dJ2_charAt_3b067_7 : decode cJ2_charAt_3b067 7 = .ok (.invokestatic 71, 3) := by decide +kernel
theorem dJ2_charAt_3b067_10 : decode cJ2_charAt_3b067 10 = .ok (.ireturn, 1) := by decide +kernel
theorem dJ2_checkIndex_2214a_0 : decode cJ2_checkIndex_2214a 0 = .ok (.iload_n 0, 1) := by decide +kernel
theorem dJ2_checkIndex_2214a_1 : decode cJ2_checkIndex_2214a 1 = .ok (.aload_n 1, 1) := by decide +kernel
theorem dJ2_checkIndex_2214a_2 : decode cJ2_checkIndex_2214a 2 = .ok (.invokestatic 48, 3) := by decide +kernel
theorem dJ2_checkIndex_2214a_5 : decode cJ2_checkIndex_2214a 5 = .ok (.invokestatic 414, 3) := by decide +kernel
theorem dJ2_checkIndex_2214a_8 : decode cJ2_checkIndex_2214a 8 = .ok (.return_, 1) := by decide +kernel
theorem dJ3_checkIndex_8e157_0 : decode cJ3_checkIndex_8e157 0 = .ok (.iload_n 0, 1) := by decide +kernel
theorem dJ3_checkIndex_8e157_1 : decode cJ3_checkIndex_8e157 1 = .ok (.ifCond .lt 8, 3) := by decide +kernel
theorem dJ3_checkIndex_8e157_4 : decode cJ3_checkIndex_8e157 4 = .ok (.iload_n 0, 1) := by decide +kernel
theorem dJ3_checkIndex_8e157_5 : decode cJ3_checkIndex_8e157 5 = .ok (.iload_n 1, 1) := by decide +kernel
theorem dJ3_checkIndex_8e157_6 : decode cJ3_checkIndex_8e157 6 = .ok (.if_icmp .lt 10, 3) := by decide +kernel
theorem dJ3_checkIndex_8e157_9 : decode cJ3_checkIndex_8e157 9 = .ok (.aload_n 2, 1) := by decide +kernel
theorem dJ3_checkIndex_8e157_10 : decode cJ3_checkIndex_8e157 10 = .ok (.iload_n 0, 1) := by decide +kernel
theorem dJ3_checkIndex_8e157_11 : decode cJ3_checkIndex_8e157 11 = .ok (.iload_n 1, 1) := by decide +kernel
theorem dJ3_checkIndex_8e157_12 : decode cJ3_checkIndex_8e157 12 = .ok (.invokestatic 95, 3) := by decide +kernel
theorem dJ3_checkIndex_8e157_15 : decode cJ3_checkIndex_8e157 15 = .ok (.athrow, 1) := by decide +kernel
theorem dJ3_checkIndex_8e157_16 : decode cJ3_checkIndex_8e157 16 = .ok (.iload_n 0, 1) := by decide +kernel
theorem dJ3_checkIndex_8e157_17 : decode cJ3_checkIndex_8e157 17 = .ok (.ireturn, 1) := by decide +kernel
theorem dJ9_abs_0f7a4_0 : decode cJ9_abs_0f7a4 0 = .ok (.iload_n 0, 1) := by decide +kernel
theorem dJ9_abs_0f7a4_1 : decode cJ9_abs_0f7a4 1 = .ok (.ifCond .ge 8, 3) := by decide +kernel
theorem dJ9_abs_0f7a4_4 : decode cJ9_abs_0f7a4 4 = .ok (.iload_n 0, 1) := by decide +kernel
theorem dJ9_abs_0f7a4_5 : decode cJ9_abs_0f7a4 5 = .ok (.ineg, 1) := by decide +kernel
theorem dJ9_abs_0f7a4_6 : decode cJ9_abs_0f7a4 6 = .ok (.goto 4, 3) := by decide +kernel
theorem dJ9_abs_0f7a4_9 : decode cJ9_abs_0f7a4 9 = .ok (.iload_n 0, 1) := by decide +kernel
theorem dJ9_abs_0f7a4_10 : decode cJ9_abs_0f7a4 10 = .ok (.ireturn, 1) := by decide +kernel
theorem dJ9_max_7cf53_0 : decode cJ9_max_7cf53 0 = .ok (.iload_n 0, 1) := by decide +kernel
theorem dJ9_max_7cf53_1 : decode cJ9_max_7cf53 1 = .ok (.iload_n 1, 1) := by decide +kernel
theorem dJ9_max_7cf53_2 : decode cJ9_max_7cf53 2 = .ok (.if_icmp .lt 7, 3) := by decide +kernel
theorem dJ9_max_7cf53_5 : decode cJ9_max_7cf53 5 = .ok (.iload_n 0, 1) := by decide +kernel
theorem dJ9_max_7cf53_6 : decode cJ9_max_7cf53 6 = .ok (.goto 4, 3) := by decide +kernel
theorem dJ9_max_7cf53_9 : decode cJ9_max_7cf53 9 = .ok (.iload_n 1, 1) := by decide +kernel
theorem dJ9_max_7cf53_10 : decode cJ9_max_7cf53 10 = .ok (.ireturn, 1) := by decide +kernel
theorem dJ9_min_7cf53_0 : decode cJ9_min_7cf53 0 = .ok (.iload_n 0, 1) := by decide +kernel
theorem dJ9_min_7cf53_1 : decode cJ9_min_7cf53 1 = .ok (.iload_n 1, 1) := by decide +kernel
theorem dJ9_min_7cf53_2 : decode cJ9_min_7cf53 2 = .ok (.if_icmp .gt 7, 3) := by decide +kernel
theorem dJ9_min_7cf53_5 : decode cJ9_min_7cf53 5 = .ok (.iload_n 0, 1) := by decide +kernel
theorem dJ9_min_7cf53_6 : decode cJ9_min_7cf53 6 = .ok (.goto 4, 3) := by decide +kernel
theorem dJ9_min_7cf53_9 : decode cJ9_min_7cf53 9 = .ok (.iload_n 1, 1) := by decide +kernel
theorem dJ9_min_7cf53_10 : decode cJ9_min_7cf53 10 = .ok (.ireturn, 1) := by decide +kernel
end
section
/-! one list of words for all methods: those of the tables that every call keeps -/
def gtb : List Cond := lw_tbl.filter goodWord
theorem gmem {w : Cond} (h : w ∈ lw_tbl) (hg : goodWord w = true) : w ∈ gtb := List.mem_filter.mpr ⟨h, hg⟩
theorem gtb_good {w : Cond} (h : w ∈ gtb) : (w.onTables && w.keeps) = true ∨ ∃ ty, w = .arrayClass ty := good_of_word (List.mem_filter.mp h).2
theorem gtb_in {w : Cond} (h : w ∈ gtb) : w ∈ lw_tbl := (List.mem_filter.mp h).1
abbrev WS (y : MethodName) (b : ByteArray) (n : Nat) (r : Option FieldType) : List Cond := Cond.code y b n r :: gtb
theorem gW {y : MethodName} {b : ByteArray} {n : Nat} {r : Option FieldType} (hc : Cond.code y b n r ∈ gtb) : GoodIn gtb (WS y b n r) := by
  intro w hw
  rcases List.mem_cons.mp hw with h | h
  · subst h; exact ⟨hc, gtb_good hc⟩
  · exact ⟨h, gtb_good h⟩
theorem gV {own C : String} {idx : Nat} {y : MethodName} {b : ByteArray} {n : Nat} {r : Option FieldType} (h1 : Cond.methodLink own idx y ∈ gtb) (h2 : Cond.instanceMethod y ∈ gtb) (h3 : Cond.selects C y y ∈ gtb) (h4 : Cond.initialized C ∈ gtb) (hc : Cond.code y b n r ∈ gtb) : GoodIn gtb (wsV own idx C y (WS y b n r)) := by
  intro w hw
  rcases List.mem_append.mp hw with h | h
  · simp only [List.mem_cons, List.not_mem_nil, or_false] at h
    rcases h with h | h | h | h <;> subst h
    · exact ⟨h1, gtb_good h1⟩
    · exact ⟨h2, gtb_good h2⟩
    · exact ⟨h3, gtb_good h3⟩
    · exact ⟨h4, gtb_good h4⟩
  · exact gW hc w h
theorem gS {own : String} {idx : Nat} {y : MethodName} {b : ByteArray} {n : Nat} {r : Option FieldType} (h1 : Cond.methodLink own idx y ∈ gtb) (h2 : Cond.static y ∈ gtb) (h3 : Cond.initialized y.cls ∈ gtb) (hc : Cond.code y b n r ∈ gtb) : GoodIn gtb (va_wsS own idx y (WS y b n r)) := by
  intro w hw
  rcases List.mem_append.mp hw with h | h
  · simp only [List.mem_cons, List.not_mem_nil, or_false] at h
    rcases h with h | h | h <;> subst h
    · exact ⟨h1, gtb_good h1⟩
    · exact ⟨h2, gtb_good h2⟩
    · exact ⟨h3, gtb_good h3⟩
  · exact gW hc w h
set_option maxRecDepth 100000 in
theorem tw_99 : Cond.fieldLink RX0 40 "SmudgeTally$Books" "cards" "I" ∈ gtb := gmem (List.mem_of_getElem? (i := 99) (by decide +kernel)) (by decide +kernel)
set_option maxRecDepth 100000 in
theorem tw_103 : Cond.fieldLink RX0 44 "SmudgeTally$Books" "versions" "I" ∈ gtb := gmem (List.mem_of_getElem? (i := 103) (by decide +kernel)) (by decide +kernel)
set_option maxRecDepth 100000 in
theorem tw_107 : Cond.fieldLink RX0 9 "SmudgeTally$Books" "machines" "[I" ∈ gtb := gmem (List.mem_of_getElem? (i := 107) (by decide +kernel)) (by decide +kernel)
set_option maxRecDepth 100000 in
theorem tw_368 : Cond.methodLink RX0 47 arraycopyName ∈ gtb := gmem (List.mem_of_getElem? (i := 368) (by decide +kernel)) (by decide +kernel)
set_option maxRecDepth 100000 in
theorem tw_370 : Cond.native arraycopyName ∈ gtb := gmem (List.mem_of_getElem? (i := 370) (by decide +kernel)) (by decide +kernel)
set_option maxRecDepth 100000 in
theorem tw_369 : Cond.static arraycopyName ∈ gtb := gmem (List.mem_of_getElem? (i := 369) (by decide +kernel)) (by decide +kernel)
set_option maxRecDepth 100000 in
theorem tw_67 : Cond.initialized "java/lang/System" ∈ gtb := gmem (List.mem_of_getElem? (i := 67) (by decide +kernel)) (by decide +kernel)
set_option maxRecDepth 100000 in
theorem tw_111 : Cond.fieldLink RX0 15 "SmudgeTally$Books" "cleaningsBefore" "[I" ∈ gtb := gmem (List.mem_of_getElem? (i := 111) (by decide +kernel)) (by decide +kernel)
set_option maxRecDepth 100000 in
theorem tw_115 : Cond.fieldLink RX0 18 "SmudgeTally$Books" "stages" "[I" ∈ gtb := gmem (List.mem_of_getElem? (i := 115) (by decide +kernel)) (by decide +kernel)
set_option maxRecDepth 100000 in
theorem tw_119 : Cond.fieldLink RX0 21 "SmudgeTally$Books" "rows" "[J" ∈ gtb := gmem (List.mem_of_getElem? (i := 119) (by decide +kernel)) (by decide +kernel)
set_option maxRecDepth 100000 in
theorem tw_122 : Cond.fieldLink RX0 25 "SmudgeTally$Books" "truths" "[J" ∈ gtb := gmem (List.mem_of_getElem? (i := 122) (by decide +kernel)) (by decide +kernel)
set_option maxRecDepth 100000 in
theorem tw_125 : Cond.fieldLink RX0 28 "SmudgeTally$Books" "cleanings" "[I" ∈ gtb := gmem (List.mem_of_getElem? (i := 125) (by decide +kernel)) (by decide +kernel)
set_option maxRecDepth 100000 in
theorem tw_127 : Cond.fieldLink RX0 31 "SmudgeTally$Books" "numbers" "[I" ∈ gtb := gmem (List.mem_of_getElem? (i := 127) (by decide +kernel)) (by decide +kernel)
set_option maxRecDepth 100000 in
theorem tw_131 : Cond.fieldLink RX0 34 "SmudgeTally$Books" "versionCards" "[I" ∈ gtb := gmem (List.mem_of_getElem? (i := 131) (by decide +kernel)) (by decide +kernel)
set_option maxRecDepth 100000 in
theorem tw_133 : Cond.fieldLink RX0 37 "SmudgeTally$Books" "versionOutcomes" "[I" ∈ gtb := gmem (List.mem_of_getElem? (i := 133) (by decide +kernel)) (by decide +kernel)
set_option maxRecDepth 100000 in
theorem tw_237 : Cond.fieldLink RX5 18 "SmudgeTally$Slots" "full" "[Z" ∈ gtb := gmem (List.mem_of_getElem? (i := 237) (by decide +kernel)) (by decide +kernel)
set_option maxRecDepth 100000 in
theorem tw_236 : Cond.fieldLink RX5 12 "SmudgeTally$Slots" "kept" "[LSmudgeTally$Books;" ∈ gtb := gmem (List.mem_of_getElem? (i := 236) (by decide +kernel)) (by decide +kernel)
set_option maxRecDepth 100000 in
theorem tw_375 : Cond.methodLink RX5 22 yX0_copyFrom ∈ gtb := gmem (List.mem_of_getElem? (i := 375) (by decide +kernel)) (by decide +kernel)
set_option maxRecDepth 100000 in
theorem tw_365 : Cond.instanceMethod yX0_copyFrom ∈ gtb := gmem (List.mem_of_getElem? (i := 365) (by decide +kernel)) (by decide +kernel)
set_option maxRecDepth 100000 in
theorem tw_366 : Cond.selects RX0 yX0_copyFrom yX0_copyFrom ∈ gtb := gmem (List.mem_of_getElem? (i := 366) (by decide +kernel)) (by decide +kernel)
set_option maxRecDepth 100000 in
theorem tw_60 : Cond.initialized RX0 ∈ gtb := gmem (List.mem_of_getElem? (i := 60) (by decide +kernel)) (by decide +kernel)
set_option maxRecDepth 100000 in
theorem tw_367 : Cond.code yX0_copyFrom cX0_copyFrom 2 none ∈ gtb := gmem (List.mem_of_getElem? (i := 367) (by decide +kernel)) (by decide +kernel)
set_option maxRecDepth 100000 in
theorem tw_260 : Cond.fieldLink RX6 10 "SmudgeTally$State" "books" "LSmudgeTally$Books;" ∈ gtb := gmem (List.mem_of_getElem? (i := 260) (by decide +kernel)) (by decide +kernel)
set_option maxRecDepth 100000 in
theorem tw_364 : Cond.methodLink RX6 23 yX0_copyFrom ∈ gtb := gmem (List.mem_of_getElem? (i := 364) (by decide +kernel)) (by decide +kernel)
set_option maxRecDepth 100000 in
theorem tw_261 : Cond.fieldLink RX6 19 "SmudgeTally$State" "slots" "LSmudgeTally$Slots;" ∈ gtb := gmem (List.mem_of_getElem? (i := 261) (by decide +kernel)) (by decide +kernel)
set_option maxRecDepth 100000 in
theorem tw_371 : Cond.methodLink RX6 27 yX5_copyFrom ∈ gtb := gmem (List.mem_of_getElem? (i := 371) (by decide +kernel)) (by decide +kernel)
set_option maxRecDepth 100000 in
theorem tw_372 : Cond.instanceMethod yX5_copyFrom ∈ gtb := gmem (List.mem_of_getElem? (i := 372) (by decide +kernel)) (by decide +kernel)
set_option maxRecDepth 100000 in
theorem tw_373 : Cond.selects RX5 yX5_copyFrom yX5_copyFrom ∈ gtb := gmem (List.mem_of_getElem? (i := 373) (by decide +kernel)) (by decide +kernel)
set_option maxRecDepth 100000 in
theorem tw_61 : Cond.initialized RX5 ∈ gtb := gmem (List.mem_of_getElem? (i := 61) (by decide +kernel)) (by decide +kernel)
set_option maxRecDepth 100000 in
theorem tw_374 : Cond.code yX5_copyFrom cX5_copyFrom 3 none ∈ gtb := gmem (List.mem_of_getElem? (i := 374) (by decide +kernel)) (by decide +kernel)
set_option maxRecDepth 100000 in
theorem tw_267 : Cond.fieldLink RX2 18 "SmudgeTally$History" "size" "I" ∈ gtb := gmem (List.mem_of_getElem? (i := 267) (by decide +kernel)) (by decide +kernel)
set_option maxRecDepth 100000 in
theorem tw_269 : Cond.fieldLink RX2 12 "SmudgeTally$History" "states" "[LSmudgeTally$State;" ∈ gtb := gmem (List.mem_of_getElem? (i := 269) (by decide +kernel)) (by decide +kernel)
set_option maxRecDepth 100000 in
theorem tw_360 : Cond.methodLink RX2 22 yX6_keep ∈ gtb := gmem (List.mem_of_getElem? (i := 360) (by decide +kernel)) (by decide +kernel)
set_option maxRecDepth 100000 in
theorem tw_361 : Cond.instanceMethod yX6_keep ∈ gtb := gmem (List.mem_of_getElem? (i := 361) (by decide +kernel)) (by decide +kernel)
set_option maxRecDepth 100000 in
theorem tw_362 : Cond.selects RX6 yX6_keep yX6_keep ∈ gtb := gmem (List.mem_of_getElem? (i := 362) (by decide +kernel)) (by decide +kernel)
set_option maxRecDepth 100000 in
theorem tw_63 : Cond.initialized RX6 ∈ gtb := gmem (List.mem_of_getElem? (i := 63) (by decide +kernel)) (by decide +kernel)
set_option maxRecDepth 100000 in
theorem tw_363 : Cond.code yX6_keep cX6_keep 3 none ∈ gtb := gmem (List.mem_of_getElem? (i := 363) (by decide +kernel)) (by decide +kernel)
set_option maxRecDepth 100000 in
theorem tw_386 : Cond.constantLong RX8 266 (999999999999) ∈ gtb := gmem (List.mem_of_getElem? (i := 386) (by decide +kernel)) (by decide +kernel)
set_option maxRecDepth 100000 in
theorem tw_382 : Cond.code yX8_within cX8_within 3 (some .boolean) ∈ gtb := gmem (List.mem_of_getElem? (i := 382) (by decide +kernel)) (by decide +kernel)
set_option maxRecDepth 100000 in
theorem tw_381 : Cond.static yX8_within ∈ gtb := gmem (List.mem_of_getElem? (i := 381) (by decide +kernel)) (by decide +kernel)
set_option maxRecDepth 100000 in
theorem tw_57 : Cond.initialized RX8 ∈ gtb := gmem (List.mem_of_getElem? (i := 57) (by decide +kernel)) (by decide +kernel)
set_option maxRecDepth 100000 in
theorem tw_385 : Cond.code yX8_isRow cX8_isRow 2 (some .boolean) ∈ gtb := gmem (List.mem_of_getElem? (i := 385) (by decide +kernel)) (by decide +kernel)
set_option maxRecDepth 100000 in
theorem tw_384 : Cond.static yX8_isRow ∈ gtb := gmem (List.mem_of_getElem? (i := 384) (by decide +kernel)) (by decide +kernel)
set_option maxRecDepth 100000 in
theorem tw_221 : Cond.fieldLink RX1 22 "SmudgeTally$Clerk" "books" "LSmudgeTally$Books;" ∈ gtb := gmem (List.mem_of_getElem? (i := 221) (by decide +kernel)) (by decide +kernel)
set_option maxRecDepth 100000 in
theorem tw_101 : Cond.fieldLink RX1 50 "SmudgeTally$Books" "cards" "I" ∈ gtb := gmem (List.mem_of_getElem? (i := 101) (by decide +kernel)) (by decide +kernel)
set_option maxRecDepth 100000 in
theorem tw_109 : Cond.fieldLink RX1 56 "SmudgeTally$Books" "machines" "[I" ∈ gtb := gmem (List.mem_of_getElem? (i := 109) (by decide +kernel)) (by decide +kernel)
set_option maxRecDepth 100000 in
theorem tw_120 : Cond.fieldLink RX1 60 "SmudgeTally$Books" "rows" "[J" ∈ gtb := gmem (List.mem_of_getElem? (i := 120) (by decide +kernel)) (by decide +kernel)
set_option maxRecDepth 100000 in
theorem tw_123 : Cond.fieldLink RX1 64 "SmudgeTally$Books" "truths" "[J" ∈ gtb := gmem (List.mem_of_getElem? (i := 123) (by decide +kernel)) (by decide +kernel)
set_option maxRecDepth 100000 in
theorem tw_116 : Cond.fieldLink RX1 67 "SmudgeTally$Books" "stages" "[I" ∈ gtb := gmem (List.mem_of_getElem? (i := 116) (by decide +kernel)) (by decide +kernel)
set_option maxRecDepth 100000 in
theorem tw_113 : Cond.fieldLink RX1 70 "SmudgeTally$Books" "cleaningsBefore" "[I" ∈ gtb := gmem (List.mem_of_getElem? (i := 113) (by decide +kernel)) (by decide +kernel)
set_option maxRecDepth 100000 in
theorem tw_126 : Cond.fieldLink RX1 73 "SmudgeTally$Books" "cleanings" "[I" ∈ gtb := gmem (List.mem_of_getElem? (i := 126) (by decide +kernel)) (by decide +kernel)
set_option maxRecDepth 100000 in
theorem tw_337 : Cond.fieldLink RX8 38 "SmudgeTally" "history" "LSmudgeTally$History;" ∈ gtb := gmem (List.mem_of_getElem? (i := 337) (by decide +kernel)) (by decide +kernel)
set_option maxRecDepth 100000 in
theorem tw_391 : Cond.methodLink RX8 263 yX2_record ∈ gtb := gmem (List.mem_of_getElem? (i := 391) (by decide +kernel)) (by decide +kernel)
set_option maxRecDepth 100000 in
theorem tw_392 : Cond.instanceMethod yX2_record ∈ gtb := gmem (List.mem_of_getElem? (i := 392) (by decide +kernel)) (by decide +kernel)
set_option maxRecDepth 100000 in
theorem tw_393 : Cond.selects RX2 yX2_record yX2_record ∈ gtb := gmem (List.mem_of_getElem? (i := 393) (by decide +kernel)) (by decide +kernel)
set_option maxRecDepth 100000 in
theorem tw_62 : Cond.initialized RX2 ∈ gtb := gmem (List.mem_of_getElem? (i := 62) (by decide +kernel)) (by decide +kernel)
set_option maxRecDepth 100000 in
theorem tw_394 : Cond.code yX2_record cX2_record 3 none ∈ gtb := gmem (List.mem_of_getElem? (i := 394) (by decide +kernel)) (by decide +kernel)
set_option maxRecDepth 100000 in
theorem tw_335 : Cond.fieldLink RX8 27 "SmudgeTally" "books" "LSmudgeTally$Books;" ∈ gtb := gmem (List.mem_of_getElem? (i := 335) (by decide +kernel)) (by decide +kernel)
set_option maxRecDepth 100000 in
theorem tw_336 : Cond.fieldLink RX8 31 "SmudgeTally" "slots" "LSmudgeTally$Slots;" ∈ gtb := gmem (List.mem_of_getElem? (i := 336) (by decide +kernel)) (by decide +kernel)
set_option maxRecDepth 100000 in
theorem tw_356 : Cond.methodLink RX8 49 yX2_prepare ∈ gtb := gmem (List.mem_of_getElem? (i := 356) (by decide +kernel)) (by decide +kernel)
set_option maxRecDepth 100000 in
theorem tw_357 : Cond.instanceMethod yX2_prepare ∈ gtb := gmem (List.mem_of_getElem? (i := 357) (by decide +kernel)) (by decide +kernel)
set_option maxRecDepth 100000 in
theorem tw_358 : Cond.selects RX2 yX2_prepare yX2_prepare ∈ gtb := gmem (List.mem_of_getElem? (i := 358) (by decide +kernel)) (by decide +kernel)
set_option maxRecDepth 100000 in
theorem tw_359 : Cond.code yX2_prepare cX2_prepare 3 none ∈ gtb := gmem (List.mem_of_getElem? (i := 359) (by decide +kernel)) (by decide +kernel)
set_option maxRecDepth 100000 in
theorem tw_333 : Cond.fieldLink RX8 12 "SmudgeTally" "clerk" "LSmudgeTally$Clerk;" ∈ gtb := gmem (List.mem_of_getElem? (i := 333) (by decide +kernel)) (by decide +kernel)
set_option maxRecDepth 100000 in
theorem tw_376 : Cond.methodLink RX8 53 yX1_addCard ∈ gtb := gmem (List.mem_of_getElem? (i := 376) (by decide +kernel)) (by decide +kernel)
set_option maxRecDepth 100000 in
theorem tw_377 : Cond.instanceMethod yX1_addCard ∈ gtb := gmem (List.mem_of_getElem? (i := 377) (by decide +kernel)) (by decide +kernel)
set_option maxRecDepth 100000 in
theorem tw_378 : Cond.selects RX1 yX1_addCard yX1_addCard ∈ gtb := gmem (List.mem_of_getElem? (i := 378) (by decide +kernel)) (by decide +kernel)
set_option maxRecDepth 100000 in
theorem tw_58 : Cond.initialized RX1 ∈ gtb := gmem (List.mem_of_getElem? (i := 58) (by decide +kernel)) (by decide +kernel)
set_option maxRecDepth 100000 in
theorem tw_379 : Cond.code yX1_addCard cX1_addCard 5 (some .int) ∈ gtb := gmem (List.mem_of_getElem? (i := 379) (by decide +kernel)) (by decide +kernel)
set_option maxRecDepth 100000 in
theorem tw_387 : Cond.methodLink RX8 57 yX8_recordIfDone ∈ gtb := gmem (List.mem_of_getElem? (i := 387) (by decide +kernel)) (by decide +kernel)
set_option maxRecDepth 100000 in
theorem tw_389 : Cond.instanceMethod yX8_recordIfDone ∈ gtb := gmem (List.mem_of_getElem? (i := 389) (by decide +kernel)) (by decide +kernel)
set_option maxRecDepth 100000 in
theorem tw_0 : Cond.selects RX8 yX8_recordIfDone yX8_recordIfDone ∈ gtb := gmem (List.mem_of_getElem? (i := 0) (by decide +kernel)) (by decide +kernel)
set_option maxRecDepth 100000 in
theorem tw_390 : Cond.code yX8_recordIfDone cX8_recordIfDone 2 (some .int) ∈ gtb := gmem (List.mem_of_getElem? (i := 390) (by decide +kernel)) (by decide +kernel)
set_option maxRecDepth 100000 in
theorem tw_403 : Cond.methodLink RX1 76 yX0_cardsOf ∈ gtb := gmem (List.mem_of_getElem? (i := 403) (by decide +kernel)) (by decide +kernel)
set_option maxRecDepth 100000 in
theorem tw_404 : Cond.instanceMethod yX0_cardsOf ∈ gtb := gmem (List.mem_of_getElem? (i := 404) (by decide +kernel)) (by decide +kernel)
set_option maxRecDepth 100000 in
theorem tw_405 : Cond.selects RX0 yX0_cardsOf yX0_cardsOf ∈ gtb := gmem (List.mem_of_getElem? (i := 405) (by decide +kernel)) (by decide +kernel)
set_option maxRecDepth 100000 in
theorem tw_406 : Cond.code yX0_cardsOf cX0_cardsOf 5 (some .int) ∈ gtb := gmem (List.mem_of_getElem? (i := 406) (by decide +kernel)) (by decide +kernel)
set_option maxRecDepth 100000 in
theorem tw_399 : Cond.methodLink RX8 61 yX1_cleanMachine ∈ gtb := gmem (List.mem_of_getElem? (i := 399) (by decide +kernel)) (by decide +kernel)
set_option maxRecDepth 100000 in
theorem tw_400 : Cond.instanceMethod yX1_cleanMachine ∈ gtb := gmem (List.mem_of_getElem? (i := 400) (by decide +kernel)) (by decide +kernel)
set_option maxRecDepth 100000 in
theorem tw_401 : Cond.selects RX1 yX1_cleanMachine yX1_cleanMachine ∈ gtb := gmem (List.mem_of_getElem? (i := 401) (by decide +kernel)) (by decide +kernel)
set_option maxRecDepth 100000 in
theorem tw_402 : Cond.code yX1_cleanMachine cX1_cleanMachine 2 (some .int) ∈ gtb := gmem (List.mem_of_getElem? (i := 402) (by decide +kernel)) (by decide +kernel)
set_option maxRecDepth 100000 in
theorem tw_129 : Cond.fieldLink RX1 85 "SmudgeTally$Books" "numbers" "[I" ∈ gtb := gmem (List.mem_of_getElem? (i := 129) (by decide +kernel)) (by decide +kernel)
set_option maxRecDepth 100000 in
theorem tw_411 : Cond.methodLink RX8 64 yX1_setNumber ∈ gtb := gmem (List.mem_of_getElem? (i := 411) (by decide +kernel)) (by decide +kernel)
set_option maxRecDepth 100000 in
theorem tw_412 : Cond.instanceMethod yX1_setNumber ∈ gtb := gmem (List.mem_of_getElem? (i := 412) (by decide +kernel)) (by decide +kernel)
set_option maxRecDepth 100000 in
theorem tw_413 : Cond.selects RX1 yX1_setNumber yX1_setNumber ∈ gtb := gmem (List.mem_of_getElem? (i := 413) (by decide +kernel)) (by decide +kernel)
set_option maxRecDepth 100000 in
theorem tw_414 : Cond.code yX1_setNumber cX1_setNumber 4 (some .int) ∈ gtb := gmem (List.mem_of_getElem? (i := 414) (by decide +kernel)) (by decide +kernel)
set_option maxRecDepth 100000 in
theorem tw_160 : Cond.fieldLink RX4 12 "SmudgeTally$Sight" "books" "LSmudgeTally$Books;" ∈ gtb := gmem (List.mem_of_getElem? (i := 160) (by decide +kernel)) (by decide +kernel)
set_option maxRecDepth 100000 in
theorem tw_108 : Cond.fieldLink RX4 89 "SmudgeTally$Books" "machines" "[I" ∈ gtb := gmem (List.mem_of_getElem? (i := 108) (by decide +kernel)) (by decide +kernel)
set_option maxRecDepth 100000 in
theorem tw_112 : Cond.fieldLink RX4 92 "SmudgeTally$Books" "cleaningsBefore" "[I" ∈ gtb := gmem (List.mem_of_getElem? (i := 112) (by decide +kernel)) (by decide +kernel)
set_option maxRecDepth 100000 in
theorem tw_164 : Cond.fieldLink RX4 22 "SmudgeTally$Sight" "read" "[I" ∈ gtb := gmem (List.mem_of_getElem? (i := 164) (by decide +kernel)) (by decide +kernel)
set_option maxRecDepth 100000 in
theorem tw_121 : Cond.fieldLink RX4 95 "SmudgeTally$Books" "rows" "[J" ∈ gtb := gmem (List.mem_of_getElem? (i := 121) (by decide +kernel)) (by decide +kernel)
set_option maxRecDepth 100000 in
theorem tw_441 : Cond.constantLong RX4 102 (10) ∈ gtb := gmem (List.mem_of_getElem? (i := 441) (by decide +kernel)) (by decide +kernel)
set_option maxRecDepth 100000 in
theorem tw_166 : Cond.fieldLink RX4 25 "SmudgeTally$Sight" "truth" "[I" ∈ gtb := gmem (List.mem_of_getElem? (i := 166) (by decide +kernel)) (by decide +kernel)
set_option maxRecDepth 100000 in
theorem tw_124 : Cond.fieldLink RX4 104 "SmudgeTally$Books" "truths" "[J" ∈ gtb := gmem (List.mem_of_getElem? (i := 124) (by decide +kernel)) (by decide +kernel)
set_option maxRecDepth 100000 in
theorem tw_117 : Cond.fieldLink RX4 116 "SmudgeTally$Books" "stages" "[I" ∈ gtb := gmem (List.mem_of_getElem? (i := 117) (by decide +kernel)) (by decide +kernel)
set_option maxRecDepth 100000 in
theorem tw_450 : Cond.methodLink RX4 119 Lib.Math.max.name ∈ gtb := gmem (List.mem_of_getElem? (i := 450) (by decide +kernel)) (by decide +kernel)
set_option maxRecDepth 100000 in
theorem tw_451 : Cond.static Lib.Math.max.name ∈ gtb := gmem (List.mem_of_getElem? (i := 451) (by decide +kernel)) (by decide +kernel)
set_option maxRecDepth 100000 in
theorem tw_68 : Cond.initialized "java/lang/Math" ∈ gtb := gmem (List.mem_of_getElem? (i := 68) (by decide +kernel)) (by decide +kernel)
set_option maxRecDepth 100000 in
theorem tw_174 : Cond.fieldLink RX4 37 "SmudgeTally$Sight" "runDirt" "[I" ∈ gtb := gmem (List.mem_of_getElem? (i := 174) (by decide +kernel)) (by decide +kernel)
set_option maxRecDepth 100000 in
theorem tw_446 : Cond.methodLink RX4 107 yX4_ownDirt ∈ gtb := gmem (List.mem_of_getElem? (i := 446) (by decide +kernel)) (by decide +kernel)
set_option maxRecDepth 100000 in
theorem tw_448 : Cond.instanceMethod yX4_ownDirt ∈ gtb := gmem (List.mem_of_getElem? (i := 448) (by decide +kernel)) (by decide +kernel)
set_option maxRecDepth 100000 in
theorem tw_4 : Cond.selects RX4 yX4_ownDirt yX4_ownDirt ∈ gtb := gmem (List.mem_of_getElem? (i := 4) (by decide +kernel)) (by decide +kernel)
set_option maxRecDepth 100000 in
theorem tw_59 : Cond.initialized RX4 ∈ gtb := gmem (List.mem_of_getElem? (i := 59) (by decide +kernel)) (by decide +kernel)
set_option maxRecDepth 100000 in
theorem tw_449 : Cond.code yX4_ownDirt cX4_ownDirt 3 (some .int) ∈ gtb := gmem (List.mem_of_getElem? (i := 449) (by decide +kernel)) (by decide +kernel)
set_option maxRecDepth 100000 in
theorem tw_163 : Cond.fieldLink RX4 18 "SmudgeTally$Sight" "previous" "[I" ∈ gtb := gmem (List.mem_of_getElem? (i := 163) (by decide +kernel)) (by decide +kernel)
set_option maxRecDepth 100000 in
theorem tw_168 : Cond.fieldLink RX4 28 "SmudgeTally$Sight" "runFirst" "[I" ∈ gtb := gmem (List.mem_of_getElem? (i := 168) (by decide +kernel)) (by decide +kernel)
set_option maxRecDepth 100000 in
theorem tw_172 : Cond.fieldLink RX4 34 "SmudgeTally$Sight" "runLength" "[I" ∈ gtb := gmem (List.mem_of_getElem? (i := 172) (by decide +kernel)) (by decide +kernel)
set_option maxRecDepth 100000 in
theorem tw_453 : Cond.methodLink RX4 111 Lib.Math.min.name ∈ gtb := gmem (List.mem_of_getElem? (i := 453) (by decide +kernel)) (by decide +kernel)
set_option maxRecDepth 100000 in
theorem tw_454 : Cond.static Lib.Math.min.name ∈ gtb := gmem (List.mem_of_getElem? (i := 454) (by decide +kernel)) (by decide +kernel)
set_option maxRecDepth 100000 in
theorem tw_100 : Cond.fieldLink RX4 62 "SmudgeTally$Books" "cards" "I" ∈ gtb := gmem (List.mem_of_getElem? (i := 100) (by decide +kernel)) (by decide +kernel)
set_option maxRecDepth 100000 in
theorem tw_170 : Cond.fieldLink RX4 31 "SmudgeTally$Sight" "runLast" "[I" ∈ gtb := gmem (List.mem_of_getElem? (i := 170) (by decide +kernel)) (by decide +kernel)
set_option maxRecDepth 100000 in
theorem tw_128 : Cond.fieldLink RX4 80 "SmudgeTally$Books" "numbers" "[I" ∈ gtb := gmem (List.mem_of_getElem? (i := 128) (by decide +kernel)) (by decide +kernel)
set_option maxRecDepth 100000 in
theorem tw_179 : Cond.fieldLink RX4 46 "SmudgeTally$Sight" "mark" "[I" ∈ gtb := gmem (List.mem_of_getElem? (i := 179) (by decide +kernel)) (by decide +kernel)
set_option maxRecDepth 100000 in
theorem tw_468 : Cond.methodLink RX4 126 yX4_judgedOutcome ∈ gtb := gmem (List.mem_of_getElem? (i := 468) (by decide +kernel)) (by decide +kernel)
set_option maxRecDepth 100000 in
theorem tw_470 : Cond.instanceMethod yX4_judgedOutcome ∈ gtb := gmem (List.mem_of_getElem? (i := 470) (by decide +kernel)) (by decide +kernel)
set_option maxRecDepth 100000 in
theorem tw_8 : Cond.selects RX4 yX4_judgedOutcome yX4_judgedOutcome ∈ gtb := gmem (List.mem_of_getElem? (i := 8) (by decide +kernel)) (by decide +kernel)
set_option maxRecDepth 100000 in
theorem tw_471 : Cond.code yX4_judgedOutcome cX4_judgedOutcome 8 (some .int) ∈ gtb := gmem (List.mem_of_getElem? (i := 471) (by decide +kernel)) (by decide +kernel)
set_option maxRecDepth 100000 in
theorem tw_181 : Cond.fieldLink RX4 49 "SmudgeTally$Sight" "outcomes" "[I" ∈ gtb := gmem (List.mem_of_getElem? (i := 181) (by decide +kernel)) (by decide +kernel)
set_option maxRecDepth 100000 in
theorem tw_183 : Cond.fieldLink RX4 52 "SmudgeTally$Sight" "doubtful" "[I" ∈ gtb := gmem (List.mem_of_getElem? (i := 183) (by decide +kernel)) (by decide +kernel)
set_option maxRecDepth 100000 in
theorem tw_177 : Cond.fieldLink RX4 43 "SmudgeTally$Sight" "clear" "[I" ∈ gtb := gmem (List.mem_of_getElem? (i := 177) (by decide +kernel)) (by decide +kernel)
set_option maxRecDepth 100000 in
theorem tw_464 : Cond.methodLink RX4 122 yX4_markOf ∈ gtb := gmem (List.mem_of_getElem? (i := 464) (by decide +kernel)) (by decide +kernel)
set_option maxRecDepth 100000 in
theorem tw_466 : Cond.instanceMethod yX4_markOf ∈ gtb := gmem (List.mem_of_getElem? (i := 466) (by decide +kernel)) (by decide +kernel)
set_option maxRecDepth 100000 in
theorem tw_7 : Cond.selects RX4 yX4_markOf yX4_markOf ∈ gtb := gmem (List.mem_of_getElem? (i := 7) (by decide +kernel)) (by decide +kernel)
set_option maxRecDepth 100000 in
theorem tw_467 : Cond.code yX4_markOf cX4_markOf 3 (some .int) ∈ gtb := gmem (List.mem_of_getElem? (i := 467) (by decide +kernel)) (by decide +kernel)
set_option maxRecDepth 100000 in
theorem tw_175 : Cond.fieldLink RX4 40 "SmudgeTally$Sight" "dirt" "[I" ∈ gtb := gmem (List.mem_of_getElem? (i := 175) (by decide +kernel)) (by decide +kernel)
set_option maxRecDepth 100000 in
theorem tw_185 : Cond.fieldLink RX4 55 "SmudgeTally$Sight" "changing" "[Z" ∈ gtb := gmem (List.mem_of_getElem? (i := 185) (by decide +kernel)) (by decide +kernel)
set_option maxRecDepth 100000 in
theorem tw_134 : Cond.fieldLink RX4 139 "SmudgeTally$Books" "versionOutcomes" "[I" ∈ gtb := gmem (List.mem_of_getElem? (i := 134) (by decide +kernel)) (by decide +kernel)
set_option maxRecDepth 100000 in
theorem tw_105 : Cond.fieldLink RX4 129 "SmudgeTally$Books" "versions" "I" ∈ gtb := gmem (List.mem_of_getElem? (i := 105) (by decide +kernel)) (by decide +kernel)
set_option maxRecDepth 100000 in
theorem tw_476 : Cond.methodLink RX4 132 yX0_hasVersion ∈ gtb := gmem (List.mem_of_getElem? (i := 476) (by decide +kernel)) (by decide +kernel)
set_option maxRecDepth 100000 in
theorem tw_477 : Cond.instanceMethod yX0_hasVersion ∈ gtb := gmem (List.mem_of_getElem? (i := 477) (by decide +kernel)) (by decide +kernel)
set_option maxRecDepth 100000 in
theorem tw_478 : Cond.selects RX0 yX0_hasVersion yX0_hasVersion ∈ gtb := gmem (List.mem_of_getElem? (i := 478) (by decide +kernel)) (by decide +kernel)
set_option maxRecDepth 100000 in
theorem tw_479 : Cond.code yX0_hasVersion cX0_hasVersion 2 (some .boolean) ∈ gtb := gmem (List.mem_of_getElem? (i := 479) (by decide +kernel)) (by decide +kernel)
set_option maxRecDepth 100000 in
theorem tw_132 : Cond.fieldLink RX4 136 "SmudgeTally$Books" "versionCards" "[I" ∈ gtb := gmem (List.mem_of_getElem? (i := 132) (by decide +kernel)) (by decide +kernel)
set_option maxRecDepth 100000 in
theorem tw_460 : Cond.methodLink RX4 83 yX4_judgeWith ∈ gtb := gmem (List.mem_of_getElem? (i := 460) (by decide +kernel)) (by decide +kernel)
set_option maxRecDepth 100000 in
theorem tw_462 : Cond.instanceMethod yX4_judgeWith ∈ gtb := gmem (List.mem_of_getElem? (i := 462) (by decide +kernel)) (by decide +kernel)
set_option maxRecDepth 100000 in
theorem tw_6 : Cond.selects RX4 yX4_judgeWith yX4_judgeWith ∈ gtb := gmem (List.mem_of_getElem? (i := 6) (by decide +kernel)) (by decide +kernel)
set_option maxRecDepth 100000 in
theorem tw_463 : Cond.code yX4_judgeWith cX4_judgeWith 6 none ∈ gtb := gmem (List.mem_of_getElem? (i := 463) (by decide +kernel)) (by decide +kernel)
set_option maxRecDepth 100000 in
theorem tw_472 : Cond.methodLink RX4 86 yX4_compareWithLast ∈ gtb := gmem (List.mem_of_getElem? (i := 472) (by decide +kernel)) (by decide +kernel)
set_option maxRecDepth 100000 in
theorem tw_474 : Cond.instanceMethod yX4_compareWithLast ∈ gtb := gmem (List.mem_of_getElem? (i := 474) (by decide +kernel)) (by decide +kernel)
set_option maxRecDepth 100000 in
theorem tw_9 : Cond.selects RX4 yX4_compareWithLast yX4_compareWithLast ∈ gtb := gmem (List.mem_of_getElem? (i := 9) (by decide +kernel)) (by decide +kernel)
set_option maxRecDepth 100000 in
theorem tw_475 : Cond.code yX4_compareWithLast cX4_compareWithLast 4 none ∈ gtb := gmem (List.mem_of_getElem? (i := 475) (by decide +kernel)) (by decide +kernel)
set_option maxRecDepth 100000 in
theorem tw_442 : Cond.methodLink RX4 74 yX4_growRuns ∈ gtb := gmem (List.mem_of_getElem? (i := 442) (by decide +kernel)) (by decide +kernel)
set_option maxRecDepth 100000 in
theorem tw_444 : Cond.instanceMethod yX4_growRuns ∈ gtb := gmem (List.mem_of_getElem? (i := 444) (by decide +kernel)) (by decide +kernel)
set_option maxRecDepth 100000 in
theorem tw_3 : Cond.selects RX4 yX4_growRuns yX4_growRuns ∈ gtb := gmem (List.mem_of_getElem? (i := 3) (by decide +kernel)) (by decide +kernel)
set_option maxRecDepth 100000 in
theorem tw_445 : Cond.code yX4_growRuns cX4_growRuns 5 none ∈ gtb := gmem (List.mem_of_getElem? (i := 445) (by decide +kernel)) (by decide +kernel)
set_option maxRecDepth 100000 in
theorem tw_456 : Cond.methodLink RX4 77 yX4_closeRuns ∈ gtb := gmem (List.mem_of_getElem? (i := 456) (by decide +kernel)) (by decide +kernel)
set_option maxRecDepth 100000 in
theorem tw_458 : Cond.instanceMethod yX4_closeRuns ∈ gtb := gmem (List.mem_of_getElem? (i := 458) (by decide +kernel)) (by decide +kernel)
set_option maxRecDepth 100000 in
theorem tw_5 : Cond.selects RX4 yX4_closeRuns yX4_closeRuns ∈ gtb := gmem (List.mem_of_getElem? (i := 5) (by decide +kernel)) (by decide +kernel)
set_option maxRecDepth 100000 in
theorem tw_459 : Cond.code yX4_closeRuns cX4_closeRuns 5 none ∈ gtb := gmem (List.mem_of_getElem? (i := 459) (by decide +kernel)) (by decide +kernel)
set_option maxRecDepth 100000 in
theorem tw_431 : Cond.methodLink RX4 66 yX4_previousOf ∈ gtb := gmem (List.mem_of_getElem? (i := 431) (by decide +kernel)) (by decide +kernel)
set_option maxRecDepth 100000 in
theorem tw_433 : Cond.instanceMethod yX4_previousOf ∈ gtb := gmem (List.mem_of_getElem? (i := 433) (by decide +kernel)) (by decide +kernel)
set_option maxRecDepth 100000 in
theorem tw_1 : Cond.selects RX4 yX4_previousOf yX4_previousOf ∈ gtb := gmem (List.mem_of_getElem? (i := 1) (by decide +kernel)) (by decide +kernel)
set_option maxRecDepth 100000 in
theorem tw_434 : Cond.code yX4_previousOf cX4_previousOf 3 (some .int) ∈ gtb := gmem (List.mem_of_getElem? (i := 434) (by decide +kernel)) (by decide +kernel)
set_option maxRecDepth 100000 in
theorem tw_435 : Cond.methodLink RX4 70 yX4_readDigits ∈ gtb := gmem (List.mem_of_getElem? (i := 435) (by decide +kernel)) (by decide +kernel)
set_option maxRecDepth 100000 in
theorem tw_437 : Cond.instanceMethod yX4_readDigits ∈ gtb := gmem (List.mem_of_getElem? (i := 437) (by decide +kernel)) (by decide +kernel)
set_option maxRecDepth 100000 in
theorem tw_2 : Cond.selects RX4 yX4_readDigits yX4_readDigits ∈ gtb := gmem (List.mem_of_getElem? (i := 2) (by decide +kernel)) (by decide +kernel)
set_option maxRecDepth 100000 in
theorem tw_438 : Cond.code yX4_readDigits cX4_readDigits 4 none ∈ gtb := gmem (List.mem_of_getElem? (i := 438) (by decide +kernel)) (by decide +kernel)
set_option maxRecDepth 100000 in
theorem tw_219 : Cond.fieldLink RX1 12 "SmudgeTally$Clerk" "sight" "LSmudgeTally$Sight;" ∈ gtb := gmem (List.mem_of_getElem? (i := 219) (by decide +kernel)) (by decide +kernel)
set_option maxRecDepth 100000 in
theorem tw_427 : Cond.methodLink RX1 88 yX4_workOut ∈ gtb := gmem (List.mem_of_getElem? (i := 427) (by decide +kernel)) (by decide +kernel)
set_option maxRecDepth 100000 in
theorem tw_428 : Cond.instanceMethod yX4_workOut ∈ gtb := gmem (List.mem_of_getElem? (i := 428) (by decide +kernel)) (by decide +kernel)
set_option maxRecDepth 100000 in
theorem tw_429 : Cond.selects RX4 yX4_workOut yX4_workOut ∈ gtb := gmem (List.mem_of_getElem? (i := 429) (by decide +kernel)) (by decide +kernel)
set_option maxRecDepth 100000 in
theorem tw_430 : Cond.code yX4_workOut cX4_workOut 2 none ∈ gtb := gmem (List.mem_of_getElem? (i := 430) (by decide +kernel)) (by decide +kernel)
set_option maxRecDepth 100000 in
theorem tw_480 : Cond.methodLink RX1 91 yX4_unseenChanging ∈ gtb := gmem (List.mem_of_getElem? (i := 480) (by decide +kernel)) (by decide +kernel)
set_option maxRecDepth 100000 in
theorem tw_481 : Cond.instanceMethod yX4_unseenChanging ∈ gtb := gmem (List.mem_of_getElem? (i := 481) (by decide +kernel)) (by decide +kernel)
set_option maxRecDepth 100000 in
theorem tw_482 : Cond.selects RX4 yX4_unseenChanging yX4_unseenChanging ∈ gtb := gmem (List.mem_of_getElem? (i := 482) (by decide +kernel)) (by decide +kernel)
set_option maxRecDepth 100000 in
theorem tw_483 : Cond.code yX4_unseenChanging cX4_unseenChanging 3 (some .int) ∈ gtb := gmem (List.mem_of_getElem? (i := 483) (by decide +kernel)) (by decide +kernel)
set_option maxRecDepth 100000 in
theorem tw_104 : Cond.fieldLink RX1 94 "SmudgeTally$Books" "versions" "I" ∈ gtb := gmem (List.mem_of_getElem? (i := 104) (by decide +kernel)) (by decide +kernel)
set_option maxRecDepth 100000 in
theorem tw_484 : Cond.methodLink RX1 97 yX4_cardsChanging ∈ gtb := gmem (List.mem_of_getElem? (i := 484) (by decide +kernel)) (by decide +kernel)
set_option maxRecDepth 100000 in
theorem tw_485 : Cond.instanceMethod yX4_cardsChanging ∈ gtb := gmem (List.mem_of_getElem? (i := 485) (by decide +kernel)) (by decide +kernel)
set_option maxRecDepth 100000 in
theorem tw_486 : Cond.selects RX4 yX4_cardsChanging yX4_cardsChanging ∈ gtb := gmem (List.mem_of_getElem? (i := 486) (by decide +kernel)) (by decide +kernel)
set_option maxRecDepth 100000 in
theorem tw_487 : Cond.code yX4_cardsChanging cX4_cardsChanging 3 (some .int) ∈ gtb := gmem (List.mem_of_getElem? (i := 487) (by decide +kernel)) (by decide +kernel)
set_option maxRecDepth 100000 in
theorem tw_182 : Cond.fieldLink RX1 100 "SmudgeTally$Sight" "outcomes" "[I" ∈ gtb := gmem (List.mem_of_getElem? (i := 182) (by decide +kernel)) (by decide +kernel)
set_option maxRecDepth 100000 in
theorem tw_488 : Cond.methodLink RX1 103 yX0_keepVersion ∈ gtb := gmem (List.mem_of_getElem? (i := 488) (by decide +kernel)) (by decide +kernel)
set_option maxRecDepth 100000 in
theorem tw_489 : Cond.instanceMethod yX0_keepVersion ∈ gtb := gmem (List.mem_of_getElem? (i := 489) (by decide +kernel)) (by decide +kernel)
set_option maxRecDepth 100000 in
theorem tw_490 : Cond.selects RX0 yX0_keepVersion yX0_keepVersion ∈ gtb := gmem (List.mem_of_getElem? (i := 490) (by decide +kernel)) (by decide +kernel)
set_option maxRecDepth 100000 in
theorem tw_491 : Cond.code yX0_keepVersion cX0_keepVersion 2 none ∈ gtb := gmem (List.mem_of_getElem? (i := 491) (by decide +kernel)) (by decide +kernel)
set_option maxRecDepth 100000 in
theorem tw_423 : Cond.methodLink RX8 68 yX1_publishVersion ∈ gtb := gmem (List.mem_of_getElem? (i := 423) (by decide +kernel)) (by decide +kernel)
set_option maxRecDepth 100000 in
theorem tw_424 : Cond.instanceMethod yX1_publishVersion ∈ gtb := gmem (List.mem_of_getElem? (i := 424) (by decide +kernel)) (by decide +kernel)
set_option maxRecDepth 100000 in
theorem tw_425 : Cond.selects RX1 yX1_publishVersion yX1_publishVersion ∈ gtb := gmem (List.mem_of_getElem? (i := 425) (by decide +kernel)) (by decide +kernel)
set_option maxRecDepth 100000 in
theorem tw_426 : Cond.code yX1_publishVersion cX1_publishVersion 2 (some .int) ∈ gtb := gmem (List.mem_of_getElem? (i := 426) (by decide +kernel)) (by decide +kernel)
set_option maxRecDepth 100000 in
theorem tw_509 : Cond.methodLink RX4 155 yX4_inPool ∈ gtb := gmem (List.mem_of_getElem? (i := 509) (by decide +kernel)) (by decide +kernel)
set_option maxRecDepth 100000 in
theorem tw_510 : Cond.instanceMethod yX4_inPool ∈ gtb := gmem (List.mem_of_getElem? (i := 510) (by decide +kernel)) (by decide +kernel)
set_option maxRecDepth 100000 in
theorem tw_511 : Cond.selects RX4 yX4_inPool yX4_inPool ∈ gtb := gmem (List.mem_of_getElem? (i := 511) (by decide +kernel)) (by decide +kernel)
set_option maxRecDepth 100000 in
theorem tw_512 : Cond.code yX4_inPool cX4_inPool 2 (some .boolean) ∈ gtb := gmem (List.mem_of_getElem? (i := 512) (by decide +kernel)) (by decide +kernel)
set_option maxRecDepth 100000 in
theorem tw_505 : Cond.methodLink RX4 158 yX4_placeInPool ∈ gtb := gmem (List.mem_of_getElem? (i := 505) (by decide +kernel)) (by decide +kernel)
set_option maxRecDepth 100000 in
theorem tw_506 : Cond.instanceMethod yX4_placeInPool ∈ gtb := gmem (List.mem_of_getElem? (i := 506) (by decide +kernel)) (by decide +kernel)
set_option maxRecDepth 100000 in
theorem tw_507 : Cond.selects RX4 yX4_placeInPool yX4_placeInPool ∈ gtb := gmem (List.mem_of_getElem? (i := 507) (by decide +kernel)) (by decide +kernel)
set_option maxRecDepth 100000 in
theorem tw_508 : Cond.code yX4_placeInPool cX4_placeInPool 4 (some .int) ∈ gtb := gmem (List.mem_of_getElem? (i := 508) (by decide +kernel)) (by decide +kernel)
set_option maxRecDepth 100000 in
theorem tw_516 : Cond.constant RX8 262 (65537) ∈ gtb := gmem (List.mem_of_getElem? (i := 516) (by decide +kernel)) (by decide +kernel)
set_option maxRecDepth 100000 in
theorem tw_525 : Cond.methodLink RX1 121 yX0_cardsInStage ∈ gtb := gmem (List.mem_of_getElem? (i := 525) (by decide +kernel)) (by decide +kernel)
set_option maxRecDepth 100000 in
theorem tw_526 : Cond.instanceMethod yX0_cardsInStage ∈ gtb := gmem (List.mem_of_getElem? (i := 526) (by decide +kernel)) (by decide +kernel)
set_option maxRecDepth 100000 in
theorem tw_527 : Cond.selects RX0 yX0_cardsInStage yX0_cardsInStage ∈ gtb := gmem (List.mem_of_getElem? (i := 527) (by decide +kernel)) (by decide +kernel)
set_option maxRecDepth 100000 in
theorem tw_528 : Cond.code yX0_cardsInStage cX0_cardsInStage 4 (some .int) ∈ gtb := gmem (List.mem_of_getElem? (i := 528) (by decide +kernel)) (by decide +kernel)
set_option maxRecDepth 100000 in
theorem tw_515 : Cond.code yX8_nextLot cX8_nextLot 1 (some .int) ∈ gtb := gmem (List.mem_of_getElem? (i := 515) (by decide +kernel)) (by decide +kernel)
set_option maxRecDepth 100000 in
theorem tw_514 : Cond.static yX8_nextLot ∈ gtb := gmem (List.mem_of_getElem? (i := 514) (by decide +kernel)) (by decide +kernel)
set_option maxRecDepth 100000 in
theorem tw_517 : Cond.methodLink RX1 114 yX4_poolCard ∈ gtb := gmem (List.mem_of_getElem? (i := 517) (by decide +kernel)) (by decide +kernel)
set_option maxRecDepth 100000 in
theorem tw_518 : Cond.instanceMethod yX4_poolCard ∈ gtb := gmem (List.mem_of_getElem? (i := 518) (by decide +kernel)) (by decide +kernel)
set_option maxRecDepth 100000 in
theorem tw_519 : Cond.selects RX4 yX4_poolCard yX4_poolCard ∈ gtb := gmem (List.mem_of_getElem? (i := 519) (by decide +kernel)) (by decide +kernel)
set_option maxRecDepth 100000 in
theorem tw_520 : Cond.code yX4_poolCard cX4_poolCard 4 (some .int) ∈ gtb := gmem (List.mem_of_getElem? (i := 520) (by decide +kernel)) (by decide +kernel)
set_option maxRecDepth 100000 in
theorem tw_521 : Cond.methodLink RX1 117 yX0_hasCard ∈ gtb := gmem (List.mem_of_getElem? (i := 521) (by decide +kernel)) (by decide +kernel)
set_option maxRecDepth 100000 in
theorem tw_522 : Cond.instanceMethod yX0_hasCard ∈ gtb := gmem (List.mem_of_getElem? (i := 522) (by decide +kernel)) (by decide +kernel)
set_option maxRecDepth 100000 in
theorem tw_523 : Cond.selects RX0 yX0_hasCard yX0_hasCard ∈ gtb := gmem (List.mem_of_getElem? (i := 523) (by decide +kernel)) (by decide +kernel)
set_option maxRecDepth 100000 in
theorem tw_524 : Cond.code yX0_hasCard cX0_hasCard 2 (some .boolean) ∈ gtb := gmem (List.mem_of_getElem? (i := 524) (by decide +kernel)) (by decide +kernel)
set_option maxRecDepth 100000 in
theorem tw_500 : Cond.constant RX1 107 (65536) ∈ gtb := gmem (List.mem_of_getElem? (i := 500) (by decide +kernel)) (by decide +kernel)
set_option maxRecDepth 100000 in
theorem tw_501 : Cond.methodLink RX1 108 yX4_poolSize ∈ gtb := gmem (List.mem_of_getElem? (i := 501) (by decide +kernel)) (by decide +kernel)
set_option maxRecDepth 100000 in
theorem tw_502 : Cond.instanceMethod yX4_poolSize ∈ gtb := gmem (List.mem_of_getElem? (i := 502) (by decide +kernel)) (by decide +kernel)
set_option maxRecDepth 100000 in
theorem tw_503 : Cond.selects RX4 yX4_poolSize yX4_poolSize ∈ gtb := gmem (List.mem_of_getElem? (i := 503) (by decide +kernel)) (by decide +kernel)
set_option maxRecDepth 100000 in
theorem tw_504 : Cond.code yX4_poolSize cX4_poolSize 1 (some .int) ∈ gtb := gmem (List.mem_of_getElem? (i := 504) (by decide +kernel)) (by decide +kernel)
set_option maxRecDepth 100000 in
theorem tw_496 : Cond.methodLink RX8 72 yX1_drawCards ∈ gtb := gmem (List.mem_of_getElem? (i := 496) (by decide +kernel)) (by decide +kernel)
set_option maxRecDepth 100000 in
theorem tw_497 : Cond.instanceMethod yX1_drawCards ∈ gtb := gmem (List.mem_of_getElem? (i := 497) (by decide +kernel)) (by decide +kernel)
set_option maxRecDepth 100000 in
theorem tw_498 : Cond.selects RX1 yX1_drawCards yX1_drawCards ∈ gtb := gmem (List.mem_of_getElem? (i := 498) (by decide +kernel)) (by decide +kernel)
set_option maxRecDepth 100000 in
theorem tw_499 : Cond.code yX1_drawCards cX1_drawCards 7 (some .int) ∈ gtb := gmem (List.mem_of_getElem? (i := 499) (by decide +kernel)) (by decide +kernel)
set_option maxRecDepth 100000 in
theorem tw_540 : Cond.methodLink RX8 221 yX8_outcomeOf ∈ gtb := gmem (List.mem_of_getElem? (i := 540) (by decide +kernel)) (by decide +kernel)
set_option maxRecDepth 100000 in
theorem tw_541 : Cond.static yX8_outcomeOf ∈ gtb := gmem (List.mem_of_getElem? (i := 541) (by decide +kernel)) (by decide +kernel)
set_option maxRecDepth 100000 in
theorem tw_542 : Cond.code yX8_outcomeOf cX8_outcomeOf 2 (some .int) ∈ gtb := gmem (List.mem_of_getElem? (i := 542) (by decide +kernel)) (by decide +kernel)
set_option maxRecDepth 100000 in
theorem tw_539 : Cond.code yX8_differingContests cX8_differingContests 4 (some .int) ∈ gtb := gmem (List.mem_of_getElem? (i := 539) (by decide +kernel)) (by decide +kernel)
set_option maxRecDepth 100000 in
theorem tw_538 : Cond.static yX8_differingContests ∈ gtb := gmem (List.mem_of_getElem? (i := 538) (by decide +kernel)) (by decide +kernel)
set_option maxRecDepth 100000 in
theorem tw_533 : Cond.methodLink RX8 75 yX1_lookAt ∈ gtb := gmem (List.mem_of_getElem? (i := 533) (by decide +kernel)) (by decide +kernel)
set_option maxRecDepth 100000 in
theorem tw_534 : Cond.instanceMethod yX1_lookAt ∈ gtb := gmem (List.mem_of_getElem? (i := 534) (by decide +kernel)) (by decide +kernel)
set_option maxRecDepth 100000 in
theorem tw_535 : Cond.selects RX1 yX1_lookAt yX1_lookAt ∈ gtb := gmem (List.mem_of_getElem? (i := 535) (by decide +kernel)) (by decide +kernel)
set_option maxRecDepth 100000 in
theorem tw_536 : Cond.code yX1_lookAt cX1_lookAt 5 (some .int) ∈ gtb := gmem (List.mem_of_getElem? (i := 536) (by decide +kernel)) (by decide +kernel)
set_option maxRecDepth 100000 in
theorem tw_547 : Cond.methodLink RX8 78 yX8_within ∈ gtb := gmem (List.mem_of_getElem? (i := 547) (by decide +kernel)) (by decide +kernel)
set_option maxRecDepth 100000 in
theorem tw_548 : Cond.methodLink RX8 82 yX5_keep ∈ gtb := gmem (List.mem_of_getElem? (i := 548) (by decide +kernel)) (by decide +kernel)
set_option maxRecDepth 100000 in
theorem tw_549 : Cond.instanceMethod yX5_keep ∈ gtb := gmem (List.mem_of_getElem? (i := 549) (by decide +kernel)) (by decide +kernel)
set_option maxRecDepth 100000 in
theorem tw_550 : Cond.selects RX5 yX5_keep yX5_keep ∈ gtb := gmem (List.mem_of_getElem? (i := 550) (by decide +kernel)) (by decide +kernel)
set_option maxRecDepth 100000 in
theorem tw_551 : Cond.code yX5_keep cX5_keep 3 none ∈ gtb := gmem (List.mem_of_getElem? (i := 551) (by decide +kernel)) (by decide +kernel)
set_option maxRecDepth 100000 in
theorem tw_102 : Cond.fieldLink RX8 86 "SmudgeTally$Books" "cards" "I" ∈ gtb := gmem (List.mem_of_getElem? (i := 102) (by decide +kernel)) (by decide +kernel)
set_option maxRecDepth 100000 in
theorem tw_565 : Cond.methodLink RX5 30 yX5_isFull ∈ gtb := gmem (List.mem_of_getElem? (i := 565) (by decide +kernel)) (by decide +kernel)
set_option maxRecDepth 100000 in
theorem tw_558 : Cond.instanceMethod yX5_isFull ∈ gtb := gmem (List.mem_of_getElem? (i := 558) (by decide +kernel)) (by decide +kernel)
set_option maxRecDepth 100000 in
theorem tw_559 : Cond.selects RX5 yX5_isFull yX5_isFull ∈ gtb := gmem (List.mem_of_getElem? (i := 559) (by decide +kernel)) (by decide +kernel)
set_option maxRecDepth 100000 in
theorem tw_560 : Cond.code yX5_isFull cX5_isFull 2 (some .boolean) ∈ gtb := gmem (List.mem_of_getElem? (i := 560) (by decide +kernel)) (by decide +kernel)
set_option maxRecDepth 100000 in
theorem tw_557 : Cond.methodLink RX8 92 yX5_isFull ∈ gtb := gmem (List.mem_of_getElem? (i := 557) (by decide +kernel)) (by decide +kernel)
set_option maxRecDepth 100000 in
theorem tw_561 : Cond.methodLink RX8 96 yX5_giveBack ∈ gtb := gmem (List.mem_of_getElem? (i := 561) (by decide +kernel)) (by decide +kernel)
set_option maxRecDepth 100000 in
theorem tw_562 : Cond.instanceMethod yX5_giveBack ∈ gtb := gmem (List.mem_of_getElem? (i := 562) (by decide +kernel)) (by decide +kernel)
set_option maxRecDepth 100000 in
theorem tw_563 : Cond.selects RX5 yX5_giveBack yX5_giveBack ∈ gtb := gmem (List.mem_of_getElem? (i := 563) (by decide +kernel)) (by decide +kernel)
set_option maxRecDepth 100000 in
theorem tw_564 : Cond.code yX5_giveBack cX5_giveBack 3 none ∈ gtb := gmem (List.mem_of_getElem? (i := 564) (by decide +kernel)) (by decide +kernel)
set_option maxRecDepth 100000 in
theorem tw_574 : Cond.methodLink RX2 26 yX6_giveBack ∈ gtb := gmem (List.mem_of_getElem? (i := 574) (by decide +kernel)) (by decide +kernel)
set_option maxRecDepth 100000 in
theorem tw_575 : Cond.instanceMethod yX6_giveBack ∈ gtb := gmem (List.mem_of_getElem? (i := 575) (by decide +kernel)) (by decide +kernel)
set_option maxRecDepth 100000 in
theorem tw_576 : Cond.selects RX6 yX6_giveBack yX6_giveBack ∈ gtb := gmem (List.mem_of_getElem? (i := 576) (by decide +kernel)) (by decide +kernel)
set_option maxRecDepth 100000 in
theorem tw_577 : Cond.code yX6_giveBack cX6_giveBack 3 none ∈ gtb := gmem (List.mem_of_getElem? (i := 577) (by decide +kernel)) (by decide +kernel)
set_option maxRecDepth 100000 in
theorem tw_268 : Cond.fieldLink RX8 99 "SmudgeTally$History" "size" "I" ∈ gtb := gmem (List.mem_of_getElem? (i := 268) (by decide +kernel)) (by decide +kernel)
set_option maxRecDepth 100000 in
theorem tw_570 : Cond.methodLink RX8 102 yX2_goBack ∈ gtb := gmem (List.mem_of_getElem? (i := 570) (by decide +kernel)) (by decide +kernel)
set_option maxRecDepth 100000 in
theorem tw_571 : Cond.instanceMethod yX2_goBack ∈ gtb := gmem (List.mem_of_getElem? (i := 571) (by decide +kernel)) (by decide +kernel)
set_option maxRecDepth 100000 in
theorem tw_572 : Cond.selects RX2 yX2_goBack yX2_goBack ∈ gtb := gmem (List.mem_of_getElem? (i := 572) (by decide +kernel)) (by decide +kernel)
set_option maxRecDepth 100000 in
theorem tw_573 : Cond.code yX2_goBack cX2_goBack 3 none ∈ gtb := gmem (List.mem_of_getElem? (i := 573) (by decide +kernel)) (by decide +kernel)
set_option maxRecDepth 100000 in
theorem tw_287 : Cond.fieldLink RX7 15 "SmudgeTally$Text" "length" "I" ∈ gtb := gmem (List.mem_of_getElem? (i := 287) (by decide +kernel)) (by decide +kernel)
set_option maxRecDepth 100000 in
theorem tw_294 : Cond.fieldLink RX7 9 "SmudgeTally$Text" "signs" "[I" ∈ gtb := gmem (List.mem_of_getElem? (i := 294) (by decide +kernel)) (by decide +kernel)
set_option maxRecDepth 100000 in
theorem tw_338 : Cond.fieldLink RX8 45 "SmudgeTally" "program" "LSmudgeTally$Program;" ∈ gtb := gmem (List.mem_of_getElem? (i := 338) (by decide +kernel)) (by decide +kernel)
set_option maxRecDepth 100000 in
theorem tw_307 : Cond.fieldLink RX8 105 "SmudgeTally$Program" "text" "LSmudgeTally$Text;" ∈ gtb := gmem (List.mem_of_getElem? (i := 307) (by decide +kernel)) (by decide +kernel)
set_option maxRecDepth 100000 in
theorem tw_582 : Cond.methodLink RX8 109 yX7_add ∈ gtb := gmem (List.mem_of_getElem? (i := 582) (by decide +kernel)) (by decide +kernel)
set_option maxRecDepth 100000 in
theorem tw_583 : Cond.instanceMethod yX7_add ∈ gtb := gmem (List.mem_of_getElem? (i := 583) (by decide +kernel)) (by decide +kernel)
set_option maxRecDepth 100000 in
theorem tw_584 : Cond.selects RX7 yX7_add yX7_add ∈ gtb := gmem (List.mem_of_getElem? (i := 584) (by decide +kernel)) (by decide +kernel)
set_option maxRecDepth 100000 in
theorem tw_65 : Cond.initialized RX7 ∈ gtb := gmem (List.mem_of_getElem? (i := 65) (by decide +kernel)) (by decide +kernel)
set_option maxRecDepth 100000 in
theorem tw_585 : Cond.code yX7_add cX7_add 2 (some .int) ∈ gtb := gmem (List.mem_of_getElem? (i := 585) (by decide +kernel)) (by decide +kernel)
set_option maxRecDepth 100000 in
theorem tw_590 : Cond.methodLink RX8 114 yX7_empty ∈ gtb := gmem (List.mem_of_getElem? (i := 590) (by decide +kernel)) (by decide +kernel)
set_option maxRecDepth 100000 in
theorem tw_591 : Cond.instanceMethod yX7_empty ∈ gtb := gmem (List.mem_of_getElem? (i := 591) (by decide +kernel)) (by decide +kernel)
set_option maxRecDepth 100000 in
theorem tw_592 : Cond.selects RX7 yX7_empty yX7_empty ∈ gtb := gmem (List.mem_of_getElem? (i := 592) (by decide +kernel)) (by decide +kernel)
set_option maxRecDepth 100000 in
theorem tw_593 : Cond.code yX7_empty cX7_empty 2 (some .int) ∈ gtb := gmem (List.mem_of_getElem? (i := 593) (by decide +kernel)) (by decide +kernel)
set_option maxRecDepth 100000 in
theorem tw_293 : Cond.fieldLink RX7 19 "SmudgeTally$Text" "end" "I" ∈ gtb := gmem (List.mem_of_getElem? (i := 293) (by decide +kernel)) (by decide +kernel)
set_option maxRecDepth 100000 in
theorem tw_290 : Cond.fieldLink RX7 25 "SmudgeTally$Text" "kind" "I" ∈ gtb := gmem (List.mem_of_getElem? (i := 290) (by decide +kernel)) (by decide +kernel)
set_option maxRecDepth 100000 in
theorem tw_610 : Cond.methodLink RX7 28 yX7_kindOf ∈ gtb := gmem (List.mem_of_getElem? (i := 610) (by decide +kernel)) (by decide +kernel)
set_option maxRecDepth 100000 in
theorem tw_611 : Cond.static yX7_kindOf ∈ gtb := gmem (List.mem_of_getElem? (i := 611) (by decide +kernel)) (by decide +kernel)
set_option maxRecDepth 100000 in
theorem tw_612 : Cond.code yX7_kindOf cX7_kindOf 1 (some .int) ∈ gtb := gmem (List.mem_of_getElem? (i := 612) (by decide +kernel)) (by decide +kernel)
set_option maxRecDepth 100000 in
theorem tw_292 : Cond.fieldLink RX7 22 "SmudgeTally$Text" "start" "I" ∈ gtb := gmem (List.mem_of_getElem? (i := 292) (by decide +kernel)) (by decide +kernel)
set_option maxRecDepth 100000 in
theorem tw_306 : Cond.fieldLink RX3 12 "SmudgeTally$Program" "text" "LSmudgeTally$Text;" ∈ gtb := gmem (List.mem_of_getElem? (i := 306) (by decide +kernel)) (by decide +kernel)
set_option maxRecDepth 100000 in
theorem tw_618 : Cond.methodLink RX3 65 yX7_isWord ∈ gtb := gmem (List.mem_of_getElem? (i := 618) (by decide +kernel)) (by decide +kernel)
set_option maxRecDepth 100000 in
theorem tw_619 : Cond.instanceMethod yX7_isWord ∈ gtb := gmem (List.mem_of_getElem? (i := 619) (by decide +kernel)) (by decide +kernel)
set_option maxRecDepth 100000 in
theorem tw_620 : Cond.selects RX7 yX7_isWord yX7_isWord ∈ gtb := gmem (List.mem_of_getElem? (i := 620) (by decide +kernel)) (by decide +kernel)
set_option maxRecDepth 100000 in
theorem tw_621 : Cond.code yX7_isWord cX7_isWord 3 (some .boolean) ∈ gtb := gmem (List.mem_of_getElem? (i := 621) (by decide +kernel)) (by decide +kernel)
set_option maxRecDepth 100000 in
theorem tw_686 : Cond.constantLong RX7 41 (10) ∈ gtb := gmem (List.mem_of_getElem? (i := 686) (by decide +kernel)) (by decide +kernel)
set_option maxRecDepth 100000 in
theorem tw_687 : Cond.constantLong RX7 43 (48) ∈ gtb := gmem (List.mem_of_getElem? (i := 687) (by decide +kernel)) (by decide +kernel)
set_option maxRecDepth 100000 in
theorem tw_606 : Cond.methodLink RX3 25 yX7_readToken ∈ gtb := gmem (List.mem_of_getElem? (i := 606) (by decide +kernel)) (by decide +kernel)
set_option maxRecDepth 100000 in
theorem tw_607 : Cond.instanceMethod yX7_readToken ∈ gtb := gmem (List.mem_of_getElem? (i := 607) (by decide +kernel)) (by decide +kernel)
set_option maxRecDepth 100000 in
theorem tw_608 : Cond.selects RX7 yX7_readToken yX7_readToken ∈ gtb := gmem (List.mem_of_getElem? (i := 608) (by decide +kernel)) (by decide +kernel)
set_option maxRecDepth 100000 in
theorem tw_609 : Cond.code yX7_readToken cX7_readToken 1 none ∈ gtb := gmem (List.mem_of_getElem? (i := 609) (by decide +kernel)) (by decide +kernel)
set_option maxRecDepth 100000 in
theorem tw_678 : Cond.methodLink RX3 77 yX7_isNumber ∈ gtb := gmem (List.mem_of_getElem? (i := 678) (by decide +kernel)) (by decide +kernel)
set_option maxRecDepth 100000 in
theorem tw_679 : Cond.instanceMethod yX7_isNumber ∈ gtb := gmem (List.mem_of_getElem? (i := 679) (by decide +kernel)) (by decide +kernel)
set_option maxRecDepth 100000 in
theorem tw_680 : Cond.selects RX7 yX7_isNumber yX7_isNumber ∈ gtb := gmem (List.mem_of_getElem? (i := 680) (by decide +kernel)) (by decide +kernel)
set_option maxRecDepth 100000 in
theorem tw_681 : Cond.code yX7_isNumber cX7_isNumber 1 (some .boolean) ∈ gtb := gmem (List.mem_of_getElem? (i := 681) (by decide +kernel)) (by decide +kernel)
set_option maxRecDepth 100000 in
theorem tw_682 : Cond.methodLink RX3 80 yX7_value ∈ gtb := gmem (List.mem_of_getElem? (i := 682) (by decide +kernel)) (by decide +kernel)
set_option maxRecDepth 100000 in
theorem tw_683 : Cond.instanceMethod yX7_value ∈ gtb := gmem (List.mem_of_getElem? (i := 683) (by decide +kernel)) (by decide +kernel)
set_option maxRecDepth 100000 in
theorem tw_684 : Cond.selects RX7 yX7_value yX7_value ∈ gtb := gmem (List.mem_of_getElem? (i := 684) (by decide +kernel)) (by decide +kernel)
set_option maxRecDepth 100000 in
theorem tw_685 : Cond.code yX7_value cX7_value 4 (some .long) ∈ gtb := gmem (List.mem_of_getElem? (i := 685) (by decide +kernel)) (by decide +kernel)
set_option maxRecDepth 100000 in
theorem tw_316 : Cond.fieldLink RX3 50 "SmudgeTally$Program" "first" "J" ∈ gtb := gmem (List.mem_of_getElem? (i := 316) (by decide +kernel)) (by decide +kernel)
set_option maxRecDepth 100000 in
theorem tw_688 : Cond.methodLink RX3 84 yX7_isWholeRow ∈ gtb := gmem (List.mem_of_getElem? (i := 688) (by decide +kernel)) (by decide +kernel)
set_option maxRecDepth 100000 in
theorem tw_689 : Cond.instanceMethod yX7_isWholeRow ∈ gtb := gmem (List.mem_of_getElem? (i := 689) (by decide +kernel)) (by decide +kernel)
set_option maxRecDepth 100000 in
theorem tw_690 : Cond.selects RX7 yX7_isWholeRow yX7_isWholeRow ∈ gtb := gmem (List.mem_of_getElem? (i := 690) (by decide +kernel)) (by decide +kernel)
set_option maxRecDepth 100000 in
theorem tw_691 : Cond.code yX7_isWholeRow cX7_isWholeRow 1 (some .boolean) ∈ gtb := gmem (List.mem_of_getElem? (i := 691) (by decide +kernel)) (by decide +kernel)
set_option maxRecDepth 100000 in
theorem tw_317 : Cond.fieldLink RX3 54 "SmudgeTally$Program" "second" "J" ∈ gtb := gmem (List.mem_of_getElem? (i := 317) (by decide +kernel)) (by decide +kernel)
set_option maxRecDepth 100000 in
theorem tw_696 : Cond.methodLink RX3 87 yX7_isSemicolon ∈ gtb := gmem (List.mem_of_getElem? (i := 696) (by decide +kernel)) (by decide +kernel)
set_option maxRecDepth 100000 in
theorem tw_697 : Cond.instanceMethod yX7_isSemicolon ∈ gtb := gmem (List.mem_of_getElem? (i := 697) (by decide +kernel)) (by decide +kernel)
set_option maxRecDepth 100000 in
theorem tw_698 : Cond.selects RX7 yX7_isSemicolon yX7_isSemicolon ∈ gtb := gmem (List.mem_of_getElem? (i := 698) (by decide +kernel)) (by decide +kernel)
set_option maxRecDepth 100000 in
theorem tw_699 : Cond.code yX7_isSemicolon cX7_isSemicolon 1 (some .boolean) ∈ gtb := gmem (List.mem_of_getElem? (i := 699) (by decide +kernel)) (by decide +kernel)
set_option maxRecDepth 100000 in
theorem tw_308 : Cond.fieldLink RX3 18 "SmudgeTally$Program" "failKind" "I" ∈ gtb := gmem (List.mem_of_getElem? (i := 308) (by decide +kernel)) (by decide +kernel)
set_option maxRecDepth 100000 in
theorem tw_310 : Cond.fieldLink RX3 90 "SmudgeTally$Program" "failPlace" "I" ∈ gtb := gmem (List.mem_of_getElem? (i := 310) (by decide +kernel)) (by decide +kernel)
set_option maxRecDepth 100000 in
theorem tw_312 : Cond.fieldLink RX3 93 "SmudgeTally$Program" "failCommands" "I" ∈ gtb := gmem (List.mem_of_getElem? (i := 312) (by decide +kernel)) (by decide +kernel)
set_option maxRecDepth 100000 in
theorem tw_314 : Cond.fieldLink RX3 96 "SmudgeTally$Program" "failCode" "I" ∈ gtb := gmem (List.mem_of_getElem? (i := 314) (by decide +kernel)) (by decide +kernel)
set_option maxRecDepth 100000 in
theorem tw_708 : Cond.methodLink RX1 23 yX1_addCard ∈ gtb := gmem (List.mem_of_getElem? (i := 708) (by decide +kernel)) (by decide +kernel)
set_option maxRecDepth 100000 in
theorem tw_709 : Cond.methodLink RX1 27 yX1_cleanMachine ∈ gtb := gmem (List.mem_of_getElem? (i := 709) (by decide +kernel)) (by decide +kernel)
set_option maxRecDepth 100000 in
theorem tw_710 : Cond.methodLink RX1 31 yX1_drawCards ∈ gtb := gmem (List.mem_of_getElem? (i := 710) (by decide +kernel)) (by decide +kernel)
set_option maxRecDepth 100000 in
theorem tw_711 : Cond.methodLink RX1 35 yX1_lookAt ∈ gtb := gmem (List.mem_of_getElem? (i := 711) (by decide +kernel)) (by decide +kernel)
set_option maxRecDepth 100000 in
theorem tw_712 : Cond.methodLink RX1 38 yX1_publishVersion ∈ gtb := gmem (List.mem_of_getElem? (i := 712) (by decide +kernel)) (by decide +kernel)
set_option maxRecDepth 100000 in
theorem tw_289 : Cond.fieldLink RX3 28 "SmudgeTally$Text" "kind" "I" ∈ gtb := gmem (List.mem_of_getElem? (i := 289) (by decide +kernel)) (by decide +kernel)
set_option maxRecDepth 100000 in
theorem tw_291 : Cond.fieldLink RX3 31 "SmudgeTally$Text" "start" "I" ∈ gtb := gmem (List.mem_of_getElem? (i := 291) (by decide +kernel)) (by decide +kernel)
set_option maxRecDepth 100000 in
theorem tw_613 : Cond.methodLink RX3 34 yX3_wordHere ∈ gtb := gmem (List.mem_of_getElem? (i := 613) (by decide +kernel)) (by decide +kernel)
set_option maxRecDepth 100000 in
theorem tw_615 : Cond.instanceMethod yX3_wordHere ∈ gtb := gmem (List.mem_of_getElem? (i := 615) (by decide +kernel)) (by decide +kernel)
set_option maxRecDepth 100000 in
theorem tw_10 : Cond.selects RX3 yX3_wordHere yX3_wordHere ∈ gtb := gmem (List.mem_of_getElem? (i := 10) (by decide +kernel)) (by decide +kernel)
set_option maxRecDepth 100000 in
theorem tw_64 : Cond.initialized RX3 ∈ gtb := gmem (List.mem_of_getElem? (i := 64) (by decide +kernel)) (by decide +kernel)
set_option maxRecDepth 100000 in
theorem tw_616 : Cond.code yX3_wordHere cX3_wordHere 1 (some .int) ∈ gtb := gmem (List.mem_of_getElem? (i := 616) (by decide +kernel)) (by decide +kernel)
set_option maxRecDepth 100000 in
theorem tw_700 : Cond.methodLink RX3 46 yX3_fail ∈ gtb := gmem (List.mem_of_getElem? (i := 700) (by decide +kernel)) (by decide +kernel)
set_option maxRecDepth 100000 in
theorem tw_702 : Cond.instanceMethod yX3_fail ∈ gtb := gmem (List.mem_of_getElem? (i := 702) (by decide +kernel)) (by decide +kernel)
set_option maxRecDepth 100000 in
theorem tw_13 : Cond.selects RX3 yX3_fail yX3_fail ∈ gtb := gmem (List.mem_of_getElem? (i := 13) (by decide +kernel)) (by decide +kernel)
set_option maxRecDepth 100000 in
theorem tw_703 : Cond.code yX3_fail cX3_fail 5 (some .int) ∈ gtb := gmem (List.mem_of_getElem? (i := 703) (by decide +kernel)) (by decide +kernel)
set_option maxRecDepth 100000 in
theorem tw_674 : Cond.methodLink RX3 38 yX3_readNumbers ∈ gtb := gmem (List.mem_of_getElem? (i := 674) (by decide +kernel)) (by decide +kernel)
set_option maxRecDepth 100000 in
theorem tw_676 : Cond.instanceMethod yX3_readNumbers ∈ gtb := gmem (List.mem_of_getElem? (i := 676) (by decide +kernel)) (by decide +kernel)
set_option maxRecDepth 100000 in
theorem tw_11 : Cond.selects RX3 yX3_readNumbers yX3_readNumbers ∈ gtb := gmem (List.mem_of_getElem? (i := 11) (by decide +kernel)) (by decide +kernel)
set_option maxRecDepth 100000 in
theorem tw_677 : Cond.code yX3_readNumbers cX3_readNumbers 2 (some .boolean) ∈ gtb := gmem (List.mem_of_getElem? (i := 677) (by decide +kernel)) (by decide +kernel)
set_option maxRecDepth 100000 in
theorem tw_692 : Cond.methodLink RX3 42 yX3_readSemicolon ∈ gtb := gmem (List.mem_of_getElem? (i := 692) (by decide +kernel)) (by decide +kernel)
set_option maxRecDepth 100000 in
theorem tw_694 : Cond.instanceMethod yX3_readSemicolon ∈ gtb := gmem (List.mem_of_getElem? (i := 694) (by decide +kernel)) (by decide +kernel)
set_option maxRecDepth 100000 in
theorem tw_12 : Cond.selects RX3 yX3_readSemicolon yX3_readSemicolon ∈ gtb := gmem (List.mem_of_getElem? (i := 12) (by decide +kernel)) (by decide +kernel)
set_option maxRecDepth 100000 in
theorem tw_695 : Cond.code yX3_readSemicolon cX3_readSemicolon 1 (some .boolean) ∈ gtb := gmem (List.mem_of_getElem? (i := 695) (by decide +kernel)) (by decide +kernel)
set_option maxRecDepth 100000 in
theorem tw_704 : Cond.methodLink RX3 57 yX1_obey ∈ gtb := gmem (List.mem_of_getElem? (i := 704) (by decide +kernel)) (by decide +kernel)
set_option maxRecDepth 100000 in
theorem tw_705 : Cond.instanceMethod yX1_obey ∈ gtb := gmem (List.mem_of_getElem? (i := 705) (by decide +kernel)) (by decide +kernel)
set_option maxRecDepth 100000 in
theorem tw_706 : Cond.selects RX1 yX1_obey yX1_obey ∈ gtb := gmem (List.mem_of_getElem? (i := 706) (by decide +kernel)) (by decide +kernel)
set_option maxRecDepth 100000 in
theorem tw_707 : Cond.code yX1_obey cX1_obey 6 (some .int) ∈ gtb := gmem (List.mem_of_getElem? (i := 707) (by decide +kernel)) (by decide +kernel)
set_option maxRecDepth 100000 in
theorem tw_602 : Cond.methodLink RX3 22 yX7_rewind ∈ gtb := gmem (List.mem_of_getElem? (i := 602) (by decide +kernel)) (by decide +kernel)
set_option maxRecDepth 100000 in
theorem tw_603 : Cond.instanceMethod yX7_rewind ∈ gtb := gmem (List.mem_of_getElem? (i := 603) (by decide +kernel)) (by decide +kernel)
set_option maxRecDepth 100000 in
theorem tw_604 : Cond.selects RX7 yX7_rewind yX7_rewind ∈ gtb := gmem (List.mem_of_getElem? (i := 604) (by decide +kernel)) (by decide +kernel)
set_option maxRecDepth 100000 in
theorem tw_605 : Cond.code yX7_rewind cX7_rewind 1 none ∈ gtb := gmem (List.mem_of_getElem? (i := 605) (by decide +kernel)) (by decide +kernel)
set_option maxRecDepth 100000 in
theorem tw_598 : Cond.methodLink RX8 117 yX3_runWith ∈ gtb := gmem (List.mem_of_getElem? (i := 598) (by decide +kernel)) (by decide +kernel)
set_option maxRecDepth 100000 in
theorem tw_599 : Cond.instanceMethod yX3_runWith ∈ gtb := gmem (List.mem_of_getElem? (i := 599) (by decide +kernel)) (by decide +kernel)
set_option maxRecDepth 100000 in
theorem tw_600 : Cond.selects RX3 yX3_runWith yX3_runWith ∈ gtb := gmem (List.mem_of_getElem? (i := 600) (by decide +kernel)) (by decide +kernel)
set_option maxRecDepth 100000 in
theorem tw_601 : Cond.code yX3_runWith cX3_runWith 6 (some .int) ∈ gtb := gmem (List.mem_of_getElem? (i := 601) (by decide +kernel)) (by decide +kernel)
set_option maxRecDepth 100000 in
theorem tw_713 : Cond.methodLink RX8 121 yX2_giveBackPrepared ∈ gtb := gmem (List.mem_of_getElem? (i := 713) (by decide +kernel)) (by decide +kernel)
set_option maxRecDepth 100000 in
theorem tw_714 : Cond.instanceMethod yX2_giveBackPrepared ∈ gtb := gmem (List.mem_of_getElem? (i := 714) (by decide +kernel)) (by decide +kernel)
set_option maxRecDepth 100000 in
theorem tw_715 : Cond.selects RX2 yX2_giveBackPrepared yX2_giveBackPrepared ∈ gtb := gmem (List.mem_of_getElem? (i := 715) (by decide +kernel)) (by decide +kernel)
set_option maxRecDepth 100000 in
theorem tw_716 : Cond.code yX2_giveBackPrepared cX2_giveBackPrepared 3 none ∈ gtb := gmem (List.mem_of_getElem? (i := 716) (by decide +kernel)) (by decide +kernel)
set_option maxRecDepth 100000 in
theorem tw_311 : Cond.fieldLink RX8 124 "SmudgeTally$Program" "failPlace" "I" ∈ gtb := gmem (List.mem_of_getElem? (i := 311) (by decide +kernel)) (by decide +kernel)
set_option maxRecDepth 100000 in
theorem tw_309 : Cond.fieldLink RX8 127 "SmudgeTally$Program" "failKind" "I" ∈ gtb := gmem (List.mem_of_getElem? (i := 309) (by decide +kernel)) (by decide +kernel)
set_option maxRecDepth 100000 in
theorem tw_313 : Cond.fieldLink RX8 130 "SmudgeTally$Program" "failCommands" "I" ∈ gtb := gmem (List.mem_of_getElem? (i := 313) (by decide +kernel)) (by decide +kernel)
set_option maxRecDepth 100000 in
theorem tw_315 : Cond.fieldLink RX8 133 "SmudgeTally$Program" "failCode" "I" ∈ gtb := gmem (List.mem_of_getElem? (i := 315) (by decide +kernel)) (by decide +kernel)
set_option maxRecDepth 100000 in
theorem tw_334 : Cond.fieldLink RX8 20 "SmudgeTally" "sight" "LSmudgeTally$Sight;" ∈ gtb := gmem (List.mem_of_getElem? (i := 334) (by decide +kernel)) (by decide +kernel)
set_option maxRecDepth 100000 in
theorem tw_726 : Cond.methodLink RX8 140 yX4_workOut ∈ gtb := gmem (List.mem_of_getElem? (i := 726) (by decide +kernel)) (by decide +kernel)
set_option maxRecDepth 100000 in
theorem tw_727 : Cond.methodLink RX8 143 yX0_cardsInStage ∈ gtb := gmem (List.mem_of_getElem? (i := 727) (by decide +kernel)) (by decide +kernel)
set_option maxRecDepth 100000 in
theorem tw_728 : Cond.methodLink RX8 146 yX4_poolSize ∈ gtb := gmem (List.mem_of_getElem? (i := 728) (by decide +kernel)) (by decide +kernel)
set_option maxRecDepth 100000 in
theorem tw_106 : Cond.fieldLink RX8 149 "SmudgeTally$Books" "versions" "I" ∈ gtb := gmem (List.mem_of_getElem? (i := 106) (by decide +kernel)) (by decide +kernel)
set_option maxRecDepth 100000 in
theorem tw_729 : Cond.methodLink RX8 152 yX4_cardsChanging ∈ gtb := gmem (List.mem_of_getElem? (i := 729) (by decide +kernel)) (by decide +kernel)
set_option maxRecDepth 100000 in
theorem tw_730 : Cond.methodLink RX8 155 yX4_unseenChanging ∈ gtb := gmem (List.mem_of_getElem? (i := 730) (by decide +kernel)) (by decide +kernel)
set_option maxRecDepth 100000 in
theorem tw_731 : Cond.methodLink RX8 158 yX4_streaks ∈ gtb := gmem (List.mem_of_getElem? (i := 731) (by decide +kernel)) (by decide +kernel)
set_option maxRecDepth 100000 in
theorem tw_732 : Cond.instanceMethod yX4_streaks ∈ gtb := gmem (List.mem_of_getElem? (i := 732) (by decide +kernel)) (by decide +kernel)
set_option maxRecDepth 100000 in
theorem tw_733 : Cond.selects RX4 yX4_streaks yX4_streaks ∈ gtb := gmem (List.mem_of_getElem? (i := 733) (by decide +kernel)) (by decide +kernel)
set_option maxRecDepth 100000 in
theorem tw_734 : Cond.code yX4_streaks cX4_streaks 5 (some .int) ∈ gtb := gmem (List.mem_of_getElem? (i := 734) (by decide +kernel)) (by decide +kernel)
set_option maxRecDepth 100000 in
theorem tw_735 : Cond.methodLink RX8 161 yX5_snapshots ∈ gtb := gmem (List.mem_of_getElem? (i := 735) (by decide +kernel)) (by decide +kernel)
set_option maxRecDepth 100000 in
theorem tw_736 : Cond.instanceMethod yX5_snapshots ∈ gtb := gmem (List.mem_of_getElem? (i := 736) (by decide +kernel)) (by decide +kernel)
set_option maxRecDepth 100000 in
theorem tw_737 : Cond.selects RX5 yX5_snapshots yX5_snapshots ∈ gtb := gmem (List.mem_of_getElem? (i := 737) (by decide +kernel)) (by decide +kernel)
set_option maxRecDepth 100000 in
theorem tw_738 : Cond.code yX5_snapshots cX5_snapshots 3 (some .int) ∈ gtb := gmem (List.mem_of_getElem? (i := 738) (by decide +kernel)) (by decide +kernel)
set_option maxRecDepth 100000 in
theorem tw_288 : Cond.fieldLink RX8 164 "SmudgeTally$Text" "length" "I" ∈ gtb := gmem (List.mem_of_getElem? (i := 288) (by decide +kernel)) (by decide +kernel)
set_option maxRecDepth 100000 in
theorem tw_130 : Cond.fieldLink RX8 136 "SmudgeTally$Books" "numbers" "[I" ∈ gtb := gmem (List.mem_of_getElem? (i := 130) (by decide +kernel)) (by decide +kernel)
set_option maxRecDepth 100000 in
theorem tw_743 : Cond.methodLink RX8 167 yX0_hasCard ∈ gtb := gmem (List.mem_of_getElem? (i := 743) (by decide +kernel)) (by decide +kernel)
set_option maxRecDepth 100000 in
theorem tw_110 : Cond.fieldLink RX8 170 "SmudgeTally$Books" "machines" "[I" ∈ gtb := gmem (List.mem_of_getElem? (i := 110) (by decide +kernel)) (by decide +kernel)
set_option maxRecDepth 100000 in
theorem tw_744 : Cond.methodLink RX8 173 yX0_cardsOf ∈ gtb := gmem (List.mem_of_getElem? (i := 744) (by decide +kernel)) (by decide +kernel)
set_option maxRecDepth 100000 in
theorem tw_114 : Cond.fieldLink RX8 176 "SmudgeTally$Books" "cleaningsBefore" "[I" ∈ gtb := gmem (List.mem_of_getElem? (i := 114) (by decide +kernel)) (by decide +kernel)
set_option maxRecDepth 100000 in
theorem tw_118 : Cond.fieldLink RX8 179 "SmudgeTally$Books" "stages" "[I" ∈ gtb := gmem (List.mem_of_getElem? (i := 118) (by decide +kernel)) (by decide +kernel)
set_option maxRecDepth 100000 in
theorem tw_184 : Cond.fieldLink RX8 182 "SmudgeTally$Sight" "doubtful" "[I" ∈ gtb := gmem (List.mem_of_getElem? (i := 184) (by decide +kernel)) (by decide +kernel)
set_option maxRecDepth 100000 in
theorem tw_745 : Cond.methodLink RX8 185 yX4_inPool ∈ gtb := gmem (List.mem_of_getElem? (i := 745) (by decide +kernel)) (by decide +kernel)
set_option maxRecDepth 100000 in
theorem tw_165 : Cond.fieldLink RX8 188 "SmudgeTally$Sight" "read" "[I" ∈ gtb := gmem (List.mem_of_getElem? (i := 165) (by decide +kernel)) (by decide +kernel)
set_option maxRecDepth 100000 in
theorem tw_176 : Cond.fieldLink RX8 191 "SmudgeTally$Sight" "dirt" "[I" ∈ gtb := gmem (List.mem_of_getElem? (i := 176) (by decide +kernel)) (by decide +kernel)
set_option maxRecDepth 100000 in
theorem tw_167 : Cond.fieldLink RX8 194 "SmudgeTally$Sight" "truth" "[I" ∈ gtb := gmem (List.mem_of_getElem? (i := 167) (by decide +kernel)) (by decide +kernel)
set_option maxRecDepth 100000 in
theorem tw_178 : Cond.fieldLink RX8 197 "SmudgeTally$Sight" "clear" "[I" ∈ gtb := gmem (List.mem_of_getElem? (i := 178) (by decide +kernel)) (by decide +kernel)
set_option maxRecDepth 100000 in
theorem tw_180 : Cond.fieldLink RX8 200 "SmudgeTally$Sight" "mark" "[I" ∈ gtb := gmem (List.mem_of_getElem? (i := 180) (by decide +kernel)) (by decide +kernel)
set_option maxRecDepth 100000 in
theorem tw_173 : Cond.fieldLink RX8 203 "SmudgeTally$Sight" "runLength" "[I" ∈ gtb := gmem (List.mem_of_getElem? (i := 173) (by decide +kernel)) (by decide +kernel)
set_option maxRecDepth 100000 in
theorem tw_169 : Cond.fieldLink RX8 206 "SmudgeTally$Sight" "runFirst" "[I" ∈ gtb := gmem (List.mem_of_getElem? (i := 169) (by decide +kernel)) (by decide +kernel)
set_option maxRecDepth 100000 in
theorem tw_171 : Cond.fieldLink RX8 209 "SmudgeTally$Sight" "runLast" "[I" ∈ gtb := gmem (List.mem_of_getElem? (i := 171) (by decide +kernel)) (by decide +kernel)
set_option maxRecDepth 100000 in
theorem tw_763 : Cond.methodLink RX0 53 yX0_hasVersion ∈ gtb := gmem (List.mem_of_getElem? (i := 763) (by decide +kernel)) (by decide +kernel)
set_option maxRecDepth 100000 in
theorem tw_773 : Cond.methodLink RX0 57 yX0_hasCard ∈ gtb := gmem (List.mem_of_getElem? (i := 773) (by decide +kernel)) (by decide +kernel)
set_option maxRecDepth 100000 in
theorem tw_768 : Cond.methodLink RX4 142 yX0_hasCard ∈ gtb := gmem (List.mem_of_getElem? (i := 768) (by decide +kernel)) (by decide +kernel)
set_option maxRecDepth 100000 in
theorem tw_769 : Cond.methodLink RX4 145 yX0_outcomesIn ∈ gtb := gmem (List.mem_of_getElem? (i := 769) (by decide +kernel)) (by decide +kernel)
set_option maxRecDepth 100000 in
theorem tw_770 : Cond.instanceMethod yX0_outcomesIn ∈ gtb := gmem (List.mem_of_getElem? (i := 770) (by decide +kernel)) (by decide +kernel)
set_option maxRecDepth 100000 in
theorem tw_771 : Cond.selects RX0 yX0_outcomesIn yX0_outcomesIn ∈ gtb := gmem (List.mem_of_getElem? (i := 771) (by decide +kernel)) (by decide +kernel)
set_option maxRecDepth 100000 in
theorem tw_772 : Cond.code yX0_outcomesIn cX0_outcomesIn 3 (some .int) ∈ gtb := gmem (List.mem_of_getElem? (i := 772) (by decide +kernel)) (by decide +kernel)
set_option maxRecDepth 100000 in
theorem tw_759 : Cond.methodLink RX8 215 yX0_cardsIn ∈ gtb := gmem (List.mem_of_getElem? (i := 759) (by decide +kernel)) (by decide +kernel)
set_option maxRecDepth 100000 in
theorem tw_760 : Cond.instanceMethod yX0_cardsIn ∈ gtb := gmem (List.mem_of_getElem? (i := 760) (by decide +kernel)) (by decide +kernel)
set_option maxRecDepth 100000 in
theorem tw_761 : Cond.selects RX0 yX0_cardsIn yX0_cardsIn ∈ gtb := gmem (List.mem_of_getElem? (i := 761) (by decide +kernel)) (by decide +kernel)
set_option maxRecDepth 100000 in
theorem tw_762 : Cond.code yX0_cardsIn cX0_cardsIn 2 (some .int) ∈ gtb := gmem (List.mem_of_getElem? (i := 762) (by decide +kernel)) (by decide +kernel)
set_option maxRecDepth 100000 in
theorem tw_764 : Cond.methodLink RX8 218 yX4_outcomesIn ∈ gtb := gmem (List.mem_of_getElem? (i := 764) (by decide +kernel)) (by decide +kernel)
set_option maxRecDepth 100000 in
theorem tw_765 : Cond.instanceMethod yX4_outcomesIn ∈ gtb := gmem (List.mem_of_getElem? (i := 765) (by decide +kernel)) (by decide +kernel)
set_option maxRecDepth 100000 in
theorem tw_766 : Cond.selects RX4 yX4_outcomesIn yX4_outcomesIn ∈ gtb := gmem (List.mem_of_getElem? (i := 766) (by decide +kernel)) (by decide +kernel)
set_option maxRecDepth 100000 in
theorem tw_767 : Cond.code yX4_outcomesIn cX4_outcomesIn 3 (some .int) ∈ gtb := gmem (List.mem_of_getElem? (i := 767) (by decide +kernel)) (by decide +kernel)
set_option maxRecDepth 100000 in
theorem tw_758 : Cond.methodLink RX8 212 yX0_hasVersion ∈ gtb := gmem (List.mem_of_getElem? (i := 758) (by decide +kernel)) (by decide +kernel)
set_option maxRecDepth 100000 in
theorem tw_783 : Cond.methodLink RX4 151 yX4_outcomesIn ∈ gtb := gmem (List.mem_of_getElem? (i := 783) (by decide +kernel)) (by decide +kernel)
set_option maxRecDepth 100000 in
theorem tw_782 : Cond.methodLink RX4 148 yX0_cardsIn ∈ gtb := gmem (List.mem_of_getElem? (i := 782) (by decide +kernel)) (by decide +kernel)
set_option maxRecDepth 100000 in
theorem tw_778 : Cond.methodLink RX8 224 yX4_cardsWith ∈ gtb := gmem (List.mem_of_getElem? (i := 778) (by decide +kernel)) (by decide +kernel)
set_option maxRecDepth 100000 in
theorem tw_779 : Cond.instanceMethod yX4_cardsWith ∈ gtb := gmem (List.mem_of_getElem? (i := 779) (by decide +kernel)) (by decide +kernel)
set_option maxRecDepth 100000 in
theorem tw_780 : Cond.selects RX4 yX4_cardsWith yX4_cardsWith ∈ gtb := gmem (List.mem_of_getElem? (i := 780) (by decide +kernel)) (by decide +kernel)
set_option maxRecDepth 100000 in
theorem tw_781 : Cond.code yX4_cardsWith cX4_cardsWith 8 (some .int) ∈ gtb := gmem (List.mem_of_getElem? (i := 781) (by decide +kernel)) (by decide +kernel)
set_option maxRecDepth 100000 in
theorem tw_797 : Cond.methodLink RX0 60 yX0_cardsIn ∈ gtb := gmem (List.mem_of_getElem? (i := 797) (by decide +kernel)) (by decide +kernel)
set_option maxRecDepth 100000 in
theorem tw_798 : Cond.methodLink RX0 64 yX0_outcomesIn ∈ gtb := gmem (List.mem_of_getElem? (i := 798) (by decide +kernel)) (by decide +kernel)
set_option maxRecDepth 100000 in
theorem tw_793 : Cond.methodLink RX0 71 yX0_changesIn ∈ gtb := gmem (List.mem_of_getElem? (i := 793) (by decide +kernel)) (by decide +kernel)
set_option maxRecDepth 100000 in
theorem tw_794 : Cond.instanceMethod yX0_changesIn ∈ gtb := gmem (List.mem_of_getElem? (i := 794) (by decide +kernel)) (by decide +kernel)
set_option maxRecDepth 100000 in
theorem tw_795 : Cond.selects RX0 yX0_changesIn yX0_changesIn ∈ gtb := gmem (List.mem_of_getElem? (i := 795) (by decide +kernel)) (by decide +kernel)
set_option maxRecDepth 100000 in
theorem tw_796 : Cond.code yX0_changesIn cX0_changesIn 3 (some .int) ∈ gtb := gmem (List.mem_of_getElem? (i := 796) (by decide +kernel)) (by decide +kernel)
set_option maxRecDepth 100000 in
theorem tw_789 : Cond.methodLink RX8 228 yX0_changedCard ∈ gtb := gmem (List.mem_of_getElem? (i := 789) (by decide +kernel)) (by decide +kernel)
set_option maxRecDepth 100000 in
theorem tw_790 : Cond.instanceMethod yX0_changedCard ∈ gtb := gmem (List.mem_of_getElem? (i := 790) (by decide +kernel)) (by decide +kernel)
set_option maxRecDepth 100000 in
theorem tw_791 : Cond.selects RX0 yX0_changedCard yX0_changedCard ∈ gtb := gmem (List.mem_of_getElem? (i := 791) (by decide +kernel)) (by decide +kernel)
set_option maxRecDepth 100000 in
theorem tw_792 : Cond.code yX0_changedCard cX0_changedCard 5 (some .int) ∈ gtb := gmem (List.mem_of_getElem? (i := 792) (by decide +kernel)) (by decide +kernel)
set_option maxRecDepth 100000 in
theorem tw_800 : Cond.methodLink RX8 231 yX0_changesIn ∈ gtb := gmem (List.mem_of_getElem? (i := 800) (by decide +kernel)) (by decide +kernel)
set_option maxRecDepth 100000 in
theorem tw_809 : Cond.methodLink RX4 161 yX4_cardsWith ∈ gtb := gmem (List.mem_of_getElem? (i := 809) (by decide +kernel)) (by decide +kernel)
set_option maxRecDepth 100000 in
theorem tw_805 : Cond.methodLink RX8 234 yX4_leadingChoice ∈ gtb := gmem (List.mem_of_getElem? (i := 805) (by decide +kernel)) (by decide +kernel)
set_option maxRecDepth 100000 in
theorem tw_806 : Cond.instanceMethod yX4_leadingChoice ∈ gtb := gmem (List.mem_of_getElem? (i := 806) (by decide +kernel)) (by decide +kernel)
set_option maxRecDepth 100000 in
theorem tw_807 : Cond.selects RX4 yX4_leadingChoice yX4_leadingChoice ∈ gtb := gmem (List.mem_of_getElem? (i := 807) (by decide +kernel)) (by decide +kernel)
set_option maxRecDepth 100000 in
theorem tw_808 : Cond.code yX4_leadingChoice cX4_leadingChoice 6 (some .int) ∈ gtb := gmem (List.mem_of_getElem? (i := 808) (by decide +kernel)) (by decide +kernel)
set_option maxRecDepth 100000 in
theorem tw_810 : Cond.methodLink RX8 237 yX4_leadOf ∈ gtb := gmem (List.mem_of_getElem? (i := 810) (by decide +kernel)) (by decide +kernel)
set_option maxRecDepth 100000 in
theorem tw_811 : Cond.instanceMethod yX4_leadOf ∈ gtb := gmem (List.mem_of_getElem? (i := 811) (by decide +kernel)) (by decide +kernel)
set_option maxRecDepth 100000 in
theorem tw_812 : Cond.selects RX4 yX4_leadOf yX4_leadOf ∈ gtb := gmem (List.mem_of_getElem? (i := 812) (by decide +kernel)) (by decide +kernel)
set_option maxRecDepth 100000 in
theorem tw_813 : Cond.code yX4_leadOf cX4_leadOf 5 (some .int) ∈ gtb := gmem (List.mem_of_getElem? (i := 813) (by decide +kernel)) (by decide +kernel)
set_option maxRecDepth 100000 in
theorem tw_822 : Cond.methodLink RX4 165 Lib.Math.abs.name ∈ gtb := gmem (List.mem_of_getElem? (i := 822) (by decide +kernel)) (by decide +kernel)
set_option maxRecDepth 100000 in
theorem tw_823 : Cond.static Lib.Math.abs.name ∈ gtb := gmem (List.mem_of_getElem? (i := 823) (by decide +kernel)) (by decide +kernel)
set_option maxRecDepth 100000 in
theorem tw_818 : Cond.methodLink RX8 240 yX4_errorOf ∈ gtb := gmem (List.mem_of_getElem? (i := 818) (by decide +kernel)) (by decide +kernel)
set_option maxRecDepth 100000 in
theorem tw_819 : Cond.instanceMethod yX4_errorOf ∈ gtb := gmem (List.mem_of_getElem? (i := 819) (by decide +kernel)) (by decide +kernel)
set_option maxRecDepth 100000 in
theorem tw_820 : Cond.selects RX4 yX4_errorOf yX4_errorOf ∈ gtb := gmem (List.mem_of_getElem? (i := 820) (by decide +kernel)) (by decide +kernel)
set_option maxRecDepth 100000 in
theorem tw_821 : Cond.code yX4_errorOf cX4_errorOf 7 (some .int) ∈ gtb := gmem (List.mem_of_getElem? (i := 821) (by decide +kernel)) (by decide +kernel)
set_option maxRecDepth 100000 in
theorem tw_186 : Cond.fieldLink RX4 59 "SmudgeTally$Sight" "outcomesBefore" "[I" ∈ gtb := gmem (List.mem_of_getElem? (i := 186) (by decide +kernel)) (by decide +kernel)
set_option maxRecDepth 100000 in
theorem tw_835 : Cond.methodLink RX4 168 arraycopyName ∈ gtb := gmem (List.mem_of_getElem? (i := 835) (by decide +kernel)) (by decide +kernel)
set_option maxRecDepth 100000 in
theorem tw_829 : Cond.fieldLink RX8 243 "SmudgeTally" "SMALLEST" "[I" ∈ gtb := gmem (List.mem_of_getElem? (i := 829) (by decide +kernel)) (by decide +kernel)
set_option maxRecDepth 100000 in
theorem tw_830 : Cond.fieldLink RX8 246 "SmudgeTally" "GREATEST" "[I" ∈ gtb := gmem (List.mem_of_getElem? (i := 830) (by decide +kernel)) (by decide +kernel)
set_option maxRecDepth 100000 in
theorem tw_831 : Cond.methodLink RX8 249 yX4_otherWith ∈ gtb := gmem (List.mem_of_getElem? (i := 831) (by decide +kernel)) (by decide +kernel)
set_option maxRecDepth 100000 in
theorem tw_832 : Cond.instanceMethod yX4_otherWith ∈ gtb := gmem (List.mem_of_getElem? (i := 832) (by decide +kernel)) (by decide +kernel)
set_option maxRecDepth 100000 in
theorem tw_833 : Cond.selects RX4 yX4_otherWith yX4_otherWith ∈ gtb := gmem (List.mem_of_getElem? (i := 833) (by decide +kernel)) (by decide +kernel)
set_option maxRecDepth 100000 in
theorem tw_834 : Cond.code yX4_otherWith cX4_otherWith 4 (some .int) ∈ gtb := gmem (List.mem_of_getElem? (i := 834) (by decide +kernel)) (by decide +kernel)
set_option maxRecDepth 100000 in
theorem tw_840 : Cond.constant RX8 252 (65536) ∈ gtb := gmem (List.mem_of_getElem? (i := 840) (by decide +kernel)) (by decide +kernel)
set_option maxRecDepth 100000 in
theorem tw_841 : Cond.methodLink RX8 253 yX8_nextLot ∈ gtb := gmem (List.mem_of_getElem? (i := 841) (by decide +kernel)) (by decide +kernel)
set_option maxRecDepth 100000 in
theorem tw_842 : Cond.methodLink RX8 256 yX4_poolCard ∈ gtb := gmem (List.mem_of_getElem? (i := 842) (by decide +kernel)) (by decide +kernel)
set_option maxRecDepth 100000 in
theorem tw_847 : Cond.methodLink RX8 259 yX4_placeInPool ∈ gtb := gmem (List.mem_of_getElem? (i := 847) (by decide +kernel)) (by decide +kernel)
set_option maxRecDepth 100000 in
theorem tw_857 : Cond.fieldLink RX9 7 "SmudgeTallyModel" "now" "[J" ∈ gtb := gmem (List.mem_of_getElem? (i := 857) (by decide +kernel)) (by decide +kernel)
set_option maxRecDepth 100000 in
theorem tw_922 : Cond.methodLink RX9 32 yX9_in ∈ gtb := gmem (List.mem_of_getElem? (i := 922) (by decide +kernel)) (by decide +kernel)
set_option maxRecDepth 100000 in
theorem tw_923 : Cond.static yX9_in ∈ gtb := gmem (List.mem_of_getElem? (i := 923) (by decide +kernel)) (by decide +kernel)
set_option maxRecDepth 100000 in
theorem tw_66 : Cond.initialized RX9 ∈ gtb := gmem (List.mem_of_getElem? (i := 66) (by decide +kernel)) (by decide +kernel)
set_option maxRecDepth 100000 in
theorem tw_924 : Cond.code yX9_in cX9_in 6 (some .boolean) ∈ gtb := gmem (List.mem_of_getElem? (i := 924) (by decide +kernel)) (by decide +kernel)
set_option maxRecDepth 100000 in
theorem tw_928 : Cond.constantLong RX9 36 (999999999999) ∈ gtb := gmem (List.mem_of_getElem? (i := 928) (by decide +kernel)) (by decide +kernel)
set_option maxRecDepth 100000 in
theorem tw_1007 : Cond.constantLong RX9 38 (10) ∈ gtb := gmem (List.mem_of_getElem? (i := 1007) (by decide +kernel)) (by decide +kernel)
set_option maxRecDepth 100000 in
theorem tw_930 : Cond.methodLink RX9 40 yX9_c ∈ gtb := gmem (List.mem_of_getElem? (i := 930) (by decide +kernel)) (by decide +kernel)
set_option maxRecDepth 100000 in
theorem tw_931 : Cond.static yX9_c ∈ gtb := gmem (List.mem_of_getElem? (i := 931) (by decide +kernel)) (by decide +kernel)
set_option maxRecDepth 100000 in
theorem tw_932 : Cond.code yX9_c cX9_c 2 (some .int) ∈ gtb := gmem (List.mem_of_getElem? (i := 932) (by decide +kernel)) (by decide +kernel)
set_option maxRecDepth 100000 in
theorem tw_1004 : Cond.methodLink RX9 44 yX9_digit ∈ gtb := gmem (List.mem_of_getElem? (i := 1004) (by decide +kernel)) (by decide +kernel)
set_option maxRecDepth 100000 in
theorem tw_1005 : Cond.static yX9_digit ∈ gtb := gmem (List.mem_of_getElem? (i := 1005) (by decide +kernel)) (by decide +kernel)
set_option maxRecDepth 100000 in
theorem tw_1006 : Cond.code yX9_digit cX9_digit 6 (some .int) ∈ gtb := gmem (List.mem_of_getElem? (i := 1006) (by decide +kernel)) (by decide +kernel)
set_option maxRecDepth 100000 in
theorem tw_921 : Cond.constantLong RX9 48 (2) ∈ gtb := gmem (List.mem_of_getElem? (i := 921) (by decide +kernel)) (by decide +kernel)
set_option maxRecDepth 100000 in
theorem tw_858 : Cond.fieldLink RX9 13 "SmudgeTallyModel" "before" "[J" ∈ gtb := gmem (List.mem_of_getElem? (i := 858) (by decide +kernel)) (by decide +kernel)
set_option maxRecDepth 100000 in
theorem tw_860 : Cond.fieldLink RX9 54 "SmudgeTallyModel" "states" "I" ∈ gtb := gmem (List.mem_of_getElem? (i := 860) (by decide +kernel)) (by decide +kernel)
set_option maxRecDepth 100000 in
theorem tw_859 : Cond.fieldLink RX9 16 "SmudgeTallyModel" "past" "[J" ∈ gtb := gmem (List.mem_of_getElem? (i := 859) (by decide +kernel)) (by decide +kernel)
set_option maxRecDepth 100000 in
theorem tw_937 : Cond.constantLong RX9 50 (-3) ∈ gtb := gmem (List.mem_of_getElem? (i := 937) (by decide +kernel)) (by decide +kernel)
set_option maxRecDepth 100000 in
theorem tw_938 : Cond.constantLong RX9 52 (-1) ∈ gtb := gmem (List.mem_of_getElem? (i := 938) (by decide +kernel)) (by decide +kernel)
set_option maxRecDepth 100000 in
theorem tw_1008 : Cond.methodLink RX9 58 yX9_read ∈ gtb := gmem (List.mem_of_getElem? (i := 1008) (by decide +kernel)) (by decide +kernel)
set_option maxRecDepth 100000 in
theorem tw_1010 : Cond.instanceMethod yX9_read ∈ gtb := gmem (List.mem_of_getElem? (i := 1010) (by decide +kernel)) (by decide +kernel)
set_option maxRecDepth 100000 in
theorem tw_28 : Cond.selects RX9 yX9_read yX9_read ∈ gtb := gmem (List.mem_of_getElem? (i := 28) (by decide +kernel)) (by decide +kernel)
set_option maxRecDepth 100000 in
theorem tw_1011 : Cond.code yX9_read cX9_read 3 (some .int) ∈ gtb := gmem (List.mem_of_getElem? (i := 1011) (by decide +kernel)) (by decide +kernel)
set_option maxRecDepth 100000 in
theorem tw_1024 : Cond.methodLink RX9 64 yX9_goesOn ∈ gtb := gmem (List.mem_of_getElem? (i := 1024) (by decide +kernel)) (by decide +kernel)
set_option maxRecDepth 100000 in
theorem tw_1026 : Cond.instanceMethod yX9_goesOn ∈ gtb := gmem (List.mem_of_getElem? (i := 1026) (by decide +kernel)) (by decide +kernel)
set_option maxRecDepth 100000 in
theorem tw_32 : Cond.selects RX9 yX9_goesOn yX9_goesOn ∈ gtb := gmem (List.mem_of_getElem? (i := 32) (by decide +kernel)) (by decide +kernel)
set_option maxRecDepth 100000 in
theorem tw_1027 : Cond.code yX9_goesOn cX9_goesOn 4 (some .boolean) ∈ gtb := gmem (List.mem_of_getElem? (i := 1027) (by decide +kernel)) (by decide +kernel)
set_option maxRecDepth 100000 in
theorem tw_1020 : Cond.methodLink RX9 61 yX9_beside ∈ gtb := gmem (List.mem_of_getElem? (i := 1020) (by decide +kernel)) (by decide +kernel)
set_option maxRecDepth 100000 in
theorem tw_1022 : Cond.instanceMethod yX9_beside ∈ gtb := gmem (List.mem_of_getElem? (i := 1022) (by decide +kernel)) (by decide +kernel)
set_option maxRecDepth 100000 in
theorem tw_31 : Cond.selects RX9 yX9_beside yX9_beside ∈ gtb := gmem (List.mem_of_getElem? (i := 31) (by decide +kernel)) (by decide +kernel)
set_option maxRecDepth 100000 in
theorem tw_1023 : Cond.code yX9_beside cX9_beside 4 (some .int) ∈ gtb := gmem (List.mem_of_getElem? (i := 1023) (by decide +kernel)) (by decide +kernel)
set_option maxRecDepth 100000 in
theorem tw_1016 : Cond.methodLink RX9 68 yX9_end ∈ gtb := gmem (List.mem_of_getElem? (i := 1016) (by decide +kernel)) (by decide +kernel)
set_option maxRecDepth 100000 in
theorem tw_1018 : Cond.instanceMethod yX9_end ∈ gtb := gmem (List.mem_of_getElem? (i := 1018) (by decide +kernel)) (by decide +kernel)
set_option maxRecDepth 100000 in
theorem tw_30 : Cond.selects RX9 yX9_end yX9_end ∈ gtb := gmem (List.mem_of_getElem? (i := 30) (by decide +kernel)) (by decide +kernel)
set_option maxRecDepth 100000 in
theorem tw_1019 : Cond.code yX9_end cX9_end 6 (some .int) ∈ gtb := gmem (List.mem_of_getElem? (i := 1019) (by decide +kernel)) (by decide +kernel)
set_option maxRecDepth 100000 in
theorem tw_1000 : Cond.methodLink RX9 72 yX9_isLooked ∈ gtb := gmem (List.mem_of_getElem? (i := 1000) (by decide +kernel)) (by decide +kernel)
set_option maxRecDepth 100000 in
theorem tw_1002 : Cond.instanceMethod yX9_isLooked ∈ gtb := gmem (List.mem_of_getElem? (i := 1002) (by decide +kernel)) (by decide +kernel)
set_option maxRecDepth 100000 in
theorem tw_27 : Cond.selects RX9 yX9_isLooked yX9_isLooked ∈ gtb := gmem (List.mem_of_getElem? (i := 27) (by decide +kernel)) (by decide +kernel)
set_option maxRecDepth 100000 in
theorem tw_1003 : Cond.code yX9_isLooked cX9_isLooked 2 (some .boolean) ∈ gtb := gmem (List.mem_of_getElem? (i := 1003) (by decide +kernel)) (by decide +kernel)
set_option maxRecDepth 100000 in
theorem tw_1036 : Cond.methodLink RX9 82 yX9_least ∈ gtb := gmem (List.mem_of_getElem? (i := 1036) (by decide +kernel)) (by decide +kernel)
set_option maxRecDepth 100000 in
theorem tw_1038 : Cond.instanceMethod yX9_least ∈ gtb := gmem (List.mem_of_getElem? (i := 1038) (by decide +kernel)) (by decide +kernel)
set_option maxRecDepth 100000 in
theorem tw_35 : Cond.selects RX9 yX9_least yX9_least ∈ gtb := gmem (List.mem_of_getElem? (i := 35) (by decide +kernel)) (by decide +kernel)
set_option maxRecDepth 100000 in
theorem tw_1039 : Cond.code yX9_least cX9_least 3 (some .int) ∈ gtb := gmem (List.mem_of_getElem? (i := 1039) (by decide +kernel)) (by decide +kernel)
set_option maxRecDepth 100000 in
theorem tw_1032 : Cond.methodLink RX9 79 yX9_dirtBy ∈ gtb := gmem (List.mem_of_getElem? (i := 1032) (by decide +kernel)) (by decide +kernel)
set_option maxRecDepth 100000 in
theorem tw_1034 : Cond.instanceMethod yX9_dirtBy ∈ gtb := gmem (List.mem_of_getElem? (i := 1034) (by decide +kernel)) (by decide +kernel)
set_option maxRecDepth 100000 in
theorem tw_34 : Cond.selects RX9 yX9_dirtBy yX9_dirtBy ∈ gtb := gmem (List.mem_of_getElem? (i := 34) (by decide +kernel)) (by decide +kernel)
set_option maxRecDepth 100000 in
theorem tw_1035 : Cond.code yX9_dirtBy cX9_dirtBy 5 (some .int) ∈ gtb := gmem (List.mem_of_getElem? (i := 1035) (by decide +kernel)) (by decide +kernel)
set_option maxRecDepth 100000 in
theorem tw_1028 : Cond.methodLink RX9 76 yX9_runFrom ∈ gtb := gmem (List.mem_of_getElem? (i := 1028) (by decide +kernel)) (by decide +kernel)
set_option maxRecDepth 100000 in
theorem tw_1030 : Cond.instanceMethod yX9_runFrom ∈ gtb := gmem (List.mem_of_getElem? (i := 1030) (by decide +kernel)) (by decide +kernel)
set_option maxRecDepth 100000 in
theorem tw_33 : Cond.selects RX9 yX9_runFrom yX9_runFrom ∈ gtb := gmem (List.mem_of_getElem? (i := 33) (by decide +kernel)) (by decide +kernel)
set_option maxRecDepth 100000 in
theorem tw_1031 : Cond.code yX9_runFrom cX9_runFrom 6 (some .int) ∈ gtb := gmem (List.mem_of_getElem? (i := 1031) (by decide +kernel)) (by decide +kernel)
set_option maxRecDepth 100000 in
theorem tw_1012 : Cond.methodLink RX9 85 yX9_dirt ∈ gtb := gmem (List.mem_of_getElem? (i := 1012) (by decide +kernel)) (by decide +kernel)
set_option maxRecDepth 100000 in
theorem tw_1014 : Cond.instanceMethod yX9_dirt ∈ gtb := gmem (List.mem_of_getElem? (i := 1014) (by decide +kernel)) (by decide +kernel)
set_option maxRecDepth 100000 in
theorem tw_29 : Cond.selects RX9 yX9_dirt yX9_dirt ∈ gtb := gmem (List.mem_of_getElem? (i := 29) (by decide +kernel)) (by decide +kernel)
set_option maxRecDepth 100000 in
theorem tw_1015 : Cond.code yX9_dirt cX9_dirt 8 (some .int) ∈ gtb := gmem (List.mem_of_getElem? (i := 1015) (by decide +kernel)) (by decide +kernel)
set_option maxRecDepth 100000 in
theorem tw_996 : Cond.methodLink RX9 88 yX9_clear ∈ gtb := gmem (List.mem_of_getElem? (i := 996) (by decide +kernel)) (by decide +kernel)
set_option maxRecDepth 100000 in
theorem tw_998 : Cond.instanceMethod yX9_clear ∈ gtb := gmem (List.mem_of_getElem? (i := 998) (by decide +kernel)) (by decide +kernel)
set_option maxRecDepth 100000 in
theorem tw_26 : Cond.selects RX9 yX9_clear yX9_clear ∈ gtb := gmem (List.mem_of_getElem? (i := 26) (by decide +kernel)) (by decide +kernel)
set_option maxRecDepth 100000 in
theorem tw_999 : Cond.code yX9_clear cX9_clear 4 (some .int) ∈ gtb := gmem (List.mem_of_getElem? (i := 999) (by decide +kernel)) (by decide +kernel)
set_option maxRecDepth 100000 in
theorem tw_992 : Cond.methodLink RX9 91 yX9_mark ∈ gtb := gmem (List.mem_of_getElem? (i := 992) (by decide +kernel)) (by decide +kernel)
set_option maxRecDepth 100000 in
theorem tw_994 : Cond.instanceMethod yX9_mark ∈ gtb := gmem (List.mem_of_getElem? (i := 994) (by decide +kernel)) (by decide +kernel)
set_option maxRecDepth 100000 in
theorem tw_25 : Cond.selects RX9 yX9_mark yX9_mark ∈ gtb := gmem (List.mem_of_getElem? (i := 25) (by decide +kernel)) (by decide +kernel)
set_option maxRecDepth 100000 in
theorem tw_995 : Cond.code yX9_mark cX9_mark 5 (some .int) ∈ gtb := gmem (List.mem_of_getElem? (i := 995) (by decide +kernel)) (by decide +kernel)
set_option maxRecDepth 100000 in
theorem tw_987 : Cond.constantLong RX9 94 (8) ∈ gtb := gmem (List.mem_of_getElem? (i := 987) (by decide +kernel)) (by decide +kernel)
set_option maxRecDepth 100000 in
theorem tw_988 : Cond.methodLink RX9 96 yX9_outcomeBy ∈ gtb := gmem (List.mem_of_getElem? (i := 988) (by decide +kernel)) (by decide +kernel)
set_option maxRecDepth 100000 in
theorem tw_990 : Cond.instanceMethod yX9_outcomeBy ∈ gtb := gmem (List.mem_of_getElem? (i := 990) (by decide +kernel)) (by decide +kernel)
set_option maxRecDepth 100000 in
theorem tw_24 : Cond.selects RX9 yX9_outcomeBy yX9_outcomeBy ∈ gtb := gmem (List.mem_of_getElem? (i := 24) (by decide +kernel)) (by decide +kernel)
set_option maxRecDepth 100000 in
theorem tw_991 : Cond.code yX9_outcomeBy cX9_outcomeBy 9 (some .int) ∈ gtb := gmem (List.mem_of_getElem? (i := 991) (by decide +kernel)) (by decide +kernel)
set_option maxRecDepth 100000 in
theorem tw_1046 : Cond.constantLong RX9 99 (7) ∈ gtb := gmem (List.mem_of_getElem? (i := 1046) (by decide +kernel)) (by decide +kernel)
set_option maxRecDepth 100000 in
theorem tw_1043 : Cond.methodLink RX9 101 yX9_outcomeIn ∈ gtb := gmem (List.mem_of_getElem? (i := 1043) (by decide +kernel)) (by decide +kernel)
set_option maxRecDepth 100000 in
theorem tw_1044 : Cond.static yX9_outcomeIn ∈ gtb := gmem (List.mem_of_getElem? (i := 1044) (by decide +kernel)) (by decide +kernel)
set_option maxRecDepth 100000 in
theorem tw_1045 : Cond.code yX9_outcomeIn cX9_outcomeIn 3 (some .int) ∈ gtb := gmem (List.mem_of_getElem? (i := 1045) (by decide +kernel)) (by decide +kernel)
set_option maxRecDepth 100000 in
theorem tw_976 : Cond.methodLink RX9 104 yX9_v ∈ gtb := gmem (List.mem_of_getElem? (i := 976) (by decide +kernel)) (by decide +kernel)
set_option maxRecDepth 100000 in
theorem tw_977 : Cond.static yX9_v ∈ gtb := gmem (List.mem_of_getElem? (i := 977) (by decide +kernel)) (by decide +kernel)
set_option maxRecDepth 100000 in
theorem tw_978 : Cond.code yX9_v cX9_v 2 (some .int) ∈ gtb := gmem (List.mem_of_getElem? (i := 978) (by decide +kernel)) (by decide +kernel)
set_option maxRecDepth 100000 in
theorem tw_979 : Cond.methodLink RX9 107 yX9_length ∈ gtb := gmem (List.mem_of_getElem? (i := 979) (by decide +kernel)) (by decide +kernel)
set_option maxRecDepth 100000 in
theorem tw_981 : Cond.instanceMethod yX9_length ∈ gtb := gmem (List.mem_of_getElem? (i := 981) (by decide +kernel)) (by decide +kernel)
set_option maxRecDepth 100000 in
theorem tw_22 : Cond.selects RX9 yX9_length yX9_length ∈ gtb := gmem (List.mem_of_getElem? (i := 22) (by decide +kernel)) (by decide +kernel)
set_option maxRecDepth 100000 in
theorem tw_982 : Cond.code yX9_length cX9_length 1 (some .int) ∈ gtb := gmem (List.mem_of_getElem? (i := 982) (by decide +kernel)) (by decide +kernel)
set_option maxRecDepth 100000 in
theorem tw_983 : Cond.methodLink RX9 111 yX9_outcomes ∈ gtb := gmem (List.mem_of_getElem? (i := 983) (by decide +kernel)) (by decide +kernel)
set_option maxRecDepth 100000 in
theorem tw_985 : Cond.instanceMethod yX9_outcomes ∈ gtb := gmem (List.mem_of_getElem? (i := 985) (by decide +kernel)) (by decide +kernel)
set_option maxRecDepth 100000 in
theorem tw_23 : Cond.selects RX9 yX9_outcomes yX9_outcomes ∈ gtb := gmem (List.mem_of_getElem? (i := 23) (by decide +kernel)) (by decide +kernel)
set_option maxRecDepth 100000 in
theorem tw_986 : Cond.code yX9_outcomes cX9_outcomes 6 (some .long) ∈ gtb := gmem (List.mem_of_getElem? (i := 986) (by decide +kernel)) (by decide +kernel)
set_option maxRecDepth 100000 in
theorem tw_1040 : Cond.methodLink RX9 115 yX9_differences ∈ gtb := gmem (List.mem_of_getElem? (i := 1040) (by decide +kernel)) (by decide +kernel)
set_option maxRecDepth 100000 in
theorem tw_1041 : Cond.static yX9_differences ∈ gtb := gmem (List.mem_of_getElem? (i := 1041) (by decide +kernel)) (by decide +kernel)
set_option maxRecDepth 100000 in
theorem tw_1042 : Cond.code yX9_differences cX9_differences 6 (some .int) ∈ gtb := gmem (List.mem_of_getElem? (i := 1042) (by decide +kernel)) (by decide +kernel)
set_option maxRecDepth 100000 in
theorem tw_1064 : Cond.methodLink RX9 119 yX9_doubtful ∈ gtb := gmem (List.mem_of_getElem? (i := 1064) (by decide +kernel)) (by decide +kernel)
set_option maxRecDepth 100000 in
theorem tw_1066 : Cond.instanceMethod yX9_doubtful ∈ gtb := gmem (List.mem_of_getElem? (i := 1066) (by decide +kernel)) (by decide +kernel)
set_option maxRecDepth 100000 in
theorem tw_39 : Cond.selects RX9 yX9_doubtful yX9_doubtful ∈ gtb := gmem (List.mem_of_getElem? (i := 39) (by decide +kernel)) (by decide +kernel)
set_option maxRecDepth 100000 in
theorem tw_1067 : Cond.code yX9_doubtful cX9_doubtful 4 (some .int) ∈ gtb := gmem (List.mem_of_getElem? (i := 1067) (by decide +kernel)) (by decide +kernel)
set_option maxRecDepth 100000 in
theorem tw_972 : Cond.methodLink RX9 123 yX9_changes ∈ gtb := gmem (List.mem_of_getElem? (i := 972) (by decide +kernel)) (by decide +kernel)
set_option maxRecDepth 100000 in
theorem tw_974 : Cond.instanceMethod yX9_changes ∈ gtb := gmem (List.mem_of_getElem? (i := 974) (by decide +kernel)) (by decide +kernel)
set_option maxRecDepth 100000 in
theorem tw_21 : Cond.selects RX9 yX9_changes yX9_changes ∈ gtb := gmem (List.mem_of_getElem? (i := 21) (by decide +kernel)) (by decide +kernel)
set_option maxRecDepth 100000 in
theorem tw_975 : Cond.code yX9_changes cX9_changes 3 (some .int) ∈ gtb := gmem (List.mem_of_getElem? (i := 975) (by decide +kernel)) (by decide +kernel)
set_option maxRecDepth 100000 in
theorem tw_1060 : Cond.methodLink RX9 126 yX9_isInPool ∈ gtb := gmem (List.mem_of_getElem? (i := 1060) (by decide +kernel)) (by decide +kernel)
set_option maxRecDepth 100000 in
theorem tw_1062 : Cond.instanceMethod yX9_isInPool ∈ gtb := gmem (List.mem_of_getElem? (i := 1062) (by decide +kernel)) (by decide +kernel)
set_option maxRecDepth 100000 in
theorem tw_38 : Cond.selects RX9 yX9_isInPool yX9_isInPool ∈ gtb := gmem (List.mem_of_getElem? (i := 38) (by decide +kernel)) (by decide +kernel)
set_option maxRecDepth 100000 in
theorem tw_1063 : Cond.code yX9_isInPool cX9_isInPool 2 (some .boolean) ∈ gtb := gmem (List.mem_of_getElem? (i := 1063) (by decide +kernel)) (by decide +kernel)
set_option maxRecDepth 100000 in
theorem tw_861 : Cond.fieldLink RX9 19 "SmudgeTallyModel" "pool" "[I" ∈ gtb := gmem (List.mem_of_getElem? (i := 861) (by decide +kernel)) (by decide +kernel)
set_option maxRecDepth 100000 in
theorem tw_925 : Cond.methodLink RX9 129 yX9_isRow ∈ gtb := gmem (List.mem_of_getElem? (i := 925) (by decide +kernel)) (by decide +kernel)
set_option maxRecDepth 100000 in
theorem tw_926 : Cond.static yX9_isRow ∈ gtb := gmem (List.mem_of_getElem? (i := 926) (by decide +kernel)) (by decide +kernel)
set_option maxRecDepth 100000 in
theorem tw_927 : Cond.code yX9_isRow cX9_isRow 2 (some .boolean) ∈ gtb := gmem (List.mem_of_getElem? (i := 927) (by decide +kernel)) (by decide +kernel)
set_option maxRecDepth 100000 in
theorem tw_929 : Cond.constantLong RX9 133 (40) ∈ gtb := gmem (List.mem_of_getElem? (i := 929) (by decide +kernel)) (by decide +kernel)
set_option maxRecDepth 100000 in
theorem tw_947 : Cond.methodLink RX9 135 yX9_ofMachine ∈ gtb := gmem (List.mem_of_getElem? (i := 947) (by decide +kernel)) (by decide +kernel)
set_option maxRecDepth 100000 in
theorem tw_949 : Cond.instanceMethod yX9_ofMachine ∈ gtb := gmem (List.mem_of_getElem? (i := 949) (by decide +kernel)) (by decide +kernel)
set_option maxRecDepth 100000 in
theorem tw_18 : Cond.selects RX9 yX9_ofMachine yX9_ofMachine ∈ gtb := gmem (List.mem_of_getElem? (i := 18) (by decide +kernel)) (by decide +kernel)
set_option maxRecDepth 100000 in
theorem tw_950 : Cond.code yX9_ofMachine cX9_ofMachine 4 (some .int) ∈ gtb := gmem (List.mem_of_getElem? (i := 950) (by decide +kernel)) (by decide +kernel)
set_option maxRecDepth 100000 in
theorem tw_968 : Cond.methodLink RX9 138 yX9_changing ∈ gtb := gmem (List.mem_of_getElem? (i := 968) (by decide +kernel)) (by decide +kernel)
set_option maxRecDepth 100000 in
theorem tw_970 : Cond.instanceMethod yX9_changing ∈ gtb := gmem (List.mem_of_getElem? (i := 970) (by decide +kernel)) (by decide +kernel)
set_option maxRecDepth 100000 in
theorem tw_20 : Cond.selects RX9 yX9_changing yX9_changing ∈ gtb := gmem (List.mem_of_getElem? (i := 20) (by decide +kernel)) (by decide +kernel)
set_option maxRecDepth 100000 in
theorem tw_971 : Cond.code yX9_changing cX9_changing 4 (some .int) ∈ gtb := gmem (List.mem_of_getElem? (i := 971) (by decide +kernel)) (by decide +kernel)
set_option maxRecDepth 100000 in
theorem tw_855 : Cond.constantLong RX9 28 (6) ∈ gtb := gmem (List.mem_of_getElem? (i := 855) (by decide +kernel)) (by decide +kernel)
set_option maxRecDepth 100000 in
theorem tw_1071 : Cond.methodLink RX9 153 yX9_inState ∈ gtb := gmem (List.mem_of_getElem? (i := 1071) (by decide +kernel)) (by decide +kernel)
set_option maxRecDepth 100000 in
theorem tw_1073 : Cond.instanceMethod yX9_inState ∈ gtb := gmem (List.mem_of_getElem? (i := 1073) (by decide +kernel)) (by decide +kernel)
set_option maxRecDepth 100000 in
theorem tw_40 : Cond.selects RX9 yX9_inState yX9_inState ∈ gtb := gmem (List.mem_of_getElem? (i := 40) (by decide +kernel)) (by decide +kernel)
set_option maxRecDepth 100000 in
theorem tw_1074 : Cond.code yX9_inState cX9_inState 4 (some .int) ∈ gtb := gmem (List.mem_of_getElem? (i := 1074) (by decide +kernel)) (by decide +kernel)
set_option maxRecDepth 100000 in
theorem tw_1068 : Cond.constantLong RX9 147 (75) ∈ gtb := gmem (List.mem_of_getElem? (i := 1068) (by decide +kernel)) (by decide +kernel)
set_option maxRecDepth 100000 in
theorem tw_1069 : Cond.constantLong RX9 149 (74) ∈ gtb := gmem (List.mem_of_getElem? (i := 1069) (by decide +kernel)) (by decide +kernel)
set_option maxRecDepth 100000 in
theorem tw_1070 : Cond.constantLong RX9 151 (65537) ∈ gtb := gmem (List.mem_of_getElem? (i := 1070) (by decide +kernel)) (by decide +kernel)
set_option maxRecDepth 100000 in
theorem tw_1055 : Cond.constantLong RX9 142 (65536) ∈ gtb := gmem (List.mem_of_getElem? (i := 1055) (by decide +kernel)) (by decide +kernel)
set_option maxRecDepth 100000 in
theorem tw_1056 : Cond.methodLink RX9 144 yX9_laysPool ∈ gtb := gmem (List.mem_of_getElem? (i := 1056) (by decide +kernel)) (by decide +kernel)
set_option maxRecDepth 100000 in
theorem tw_1058 : Cond.instanceMethod yX9_laysPool ∈ gtb := gmem (List.mem_of_getElem? (i := 1058) (by decide +kernel)) (by decide +kernel)
set_option maxRecDepth 100000 in
theorem tw_37 : Cond.selects RX9 yX9_laysPool yX9_laysPool ∈ gtb := gmem (List.mem_of_getElem? (i := 37) (by decide +kernel)) (by decide +kernel)
set_option maxRecDepth 100000 in
theorem tw_1059 : Cond.code yX9_laysPool cX9_laysPool 3 (some .int) ∈ gtb := gmem (List.mem_of_getElem? (i := 1059) (by decide +kernel)) (by decide +kernel)
set_option maxRecDepth 100000 in
theorem tw_913 : Cond.methodLink RX9 156 yX9_keeps ∈ gtb := gmem (List.mem_of_getElem? (i := 913) (by decide +kernel)) (by decide +kernel)
set_option maxRecDepth 100000 in
theorem tw_915 : Cond.instanceMethod yX9_keeps ∈ gtb := gmem (List.mem_of_getElem? (i := 915) (by decide +kernel)) (by decide +kernel)
set_option maxRecDepth 100000 in
theorem tw_14 : Cond.selects RX9 yX9_keeps yX9_keeps ∈ gtb := gmem (List.mem_of_getElem? (i := 14) (by decide +kernel)) (by decide +kernel)
set_option maxRecDepth 100000 in
theorem tw_916 : Cond.code yX9_keeps cX9_keeps 2 none ∈ gtb := gmem (List.mem_of_getElem? (i := 916) (by decide +kernel)) (by decide +kernel)
set_option maxRecDepth 100000 in
theorem tw_917 : Cond.methodLink RX9 159 yX9_scans ∈ gtb := gmem (List.mem_of_getElem? (i := 917) (by decide +kernel)) (by decide +kernel)
set_option maxRecDepth 100000 in
theorem tw_919 : Cond.instanceMethod yX9_scans ∈ gtb := gmem (List.mem_of_getElem? (i := 919) (by decide +kernel)) (by decide +kernel)
set_option maxRecDepth 100000 in
theorem tw_15 : Cond.selects RX9 yX9_scans yX9_scans ∈ gtb := gmem (List.mem_of_getElem? (i := 15) (by decide +kernel)) (by decide +kernel)
set_option maxRecDepth 100000 in
theorem tw_920 : Cond.code yX9_scans cX9_scans 6 (some .int) ∈ gtb := gmem (List.mem_of_getElem? (i := 920) (by decide +kernel)) (by decide +kernel)
set_option maxRecDepth 100000 in
theorem tw_933 : Cond.methodLink RX9 162 yX9_acted ∈ gtb := gmem (List.mem_of_getElem? (i := 933) (by decide +kernel)) (by decide +kernel)
set_option maxRecDepth 100000 in
theorem tw_935 : Cond.instanceMethod yX9_acted ∈ gtb := gmem (List.mem_of_getElem? (i := 935) (by decide +kernel)) (by decide +kernel)
set_option maxRecDepth 100000 in
theorem tw_16 : Cond.selects RX9 yX9_acted yX9_acted ∈ gtb := gmem (List.mem_of_getElem? (i := 16) (by decide +kernel)) (by decide +kernel)
set_option maxRecDepth 100000 in
theorem tw_936 : Cond.code yX9_acted cX9_acted 3 (some .int) ∈ gtb := gmem (List.mem_of_getElem? (i := 936) (by decide +kernel)) (by decide +kernel)
set_option maxRecDepth 100000 in
theorem tw_943 : Cond.methodLink RX9 165 yX9_cleans ∈ gtb := gmem (List.mem_of_getElem? (i := 943) (by decide +kernel)) (by decide +kernel)
set_option maxRecDepth 100000 in
theorem tw_945 : Cond.instanceMethod yX9_cleans ∈ gtb := gmem (List.mem_of_getElem? (i := 945) (by decide +kernel)) (by decide +kernel)
set_option maxRecDepth 100000 in
theorem tw_17 : Cond.selects RX9 yX9_cleans yX9_cleans ∈ gtb := gmem (List.mem_of_getElem? (i := 17) (by decide +kernel)) (by decide +kernel)
set_option maxRecDepth 100000 in
theorem tw_946 : Cond.code yX9_cleans cX9_cleans 3 (some .int) ∈ gtb := gmem (List.mem_of_getElem? (i := 946) (by decide +kernel)) (by decide +kernel)
set_option maxRecDepth 100000 in
theorem tw_958 : Cond.constantLong RX9 169 (9) ∈ gtb := gmem (List.mem_of_getElem? (i := 958) (by decide +kernel)) (by decide +kernel)
set_option maxRecDepth 100000 in
theorem tw_959 : Cond.constantLong RX9 171 (20) ∈ gtb := gmem (List.mem_of_getElem? (i := 959) (by decide +kernel)) (by decide +kernel)
set_option maxRecDepth 100000 in
theorem tw_955 : Cond.methodLink RX9 173 yX9_isSetting ∈ gtb := gmem (List.mem_of_getElem? (i := 955) (by decide +kernel)) (by decide +kernel)
set_option maxRecDepth 100000 in
theorem tw_956 : Cond.static yX9_isSetting ∈ gtb := gmem (List.mem_of_getElem? (i := 956) (by decide +kernel)) (by decide +kernel)
set_option maxRecDepth 100000 in
theorem tw_957 : Cond.code yX9_isSetting cX9_isSetting 2 (some .boolean) ∈ gtb := gmem (List.mem_of_getElem? (i := 957) (by decide +kernel)) (by decide +kernel)
set_option maxRecDepth 100000 in
theorem tw_964 : Cond.methodLink RX9 177 yX9_publishes ∈ gtb := gmem (List.mem_of_getElem? (i := 964) (by decide +kernel)) (by decide +kernel)
set_option maxRecDepth 100000 in
theorem tw_966 : Cond.instanceMethod yX9_publishes ∈ gtb := gmem (List.mem_of_getElem? (i := 966) (by decide +kernel)) (by decide +kernel)
set_option maxRecDepth 100000 in
theorem tw_19 : Cond.selects RX9 yX9_publishes yX9_publishes ∈ gtb := gmem (List.mem_of_getElem? (i := 19) (by decide +kernel)) (by decide +kernel)
set_option maxRecDepth 100000 in
theorem tw_967 : Cond.code yX9_publishes cX9_publishes 4 (some .int) ∈ gtb := gmem (List.mem_of_getElem? (i := 967) (by decide +kernel)) (by decide +kernel)
set_option maxRecDepth 100000 in
theorem tw_1051 : Cond.methodLink RX9 180 yX9_draws ∈ gtb := gmem (List.mem_of_getElem? (i := 1051) (by decide +kernel)) (by decide +kernel)
set_option maxRecDepth 100000 in
theorem tw_1053 : Cond.instanceMethod yX9_draws ∈ gtb := gmem (List.mem_of_getElem? (i := 1053) (by decide +kernel)) (by decide +kernel)
set_option maxRecDepth 100000 in
theorem tw_36 : Cond.selects RX9 yX9_draws yX9_draws ∈ gtb := gmem (List.mem_of_getElem? (i := 36) (by decide +kernel)) (by decide +kernel)
set_option maxRecDepth 100000 in
theorem tw_1054 : Cond.code yX9_draws cX9_draws 11 (some .int) ∈ gtb := gmem (List.mem_of_getElem? (i := 1054) (by decide +kernel)) (by decide +kernel)
set_option maxRecDepth 100000 in
theorem tw_1079 : Cond.methodLink RX9 183 yX9_looks ∈ gtb := gmem (List.mem_of_getElem? (i := 1079) (by decide +kernel)) (by decide +kernel)
set_option maxRecDepth 100000 in
theorem tw_1081 : Cond.instanceMethod yX9_looks ∈ gtb := gmem (List.mem_of_getElem? (i := 1081) (by decide +kernel)) (by decide +kernel)
set_option maxRecDepth 100000 in
theorem tw_41 : Cond.selects RX9 yX9_looks yX9_looks ∈ gtb := gmem (List.mem_of_getElem? (i := 41) (by decide +kernel)) (by decide +kernel)
set_option maxRecDepth 100000 in
theorem tw_1082 : Cond.code yX9_looks cX9_looks 8 (some .int) ∈ gtb := gmem (List.mem_of_getElem? (i := 1082) (by decide +kernel)) (by decide +kernel)
set_option maxRecDepth 100000 in
theorem tw_1087 : Cond.methodLink RX9 186 yX9_slotAt ∈ gtb := gmem (List.mem_of_getElem? (i := 1087) (by decide +kernel)) (by decide +kernel)
set_option maxRecDepth 100000 in
theorem tw_1088 : Cond.static yX9_slotAt ∈ gtb := gmem (List.mem_of_getElem? (i := 1088) (by decide +kernel)) (by decide +kernel)
set_option maxRecDepth 100000 in
theorem tw_1089 : Cond.code yX9_slotAt cX9_slotAt 1 (some .int) ∈ gtb := gmem (List.mem_of_getElem? (i := 1089) (by decide +kernel)) (by decide +kernel)
set_option maxRecDepth 100000 in
theorem tw_1102 : Cond.constantLong RX9 189 (255) ∈ gtb := gmem (List.mem_of_getElem? (i := 1102) (by decide +kernel)) (by decide +kernel)
set_option maxRecDepth 100000 in
theorem tw_863 : Cond.fieldLink RX9 191 "SmudgeTallyModel" "letters" "I" ∈ gtb := gmem (List.mem_of_getElem? (i := 863) (by decide +kernel)) (by decide +kernel)
set_option maxRecDepth 100000 in
theorem tw_862 : Cond.fieldLink RX9 23 "SmudgeTallyModel" "text" "[I" ∈ gtb := gmem (List.mem_of_getElem? (i := 862) (by decide +kernel)) (by decide +kernel)
set_option maxRecDepth 100000 in
theorem tw_868 : Cond.fieldLink RX9 194 "SmudgeTallyModel" "at" "I" ∈ gtb := gmem (List.mem_of_getElem? (i := 868) (by decide +kernel)) (by decide +kernel)
set_option maxRecDepth 100000 in
theorem tw_1130 : Cond.constantLong RX9 197 (97) ∈ gtb := gmem (List.mem_of_getElem? (i := 1130) (by decide +kernel)) (by decide +kernel)
set_option maxRecDepth 100000 in
theorem tw_1131 : Cond.constantLong RX9 199 (122) ∈ gtb := gmem (List.mem_of_getElem? (i := 1131) (by decide +kernel)) (by decide +kernel)
set_option maxRecDepth 100000 in
theorem tw_1146 : Cond.constantLong RX9 201 (48) ∈ gtb := gmem (List.mem_of_getElem? (i := 1146) (by decide +kernel)) (by decide +kernel)
set_option maxRecDepth 100000 in
theorem tw_1147 : Cond.constantLong RX9 203 (57) ∈ gtb := gmem (List.mem_of_getElem? (i := 1147) (by decide +kernel)) (by decide +kernel)
set_option maxRecDepth 100000 in
theorem tw_1115 : Cond.methodLink RX9 205 yX9_next ∈ gtb := gmem (List.mem_of_getElem? (i := 1115) (by decide +kernel)) (by decide +kernel)
set_option maxRecDepth 100000 in
theorem tw_1117 : Cond.instanceMethod yX9_next ∈ gtb := gmem (List.mem_of_getElem? (i := 1117) (by decide +kernel)) (by decide +kernel)
set_option maxRecDepth 100000 in
theorem tw_43 : Cond.selects RX9 yX9_next yX9_next ∈ gtb := gmem (List.mem_of_getElem? (i := 43) (by decide +kernel)) (by decide +kernel)
set_option maxRecDepth 100000 in
theorem tw_1118 : Cond.code yX9_next cX9_next 1 (some .int) ∈ gtb := gmem (List.mem_of_getElem? (i := 1118) (by decide +kernel)) (by decide +kernel)
set_option maxRecDepth 100000 in
theorem tw_869 : Cond.fieldLink RX9 208 "SmudgeTallyModel" "from" "I" ∈ gtb := gmem (List.mem_of_getElem? (i := 869) (by decide +kernel)) (by decide +kernel)
set_option maxRecDepth 100000 in
theorem tw_1127 : Cond.methodLink RX9 214 yX9_isLetter ∈ gtb := gmem (List.mem_of_getElem? (i := 1127) (by decide +kernel)) (by decide +kernel)
set_option maxRecDepth 100000 in
theorem tw_1128 : Cond.static yX9_isLetter ∈ gtb := gmem (List.mem_of_getElem? (i := 1128) (by decide +kernel)) (by decide +kernel)
set_option maxRecDepth 100000 in
theorem tw_1129 : Cond.code yX9_isLetter cX9_isLetter 1 (some .boolean) ∈ gtb := gmem (List.mem_of_getElem? (i := 1129) (by decide +kernel)) (by decide +kernel)
set_option maxRecDepth 100000 in
theorem tw_1132 : Cond.constantLong RX9 217 (32) ∈ gtb := gmem (List.mem_of_getElem? (i := 1132) (by decide +kernel)) (by decide +kernel)
set_option maxRecDepth 100000 in
theorem tw_1133 : Cond.constantLong RX9 219 (96) ∈ gtb := gmem (List.mem_of_getElem? (i := 1133) (by decide +kernel)) (by decide +kernel)
set_option maxRecDepth 100000 in
theorem tw_1111 : Cond.methodLink RX9 211 yX9_begins ∈ gtb := gmem (List.mem_of_getElem? (i := 1111) (by decide +kernel)) (by decide +kernel)
set_option maxRecDepth 100000 in
theorem tw_1113 : Cond.instanceMethod yX9_begins ∈ gtb := gmem (List.mem_of_getElem? (i := 1113) (by decide +kernel)) (by decide +kernel)
set_option maxRecDepth 100000 in
theorem tw_42 : Cond.selects RX9 yX9_begins yX9_begins ∈ gtb := gmem (List.mem_of_getElem? (i := 42) (by decide +kernel)) (by decide +kernel)
set_option maxRecDepth 100000 in
theorem tw_1114 : Cond.code yX9_begins cX9_begins 1 none ∈ gtb := gmem (List.mem_of_getElem? (i := 1114) (by decide +kernel)) (by decide +kernel)
set_option maxRecDepth 100000 in
theorem tw_1143 : Cond.methodLink RX9 225 yX9_isDigit ∈ gtb := gmem (List.mem_of_getElem? (i := 1143) (by decide +kernel)) (by decide +kernel)
set_option maxRecDepth 100000 in
theorem tw_1144 : Cond.static yX9_isDigit ∈ gtb := gmem (List.mem_of_getElem? (i := 1144) (by decide +kernel)) (by decide +kernel)
set_option maxRecDepth 100000 in
theorem tw_1145 : Cond.code yX9_isDigit cX9_isDigit 1 (some .boolean) ∈ gtb := gmem (List.mem_of_getElem? (i := 1145) (by decide +kernel)) (by decide +kernel)
set_option maxRecDepth 100000 in
theorem tw_870 : Cond.fieldLink RX9 221 "SmudgeTallyModel" "wrong" "Z" ∈ gtb := gmem (List.mem_of_getElem? (i := 870) (by decide +kernel)) (by decide +kernel)
set_option maxRecDepth 100000 in
theorem tw_873 : Cond.fieldLink RX9 253 "SmudgeTallyModel" "second" "J" ∈ gtb := gmem (List.mem_of_getElem? (i := 873) (by decide +kernel)) (by decide +kernel)
set_option maxRecDepth 100000 in
theorem tw_872 : Cond.fieldLink RX9 249 "SmudgeTallyModel" "first" "J" ∈ gtb := gmem (List.mem_of_getElem? (i := 872) (by decide +kernel)) (by decide +kernel)
set_option maxRecDepth 100000 in
theorem tw_1138 : Cond.constantLong RX9 243 (17887012456) ∈ gtb := gmem (List.mem_of_getElem? (i := 1138) (by decide +kernel)) (by decide +kernel)
set_option maxRecDepth 100000 in
theorem tw_1135 : Cond.constantLong RX9 237 (3544110) ∈ gtb := gmem (List.mem_of_getElem? (i := 1135) (by decide +kernel)) (by decide +kernel)
set_option maxRecDepth 100000 in
theorem tw_1136 : Cond.constantLong RX9 239 (149559) ∈ gtb := gmem (List.mem_of_getElem? (i := 1136) (by decide +kernel)) (by decide +kernel)
set_option maxRecDepth 100000 in
theorem tw_1139 : Cond.methodLink RX9 245 yX9_numberNext ∈ gtb := gmem (List.mem_of_getElem? (i := 1139) (by decide +kernel)) (by decide +kernel)
set_option maxRecDepth 100000 in
theorem tw_1141 : Cond.instanceMethod yX9_numberNext ∈ gtb := gmem (List.mem_of_getElem? (i := 1141) (by decide +kernel)) (by decide +kernel)
set_option maxRecDepth 100000 in
theorem tw_46 : Cond.selects RX9 yX9_numberNext yX9_numberNext ∈ gtb := gmem (List.mem_of_getElem? (i := 46) (by decide +kernel)) (by decide +kernel)
set_option maxRecDepth 100000 in
theorem tw_1142 : Cond.code yX9_numberNext cX9_numberNext 5 (some .long) ∈ gtb := gmem (List.mem_of_getElem? (i := 1142) (by decide +kernel)) (by decide +kernel)
set_option maxRecDepth 100000 in
theorem tw_1123 : Cond.methodLink RX9 228 yX9_wordNext ∈ gtb := gmem (List.mem_of_getElem? (i := 1123) (by decide +kernel)) (by decide +kernel)
set_option maxRecDepth 100000 in
theorem tw_1125 : Cond.instanceMethod yX9_wordNext ∈ gtb := gmem (List.mem_of_getElem? (i := 1125) (by decide +kernel)) (by decide +kernel)
set_option maxRecDepth 100000 in
theorem tw_45 : Cond.selects RX9 yX9_wordNext yX9_wordNext ∈ gtb := gmem (List.mem_of_getElem? (i := 45) (by decide +kernel)) (by decide +kernel)
set_option maxRecDepth 100000 in
theorem tw_1126 : Cond.code yX9_wordNext cX9_wordNext 3 (some .long) ∈ gtb := gmem (List.mem_of_getElem? (i := 1126) (by decide +kernel)) (by decide +kernel)
set_option maxRecDepth 100000 in
theorem tw_871 : Cond.fieldLink RX9 232 "SmudgeTallyModel" "word" "I" ∈ gtb := gmem (List.mem_of_getElem? (i := 871) (by decide +kernel)) (by decide +kernel)
set_option maxRecDepth 100000 in
theorem tw_1134 : Cond.constantLong RX9 235 (625710) ∈ gtb := gmem (List.mem_of_getElem? (i := 1134) (by decide +kernel)) (by decide +kernel)
set_option maxRecDepth 100000 in
theorem tw_1137 : Cond.constantLong RX9 241 (409067) ∈ gtb := gmem (List.mem_of_getElem? (i := 1137) (by decide +kernel)) (by decide +kernel)
set_option maxRecDepth 100000 in
theorem tw_864 : Cond.fieldLink RX9 256 "SmudgeTallyModel" "kind" "I" ∈ gtb := gmem (List.mem_of_getElem? (i := 864) (by decide +kernel)) (by decide +kernel)
set_option maxRecDepth 100000 in
theorem tw_865 : Cond.fieldLink RX9 259 "SmudgeTallyModel" "failedAt" "I" ∈ gtb := gmem (List.mem_of_getElem? (i := 865) (by decide +kernel)) (by decide +kernel)
set_option maxRecDepth 100000 in
theorem tw_866 : Cond.fieldLink RX9 262 "SmudgeTallyModel" "failedBehind" "I" ∈ gtb := gmem (List.mem_of_getElem? (i := 866) (by decide +kernel)) (by decide +kernel)
set_option maxRecDepth 100000 in
theorem tw_867 : Cond.fieldLink RX9 265 "SmudgeTallyModel" "failedBy" "I" ∈ gtb := gmem (List.mem_of_getElem? (i := 867) (by decide +kernel)) (by decide +kernel)
set_option maxRecDepth 100000 in
theorem tw_1119 : Cond.methodLink RX9 268 yX9_readsCommand ∈ gtb := gmem (List.mem_of_getElem? (i := 1119) (by decide +kernel)) (by decide +kernel)
set_option maxRecDepth 100000 in
theorem tw_1121 : Cond.instanceMethod yX9_readsCommand ∈ gtb := gmem (List.mem_of_getElem? (i := 1121) (by decide +kernel)) (by decide +kernel)
set_option maxRecDepth 100000 in
theorem tw_44 : Cond.selects RX9 yX9_readsCommand yX9_readsCommand ∈ gtb := gmem (List.mem_of_getElem? (i := 44) (by decide +kernel)) (by decide +kernel)
set_option maxRecDepth 100000 in
theorem tw_1122 : Cond.code yX9_readsCommand cX9_readsCommand 3 (some .long) ∈ gtb := gmem (List.mem_of_getElem? (i := 1122) (by decide +kernel)) (by decide +kernel)
set_option maxRecDepth 100000 in
theorem tw_1152 : Cond.methodLink RX9 275 yX9_does ∈ gtb := gmem (List.mem_of_getElem? (i := 1152) (by decide +kernel)) (by decide +kernel)
set_option maxRecDepth 100000 in
theorem tw_1154 : Cond.instanceMethod yX9_does ∈ gtb := gmem (List.mem_of_getElem? (i := 1154) (by decide +kernel)) (by decide +kernel)
set_option maxRecDepth 100000 in
theorem tw_48 : Cond.selects RX9 yX9_does yX9_does ∈ gtb := gmem (List.mem_of_getElem? (i := 48) (by decide +kernel)) (by decide +kernel)
set_option maxRecDepth 100000 in
theorem tw_1155 : Cond.code yX9_does cX9_does 3 (some .int) ∈ gtb := gmem (List.mem_of_getElem? (i := 1155) (by decide +kernel)) (by decide +kernel)
set_option maxRecDepth 100000 in
theorem tw_1148 : Cond.methodLink RX9 271 yX9_fails ∈ gtb := gmem (List.mem_of_getElem? (i := 1148) (by decide +kernel)) (by decide +kernel)
set_option maxRecDepth 100000 in
theorem tw_1150 : Cond.instanceMethod yX9_fails ∈ gtb := gmem (List.mem_of_getElem? (i := 1150) (by decide +kernel)) (by decide +kernel)
set_option maxRecDepth 100000 in
theorem tw_47 : Cond.selects RX9 yX9_fails yX9_fails ∈ gtb := gmem (List.mem_of_getElem? (i := 47) (by decide +kernel)) (by decide +kernel)
set_option maxRecDepth 100000 in
theorem tw_1151 : Cond.code yX9_fails cX9_fails 6 (some .int) ∈ gtb := gmem (List.mem_of_getElem? (i := 1151) (by decide +kernel)) (by decide +kernel)
set_option maxRecDepth 100000 in
theorem tw_1160 : Cond.constantLong RX9 278 (3) ∈ gtb := gmem (List.mem_of_getElem? (i := 1160) (by decide +kernel)) (by decide +kernel)
set_option maxRecDepth 100000 in
theorem tw_1169 : Cond.constantLong RX9 280 (12) ∈ gtb := gmem (List.mem_of_getElem? (i := 1169) (by decide +kernel)) (by decide +kernel)
set_option maxRecDepth 100000 in
theorem tw_1165 : Cond.methodLink RX9 282 yX9_streaks ∈ gtb := gmem (List.mem_of_getElem? (i := 1165) (by decide +kernel)) (by decide +kernel)
set_option maxRecDepth 100000 in
theorem tw_1167 : Cond.instanceMethod yX9_streaks ∈ gtb := gmem (List.mem_of_getElem? (i := 1167) (by decide +kernel)) (by decide +kernel)
set_option maxRecDepth 100000 in
theorem tw_49 : Cond.selects RX9 yX9_streaks yX9_streaks ∈ gtb := gmem (List.mem_of_getElem? (i := 49) (by decide +kernel)) (by decide +kernel)
set_option maxRecDepth 100000 in
theorem tw_1168 : Cond.code yX9_streaks cX9_streaks 6 (some .int) ∈ gtb := gmem (List.mem_of_getElem? (i := 1168) (by decide +kernel)) (by decide +kernel)
set_option maxRecDepth 100000 in
theorem tw_1170 : Cond.constantLong RX9 285 (11) ∈ gtb := gmem (List.mem_of_getElem? (i := 1170) (by decide +kernel)) (by decide +kernel)
set_option maxRecDepth 100000 in
theorem tw_1171 : Cond.constantLong RX9 287 (14) ∈ gtb := gmem (List.mem_of_getElem? (i := 1171) (by decide +kernel)) (by decide +kernel)
set_option maxRecDepth 100000 in
theorem tw_1176 : Cond.methodLink RX9 289 yX9_isCard ∈ gtb := gmem (List.mem_of_getElem? (i := 1176) (by decide +kernel)) (by decide +kernel)
set_option maxRecDepth 100000 in
theorem tw_1178 : Cond.instanceMethod yX9_isCard ∈ gtb := gmem (List.mem_of_getElem? (i := 1178) (by decide +kernel)) (by decide +kernel)
set_option maxRecDepth 100000 in
theorem tw_50 : Cond.selects RX9 yX9_isCard yX9_isCard ∈ gtb := gmem (List.mem_of_getElem? (i := 50) (by decide +kernel)) (by decide +kernel)
set_option maxRecDepth 100000 in
theorem tw_1179 : Cond.code yX9_isCard cX9_isCard 2 (some .boolean) ∈ gtb := gmem (List.mem_of_getElem? (i := 1179) (by decide +kernel)) (by decide +kernel)
set_option maxRecDepth 100000 in
theorem tw_1180 : Cond.methodLink RX9 292 yX9_placeOf ∈ gtb := gmem (List.mem_of_getElem? (i := 1180) (by decide +kernel)) (by decide +kernel)
set_option maxRecDepth 100000 in
theorem tw_1182 : Cond.instanceMethod yX9_placeOf ∈ gtb := gmem (List.mem_of_getElem? (i := 1182) (by decide +kernel)) (by decide +kernel)
set_option maxRecDepth 100000 in
theorem tw_51 : Cond.selects RX9 yX9_placeOf yX9_placeOf ∈ gtb := gmem (List.mem_of_getElem? (i := 51) (by decide +kernel)) (by decide +kernel)
set_option maxRecDepth 100000 in
theorem tw_1183 : Cond.code yX9_placeOf cX9_placeOf 4 (some .int) ∈ gtb := gmem (List.mem_of_getElem? (i := 1183) (by decide +kernel)) (by decide +kernel)
set_option maxRecDepth 100000 in
theorem tw_1188 : Cond.methodLink RX9 295 yX9_isPlace ∈ gtb := gmem (List.mem_of_getElem? (i := 1188) (by decide +kernel)) (by decide +kernel)
set_option maxRecDepth 100000 in
theorem tw_1189 : Cond.static yX9_isPlace ∈ gtb := gmem (List.mem_of_getElem? (i := 1189) (by decide +kernel)) (by decide +kernel)
set_option maxRecDepth 100000 in
theorem tw_1190 : Cond.code yX9_isPlace cX9_isPlace 1 (some .boolean) ∈ gtb := gmem (List.mem_of_getElem? (i := 1190) (by decide +kernel)) (by decide +kernel)
set_option maxRecDepth 100000 in
theorem tw_1203 : Cond.methodLink RX9 298 yX9_isVersion ∈ gtb := gmem (List.mem_of_getElem? (i := 1203) (by decide +kernel)) (by decide +kernel)
set_option maxRecDepth 100000 in
theorem tw_1205 : Cond.instanceMethod yX9_isVersion ∈ gtb := gmem (List.mem_of_getElem? (i := 1205) (by decide +kernel)) (by decide +kernel)
set_option maxRecDepth 100000 in
theorem tw_53 : Cond.selects RX9 yX9_isVersion yX9_isVersion ∈ gtb := gmem (List.mem_of_getElem? (i := 53) (by decide +kernel)) (by decide +kernel)
set_option maxRecDepth 100000 in
theorem tw_1206 : Cond.code yX9_isVersion cX9_isVersion 2 (some .boolean) ∈ gtb := gmem (List.mem_of_getElem? (i := 1206) (by decide +kernel)) (by decide +kernel)
set_option maxRecDepth 100000 in
theorem tw_1199 : Cond.methodLink RX9 301 yX9_isAsked ∈ gtb := gmem (List.mem_of_getElem? (i := 1199) (by decide +kernel)) (by decide +kernel)
set_option maxRecDepth 100000 in
theorem tw_1201 : Cond.instanceMethod yX9_isAsked ∈ gtb := gmem (List.mem_of_getElem? (i := 1201) (by decide +kernel)) (by decide +kernel)
set_option maxRecDepth 100000 in
theorem tw_52 : Cond.selects RX9 yX9_isAsked yX9_isAsked ∈ gtb := gmem (List.mem_of_getElem? (i := 52) (by decide +kernel)) (by decide +kernel)
set_option maxRecDepth 100000 in
theorem tw_1202 : Cond.code yX9_isAsked cX9_isAsked 3 (some .boolean) ∈ gtb := gmem (List.mem_of_getElem? (i := 1202) (by decide +kernel)) (by decide +kernel)
set_option maxRecDepth 100000 in
theorem tw_1207 : Cond.methodLink RX9 304 yX9_outcomeOf ∈ gtb := gmem (List.mem_of_getElem? (i := 1207) (by decide +kernel)) (by decide +kernel)
set_option maxRecDepth 100000 in
theorem tw_1209 : Cond.instanceMethod yX9_outcomeOf ∈ gtb := gmem (List.mem_of_getElem? (i := 1209) (by decide +kernel)) (by decide +kernel)
set_option maxRecDepth 100000 in
theorem tw_54 : Cond.selects RX9 yX9_outcomeOf yX9_outcomeOf ∈ gtb := gmem (List.mem_of_getElem? (i := 54) (by decide +kernel)) (by decide +kernel)
set_option maxRecDepth 100000 in
theorem tw_1210 : Cond.code yX9_outcomeOf cX9_outcomeOf 4 (some .int) ∈ gtb := gmem (List.mem_of_getElem? (i := 1210) (by decide +kernel)) (by decide +kernel)
set_option maxRecDepth 100000 in
theorem tw_1215 : Cond.methodLink RX9 307 yX9_tallied ∈ gtb := gmem (List.mem_of_getElem? (i := 1215) (by decide +kernel)) (by decide +kernel)
set_option maxRecDepth 100000 in
theorem tw_1217 : Cond.instanceMethod yX9_tallied ∈ gtb := gmem (List.mem_of_getElem? (i := 1217) (by decide +kernel)) (by decide +kernel)
set_option maxRecDepth 100000 in
theorem tw_55 : Cond.selects RX9 yX9_tallied yX9_tallied ∈ gtb := gmem (List.mem_of_getElem? (i := 55) (by decide +kernel)) (by decide +kernel)
set_option maxRecDepth 100000 in
theorem tw_1218 : Cond.code yX9_tallied cX9_tallied 8 (some .int) ∈ gtb := gmem (List.mem_of_getElem? (i := 1218) (by decide +kernel)) (by decide +kernel)
set_option maxRecDepth 100000 in
theorem tw_856 : Cond.constantLong RX9 30 (5) ∈ gtb := gmem (List.mem_of_getElem? (i := 856) (by decide +kernel)) (by decide +kernel)
set_option maxRecDepth 100000 in
theorem tw_1231 : Cond.methodLink RX9 310 yX9_size ∈ gtb := gmem (List.mem_of_getElem? (i := 1231) (by decide +kernel)) (by decide +kernel)
set_option maxRecDepth 100000 in
theorem tw_1232 : Cond.static yX9_size ∈ gtb := gmem (List.mem_of_getElem? (i := 1232) (by decide +kernel)) (by decide +kernel)
set_option maxRecDepth 100000 in
theorem tw_1233 : Cond.code yX9_size cX9_size 1 (some .int) ∈ gtb := gmem (List.mem_of_getElem? (i := 1233) (by decide +kernel)) (by decide +kernel)
set_option maxRecDepth 100000 in
theorem tw_98 : Cond.methodLink RX0 3 objectInit ∈ gtb := gmem (List.mem_of_getElem? (i := 98) (by decide +kernel)) (by decide +kernel)
set_option maxRecDepth 100000 in
theorem tw_79 : Cond.instanceMethod objectInit ∈ gtb := gmem (List.mem_of_getElem? (i := 79) (by decide +kernel)) (by decide +kernel)
set_option maxRecDepth 100000 in
theorem tw_158 : Cond.arrayClass .int ∈ gtb := gmem (List.mem_of_getElem? (i := 158) (by decide +kernel)) (by decide +kernel)
set_option maxRecDepth 100000 in
theorem tw_159 : Cond.arrayClass .long ∈ gtb := gmem (List.mem_of_getElem? (i := 159) (by decide +kernel)) (by decide +kernel)
set_option maxRecDepth 100000 in
theorem tw_92 : Cond.methodLink RX4 3 objectInit ∈ gtb := gmem (List.mem_of_getElem? (i := 92) (by decide +kernel)) (by decide +kernel)
set_option maxRecDepth 100000 in
theorem tw_93 : Cond.classLink RX4 9 RX0 ∈ gtb := gmem (List.mem_of_getElem? (i := 93) (by decide +kernel)) (by decide +kernel)
set_option maxRecDepth 100000 in
theorem tw_94 : Cond.instantiable RX0 11 ∈ gtb := gmem (List.mem_of_getElem? (i := 94) (by decide +kernel)) (by decide +kernel)
set_option maxRecDepth 100000 in
theorem tw_97 : Cond.code yX0_init cX0_init 1 none ∈ gtb := gmem (List.mem_of_getElem? (i := 97) (by decide +kernel)) (by decide +kernel)
set_option maxRecDepth 100000 in
theorem tw_96 : Cond.instanceMethod yX0_init ∈ gtb := gmem (List.mem_of_getElem? (i := 96) (by decide +kernel)) (by decide +kernel)
set_option maxRecDepth 100000 in
theorem tw_218 : Cond.arrayClass .boolean ∈ gtb := gmem (List.mem_of_getElem? (i := 218) (by decide +kernel)) (by decide +kernel)
set_option maxRecDepth 100000 in
theorem tw_86 : Cond.methodLink RX1 3 objectInit ∈ gtb := gmem (List.mem_of_getElem? (i := 86) (by decide +kernel)) (by decide +kernel)
set_option maxRecDepth 100000 in
theorem tw_87 : Cond.classLink RX1 9 RX4 ∈ gtb := gmem (List.mem_of_getElem? (i := 87) (by decide +kernel)) (by decide +kernel)
set_option maxRecDepth 100000 in
theorem tw_88 : Cond.instantiable RX4 15 ∈ gtb := gmem (List.mem_of_getElem? (i := 88) (by decide +kernel)) (by decide +kernel)
set_option maxRecDepth 100000 in
theorem tw_91 : Cond.code yX4_init cX4_init 1 none ∈ gtb := gmem (List.mem_of_getElem? (i := 91) (by decide +kernel)) (by decide +kernel)
set_option maxRecDepth 100000 in
theorem tw_90 : Cond.instanceMethod yX4_init ∈ gtb := gmem (List.mem_of_getElem? (i := 90) (by decide +kernel)) (by decide +kernel)
set_option maxRecDepth 100000 in
theorem tw_161 : Cond.fieldLink RX1 18 "SmudgeTally$Sight" "books" "LSmudgeTally$Books;" ∈ gtb := gmem (List.mem_of_getElem? (i := 161) (by decide +kernel)) (by decide +kernel)
set_option maxRecDepth 100000 in
theorem tw_232 : Cond.methodLink RX5 3 objectInit ∈ gtb := gmem (List.mem_of_getElem? (i := 232) (by decide +kernel)) (by decide +kernel)
set_option maxRecDepth 100000 in
theorem tw_233 : Cond.classLink RX5 9 RX0 ∈ gtb := gmem (List.mem_of_getElem? (i := 233) (by decide +kernel)) (by decide +kernel)
set_option maxRecDepth 100000 in
theorem tw_255 : Cond.methodLink RX6 1 objectInit ∈ gtb := gmem (List.mem_of_getElem? (i := 255) (by decide +kernel)) (by decide +kernel)
set_option maxRecDepth 100000 in
theorem tw_256 : Cond.classLink RX6 7 RX0 ∈ gtb := gmem (List.mem_of_getElem? (i := 256) (by decide +kernel)) (by decide +kernel)
set_option maxRecDepth 100000 in
theorem tw_258 : Cond.classLink RX6 16 RX5 ∈ gtb := gmem (List.mem_of_getElem? (i := 258) (by decide +kernel)) (by decide +kernel)
set_option maxRecDepth 100000 in
theorem tw_228 : Cond.instantiable RX5 2 ∈ gtb := gmem (List.mem_of_getElem? (i := 228) (by decide +kernel)) (by decide +kernel)
set_option maxRecDepth 100000 in
theorem tw_231 : Cond.code yX5_init cX5_init 1 none ∈ gtb := gmem (List.mem_of_getElem? (i := 231) (by decide +kernel)) (by decide +kernel)
set_option maxRecDepth 100000 in
theorem tw_230 : Cond.instanceMethod yX5_init ∈ gtb := gmem (List.mem_of_getElem? (i := 230) (by decide +kernel)) (by decide +kernel)
set_option maxRecDepth 100000 in
theorem tw_248 : Cond.methodLink RX2 3 objectInit ∈ gtb := gmem (List.mem_of_getElem? (i := 248) (by decide +kernel)) (by decide +kernel)
set_option maxRecDepth 100000 in
theorem tw_249 : Cond.classLink RX2 9 RX6 ∈ gtb := gmem (List.mem_of_getElem? (i := 249) (by decide +kernel)) (by decide +kernel)
set_option maxRecDepth 100000 in
theorem tw_251 : Cond.instantiable RX6 2 ∈ gtb := gmem (List.mem_of_getElem? (i := 251) (by decide +kernel)) (by decide +kernel)
set_option maxRecDepth 100000 in
theorem tw_254 : Cond.code yX6_init cX6_init 1 none ∈ gtb := gmem (List.mem_of_getElem? (i := 254) (by decide +kernel)) (by decide +kernel)
set_option maxRecDepth 100000 in
theorem tw_253 : Cond.instanceMethod yX6_init ∈ gtb := gmem (List.mem_of_getElem? (i := 253) (by decide +kernel)) (by decide +kernel)
set_option maxRecDepth 100000 in
theorem tw_286 : Cond.methodLink RX7 3 objectInit ∈ gtb := gmem (List.mem_of_getElem? (i := 286) (by decide +kernel)) (by decide +kernel)
set_option maxRecDepth 100000 in
theorem tw_280 : Cond.methodLink RX3 3 objectInit ∈ gtb := gmem (List.mem_of_getElem? (i := 280) (by decide +kernel)) (by decide +kernel)
set_option maxRecDepth 100000 in
theorem tw_281 : Cond.classLink RX3 9 RX7 ∈ gtb := gmem (List.mem_of_getElem? (i := 281) (by decide +kernel)) (by decide +kernel)
set_option maxRecDepth 100000 in
theorem tw_282 : Cond.instantiable RX7 5 ∈ gtb := gmem (List.mem_of_getElem? (i := 282) (by decide +kernel)) (by decide +kernel)
set_option maxRecDepth 100000 in
theorem tw_285 : Cond.code yX7_init cX7_init 1 none ∈ gtb := gmem (List.mem_of_getElem? (i := 285) (by decide +kernel)) (by decide +kernel)
set_option maxRecDepth 100000 in
theorem tw_284 : Cond.instanceMethod yX7_init ∈ gtb := gmem (List.mem_of_getElem? (i := 284) (by decide +kernel)) (by decide +kernel)
set_option maxRecDepth 100000 in
theorem tw_78 : Cond.methodLink RX8 3 objectInit ∈ gtb := gmem (List.mem_of_getElem? (i := 78) (by decide +kernel)) (by decide +kernel)
set_option maxRecDepth 100000 in
theorem tw_81 : Cond.classLink RX8 9 RX1 ∈ gtb := gmem (List.mem_of_getElem? (i := 81) (by decide +kernel)) (by decide +kernel)
set_option maxRecDepth 100000 in
theorem tw_82 : Cond.instantiable RX1 2 ∈ gtb := gmem (List.mem_of_getElem? (i := 82) (by decide +kernel)) (by decide +kernel)
set_option maxRecDepth 100000 in
theorem tw_85 : Cond.code yX1_init cX1_init 1 none ∈ gtb := gmem (List.mem_of_getElem? (i := 85) (by decide +kernel)) (by decide +kernel)
set_option maxRecDepth 100000 in
theorem tw_84 : Cond.instanceMethod yX1_init ∈ gtb := gmem (List.mem_of_getElem? (i := 84) (by decide +kernel)) (by decide +kernel)
set_option maxRecDepth 100000 in
theorem tw_220 : Cond.fieldLink RX8 16 "SmudgeTally$Clerk" "sight" "LSmudgeTally$Sight;" ∈ gtb := gmem (List.mem_of_getElem? (i := 220) (by decide +kernel)) (by decide +kernel)
set_option maxRecDepth 100000 in
theorem tw_162 : Cond.fieldLink RX8 21 "SmudgeTally$Sight" "books" "LSmudgeTally$Books;" ∈ gtb := gmem (List.mem_of_getElem? (i := 162) (by decide +kernel)) (by decide +kernel)
set_option maxRecDepth 100000 in
theorem tw_227 : Cond.classLink RX8 28 RX5 ∈ gtb := gmem (List.mem_of_getElem? (i := 227) (by decide +kernel)) (by decide +kernel)
set_option maxRecDepth 100000 in
theorem tw_243 : Cond.classLink RX8 35 RX2 ∈ gtb := gmem (List.mem_of_getElem? (i := 243) (by decide +kernel)) (by decide +kernel)
set_option maxRecDepth 100000 in
theorem tw_244 : Cond.instantiable RX2 2 ∈ gtb := gmem (List.mem_of_getElem? (i := 244) (by decide +kernel)) (by decide +kernel)
set_option maxRecDepth 100000 in
theorem tw_247 : Cond.code yX2_init cX2_init 1 none ∈ gtb := gmem (List.mem_of_getElem? (i := 247) (by decide +kernel)) (by decide +kernel)
set_option maxRecDepth 100000 in
theorem tw_246 : Cond.instanceMethod yX2_init ∈ gtb := gmem (List.mem_of_getElem? (i := 246) (by decide +kernel)) (by decide +kernel)
set_option maxRecDepth 100000 in
theorem tw_275 : Cond.classLink RX8 42 RX3 ∈ gtb := gmem (List.mem_of_getElem? (i := 275) (by decide +kernel)) (by decide +kernel)
set_option maxRecDepth 100000 in
theorem tw_276 : Cond.instantiable RX3 7 ∈ gtb := gmem (List.mem_of_getElem? (i := 276) (by decide +kernel)) (by decide +kernel)
set_option maxRecDepth 100000 in
theorem tw_279 : Cond.code yX3_init cX3_init 1 none ∈ gtb := gmem (List.mem_of_getElem? (i := 279) (by decide +kernel)) (by decide +kernel)
set_option maxRecDepth 100000 in
theorem tw_278 : Cond.instanceMethod yX3_init ∈ gtb := gmem (List.mem_of_getElem? (i := 278) (by decide +kernel)) (by decide +kernel)
set_option maxRecDepth 100000 in
theorem tw_853 : Cond.methodLink RX9 1 objectInit ∈ gtb := gmem (List.mem_of_getElem? (i := 853) (by decide +kernel)) (by decide +kernel)
set_option maxRecDepth 100000 in
theorem tw_854 : Cond.constantLong RX9 26 (4) ∈ gtb := gmem (List.mem_of_getElem? (i := 854) (by decide +kernel)) (by decide +kernel)
set_option maxRecDepth 100000 in
theorem tw_1246 : Cond.constantLong RL 13 (4294967295) ∈ gtb := gmem (List.mem_of_getElem? (i := 1246) (by decide +kernel)) (by decide +kernel)
set_option maxRecDepth 100000 in
theorem tw_352 : Cond.methodLink RL 15 yX8_scan ∈ gtb := gmem (List.mem_of_getElem? (i := 352) (by decide +kernel)) (by decide +kernel)
set_option maxRecDepth 100000 in
theorem tw_353 : Cond.instanceMethod yX8_scan ∈ gtb := gmem (List.mem_of_getElem? (i := 353) (by decide +kernel)) (by decide +kernel)
set_option maxRecDepth 100000 in
theorem tw_354 : Cond.selects RX8 yX8_scan yX8_scan ∈ gtb := gmem (List.mem_of_getElem? (i := 354) (by decide +kernel)) (by decide +kernel)
set_option maxRecDepth 100000 in
theorem tw_355 : Cond.code yX8_scan cX8_scan 4 (some .int) ∈ gtb := gmem (List.mem_of_getElem? (i := 355) (by decide +kernel)) (by decide +kernel)
set_option maxRecDepth 100000 in
theorem tw_909 : Cond.methodLink RL 19 yX9_scan ∈ gtb := gmem (List.mem_of_getElem? (i := 909) (by decide +kernel)) (by decide +kernel)
set_option maxRecDepth 100000 in
theorem tw_910 : Cond.instanceMethod yX9_scan ∈ gtb := gmem (List.mem_of_getElem? (i := 910) (by decide +kernel)) (by decide +kernel)
set_option maxRecDepth 100000 in
theorem tw_911 : Cond.selects RX9 yX9_scan yX9_scan ∈ gtb := gmem (List.mem_of_getElem? (i := 911) (by decide +kernel)) (by decide +kernel)
set_option maxRecDepth 100000 in
theorem tw_912 : Cond.code yX9_scan cX9_scan 4 (some .int) ∈ gtb := gmem (List.mem_of_getElem? (i := 912) (by decide +kernel)) (by decide +kernel)
set_option maxRecDepth 100000 in
theorem tw_395 : Cond.methodLink RL 20 yX8_clean ∈ gtb := gmem (List.mem_of_getElem? (i := 395) (by decide +kernel)) (by decide +kernel)
set_option maxRecDepth 100000 in
theorem tw_396 : Cond.instanceMethod yX8_clean ∈ gtb := gmem (List.mem_of_getElem? (i := 396) (by decide +kernel)) (by decide +kernel)
set_option maxRecDepth 100000 in
theorem tw_397 : Cond.selects RX8 yX8_clean yX8_clean ∈ gtb := gmem (List.mem_of_getElem? (i := 397) (by decide +kernel)) (by decide +kernel)
set_option maxRecDepth 100000 in
theorem tw_398 : Cond.code yX8_clean cX8_clean 2 (some .int) ∈ gtb := gmem (List.mem_of_getElem? (i := 398) (by decide +kernel)) (by decide +kernel)
set_option maxRecDepth 100000 in
theorem tw_939 : Cond.methodLink RL 24 yX9_clean ∈ gtb := gmem (List.mem_of_getElem? (i := 939) (by decide +kernel)) (by decide +kernel)
set_option maxRecDepth 100000 in
theorem tw_940 : Cond.instanceMethod yX9_clean ∈ gtb := gmem (List.mem_of_getElem? (i := 940) (by decide +kernel)) (by decide +kernel)
set_option maxRecDepth 100000 in
theorem tw_941 : Cond.selects RX9 yX9_clean yX9_clean ∈ gtb := gmem (List.mem_of_getElem? (i := 941) (by decide +kernel)) (by decide +kernel)
set_option maxRecDepth 100000 in
theorem tw_942 : Cond.code yX9_clean cX9_clean 2 (some .int) ∈ gtb := gmem (List.mem_of_getElem? (i := 942) (by decide +kernel)) (by decide +kernel)
set_option maxRecDepth 100000 in
theorem tw_407 : Cond.methodLink RL 25 yX8_set ∈ gtb := gmem (List.mem_of_getElem? (i := 407) (by decide +kernel)) (by decide +kernel)
set_option maxRecDepth 100000 in
theorem tw_408 : Cond.instanceMethod yX8_set ∈ gtb := gmem (List.mem_of_getElem? (i := 408) (by decide +kernel)) (by decide +kernel)
set_option maxRecDepth 100000 in
theorem tw_409 : Cond.selects RX8 yX8_set yX8_set ∈ gtb := gmem (List.mem_of_getElem? (i := 409) (by decide +kernel)) (by decide +kernel)
set_option maxRecDepth 100000 in
theorem tw_410 : Cond.code yX8_set cX8_set 3 (some .int) ∈ gtb := gmem (List.mem_of_getElem? (i := 410) (by decide +kernel)) (by decide +kernel)
set_option maxRecDepth 100000 in
theorem tw_951 : Cond.methodLink RL 29 yX9_set ∈ gtb := gmem (List.mem_of_getElem? (i := 951) (by decide +kernel)) (by decide +kernel)
set_option maxRecDepth 100000 in
theorem tw_952 : Cond.instanceMethod yX9_set ∈ gtb := gmem (List.mem_of_getElem? (i := 952) (by decide +kernel)) (by decide +kernel)
set_option maxRecDepth 100000 in
theorem tw_953 : Cond.selects RX9 yX9_set yX9_set ∈ gtb := gmem (List.mem_of_getElem? (i := 953) (by decide +kernel)) (by decide +kernel)
set_option maxRecDepth 100000 in
theorem tw_954 : Cond.code yX9_set cX9_set 4 (some .int) ∈ gtb := gmem (List.mem_of_getElem? (i := 954) (by decide +kernel)) (by decide +kernel)
set_option maxRecDepth 100000 in
theorem tw_419 : Cond.methodLink RL 30 yX8_publish ∈ gtb := gmem (List.mem_of_getElem? (i := 419) (by decide +kernel)) (by decide +kernel)
set_option maxRecDepth 100000 in
theorem tw_420 : Cond.instanceMethod yX8_publish ∈ gtb := gmem (List.mem_of_getElem? (i := 420) (by decide +kernel)) (by decide +kernel)
set_option maxRecDepth 100000 in
theorem tw_421 : Cond.selects RX8 yX8_publish yX8_publish ∈ gtb := gmem (List.mem_of_getElem? (i := 421) (by decide +kernel)) (by decide +kernel)
set_option maxRecDepth 100000 in
theorem tw_422 : Cond.code yX8_publish cX8_publish 1 (some .int) ∈ gtb := gmem (List.mem_of_getElem? (i := 422) (by decide +kernel)) (by decide +kernel)
set_option maxRecDepth 100000 in
theorem tw_960 : Cond.methodLink RL 34 yX9_publish ∈ gtb := gmem (List.mem_of_getElem? (i := 960) (by decide +kernel)) (by decide +kernel)
set_option maxRecDepth 100000 in
theorem tw_961 : Cond.instanceMethod yX9_publish ∈ gtb := gmem (List.mem_of_getElem? (i := 961) (by decide +kernel)) (by decide +kernel)
set_option maxRecDepth 100000 in
theorem tw_962 : Cond.selects RX9 yX9_publish yX9_publish ∈ gtb := gmem (List.mem_of_getElem? (i := 962) (by decide +kernel)) (by decide +kernel)
set_option maxRecDepth 100000 in
theorem tw_963 : Cond.code yX9_publish cX9_publish 1 (some .int) ∈ gtb := gmem (List.mem_of_getElem? (i := 963) (by decide +kernel)) (by decide +kernel)
set_option maxRecDepth 100000 in
theorem tw_492 : Cond.methodLink RL 35 yX8_draw ∈ gtb := gmem (List.mem_of_getElem? (i := 492) (by decide +kernel)) (by decide +kernel)
set_option maxRecDepth 100000 in
theorem tw_493 : Cond.instanceMethod yX8_draw ∈ gtb := gmem (List.mem_of_getElem? (i := 493) (by decide +kernel)) (by decide +kernel)
set_option maxRecDepth 100000 in
theorem tw_494 : Cond.selects RX8 yX8_draw yX8_draw ∈ gtb := gmem (List.mem_of_getElem? (i := 494) (by decide +kernel)) (by decide +kernel)
set_option maxRecDepth 100000 in
theorem tw_495 : Cond.code yX8_draw cX8_draw 3 (some .int) ∈ gtb := gmem (List.mem_of_getElem? (i := 495) (by decide +kernel)) (by decide +kernel)
set_option maxRecDepth 100000 in
theorem tw_1047 : Cond.methodLink RL 38 yX9_draw ∈ gtb := gmem (List.mem_of_getElem? (i := 1047) (by decide +kernel)) (by decide +kernel)
set_option maxRecDepth 100000 in
theorem tw_1048 : Cond.instanceMethod yX9_draw ∈ gtb := gmem (List.mem_of_getElem? (i := 1048) (by decide +kernel)) (by decide +kernel)
set_option maxRecDepth 100000 in
theorem tw_1049 : Cond.selects RX9 yX9_draw yX9_draw ∈ gtb := gmem (List.mem_of_getElem? (i := 1049) (by decide +kernel)) (by decide +kernel)
set_option maxRecDepth 100000 in
theorem tw_1050 : Cond.code yX9_draw cX9_draw 3 (some .int) ∈ gtb := gmem (List.mem_of_getElem? (i := 1050) (by decide +kernel)) (by decide +kernel)
set_option maxRecDepth 100000 in
theorem tw_529 : Cond.methodLink RL 39 yX8_look ∈ gtb := gmem (List.mem_of_getElem? (i := 529) (by decide +kernel)) (by decide +kernel)
set_option maxRecDepth 100000 in
theorem tw_530 : Cond.instanceMethod yX8_look ∈ gtb := gmem (List.mem_of_getElem? (i := 530) (by decide +kernel)) (by decide +kernel)
set_option maxRecDepth 100000 in
theorem tw_531 : Cond.selects RX8 yX8_look yX8_look ∈ gtb := gmem (List.mem_of_getElem? (i := 531) (by decide +kernel)) (by decide +kernel)
set_option maxRecDepth 100000 in
theorem tw_532 : Cond.code yX8_look cX8_look 4 (some .int) ∈ gtb := gmem (List.mem_of_getElem? (i := 532) (by decide +kernel)) (by decide +kernel)
set_option maxRecDepth 100000 in
theorem tw_1075 : Cond.methodLink RL 42 yX9_look ∈ gtb := gmem (List.mem_of_getElem? (i := 1075) (by decide +kernel)) (by decide +kernel)
set_option maxRecDepth 100000 in
theorem tw_1076 : Cond.instanceMethod yX9_look ∈ gtb := gmem (List.mem_of_getElem? (i := 1076) (by decide +kernel)) (by decide +kernel)
set_option maxRecDepth 100000 in
theorem tw_1077 : Cond.selects RX9 yX9_look yX9_look ∈ gtb := gmem (List.mem_of_getElem? (i := 1077) (by decide +kernel)) (by decide +kernel)
set_option maxRecDepth 100000 in
theorem tw_1078 : Cond.code yX9_look cX9_look 4 (some .int) ∈ gtb := gmem (List.mem_of_getElem? (i := 1078) (by decide +kernel)) (by decide +kernel)
set_option maxRecDepth 100000 in
theorem tw_543 : Cond.methodLink RL 43 yX8_take ∈ gtb := gmem (List.mem_of_getElem? (i := 543) (by decide +kernel)) (by decide +kernel)
set_option maxRecDepth 100000 in
theorem tw_544 : Cond.instanceMethod yX8_take ∈ gtb := gmem (List.mem_of_getElem? (i := 544) (by decide +kernel)) (by decide +kernel)
set_option maxRecDepth 100000 in
theorem tw_545 : Cond.selects RX8 yX8_take yX8_take ∈ gtb := gmem (List.mem_of_getElem? (i := 545) (by decide +kernel)) (by decide +kernel)
set_option maxRecDepth 100000 in
theorem tw_546 : Cond.code yX8_take cX8_take 2 (some .int) ∈ gtb := gmem (List.mem_of_getElem? (i := 546) (by decide +kernel)) (by decide +kernel)
set_option maxRecDepth 100000 in
theorem tw_1083 : Cond.methodLink RL 46 yX9_take ∈ gtb := gmem (List.mem_of_getElem? (i := 1083) (by decide +kernel)) (by decide +kernel)
set_option maxRecDepth 100000 in
theorem tw_1084 : Cond.instanceMethod yX9_take ∈ gtb := gmem (List.mem_of_getElem? (i := 1084) (by decide +kernel)) (by decide +kernel)
set_option maxRecDepth 100000 in
theorem tw_1085 : Cond.selects RX9 yX9_take yX9_take ∈ gtb := gmem (List.mem_of_getElem? (i := 1085) (by decide +kernel)) (by decide +kernel)
set_option maxRecDepth 100000 in
theorem tw_1086 : Cond.code yX9_take cX9_take 3 (some .int) ∈ gtb := gmem (List.mem_of_getElem? (i := 1086) (by decide +kernel)) (by decide +kernel)
set_option maxRecDepth 100000 in
theorem tw_553 : Cond.methodLink RL 47 yX8_restore ∈ gtb := gmem (List.mem_of_getElem? (i := 553) (by decide +kernel)) (by decide +kernel)
set_option maxRecDepth 100000 in
theorem tw_554 : Cond.instanceMethod yX8_restore ∈ gtb := gmem (List.mem_of_getElem? (i := 554) (by decide +kernel)) (by decide +kernel)
set_option maxRecDepth 100000 in
theorem tw_555 : Cond.selects RX8 yX8_restore yX8_restore ∈ gtb := gmem (List.mem_of_getElem? (i := 555) (by decide +kernel)) (by decide +kernel)
set_option maxRecDepth 100000 in
theorem tw_556 : Cond.code yX8_restore cX8_restore 2 (some .int) ∈ gtb := gmem (List.mem_of_getElem? (i := 556) (by decide +kernel)) (by decide +kernel)
set_option maxRecDepth 100000 in
theorem tw_1090 : Cond.methodLink RL 50 yX9_restore ∈ gtb := gmem (List.mem_of_getElem? (i := 1090) (by decide +kernel)) (by decide +kernel)
set_option maxRecDepth 100000 in
theorem tw_1091 : Cond.instanceMethod yX9_restore ∈ gtb := gmem (List.mem_of_getElem? (i := 1091) (by decide +kernel)) (by decide +kernel)
set_option maxRecDepth 100000 in
theorem tw_1092 : Cond.selects RX9 yX9_restore yX9_restore ∈ gtb := gmem (List.mem_of_getElem? (i := 1092) (by decide +kernel)) (by decide +kernel)
set_option maxRecDepth 100000 in
theorem tw_1093 : Cond.code yX9_restore cX9_restore 3 (some .int) ∈ gtb := gmem (List.mem_of_getElem? (i := 1093) (by decide +kernel)) (by decide +kernel)
set_option maxRecDepth 100000 in
theorem tw_566 : Cond.methodLink RL 51 yX8_undo ∈ gtb := gmem (List.mem_of_getElem? (i := 566) (by decide +kernel)) (by decide +kernel)
set_option maxRecDepth 100000 in
theorem tw_567 : Cond.instanceMethod yX8_undo ∈ gtb := gmem (List.mem_of_getElem? (i := 567) (by decide +kernel)) (by decide +kernel)
set_option maxRecDepth 100000 in
theorem tw_568 : Cond.selects RX8 yX8_undo yX8_undo ∈ gtb := gmem (List.mem_of_getElem? (i := 568) (by decide +kernel)) (by decide +kernel)
set_option maxRecDepth 100000 in
theorem tw_569 : Cond.code yX8_undo cX8_undo 1 (some .int) ∈ gtb := gmem (List.mem_of_getElem? (i := 569) (by decide +kernel)) (by decide +kernel)
set_option maxRecDepth 100000 in
theorem tw_1094 : Cond.methodLink RL 54 yX9_undo ∈ gtb := gmem (List.mem_of_getElem? (i := 1094) (by decide +kernel)) (by decide +kernel)
set_option maxRecDepth 100000 in
theorem tw_1095 : Cond.instanceMethod yX9_undo ∈ gtb := gmem (List.mem_of_getElem? (i := 1095) (by decide +kernel)) (by decide +kernel)
set_option maxRecDepth 100000 in
theorem tw_1096 : Cond.selects RX9 yX9_undo yX9_undo ∈ gtb := gmem (List.mem_of_getElem? (i := 1096) (by decide +kernel)) (by decide +kernel)
set_option maxRecDepth 100000 in
theorem tw_1097 : Cond.code yX9_undo cX9_undo 2 (some .int) ∈ gtb := gmem (List.mem_of_getElem? (i := 1097) (by decide +kernel)) (by decide +kernel)
set_option maxRecDepth 100000 in
theorem tw_578 : Cond.methodLink RL 55 yX8_append ∈ gtb := gmem (List.mem_of_getElem? (i := 578) (by decide +kernel)) (by decide +kernel)
set_option maxRecDepth 100000 in
theorem tw_579 : Cond.instanceMethod yX8_append ∈ gtb := gmem (List.mem_of_getElem? (i := 579) (by decide +kernel)) (by decide +kernel)
set_option maxRecDepth 100000 in
theorem tw_580 : Cond.selects RX8 yX8_append yX8_append ∈ gtb := gmem (List.mem_of_getElem? (i := 580) (by decide +kernel)) (by decide +kernel)
set_option maxRecDepth 100000 in
theorem tw_581 : Cond.code yX8_append cX8_append 2 (some .int) ∈ gtb := gmem (List.mem_of_getElem? (i := 581) (by decide +kernel)) (by decide +kernel)
set_option maxRecDepth 100000 in
theorem tw_1098 : Cond.methodLink RL 58 yX9_append ∈ gtb := gmem (List.mem_of_getElem? (i := 1098) (by decide +kernel)) (by decide +kernel)
set_option maxRecDepth 100000 in
theorem tw_1099 : Cond.instanceMethod yX9_append ∈ gtb := gmem (List.mem_of_getElem? (i := 1099) (by decide +kernel)) (by decide +kernel)
set_option maxRecDepth 100000 in
theorem tw_1100 : Cond.selects RX9 yX9_append yX9_append ∈ gtb := gmem (List.mem_of_getElem? (i := 1100) (by decide +kernel)) (by decide +kernel)
set_option maxRecDepth 100000 in
theorem tw_1101 : Cond.code yX9_append cX9_append 2 (some .int) ∈ gtb := gmem (List.mem_of_getElem? (i := 1101) (by decide +kernel)) (by decide +kernel)
set_option maxRecDepth 100000 in
theorem tw_586 : Cond.methodLink RL 59 yX8_clearText ∈ gtb := gmem (List.mem_of_getElem? (i := 586) (by decide +kernel)) (by decide +kernel)
set_option maxRecDepth 100000 in
theorem tw_587 : Cond.instanceMethod yX8_clearText ∈ gtb := gmem (List.mem_of_getElem? (i := 587) (by decide +kernel)) (by decide +kernel)
set_option maxRecDepth 100000 in
theorem tw_588 : Cond.selects RX8 yX8_clearText yX8_clearText ∈ gtb := gmem (List.mem_of_getElem? (i := 588) (by decide +kernel)) (by decide +kernel)
set_option maxRecDepth 100000 in
theorem tw_589 : Cond.code yX8_clearText cX8_clearText 1 (some .int) ∈ gtb := gmem (List.mem_of_getElem? (i := 589) (by decide +kernel)) (by decide +kernel)
set_option maxRecDepth 100000 in
theorem tw_1103 : Cond.methodLink RL 62 yX9_clearText ∈ gtb := gmem (List.mem_of_getElem? (i := 1103) (by decide +kernel)) (by decide +kernel)
set_option maxRecDepth 100000 in
theorem tw_1104 : Cond.instanceMethod yX9_clearText ∈ gtb := gmem (List.mem_of_getElem? (i := 1104) (by decide +kernel)) (by decide +kernel)
set_option maxRecDepth 100000 in
theorem tw_1105 : Cond.selects RX9 yX9_clearText yX9_clearText ∈ gtb := gmem (List.mem_of_getElem? (i := 1105) (by decide +kernel)) (by decide +kernel)
set_option maxRecDepth 100000 in
theorem tw_1106 : Cond.code yX9_clearText cX9_clearText 2 (some .int) ∈ gtb := gmem (List.mem_of_getElem? (i := 1106) (by decide +kernel)) (by decide +kernel)
set_option maxRecDepth 100000 in
theorem tw_594 : Cond.methodLink RL 63 yX8_run ∈ gtb := gmem (List.mem_of_getElem? (i := 594) (by decide +kernel)) (by decide +kernel)
set_option maxRecDepth 100000 in
theorem tw_595 : Cond.instanceMethod yX8_run ∈ gtb := gmem (List.mem_of_getElem? (i := 595) (by decide +kernel)) (by decide +kernel)
set_option maxRecDepth 100000 in
theorem tw_596 : Cond.selects RX8 yX8_run yX8_run ∈ gtb := gmem (List.mem_of_getElem? (i := 596) (by decide +kernel)) (by decide +kernel)
set_option maxRecDepth 100000 in
theorem tw_597 : Cond.code yX8_run cX8_run 2 (some .int) ∈ gtb := gmem (List.mem_of_getElem? (i := 597) (by decide +kernel)) (by decide +kernel)
set_option maxRecDepth 100000 in
theorem tw_1107 : Cond.methodLink RL 66 yX9_run ∈ gtb := gmem (List.mem_of_getElem? (i := 1107) (by decide +kernel)) (by decide +kernel)
set_option maxRecDepth 100000 in
theorem tw_1108 : Cond.instanceMethod yX9_run ∈ gtb := gmem (List.mem_of_getElem? (i := 1108) (by decide +kernel)) (by decide +kernel)
set_option maxRecDepth 100000 in
theorem tw_1109 : Cond.selects RX9 yX9_run yX9_run ∈ gtb := gmem (List.mem_of_getElem? (i := 1109) (by decide +kernel)) (by decide +kernel)
set_option maxRecDepth 100000 in
theorem tw_1110 : Cond.code yX9_run cX9_run 5 (some .int) ∈ gtb := gmem (List.mem_of_getElem? (i := 1110) (by decide +kernel)) (by decide +kernel)
set_option maxRecDepth 100000 in
theorem tw_718 : Cond.methodLink RL 67 yX8_failure ∈ gtb := gmem (List.mem_of_getElem? (i := 718) (by decide +kernel)) (by decide +kernel)
set_option maxRecDepth 100000 in
theorem tw_719 : Cond.instanceMethod yX8_failure ∈ gtb := gmem (List.mem_of_getElem? (i := 719) (by decide +kernel)) (by decide +kernel)
set_option maxRecDepth 100000 in
theorem tw_720 : Cond.selects RX8 yX8_failure yX8_failure ∈ gtb := gmem (List.mem_of_getElem? (i := 720) (by decide +kernel)) (by decide +kernel)
set_option maxRecDepth 100000 in
theorem tw_721 : Cond.code yX8_failure cX8_failure 2 (some .int) ∈ gtb := gmem (List.mem_of_getElem? (i := 721) (by decide +kernel)) (by decide +kernel)
set_option maxRecDepth 100000 in
theorem tw_1156 : Cond.methodLink RL 70 yX9_failure ∈ gtb := gmem (List.mem_of_getElem? (i := 1156) (by decide +kernel)) (by decide +kernel)
set_option maxRecDepth 100000 in
theorem tw_1157 : Cond.instanceMethod yX9_failure ∈ gtb := gmem (List.mem_of_getElem? (i := 1157) (by decide +kernel)) (by decide +kernel)
set_option maxRecDepth 100000 in
theorem tw_1158 : Cond.selects RX9 yX9_failure yX9_failure ∈ gtb := gmem (List.mem_of_getElem? (i := 1158) (by decide +kernel)) (by decide +kernel)
set_option maxRecDepth 100000 in
theorem tw_1159 : Cond.code yX9_failure cX9_failure 2 (some .int) ∈ gtb := gmem (List.mem_of_getElem? (i := 1159) (by decide +kernel)) (by decide +kernel)
set_option maxRecDepth 100000 in
theorem tw_722 : Cond.methodLink RL 71 yX8_count ∈ gtb := gmem (List.mem_of_getElem? (i := 722) (by decide +kernel)) (by decide +kernel)
set_option maxRecDepth 100000 in
theorem tw_723 : Cond.instanceMethod yX8_count ∈ gtb := gmem (List.mem_of_getElem? (i := 723) (by decide +kernel)) (by decide +kernel)
set_option maxRecDepth 100000 in
theorem tw_724 : Cond.selects RX8 yX8_count yX8_count ∈ gtb := gmem (List.mem_of_getElem? (i := 724) (by decide +kernel)) (by decide +kernel)
set_option maxRecDepth 100000 in
theorem tw_725 : Cond.code yX8_count cX8_count 2 (some .int) ∈ gtb := gmem (List.mem_of_getElem? (i := 725) (by decide +kernel)) (by decide +kernel)
set_option maxRecDepth 100000 in
theorem tw_1161 : Cond.methodLink RL 74 yX9_count ∈ gtb := gmem (List.mem_of_getElem? (i := 1161) (by decide +kernel)) (by decide +kernel)
set_option maxRecDepth 100000 in
theorem tw_1162 : Cond.instanceMethod yX9_count ∈ gtb := gmem (List.mem_of_getElem? (i := 1162) (by decide +kernel)) (by decide +kernel)
set_option maxRecDepth 100000 in
theorem tw_1163 : Cond.selects RX9 yX9_count yX9_count ∈ gtb := gmem (List.mem_of_getElem? (i := 1163) (by decide +kernel)) (by decide +kernel)
set_option maxRecDepth 100000 in
theorem tw_1164 : Cond.code yX9_count cX9_count 2 (some .int) ∈ gtb := gmem (List.mem_of_getElem? (i := 1164) (by decide +kernel)) (by decide +kernel)
set_option maxRecDepth 100000 in
theorem tw_739 : Cond.methodLink RL 75 yX8_card ∈ gtb := gmem (List.mem_of_getElem? (i := 739) (by decide +kernel)) (by decide +kernel)
set_option maxRecDepth 100000 in
theorem tw_740 : Cond.instanceMethod yX8_card ∈ gtb := gmem (List.mem_of_getElem? (i := 740) (by decide +kernel)) (by decide +kernel)
set_option maxRecDepth 100000 in
theorem tw_741 : Cond.selects RX8 yX8_card yX8_card ∈ gtb := gmem (List.mem_of_getElem? (i := 741) (by decide +kernel)) (by decide +kernel)
set_option maxRecDepth 100000 in
theorem tw_742 : Cond.code yX8_card cX8_card 3 (some .int) ∈ gtb := gmem (List.mem_of_getElem? (i := 742) (by decide +kernel)) (by decide +kernel)
set_option maxRecDepth 100000 in
theorem tw_1172 : Cond.methodLink RL 78 yX9_card ∈ gtb := gmem (List.mem_of_getElem? (i := 1172) (by decide +kernel)) (by decide +kernel)
set_option maxRecDepth 100000 in
theorem tw_1173 : Cond.instanceMethod yX9_card ∈ gtb := gmem (List.mem_of_getElem? (i := 1173) (by decide +kernel)) (by decide +kernel)
set_option maxRecDepth 100000 in
theorem tw_1174 : Cond.selects RX9 yX9_card yX9_card ∈ gtb := gmem (List.mem_of_getElem? (i := 1174) (by decide +kernel)) (by decide +kernel)
set_option maxRecDepth 100000 in
theorem tw_1175 : Cond.code yX9_card cX9_card 3 (some .int) ∈ gtb := gmem (List.mem_of_getElem? (i := 1175) (by decide +kernel)) (by decide +kernel)
set_option maxRecDepth 100000 in
theorem tw_746 : Cond.methodLink RL 79 yX8_place ∈ gtb := gmem (List.mem_of_getElem? (i := 746) (by decide +kernel)) (by decide +kernel)
set_option maxRecDepth 100000 in
theorem tw_747 : Cond.instanceMethod yX8_place ∈ gtb := gmem (List.mem_of_getElem? (i := 747) (by decide +kernel)) (by decide +kernel)
set_option maxRecDepth 100000 in
theorem tw_748 : Cond.selects RX8 yX8_place yX8_place ∈ gtb := gmem (List.mem_of_getElem? (i := 748) (by decide +kernel)) (by decide +kernel)
set_option maxRecDepth 100000 in
theorem tw_749 : Cond.code yX8_place cX8_place 5 (some .int) ∈ gtb := gmem (List.mem_of_getElem? (i := 749) (by decide +kernel)) (by decide +kernel)
set_option maxRecDepth 100000 in
theorem tw_1184 : Cond.methodLink RL 83 yX9_place ∈ gtb := gmem (List.mem_of_getElem? (i := 1184) (by decide +kernel)) (by decide +kernel)
set_option maxRecDepth 100000 in
theorem tw_1185 : Cond.instanceMethod yX9_place ∈ gtb := gmem (List.mem_of_getElem? (i := 1185) (by decide +kernel)) (by decide +kernel)
set_option maxRecDepth 100000 in
theorem tw_1186 : Cond.selects RX9 yX9_place yX9_place ∈ gtb := gmem (List.mem_of_getElem? (i := 1186) (by decide +kernel)) (by decide +kernel)
set_option maxRecDepth 100000 in
theorem tw_1187 : Cond.code yX9_place cX9_place 4 (some .int) ∈ gtb := gmem (List.mem_of_getElem? (i := 1187) (by decide +kernel)) (by decide +kernel)
set_option maxRecDepth 100000 in
theorem tw_750 : Cond.methodLink RL 84 yX8_runAt ∈ gtb := gmem (List.mem_of_getElem? (i := 750) (by decide +kernel)) (by decide +kernel)
set_option maxRecDepth 100000 in
theorem tw_751 : Cond.instanceMethod yX8_runAt ∈ gtb := gmem (List.mem_of_getElem? (i := 751) (by decide +kernel)) (by decide +kernel)
set_option maxRecDepth 100000 in
theorem tw_752 : Cond.selects RX8 yX8_runAt yX8_runAt ∈ gtb := gmem (List.mem_of_getElem? (i := 752) (by decide +kernel)) (by decide +kernel)
set_option maxRecDepth 100000 in
theorem tw_753 : Cond.code yX8_runAt cX8_runAt 5 (some .int) ∈ gtb := gmem (List.mem_of_getElem? (i := 753) (by decide +kernel)) (by decide +kernel)
set_option maxRecDepth 100000 in
theorem tw_1191 : Cond.methodLink RL 87 yX9_runAt ∈ gtb := gmem (List.mem_of_getElem? (i := 1191) (by decide +kernel)) (by decide +kernel)
set_option maxRecDepth 100000 in
theorem tw_1192 : Cond.instanceMethod yX9_runAt ∈ gtb := gmem (List.mem_of_getElem? (i := 1192) (by decide +kernel)) (by decide +kernel)
set_option maxRecDepth 100000 in
theorem tw_1193 : Cond.selects RX9 yX9_runAt yX9_runAt ∈ gtb := gmem (List.mem_of_getElem? (i := 1193) (by decide +kernel)) (by decide +kernel)
set_option maxRecDepth 100000 in
theorem tw_1194 : Cond.code yX9_runAt cX9_runAt 5 (some .int) ∈ gtb := gmem (List.mem_of_getElem? (i := 1194) (by decide +kernel)) (by decide +kernel)
set_option maxRecDepth 100000 in
theorem tw_754 : Cond.methodLink RL 88 yX8_outcome ∈ gtb := gmem (List.mem_of_getElem? (i := 754) (by decide +kernel)) (by decide +kernel)
set_option maxRecDepth 100000 in
theorem tw_755 : Cond.instanceMethod yX8_outcome ∈ gtb := gmem (List.mem_of_getElem? (i := 755) (by decide +kernel)) (by decide +kernel)
set_option maxRecDepth 100000 in
theorem tw_756 : Cond.selects RX8 yX8_outcome yX8_outcome ∈ gtb := gmem (List.mem_of_getElem? (i := 756) (by decide +kernel)) (by decide +kernel)
set_option maxRecDepth 100000 in
theorem tw_757 : Cond.code yX8_outcome cX8_outcome 4 (some .int) ∈ gtb := gmem (List.mem_of_getElem? (i := 757) (by decide +kernel)) (by decide +kernel)
set_option maxRecDepth 100000 in
theorem tw_1195 : Cond.methodLink RL 91 yX9_outcome ∈ gtb := gmem (List.mem_of_getElem? (i := 1195) (by decide +kernel)) (by decide +kernel)
set_option maxRecDepth 100000 in
theorem tw_1196 : Cond.instanceMethod yX9_outcome ∈ gtb := gmem (List.mem_of_getElem? (i := 1196) (by decide +kernel)) (by decide +kernel)
set_option maxRecDepth 100000 in
theorem tw_1197 : Cond.selects RX9 yX9_outcome yX9_outcome ∈ gtb := gmem (List.mem_of_getElem? (i := 1197) (by decide +kernel)) (by decide +kernel)
set_option maxRecDepth 100000 in
theorem tw_1198 : Cond.code yX9_outcome cX9_outcome 4 (some .int) ∈ gtb := gmem (List.mem_of_getElem? (i := 1198) (by decide +kernel)) (by decide +kernel)
set_option maxRecDepth 100000 in
theorem tw_774 : Cond.methodLink RL 92 yX8_tally ∈ gtb := gmem (List.mem_of_getElem? (i := 774) (by decide +kernel)) (by decide +kernel)
set_option maxRecDepth 100000 in
theorem tw_775 : Cond.instanceMethod yX8_tally ∈ gtb := gmem (List.mem_of_getElem? (i := 775) (by decide +kernel)) (by decide +kernel)
set_option maxRecDepth 100000 in
theorem tw_776 : Cond.selects RX8 yX8_tally yX8_tally ∈ gtb := gmem (List.mem_of_getElem? (i := 776) (by decide +kernel)) (by decide +kernel)
set_option maxRecDepth 100000 in
theorem tw_777 : Cond.code yX8_tally cX8_tally 5 (some .int) ∈ gtb := gmem (List.mem_of_getElem? (i := 777) (by decide +kernel)) (by decide +kernel)
set_option maxRecDepth 100000 in
theorem tw_1211 : Cond.methodLink RL 96 yX9_tally ∈ gtb := gmem (List.mem_of_getElem? (i := 1211) (by decide +kernel)) (by decide +kernel)
set_option maxRecDepth 100000 in
theorem tw_1212 : Cond.instanceMethod yX9_tally ∈ gtb := gmem (List.mem_of_getElem? (i := 1212) (by decide +kernel)) (by decide +kernel)
set_option maxRecDepth 100000 in
theorem tw_1213 : Cond.selects RX9 yX9_tally yX9_tally ∈ gtb := gmem (List.mem_of_getElem? (i := 1213) (by decide +kernel)) (by decide +kernel)
set_option maxRecDepth 100000 in
theorem tw_1214 : Cond.code yX9_tally cX9_tally 6 (some .int) ∈ gtb := gmem (List.mem_of_getElem? (i := 1214) (by decide +kernel)) (by decide +kernel)
set_option maxRecDepth 100000 in
theorem tw_785 : Cond.methodLink RL 97 yX8_changed ∈ gtb := gmem (List.mem_of_getElem? (i := 785) (by decide +kernel)) (by decide +kernel)
set_option maxRecDepth 100000 in
theorem tw_786 : Cond.instanceMethod yX8_changed ∈ gtb := gmem (List.mem_of_getElem? (i := 786) (by decide +kernel)) (by decide +kernel)
set_option maxRecDepth 100000 in
theorem tw_787 : Cond.selects RX8 yX8_changed yX8_changed ∈ gtb := gmem (List.mem_of_getElem? (i := 787) (by decide +kernel)) (by decide +kernel)
set_option maxRecDepth 100000 in
theorem tw_788 : Cond.code yX8_changed cX8_changed 5 (some .int) ∈ gtb := gmem (List.mem_of_getElem? (i := 788) (by decide +kernel)) (by decide +kernel)
set_option maxRecDepth 100000 in
theorem tw_1219 : Cond.methodLink RL 100 yX9_changed ∈ gtb := gmem (List.mem_of_getElem? (i := 1219) (by decide +kernel)) (by decide +kernel)
set_option maxRecDepth 100000 in
theorem tw_1220 : Cond.instanceMethod yX9_changed ∈ gtb := gmem (List.mem_of_getElem? (i := 1220) (by decide +kernel)) (by decide +kernel)
set_option maxRecDepth 100000 in
theorem tw_1221 : Cond.selects RX9 yX9_changed yX9_changed ∈ gtb := gmem (List.mem_of_getElem? (i := 1221) (by decide +kernel)) (by decide +kernel)
set_option maxRecDepth 100000 in
theorem tw_1222 : Cond.code yX9_changed cX9_changed 7 (some .int) ∈ gtb := gmem (List.mem_of_getElem? (i := 1222) (by decide +kernel)) (by decide +kernel)
set_option maxRecDepth 100000 in
theorem tw_801 : Cond.methodLink RL 101 yX8_leader ∈ gtb := gmem (List.mem_of_getElem? (i := 801) (by decide +kernel)) (by decide +kernel)
set_option maxRecDepth 100000 in
theorem tw_802 : Cond.instanceMethod yX8_leader ∈ gtb := gmem (List.mem_of_getElem? (i := 802) (by decide +kernel)) (by decide +kernel)
set_option maxRecDepth 100000 in
theorem tw_803 : Cond.selects RX8 yX8_leader yX8_leader ∈ gtb := gmem (List.mem_of_getElem? (i := 803) (by decide +kernel)) (by decide +kernel)
set_option maxRecDepth 100000 in
theorem tw_804 : Cond.code yX8_leader cX8_leader 6 (some .int) ∈ gtb := gmem (List.mem_of_getElem? (i := 804) (by decide +kernel)) (by decide +kernel)
set_option maxRecDepth 100000 in
theorem tw_1223 : Cond.methodLink RL 104 yX9_leader ∈ gtb := gmem (List.mem_of_getElem? (i := 1223) (by decide +kernel)) (by decide +kernel)
set_option maxRecDepth 100000 in
theorem tw_1224 : Cond.instanceMethod yX9_leader ∈ gtb := gmem (List.mem_of_getElem? (i := 1224) (by decide +kernel)) (by decide +kernel)
set_option maxRecDepth 100000 in
theorem tw_1225 : Cond.selects RX9 yX9_leader yX9_leader ∈ gtb := gmem (List.mem_of_getElem? (i := 1225) (by decide +kernel)) (by decide +kernel)
set_option maxRecDepth 100000 in
theorem tw_1226 : Cond.code yX9_leader cX9_leader 7 (some .int) ∈ gtb := gmem (List.mem_of_getElem? (i := 1226) (by decide +kernel)) (by decide +kernel)
set_option maxRecDepth 100000 in
theorem tw_814 : Cond.methodLink RL 105 yX8_error ∈ gtb := gmem (List.mem_of_getElem? (i := 814) (by decide +kernel)) (by decide +kernel)
set_option maxRecDepth 100000 in
theorem tw_815 : Cond.instanceMethod yX8_error ∈ gtb := gmem (List.mem_of_getElem? (i := 815) (by decide +kernel)) (by decide +kernel)
set_option maxRecDepth 100000 in
theorem tw_816 : Cond.selects RX8 yX8_error yX8_error ∈ gtb := gmem (List.mem_of_getElem? (i := 816) (by decide +kernel)) (by decide +kernel)
set_option maxRecDepth 100000 in
theorem tw_817 : Cond.code yX8_error cX8_error 5 (some .int) ∈ gtb := gmem (List.mem_of_getElem? (i := 817) (by decide +kernel)) (by decide +kernel)
set_option maxRecDepth 100000 in
theorem tw_1227 : Cond.methodLink RL 108 yX9_error ∈ gtb := gmem (List.mem_of_getElem? (i := 1227) (by decide +kernel)) (by decide +kernel)
set_option maxRecDepth 100000 in
theorem tw_1228 : Cond.instanceMethod yX9_error ∈ gtb := gmem (List.mem_of_getElem? (i := 1228) (by decide +kernel)) (by decide +kernel)
set_option maxRecDepth 100000 in
theorem tw_1229 : Cond.selects RX9 yX9_error yX9_error ∈ gtb := gmem (List.mem_of_getElem? (i := 1229) (by decide +kernel)) (by decide +kernel)
set_option maxRecDepth 100000 in
theorem tw_1230 : Cond.code yX9_error cX9_error 9 (some .int) ∈ gtb := gmem (List.mem_of_getElem? (i := 1230) (by decide +kernel)) (by decide +kernel)
set_option maxRecDepth 100000 in
theorem tw_825 : Cond.methodLink RL 109 yX8_byLength ∈ gtb := gmem (List.mem_of_getElem? (i := 825) (by decide +kernel)) (by decide +kernel)
set_option maxRecDepth 100000 in
theorem tw_826 : Cond.instanceMethod yX8_byLength ∈ gtb := gmem (List.mem_of_getElem? (i := 826) (by decide +kernel)) (by decide +kernel)
set_option maxRecDepth 100000 in
theorem tw_827 : Cond.selects RX8 yX8_byLength yX8_byLength ∈ gtb := gmem (List.mem_of_getElem? (i := 827) (by decide +kernel)) (by decide +kernel)
set_option maxRecDepth 100000 in
theorem tw_828 : Cond.code yX8_byLength cX8_byLength 2 (some .int) ∈ gtb := gmem (List.mem_of_getElem? (i := 828) (by decide +kernel)) (by decide +kernel)
set_option maxRecDepth 100000 in
theorem tw_1234 : Cond.methodLink RL 112 yX9_byLength ∈ gtb := gmem (List.mem_of_getElem? (i := 1234) (by decide +kernel)) (by decide +kernel)
set_option maxRecDepth 100000 in
theorem tw_1235 : Cond.instanceMethod yX9_byLength ∈ gtb := gmem (List.mem_of_getElem? (i := 1235) (by decide +kernel)) (by decide +kernel)
set_option maxRecDepth 100000 in
theorem tw_1236 : Cond.selects RX9 yX9_byLength yX9_byLength ∈ gtb := gmem (List.mem_of_getElem? (i := 1236) (by decide +kernel)) (by decide +kernel)
set_option maxRecDepth 100000 in
theorem tw_1237 : Cond.code yX9_byLength cX9_byLength 4 (some .int) ∈ gtb := gmem (List.mem_of_getElem? (i := 1237) (by decide +kernel)) (by decide +kernel)
set_option maxRecDepth 100000 in
theorem tw_836 : Cond.methodLink RL 113 yX8_drawn ∈ gtb := gmem (List.mem_of_getElem? (i := 836) (by decide +kernel)) (by decide +kernel)
set_option maxRecDepth 100000 in
theorem tw_837 : Cond.instanceMethod yX8_drawn ∈ gtb := gmem (List.mem_of_getElem? (i := 837) (by decide +kernel)) (by decide +kernel)
set_option maxRecDepth 100000 in
theorem tw_838 : Cond.selects RX8 yX8_drawn yX8_drawn ∈ gtb := gmem (List.mem_of_getElem? (i := 838) (by decide +kernel)) (by decide +kernel)
set_option maxRecDepth 100000 in
theorem tw_839 : Cond.code yX8_drawn cX8_drawn 3 (some .int) ∈ gtb := gmem (List.mem_of_getElem? (i := 839) (by decide +kernel)) (by decide +kernel)
set_option maxRecDepth 100000 in
theorem tw_1238 : Cond.methodLink RL 116 yX9_drawn ∈ gtb := gmem (List.mem_of_getElem? (i := 1238) (by decide +kernel)) (by decide +kernel)
set_option maxRecDepth 100000 in
theorem tw_1239 : Cond.instanceMethod yX9_drawn ∈ gtb := gmem (List.mem_of_getElem? (i := 1239) (by decide +kernel)) (by decide +kernel)
set_option maxRecDepth 100000 in
theorem tw_1240 : Cond.selects RX9 yX9_drawn yX9_drawn ∈ gtb := gmem (List.mem_of_getElem? (i := 1240) (by decide +kernel)) (by decide +kernel)
set_option maxRecDepth 100000 in
theorem tw_1241 : Cond.code yX9_drawn cX9_drawn 3 (some .int) ∈ gtb := gmem (List.mem_of_getElem? (i := 1241) (by decide +kernel)) (by decide +kernel)
set_option maxRecDepth 100000 in
theorem tw_843 : Cond.methodLink RL 117 yX8_seedFor ∈ gtb := gmem (List.mem_of_getElem? (i := 843) (by decide +kernel)) (by decide +kernel)
set_option maxRecDepth 100000 in
theorem tw_844 : Cond.instanceMethod yX8_seedFor ∈ gtb := gmem (List.mem_of_getElem? (i := 844) (by decide +kernel)) (by decide +kernel)
set_option maxRecDepth 100000 in
theorem tw_845 : Cond.selects RX8 yX8_seedFor yX8_seedFor ∈ gtb := gmem (List.mem_of_getElem? (i := 845) (by decide +kernel)) (by decide +kernel)
set_option maxRecDepth 100000 in
theorem tw_846 : Cond.code yX8_seedFor cX8_seedFor 5 (some .int) ∈ gtb := gmem (List.mem_of_getElem? (i := 846) (by decide +kernel)) (by decide +kernel)
set_option maxRecDepth 100000 in
theorem tw_1242 : Cond.methodLink RL 120 yX9_seedFor ∈ gtb := gmem (List.mem_of_getElem? (i := 1242) (by decide +kernel)) (by decide +kernel)
set_option maxRecDepth 100000 in
theorem tw_1243 : Cond.instanceMethod yX9_seedFor ∈ gtb := gmem (List.mem_of_getElem? (i := 1243) (by decide +kernel)) (by decide +kernel)
set_option maxRecDepth 100000 in
theorem tw_1244 : Cond.selects RX9 yX9_seedFor yX9_seedFor ∈ gtb := gmem (List.mem_of_getElem? (i := 1244) (by decide +kernel)) (by decide +kernel)
set_option maxRecDepth 100000 in
theorem tw_1245 : Cond.code yX9_seedFor cX9_seedFor 4 (some .int) ∈ gtb := gmem (List.mem_of_getElem? (i := 1245) (by decide +kernel)) (by decide +kernel)
set_option maxRecDepth 100000 in
theorem tw_630 : Cond.fieldLink RJ0 38 "java/lang/String" "COMPACT_STRINGS" "Z" ∈ gtb := gmem (List.mem_of_getElem? (i := 630) (by decide +kernel)) (by decide +kernel)
set_option maxRecDepth 100000 in
theorem tw_1248 : Cond.fieldLink RJ0 15 "java/lang/String" "coder" "B" ∈ gtb := gmem (List.mem_of_getElem? (i := 1248) (by decide +kernel)) (by decide +kernel)
set_option maxRecDepth 100000 in
theorem tw_1247 : Cond.fieldLink RJ0 9 "java/lang/String" "value" "[B" ∈ gtb := gmem (List.mem_of_getElem? (i := 1247) (by decide +kernel)) (by decide +kernel)
set_option maxRecDepth 100000 in
theorem tw_646 : Cond.fieldLink RJ0 1053 "jdk/internal/util/Preconditions" "SIOOBE_FORMATTER" "Ljava/util/function/BiFunction;" ∈ gtb := gmem (List.mem_of_getElem? (i := 646) (by decide +kernel)) (by decide +kernel)
set_option maxRecDepth 100000 in
theorem tw_626 : Cond.methodLink RJ0 335 yJ0_coder_7d493 ∈ gtb := gmem (List.mem_of_getElem? (i := 626) (by decide +kernel)) (by decide +kernel)
set_option maxRecDepth 100000 in
theorem tw_627 : Cond.instanceMethod yJ0_coder_7d493 ∈ gtb := gmem (List.mem_of_getElem? (i := 627) (by decide +kernel)) (by decide +kernel)
set_option maxRecDepth 100000 in
theorem tw_628 : Cond.selects RJ0 yJ0_coder_7d493 yJ0_coder_7d493 ∈ gtb := gmem (List.mem_of_getElem? (i := 628) (by decide +kernel)) (by decide +kernel)
set_option maxRecDepth 100000 in
theorem tw_69 : Cond.initialized RJ0 ∈ gtb := gmem (List.mem_of_getElem? (i := 69) (by decide +kernel)) (by decide +kernel)
set_option maxRecDepth 100000 in
theorem tw_629 : Cond.code yJ0_coder_7d493 cJ0_coder_7d493 1 (some .byte) ∈ gtb := gmem (List.mem_of_getElem? (i := 629) (by decide +kernel)) (by decide +kernel)
set_option maxRecDepth 100000 in
theorem tw_636 : Cond.methodLink RJ0 492 yJ0_isLatin1_aae02 ∈ gtb := gmem (List.mem_of_getElem? (i := 636) (by decide +kernel)) (by decide +kernel)
set_option maxRecDepth 100000 in
theorem tw_637 : Cond.instanceMethod yJ0_isLatin1_aae02 ∈ gtb := gmem (List.mem_of_getElem? (i := 637) (by decide +kernel)) (by decide +kernel)
set_option maxRecDepth 100000 in
theorem tw_638 : Cond.selects RJ0 yJ0_isLatin1_aae02 yJ0_isLatin1_aae02 ∈ gtb := gmem (List.mem_of_getElem? (i := 638) (by decide +kernel)) (by decide +kernel)
set_option maxRecDepth 100000 in
theorem tw_639 : Cond.code yJ0_isLatin1_aae02 cJ0_isLatin1_aae02 1 (some .boolean) ∈ gtb := gmem (List.mem_of_getElem? (i := 639) (by decide +kernel)) (by decide +kernel)
set_option maxRecDepth 100000 in
theorem tw_622 : Cond.methodLink RX7 32 yJ0_length_8abf5 ∈ gtb := gmem (List.mem_of_getElem? (i := 622) (by decide +kernel)) (by decide +kernel)
set_option maxRecDepth 100000 in
theorem tw_623 : Cond.instanceMethod yJ0_length_8abf5 ∈ gtb := gmem (List.mem_of_getElem? (i := 623) (by decide +kernel)) (by decide +kernel)
set_option maxRecDepth 100000 in
theorem tw_624 : Cond.selects RJ0 yJ0_length_8abf5 yJ0_length_8abf5 ∈ gtb := gmem (List.mem_of_getElem? (i := 624) (by decide +kernel)) (by decide +kernel)
set_option maxRecDepth 100000 in
theorem tw_625 : Cond.code yJ0_length_8abf5 cJ0_length_8abf5 1 (some .int) ∈ gtb := gmem (List.mem_of_getElem? (i := 625) (by decide +kernel)) (by decide +kernel)
set_option maxRecDepth 100000 in
theorem tw_632 : Cond.methodLink RX7 37 yJ0_charAt_5068e ∈ gtb := gmem (List.mem_of_getElem? (i := 632) (by decide +kernel)) (by decide +kernel)
set_option maxRecDepth 100000 in
theorem tw_633 : Cond.instanceMethod yJ0_charAt_5068e ∈ gtb := gmem (List.mem_of_getElem? (i := 633) (by decide +kernel)) (by decide +kernel)
set_option maxRecDepth 100000 in
theorem tw_634 : Cond.selects RJ0 yJ0_charAt_5068e yJ0_charAt_5068e ∈ gtb := gmem (List.mem_of_getElem? (i := 634) (by decide +kernel)) (by decide +kernel)
set_option maxRecDepth 100000 in
theorem tw_635 : Cond.code yJ0_charAt_5068e cJ0_charAt_5068e 2 (some .char) ∈ gtb := gmem (List.mem_of_getElem? (i := 635) (by decide +kernel)) (by decide +kernel)
set_option maxRecDepth 100000 in
theorem tw_648 : Cond.methodLink RJ0 1059 yJ3_checkIndex_8e157 ∈ gtb := gmem (List.mem_of_getElem? (i := 648) (by decide +kernel)) (by decide +kernel)
set_option maxRecDepth 100000 in
theorem tw_649 : Cond.static yJ3_checkIndex_8e157 ∈ gtb := gmem (List.mem_of_getElem? (i := 649) (by decide +kernel)) (by decide +kernel)
set_option maxRecDepth 100000 in
theorem tw_71 : Cond.initialized RJ3 ∈ gtb := gmem (List.mem_of_getElem? (i := 71) (by decide +kernel)) (by decide +kernel)
set_option maxRecDepth 100000 in
theorem tw_650 : Cond.code yJ3_checkIndex_8e157 cJ3_checkIndex_8e157 3 (some .int) ∈ gtb := gmem (List.mem_of_getElem? (i := 650) (by decide +kernel)) (by decide +kernel)
set_option maxRecDepth 100000 in
theorem tw_643 : Cond.methodLink RJ1 9 yJ0_checkIndex_df160 ∈ gtb := gmem (List.mem_of_getElem? (i := 643) (by decide +kernel)) (by decide +kernel)
set_option maxRecDepth 100000 in
theorem tw_644 : Cond.static yJ0_checkIndex_df160 ∈ gtb := gmem (List.mem_of_getElem? (i := 644) (by decide +kernel)) (by decide +kernel)
set_option maxRecDepth 100000 in
theorem tw_645 : Cond.code yJ0_checkIndex_df160 cJ0_checkIndex_df160 2 none ∈ gtb := gmem (List.mem_of_getElem? (i := 645) (by decide +kernel)) (by decide +kernel)
set_option maxRecDepth 100000 in
theorem tw_640 : Cond.methodLink RJ0 495 yJ1_charAt_3b067 ∈ gtb := gmem (List.mem_of_getElem? (i := 640) (by decide +kernel)) (by decide +kernel)
set_option maxRecDepth 100000 in
theorem tw_641 : Cond.static yJ1_charAt_3b067 ∈ gtb := gmem (List.mem_of_getElem? (i := 641) (by decide +kernel)) (by decide +kernel)
set_option maxRecDepth 100000 in
theorem tw_70 : Cond.initialized RJ1 ∈ gtb := gmem (List.mem_of_getElem? (i := 70) (by decide +kernel)) (by decide +kernel)
set_option maxRecDepth 100000 in
theorem tw_642 : Cond.code yJ1_charAt_3b067 cJ1_charAt_3b067 2 (some .char) ∈ gtb := gmem (List.mem_of_getElem? (i := 642) (by decide +kernel)) (by decide +kernel)
set_option maxRecDepth 100000 in
theorem tw_80 : Cond.code objectInit ⟨#[0xb1]⟩ 1 none ∈ gtb := gmem (List.mem_of_getElem? (i := 80) (by decide +kernel)) (by decide +kernel)
set_option maxRecDepth 100000 in
theorem tw_452 : Cond.code Lib.Math.max.name Lib.Math.max.code 2 (some .int) ∈ gtb := gmem (List.mem_of_getElem? (i := 452) (by decide +kernel)) (by decide +kernel)
set_option maxRecDepth 100000 in
theorem tw_455 : Cond.code Lib.Math.min.name Lib.Math.min.code 2 (some .int) ∈ gtb := gmem (List.mem_of_getElem? (i := 455) (by decide +kernel)) (by decide +kernel)
set_option maxRecDepth 100000 in
theorem tw_824 : Cond.code Lib.Math.abs.name Lib.Math.abs.code 1 (some .int) ∈ gtb := gmem (List.mem_of_getElem? (i := 824) (by decide +kernel)) (by decide +kernel)
set_option maxRecDepth 100000 in
theorem ku_0 : ∀ w ∈ u_ws RX0 TX0 11, w ∈ gtb := fun w h => gmem ((show ∀ w ∈ u_ws RX0 TX0 11, w ∈ lw_tbl by decide +kernel) w h) ((show ∀ w ∈ u_ws RX0 TX0 11, goodWord w = true by decide +kernel) w h)
set_option maxRecDepth 100000 in
theorem ku_1 : ∀ w ∈ u_ws RX1 TX1 2, w ∈ gtb := fun w h => gmem ((show ∀ w ∈ u_ws RX1 TX1 2, w ∈ lw_tbl by decide +kernel) w h) ((show ∀ w ∈ u_ws RX1 TX1 2, goodWord w = true by decide +kernel) w h)
set_option maxRecDepth 100000 in
theorem ku_2 : ∀ w ∈ u_ws RX2 TX2 2, w ∈ gtb := fun w h => gmem ((show ∀ w ∈ u_ws RX2 TX2 2, w ∈ lw_tbl by decide +kernel) w h) ((show ∀ w ∈ u_ws RX2 TX2 2, goodWord w = true by decide +kernel) w h)
set_option maxRecDepth 100000 in
theorem ku_3 : ∀ w ∈ u_ws RX3 TX3 7, w ∈ gtb := fun w h => gmem ((show ∀ w ∈ u_ws RX3 TX3 7, w ∈ lw_tbl by decide +kernel) w h) ((show ∀ w ∈ u_ws RX3 TX3 7, goodWord w = true by decide +kernel) w h)
set_option maxRecDepth 100000 in
theorem ku_4 : ∀ w ∈ u_ws RX4 TX4 15, w ∈ gtb := fun w h => gmem ((show ∀ w ∈ u_ws RX4 TX4 15, w ∈ lw_tbl by decide +kernel) w h) ((show ∀ w ∈ u_ws RX4 TX4 15, goodWord w = true by decide +kernel) w h)
set_option maxRecDepth 100000 in
theorem ku_5 : ∀ w ∈ u_ws RX5 TX5 2, w ∈ gtb := fun w h => gmem ((show ∀ w ∈ u_ws RX5 TX5 2, w ∈ lw_tbl by decide +kernel) w h) ((show ∀ w ∈ u_ws RX5 TX5 2, goodWord w = true by decide +kernel) w h)
set_option maxRecDepth 100000 in
theorem ku_6 : ∀ w ∈ u_ws RX6 TX6 2, w ∈ gtb := fun w h => gmem ((show ∀ w ∈ u_ws RX6 TX6 2, w ∈ lw_tbl by decide +kernel) w h) ((show ∀ w ∈ u_ws RX6 TX6 2, goodWord w = true by decide +kernel) w h)
set_option maxRecDepth 100000 in
theorem ku_7 : ∀ w ∈ u_ws RX7 TX7 5, w ∈ gtb := fun w h => gmem ((show ∀ w ∈ u_ws RX7 TX7 5, w ∈ lw_tbl by decide +kernel) w h) ((show ∀ w ∈ u_ws RX7 TX7 5, goodWord w = true by decide +kernel) w h)
set_option maxRecDepth 100000 in
theorem ku_8 : ∀ w ∈ u_ws RX8 TX8 6, w ∈ gtb := fun w h => gmem ((show ∀ w ∈ u_ws RX8 TX8 6, w ∈ lw_tbl by decide +kernel) w h) ((show ∀ w ∈ u_ws RX8 TX8 6, goodWord w = true by decide +kernel) w h)
set_option maxRecDepth 100000 in
theorem ku_9 : ∀ w ∈ u_ws RX9 TX9 17, w ∈ gtb := fun w h => gmem ((show ∀ w ∈ u_ws RX9 TX9 17, w ∈ lw_tbl by decide +kernel) w h) ((show ∀ w ∈ u_ws RX9 TX9 17, goodWord w = true by decide +kernel) w h)
end
section
/-! The abstract heap: a partial map from addresses to objects (a class by its place in vwCl, fields) and arrays (a kind: 0 int, 1 long, 2 boolean, 3 Books, 4 State; a length; contents). -/
abbrev AE : Type := (Nat × vp_A) ⊕ (Nat × List Value)
abbrev Hp : Type := Nat → Option AE
abbrev Gt : Type := va_G × (Nat → ClassId) × (Nat → Nat)
def tyn : Nat → FieldType := fun t => match t with
  | 0 => .int
  | 1 => .long
  | 2 => .boolean
  | 3 => .object RX0
  | _ => .object RX6
def tysg (g : Gt) : List (ClassId × FieldType) := [(g.2.1 0, tyn 0), (g.2.1 1, tyn 1), (g.2.1 2, tyn 2), (g.2.1 3, tyn 3), (g.2.1 4, tyn 4)]
theorem tysg_at (g : Gt) {t : Nat} (h : t < 5) : (tysg g)[t]? = some (g.2.1 t, tyn t) := by
  match t, h with
  | 0, _ => rfl
  | 1, _ => rfl
  | 2, _ => rfl
  | 3, _ => rfl
  | 4, _ => rfl
  | t + 5, h => exact absurd h (by omega)
def cv (g : Gt) (e : AE) : va_E := match e with
  | .inl (t, x) => .inl (g.2.1 t, x)
  | .inr o => .inr o
def hpw (g : Gt) (h : Hp) (w : va_W) : Prop := (∀ (a : Nat) (e : AE), h a = some e → ∃ k : Nat, w[k]? = some (a, cv g e)) ∧ ∀ (k : Nat) (q : Nat × va_E), w[k]? = some q → (h q.1).isSome = true
def dm (h : Hp) : Nat → Prop := fun q => (h q).isSome = true
def hset (h : Hp) (a : Nat) (e : AE) : Hp := fun b => if b = a then some e else h b
theorem hset_s (h : Hp) (a : Nat) (e : AE) : hset h a e a = some e := by simp [hset]
theorem hset_n {h : Hp} {a b : Nat} {e : AE} (n : b ≠ a) : hset h a e b = h b := by simp [hset, n]
theorem hpw_set {g : Gt} {h : Hp} {w : va_W} {q0 a : Nat} {E0 : va_E} (hw : hpw g h w) (hq : w[q0]? = some (a, E0)) (e : AE) : hpw g (hset h a e) (w.set q0 (a, cv g e)) := by
  have hl := (List.getElem?_eq_some_iff.mp hq).1
  refine ⟨fun b x hb => ?_, fun k q hk => ?_⟩
  · by_cases n : b = a
    · subst n
      rw [hset_s] at hb
      cases hb
      exact ⟨q0, List.getElem?_set_self hl⟩
    · rw [hset_n n] at hb
      obtain ⟨k, hk⟩ := hw.1 b x hb
      refine ⟨k, ?_⟩
      rw [List.getElem?_set_ne]
      · exact hk
      · intro z
        subst z
        rw [hq] at hk
        cases hk
        exact n rfl
  · by_cases n : q.1 = a
    · rw [n, hset_s]; rfl
    · rw [hset_n n]
      have hne : q0 ≠ k := by
        intro z
        subst z
        rw [List.getElem?_set_self hl] at hk
        cases hk
        exact n rfl
      rw [List.getElem?_set_ne hne] at hk
      exact hw.2 k q hk
/-! what a read or a write of the abstract heap answers -/
def gF (h : Hp) (a ci k : Nat) : Option Value := match h a with
  | some (.inr (c, fs)) => if c = ci then fs[k]? else none
  | _ => none
def pF (h : Hp) (a ci k : Nat) (v : Value) : Option Hp := match h a with
  | some (.inr (c, fs)) => if c = ci ∧ k < fs.length then some (hset h a (.inr (ci, fs.set k v))) else none
  | _ => none
def gI (h : Hp) (a t : Nat) (i : Int32) : Option Int32 := match h a with
  | some (.inl (t', n, .inl f)) => if t' = t ∧ ¬ (i < 0 ∨ n ≤ i.toNatClampNeg) then some (f i.toNatClampNeg) else none
  | _ => none
def gL (h : Hp) (a : Nat) (i : Int32) : Option Int64 := match h a with
  | some (.inl (t', n, .inr (.inl f))) => if t' = 1 ∧ ¬ (i < 0 ∨ n ≤ i.toNatClampNeg) then some (f i.toNatClampNeg) else none
  | _ => none
def gQ (h : Hp) (a t : Nat) (i : Int32) : Option Nat := match h a with
  | some (.inl (t', n, .inr (.inr (.inr (.inr f))))) => if t' = t ∧ ¬ (i < 0 ∨ n ≤ i.toNatClampNeg) then f i.toNatClampNeg else none
  | _ => none
def gN (h : Hp) (a : Nat) : Option Int32 := match h a with
  | some (.inl (t, n, _)) => if t < 5 then some (Int32.ofNat n) else none
  | _ => none
def sI (h : Hp) (a : Nat) (i x : Int32) : Option Hp := match h a with
  | some (.inl (t', n, .inl f)) => if t' = 0 ∧ ¬ (i < 0 ∨ n ≤ i.toNatClampNeg) then some (hset h a (.inl (0, n, .inl (upd f i.toNatClampNeg x)))) else none
  | _ => none
def sZ (h : Hp) (a : Nat) (i x : Int32) : Option Hp := match h a with
  | some (.inl (t', n, .inl f)) => if t' = 2 ∧ (x = 0 ∨ x = 1) ∧ ¬ (i < 0 ∨ n ≤ i.toNatClampNeg) then some (hset h a (.inl (2, n, .inl (upd f i.toNatClampNeg x)))) else none
  | _ => none
def sL (h : Hp) (a : Nat) (i : Int32) (x : Int64) : Option Hp := match h a with
  | some (.inl (t', n, .inr (.inl f))) => if t' = 1 ∧ ¬ (i < 0 ∨ n ≤ i.toNatClampNeg) then some (hset h a (.inl (1, n, .inr (.inl (vp_updL f i.toNatClampNeg x))))) else none
  | _ => none
def isO (h : Hp) (a ci : Nat) : Prop := ∃ fs : List Value, h a = some (.inr (ci, fs))
def sQ (h : Hp) (a t : Nat) (i : Int32) (v : Nat) : Option Hp := match h a with
  | some (.inl (t', n, .inr (.inr (.inr (.inr f))))) => if t' = t ∧ ¬ (i < 0 ∨ n ≤ i.toNatClampNeg) then some (hset h a (.inl (t, n, .inr (.inr (.inr (.inr (va_up f i.toNatClampNeg (some v)))))))) else none
  | _ => none
def cpI (h : Hp) (a0 : Nat) (sp : Int32) (a : Nat) (dp n : Int32) : Option Hp := match h a0, h a with
  | some (.inl (t0, n0, .inl f)), some (.inl (t1, n1, .inl q)) => if t0 = 0 ∧ t1 = 0 ∧ ¬ sp < 0 ∧ ¬ dp < 0 ∧ ¬ n < 0 ∧ sp.toNatClampNeg + n.toNatClampNeg ≤ n0 ∧ dp.toNatClampNeg + n.toNatClampNeg ≤ n1 then some (hset h a (.inl (0, n1, .inl (va_cpy f q sp.toNatClampNeg dp.toNatClampNeg n.toNatClampNeg)))) else none
  | _, _ => none
def cpL (h : Hp) (a0 : Nat) (sp : Int32) (a : Nat) (dp n : Int32) : Option Hp := match h a0, h a with
  | some (.inl (t0, n0, .inr (.inl f))), some (.inl (t1, n1, .inr (.inl q))) => if t0 = 1 ∧ t1 = 1 ∧ ¬ sp < 0 ∧ ¬ dp < 0 ∧ ¬ n < 0 ∧ sp.toNatClampNeg + n.toNatClampNeg ≤ n0 ∧ dp.toNatClampNeg + n.toNatClampNeg ≤ n1 then some (hset h a (.inl (1, n1, .inr (.inl (va_cpy f q sp.toNatClampNeg dp.toNatClampNeg n.toNatClampNeg))))) else none
  | _, _ => none
/-! the three static tables -/
def tbN : Nat → Nat := fun i => match i with
  | 2 => 12
  | _ => 4
def tbI : Nat → Nat → Int32 := fun i j => match i, j with
  | 0, 0 => 2
  | 0, 1 => 1
  | 0, 2 => 1
  | 0, _ => 0
  | _, 0 => 9
  | _, 1 => 9
  | _, 2 => 9
  | _, _ => 20
def tbL : Nat → Int64 := fun j => match j with
  | 0 => 100000000000
  | 1 => 10000000000
  | 2 => 1000000000
  | 3 => 100000000
  | 4 => 10000000
  | 5 => 1000000
  | 6 => 100000
  | 7 => 10000
  | 8 => 1000
  | 9 => 100
  | 10 => 10
  | _ => 1
def sT (i : Nat) (x : Int32) : Option Int32 := if ¬ (x < 0 ∨ 4 ≤ x.toNatClampNeg) then some (tbI i x.toNatClampNeg) else none
def sW (x : Int32) : Option Int64 := if ¬ (x < 0 ∨ 12 ≤ x.toNatClampNeg) then some (tbL x.toNatClampNeg) else none
/-! the five String constants of the class Program, by place -/
def sTx : Nat → List Nat := fun i => match i with
  | 0 => [115, 99, 97, 110]
  | 1 => [99, 108, 101, 97, 110]
  | 2 => [100, 114, 97, 119]
  | 3 => [108, 111, 111, 107]
  | _ => [112, 117, 98, 108, 105, 115, 104]
def sLn (i : Nat) : Nat := (sTx i).length
def sCh (i : Nat) (x : Int32) : Option Int32 := if ¬ (x < 0 ∨ sLn i ≤ x.toNatClampNeg) then some (nI ((sTx i).getD x.toNatClampNeg 0)) else none
def scr (xs : Nat → Int32) (L : Nat) (i : Int32) : Option Int32 := if ¬ (i < 0 ∨ L ≤ i.toNatClampNeg) then some (xs i.toNatClampNeg) else none
theorem gF_of {h : Hp} {a ci k : Nat} {v : Value} (e : gF h a ci k = some v) : ∃ fs : List Value, h a = some (.inr (ci, fs)) ∧ fs[k]? = some v := by
  unfold gF at e
  split at e
  · rename_i c fs q
    split at e
    · rename_i z
      subst z
      exact ⟨fs, q, e⟩
    · cases e
  · cases e
theorem pF_of {h h' : Hp} {a ci k : Nat} {v : Value} (e : pF h a ci k v = some h') : ∃ fs : List Value, h a = some (.inr (ci, fs)) ∧ k < fs.length ∧ h' = hset h a (.inr (ci, fs.set k v)) := by
  unfold pF at e
  split at e
  · rename_i c fs q
    split at e
    · rename_i z
      obtain ⟨rfl, z⟩ := z
      exact ⟨fs, q, z, (Option.some.inj e).symm⟩
    · cases e
  · cases e
theorem gI_of {h : Hp} {a t : Nat} {i v : Int32} (e : gI h a t i = some v) : ∃ (n : Nat) (f : Nat → Int32), h a = some (.inl (t, n, .inl f)) ∧ vp_in i n ∧ v = f i.toNatClampNeg := by
  unfold gI at e
  split at e
  · rename_i t' n f q
    split at e
    · rename_i z
      obtain ⟨rfl, z⟩ := z
      exact ⟨n, f, q, z, (Option.some.inj e).symm⟩
    · cases e
  · cases e
theorem gL_of {h : Hp} {a : Nat} {i : Int32} {v : Int64} (e : gL h a i = some v) : ∃ (n : Nat) (f : Nat → Int64), h a = some (.inl (1, n, .inr (.inl f))) ∧ vp_in i n ∧ v = f i.toNatClampNeg := by
  unfold gL at e
  split at e
  · rename_i t' n f q
    split at e
    · rename_i z
      obtain ⟨rfl, z⟩ := z
      exact ⟨n, f, q, z, (Option.some.inj e).symm⟩
    · cases e
  · cases e
theorem gQ_of {h : Hp} {a t : Nat} {i : Int32} {v : Nat} (e : gQ h a t i = some v) : ∃ (n : Nat) (f : Nat → Option Nat), h a = some (.inl (t, n, .inr (.inr (.inr (.inr f))))) ∧ vp_in i n ∧ f i.toNatClampNeg = some v := by
  unfold gQ at e
  split at e
  · rename_i t' n f q
    split at e
    · rename_i z
      obtain ⟨rfl, z⟩ := z
      exact ⟨n, f, q, z, e⟩
    · cases e
  · cases e
theorem gN_of {h : Hp} {a : Nat} {v : Int32} (e : gN h a = some v) : ∃ (t : Nat) (x : vp_A), h a = some (.inl (t, x)) ∧ t < 5 ∧ Int32.ofNat x.1 = v := by
  unfold gN at e
  split at e
  · rename_i t n f q
    split at e
    · rename_i z
      exact ⟨t, (n, f), q, z, Option.some.inj e⟩
    · cases e
  · cases e
theorem sI_of {h h' : Hp} {a : Nat} {i x : Int32} (e : sI h a i x = some h') : ∃ (n : Nat) (f : Nat → Int32), h a = some (.inl (0, n, .inl f)) ∧ vp_in i n ∧ h' = hset h a (.inl (0, n, .inl (upd f i.toNatClampNeg x))) := by
  unfold sI at e
  split at e
  · rename_i t' n f q
    split at e
    · rename_i z
      obtain ⟨rfl, z⟩ := z
      exact ⟨n, f, q, z, (Option.some.inj e).symm⟩
    · cases e
  · cases e
theorem sZ_of {h h' : Hp} {a : Nat} {i x : Int32} (e : sZ h a i x = some h') : ∃ (n : Nat) (f : Nat → Int32), h a = some (.inl (2, n, .inl f)) ∧ (x = 0 ∨ x = 1) ∧ vp_in i n ∧ h' = hset h a (.inl (2, n, .inl (upd f i.toNatClampNeg x))) := by
  unfold sZ at e
  split at e
  · rename_i t' n f q
    split at e
    · rename_i z
      obtain ⟨rfl, y, z⟩ := z
      exact ⟨n, f, q, y, z, (Option.some.inj e).symm⟩
    · cases e
  · cases e
theorem sL_of {h h' : Hp} {a : Nat} {i : Int32} {x : Int64} (e : sL h a i x = some h') : ∃ (n : Nat) (f : Nat → Int64), h a = some (.inl (1, n, .inr (.inl f))) ∧ vp_in i n ∧ h' = hset h a (.inl (1, n, .inr (.inl (vp_updL f i.toNatClampNeg x)))) := by
  unfold sL at e
  split at e
  · rename_i t' n f q
    split at e
    · rename_i z
      obtain ⟨rfl, z⟩ := z
      exact ⟨n, f, q, z, (Option.some.inj e).symm⟩
    · cases e
  · cases e
theorem sQ_of {h h' : Hp} {a t : Nat} {i : Int32} {v : Nat} (e : sQ h a t i v = some h') : ∃ (n : Nat) (f : Nat → Option Nat), h a = some (.inl (t, n, .inr (.inr (.inr (.inr f))))) ∧ vp_in i n ∧ h' = hset h a (.inl (t, n, .inr (.inr (.inr (.inr (va_up f i.toNatClampNeg (some v))))))) := by
  unfold sQ at e
  split at e
  · rename_i t' n f q
    split at e
    · rename_i z
      obtain ⟨rfl, z⟩ := z
      exact ⟨n, f, q, z, (Option.some.inj e).symm⟩
    · cases e
  · cases e
theorem cpI_of {h h' : Hp} {a0 a : Nat} {sp dp n : Int32} (e : cpI h a0 sp a dp n = some h') : ∃ (n0 n1 : Nat) (f q : Nat → Int32), h a0 = some (.inl (0, n0, .inl f)) ∧ h a = some (.inl (0, n1, .inl q)) ∧ ¬ sp < 0 ∧ ¬ dp < 0 ∧ ¬ n < 0 ∧ sp.toNatClampNeg + n.toNatClampNeg ≤ n0 ∧ dp.toNatClampNeg + n.toNatClampNeg ≤ n1 ∧ h' = hset h a (.inl (0, n1, .inl (va_cpy f q sp.toNatClampNeg dp.toNatClampNeg n.toNatClampNeg))) := by
  unfold cpI at e
  split at e
  · rename_i t0 n0 f t1 n1 q h0 h1
    split at e
    · rename_i z
      obtain ⟨rfl, rfl, z1, z2, z3, z4, z5⟩ := z
      exact ⟨n0, n1, f, q, h0, h1, z1, z2, z3, z4, z5, (Option.some.inj e).symm⟩
    · cases e
  · cases e
theorem cpL_of {h h' : Hp} {a0 a : Nat} {sp dp n : Int32} (e : cpL h a0 sp a dp n = some h') : ∃ (n0 n1 : Nat) (f q : Nat → Int64), h a0 = some (.inl (1, n0, .inr (.inl f))) ∧ h a = some (.inl (1, n1, .inr (.inl q))) ∧ ¬ sp < 0 ∧ ¬ dp < 0 ∧ ¬ n < 0 ∧ sp.toNatClampNeg + n.toNatClampNeg ≤ n0 ∧ dp.toNatClampNeg + n.toNatClampNeg ≤ n1 ∧ h' = hset h a (.inl (1, n1, .inr (.inl (va_cpy f q sp.toNatClampNeg dp.toNatClampNeg n.toNatClampNeg)))) := by
  unfold cpL at e
  split at e
  · rename_i t0 n0 f t1 n1 q h0 h1
    split at e
    · rename_i z
      obtain ⟨rfl, rfl, z1, z2, z3, z4, z5⟩ := z
      exact ⟨n0, n1, f, q, h0, h1, z1, z2, z3, z4, z5, (Option.some.inj e).symm⟩
    · cases e
  · cases e
theorem sT_of {i : Nat} {x v : Int32} (e : sT i x = some v) : vp_in x 4 ∧ v = tbI i x.toNatClampNeg := by
  unfold sT at e
  split at e
  · rename_i z
    exact ⟨z, (Option.some.inj e).symm⟩
  · cases e
theorem sW_of {x : Int32} {v : Int64} (e : sW x = some v) : vp_in x 12 ∧ v = tbL x.toNatClampNeg := by
  unfold sW at e
  split at e
  · rename_i z
    exact ⟨z, (Option.some.inj e).symm⟩
  · cases e
/-! comparisons of longs -/
theorem lc_lt (x y : Int64) : lg_cmp x y < 0 ↔ x < y := by
  unfold lg_cmp
  rw [Int64.lt_iff_toInt_lt] at *
  by_cases h1 : y.toInt < x.toInt
  · simp [Int64.lt_iff_toInt_lt, h1]; omega
  · by_cases h2 : x = y
    · subst h2; simp [Int64.lt_iff_toInt_lt]
    · have : x.toInt ≠ y.toInt := fun q => h2 (Int64.toInt_inj.mp q)
      simp [Int64.lt_iff_toInt_lt, h1, h2]; omega
theorem lc_gt (x y : Int64) : 0 < lg_cmp x y ↔ y < x := by
  unfold lg_cmp
  by_cases h1 : y < x
  · simp [h1]
  · by_cases h2 : x = y
    · subst h2; simp
    · simp [h1, h2]
theorem lc_eq (x y : Int64) : lg_cmp x y = 0 ↔ x = y := by
  unfold lg_cmp
  by_cases h1 : y < x
  · have : x ≠ y := by intro q; subst q; rw [Int64.lt_iff_toInt_lt] at h1; omega
    simp [h1, this]
  · by_cases h2 : x = y
    · subst h2; simp
    · simp [h1, h2]
theorem lc_le (x y : Int64) : lg_cmp x y ≤ 0 ↔ x ≤ y := by
  have h := lc_gt x y
  rw [Int32.lt_iff_toInt_lt, Int64.lt_iff_toInt_lt] at h
  rw [Int32.le_iff_toInt_le, Int64.le_iff_toInt_le]
  omega
theorem lc_ge (x y : Int64) : 0 ≤ lg_cmp x y ↔ y ≤ x := by
  have h := lc_lt x y
  rw [Int32.lt_iff_toInt_lt, Int64.lt_iff_toInt_lt] at h
  rw [Int32.le_iff_toInt_le, Int64.le_iff_toInt_le]
  omega
end
section
/-! what holds of the machine's tables all along: the classes, the array classes, links of nest mates; the static tables, which nobody writes -/
def nsM : List (String × Nat × MethodName) := [(⟨"SmudgeTally", 11, ⟨"SmudgeTally$Clerk", "<init>", "()V"⟩⟩ : String × Nat × MethodName), (⟨"SmudgeTally$Clerk", 11, ⟨"SmudgeTally$Sight", "<init>", "()V"⟩⟩ : String × Nat × MethodName), (⟨"SmudgeTally$Sight", 11, ⟨"SmudgeTally$Books", "<init>", "()V"⟩⟩ : String × Nat × MethodName), (⟨"SmudgeTally", 30, ⟨"SmudgeTally$Slots", "<init>", "()V"⟩⟩ : String × Nat × MethodName), (⟨"SmudgeTally$Slots", 11, ⟨"SmudgeTally$Books", "<init>", "()V"⟩⟩ : String × Nat × MethodName), (⟨"SmudgeTally", 37, ⟨"SmudgeTally$History", "<init>", "()V"⟩⟩ : String × Nat × MethodName), (⟨"SmudgeTally$History", 11, ⟨"SmudgeTally$State", "<init>", "()V"⟩⟩ : String × Nat × MethodName), (⟨"SmudgeTally$State", 9, ⟨"SmudgeTally$Books", "<init>", "()V"⟩⟩ : String × Nat × MethodName), (⟨"SmudgeTally$State", 18, ⟨"SmudgeTally$Slots", "<init>", "()V"⟩⟩ : String × Nat × MethodName), (⟨"SmudgeTally", 44, ⟨"SmudgeTally$Program", "<init>", "()V"⟩⟩ : String × Nat × MethodName), (⟨"SmudgeTally$Program", 11, ⟨"SmudgeTally$Text", "<init>", "()V"⟩⟩ : String × Nat × MethodName), (⟨"SmudgeTally$Clerk", 42, ⟨"SmudgeTally", "within", "(III)Z"⟩⟩ : String × Nat × MethodName), (⟨"SmudgeTally$Clerk", 46, ⟨"SmudgeTally", "isRow", "(J)Z"⟩⟩ : String × Nat × MethodName), (⟨"SmudgeTally$Clerk", 111, ⟨"SmudgeTally", "nextLot", "(I)I"⟩⟩ : String × Nat × MethodName), (⟨"SmudgeTally$Clerk", 124, ⟨"SmudgeTally", "differingContests", "(II)I"⟩⟩ : String × Nat × MethodName), (⟨"SmudgeTally$Slots", 26, ⟨"SmudgeTally", "within", "(III)Z"⟩⟩ : String × Nat × MethodName), (⟨"SmudgeTally$Sight", 152, ⟨"SmudgeTally", "outcomeOf", "(II)I"⟩⟩ : String × Nat × MethodName), (⟨"SmudgeTally$Books", 68, ⟨"SmudgeTally", "differingContests", "(II)I"⟩⟩ : String × Nat × MethodName)]
def nsF : List (String × Nat × String × String × String) := [(⟨"SmudgeTally$Clerk", 79, "SmudgeTally", "SMALLEST", "[I"⟩ : String × Nat × String × String × String), (⟨"SmudgeTally$Clerk", 82, "SmudgeTally", "GREATEST", "[I"⟩ : String × Nat × String × String × String), (⟨"SmudgeTally$Sight", 99, "SmudgeTally", "WORTH", "[J"⟩ : String × Nat × String × String × String)]
def sKx : Nat → Nat := fun i => match i with
  | 0 => 63
  | 1 => 69
  | 2 => 71
  | 3 => 73
  | _ => 75
def sTt : Nat → String := fun i => match i with
  | 0 => "scan"
  | 1 => "clean"
  | 2 => "draw"
  | 3 => "look"
  | _ => "publish"
def sLens : List Nat := [4, 5, 4, 4, 7]
def sByts : List (List Int32) := [[115, 99, 97, 110], [99, 108, 101, 97, 110], [100, 114, 97, 119], [108, 111, 111, 107], [112, 117, 98, 108, 105, 115, 104]]
def GP (g : Gt) (U : State) : Prop := va_K g.1 vwCl (tysg g) U ∧ (∀ q ∈ nsM, va_Nw (.methodLinkNest q.1 q.2.1 q.2.2 "SmudgeTally") U) ∧ (∀ q ∈ nsF, va_Nw (.fieldLinkNest q.1 q.2.1 q.2.2.1 q.2.2.2.1 q.2.2.2.2 "SmudgeTally") U) ∧ (∀ i : Nat, i < 5 → vk_R RX3 (sKx i) (sTt i) (g.2.2 (3 + i)) U) ∧ va_AO RX0 U ∧ va_AO RX6 U
theorem GP.moved {g : Gt} {s U : State} (hW : s.WarmedH U.vm) (h : GP g s) : GP g U := ⟨va_K.moved hW.alike h.1, fun q hq => va_Nw.warmM hW (h.2.1 q hq), fun q hq => va_Nw.warmF hW (h.2.2.1 q hq), fun i hi => vk_R.warm hW (h.2.2.2.1 i hi), va_AO.moved hW.alike h.2.2.2.2.1, va_AO.moved hW.alike h.2.2.2.2.2⟩
theorem GP.same {g : Gt} {s U : State} (hv : s.vm = U.vm) (h : GP g s) : GP g U := ⟨va_K.moved (by rw [hv]; exact Vm.Alike.refl U.vm) h.1, fun q hq => va_Nw.same rfl hv (h.2.1 q hq), fun q hq => va_Nw.same rfl hv (h.2.2.1 q hq), fun i hi => vk_R.same hv.symm (h.2.2.2.1 i hi), va_AO.moved (by rw [hv]; exact Vm.Alike.refl U.vm) h.2.2.2.2.1, va_AO.moved (by rw [hv]; exact Vm.Alike.refl U.vm) h.2.2.2.2.2⟩
def SP (g : Gt) (A : Nat → Prop) (U : State) (H : Heap) : Prop :=
  (va_Z "SmudgeTally" "SMALLEST" "[I" (.ref (g.2.2 0)) A U H ∧ va_T .int (g.2.2 0) 4 (fun j => .int (tbI 0 j)) A U H) ∧
  (va_Z "SmudgeTally" "GREATEST" "[I" (.ref (g.2.2 1)) A U H ∧ va_T .int (g.2.2 1) 4 (fun j => .int (tbI 1 j)) A U H) ∧
  (va_Z "SmudgeTally" "WORTH" "[J" (.ref (g.2.2 2)) A U H ∧ va_T .long (g.2.2 2) 12 (fun j => .long (tbL j)) A U H) ∧
  va_Z "java/lang/String" "COMPACT_STRINGS" "Z" (.int 1) A U H ∧ va_Zq "jdk/internal/util/Preconditions" "SIOOBE_FORMATTER" "Ljava/util/function/BiFunction;" A U H ∧
  vk_S 5 sLens sByts (fun i => g.2.2 (3 + i)) (fun i => g.2.2 (8 + i)) A U H
theorem SP.moved {g : Gt} {A : Nat → Prop} {s U : State} {H : Heap} (hvm : s.vm.Alike U.vm) (h : SP g A s H) : SP g A U H :=
  ⟨⟨va_Z.moved hvm h.1.1, va_T.moved hvm h.1.2⟩, ⟨va_Z.moved hvm h.2.1.1, va_T.moved hvm h.2.1.2⟩, ⟨va_Z.moved hvm h.2.2.1.1, va_T.moved hvm h.2.2.1.2⟩, va_Z.moved hvm h.2.2.2.1, va_Zq.moved hvm h.2.2.2.2.1, vk_S.moved hvm h.2.2.2.2.2⟩
theorem SP.kept {g : Gt} {A : Nat → Prop} {U : State} {H H1 : Heap} (h : SP g A U H) (hq : ∀ a : Nat, a < H.size → ¬ A a → H1[a]? = H[a]?) : SP g A U H1 :=
  ⟨⟨va_Z.kept h.1.1 hq, va_T.kept h.1.2 hq⟩, ⟨va_Z.kept h.2.1.1 hq, va_T.kept h.2.1.2 hq⟩, ⟨va_Z.kept h.2.2.1.1 hq, va_T.kept h.2.2.1.2 hq⟩, va_Z.kept h.2.2.2.1 hq, va_Zq.kept h.2.2.2.2.1 hq, vk_S.kept h.2.2.2.2.2 hq⟩
theorem SP.narrow {g : Gt} {A B : Nat → Prop} {U : State} {H : Heap} (h : SP g A U H) (hAB : ∀ q, B q → A q) : SP g B U H :=
  ⟨⟨va_Z.narrow h.1.1 hAB, va_T.narrow h.1.2 hAB⟩, ⟨va_Z.narrow h.2.1.1 hAB, va_T.narrow h.2.1.2 hAB⟩, ⟨va_Z.narrow h.2.2.1.1 hAB, va_T.narrow h.2.2.1.2 hAB⟩, va_Z.narrow h.2.2.2.1 hAB, va_Zq.narrow h.2.2.2.2.1 hAB, vk_S.narrow h.2.2.2.2.2 hAB⟩
/-- a method's machine: exec, bytes, its class, its words, no lock, the tables -/
def Cx (g : Gt) (A : Nat → Prop) (own : String) (cc : ByteArray) (nL : Nat) (p : Program) (s : State) (m : MethodId) (args : Array Value) (meth : Method) (c : Code) : Prop :=
  CallFix p m c cc nL s args gtb own ∧ meth.locks = false ∧ GP g s ∧ SP g A s s.heap
/-- the heap holds h, in A -/
def St (g : Gt) (A : Nat → Prop) (s : State) (h : Hp) (H : Heap) (locs : List Loc) : Prop := va_S A s.heap H locs ∧ ∃ w : va_W, va_P g.1 vwCl w H ∧ va_D A w ∧ hpw g h w
theorem St.sub {g : Gt} {A : Nat → Prop} {s : State} {h : Hp} {H : Heap} {locs : List Loc} (Z : St g A s h H locs) : ∀ q, dm h q → A q := by
  obtain ⟨-, w, -, hD, hw⟩ := Z
  intro q hq
  obtain ⟨e, he⟩ := Option.isSome_iff_exists.mp hq
  obtain ⟨k, hk⟩ := hw.1 q e he
  exact hD.2 k _ hk
/-- a contract's start: the arguments, the world h -/
def PB (g : Gt) (h : Hp) (U : State) : Prop := GP g U ∧ SP g (dm h) U U.heap ∧ ∃ w : va_W, va_P g.1 vwCl w U.heap ∧ va_D (dm h) w ∧ hpw g h w
def QB (g : Gt) (h h' : Hp) (t : State) : Prop := ∃ w : va_W, va_P g.1 vwCl w t.heap ∧ va_D (dm h) w ∧ hpw g h' w
abbrev Pg (g : Gt) (h : Hp) (av : List Value) : Array Value → State → Prop := va_Pc av (PB g h)
abbrev Qi (g : Gt) (h : Hp) (Post : Int32 → Hp → Prop) : Array Value → State → Outcome → State → Prop := va_Qi (S := Hp) Post (QB g h) (dm h)
abbrev Ql (g : Gt) (h : Hp) (Post : Int64 → Hp → Prop) : Array Value → State → Outcome → State → Prop := va_Ql (S := Hp) Post (QB g h) (dm h)
abbrev Qv (g : Gt) (h : Hp) (Post : Hp → Prop) : Array Value → State → Outcome → State → Prop := va_Qv (S := Hp) Post (QB g h) (dm h)
theorem Pg.blind (g : Gt) (h : Hp) (av : List Value) : FrameBlind (Pg g h av) := fun a U f mk q => ⟨q.1, GP.same (U := U.calling f mk a) rfl q.2.1, SP.moved (U := U.calling f mk a) (Vm.Alike.refl U.vm) q.2.2.1, q.2.2.2⟩
theorem nz01 {x : Int32} (hx : x = 0 ∨ x = 1) : narrow .boolean (.int x) = .int x := by
  rcases hx with rfl | rfl <;> decide +kernel
theorem fz01 {x : Int32} (hx : x = 0 ∨ x = 1) : fits .boolean (.int x) = true := by
  rcases hx with rfl | rfl <;> decide +kernel
theorem ne_toI {x v : Int32} {k : Int} (h : ¬ x = v) (hv : v.toInt = k) : x.toInt ≠ k := fun q => h (Int32.toInt_inj.mp (q.trans hv.symm))
section RW
variable {p : Program} {l : Launch} {e : Env} {R : Room} {s : State} {m : MethodId} {args : Array Value} {below : List Frame} {meth : Method} {c : Code} {H : Heap} {locs : List Loc} {cells slots : Nat} {Q : State → Prop}
variable {cc : ByteArray} {pc : Nat} {ls : Array Slot} {rest : List Value} {g : Gt} {A : Nat → Prop} {h : Hp} {a : Nat} {own : String} {nL : Nat}
theorem Pg.of (C : Cx g A own cc nL p s m args meth c) (Z : St g A s h H locs) {av : List Value} : ∀ U : State, U.heap = H → s.WarmedH U.vm → Pg g h av av.toArray U := by
  intro U hU hW
  obtain ⟨hS, w, hP, hD, hw⟩ := id Z
  refine ⟨rfl, GP.moved hW C.2.2.1, ?_, w, by rw [hU]; exact hP, ⟨hD.1, fun k q hk => hw.2 k q hk⟩, hw⟩
  rw [hU]
  exact SP.moved hW.alike (SP.narrow (SP.kept C.2.2.2 (fun q h1 h2 => hS.2.1 q h1 h2)) Z.sub)
theorem r_get (C : Cx g A own cc nL p s m args meth c) (Z : St g A s h H locs) {ci k idx : Nat} {CN : String} {T : u_T} {N : Nat} {v : Value} (hv : gF h a ci k = some v) (hin : ∀ w ∈ u_ws CN T N, w ∈ gtb) (hc : vwCl[ci]? = some (CN, T, N)) (hk : k < N) (hlink : Cond.fieldLink own idx (T k).1 (T k).2.1 (T k).2.2.1 ∈ gtb) (hdg : decode cc pc = .ok (.getfield idx, 3))
    (kk : W p l e R s m args below meth c H locs cells slots Q (F0 m (pc + 3) ls (v :: rest))) : W p l e R s m args below meth c H locs cells slots Q (F0 m pc ls (.ref a :: rest)) := by
  obtain ⟨⟨hx, hb, hml, hown, hts⟩, -, hG, -⟩ := C
  obtain ⟨-, w, hP, hD, hw⟩ := Z
  obtain ⟨fs, hfs, hkv⟩ := gF_of hv
  obtain ⟨q0, hq⟩ := hw.1 a _ hfs
  exact va_get hx hb hts hin hown hG.1 hP q0 hq hc k hk (hts _ hlink) (fun x hx => hx) hkv hdg kk
theorem r_put (C : Cx g A own cc nL p s m args meth c) (Z : St g A s h H locs) {ci k idx : Nat} {CN : String} {T : u_T} {N : Nat} {v : Value} {h' : Hp} (hv : pF h a ci k v = some h') (hin : ∀ w ∈ u_ws CN T N, w ∈ gtb) {ty0 : Nat → FieldType} (hty : ∀ k, k < N → parseFieldDescriptor (T k).2.2.1 = some (ty0 k)) (hnm : ∀ a, a < N → ∀ b, b < N → a ≠ b → (T a).2.1 ≠ (T b).2.1) (hc : vwCl[ci]? = some (CN, T, N)) (hk : k < N) (hlink : Cond.fieldLink own idx (T k).1 (T k).2.1 (T k).2.2.1 ∈ gtb) (hfin : (T k).2.2.2 = false) (hn : narrow (ty0 k) v = v) (hfit : fits (ty0 k) v = true) (hdg : decode cc pc = .ok (.putfield idx, 3))
    (kk : ∀ (H1 : Heap) (locs1 : List Loc), St g A s h' H1 locs1 → W p l e R s m args below meth c H1 locs1 cells slots Q (F0 m (pc + 3) ls rest)) : W p l e R s m args below meth c H locs cells slots Q (F0 m pc ls (v :: .ref a :: rest)) := by
  obtain ⟨⟨hx, hb, hml, hown, hts⟩, -, hG, -⟩ := C
  obtain ⟨hS, w, hP, hD, hw⟩ := Z
  obtain ⟨fs, hfs, hkl, rfl⟩ := pF_of hv
  obtain ⟨q0, hq⟩ := hw.1 a _ hfs
  exact va_put hx hb hts hin ty0 hty hnm hown hG.1 hP hD hS q0 hq hc k hk (hts _ hlink) (fun x hx => hx) hfin (hty k hk) hn hfit hkl hdg (fun H1 locs1 hP1 hD1 hS1 => kk H1 locs1 ⟨hS1, _, hP1, hD1, hpw_set hw hq (.inr (ci, fs.set k v))⟩)
theorem r_putF (C : Cx g A own cc nL p s m args meth c) (Z : St g A s h H locs) {ci k idx : Nat} {CN : String} {T : u_T} {N : Nat} {v : Value} {h' : Hp} (hv : pF h a ci k v = some h') (hin : ∀ w ∈ u_ws CN T N, w ∈ gtb) {ty0 : Nat → FieldType} (hty : ∀ k, k < N → parseFieldDescriptor (T k).2.2.1 = some (ty0 k)) (hnm : ∀ a, a < N → ∀ b, b < N → a ≠ b → (T a).2.1 ≠ (T b).2.1) (hc : vwCl[ci]? = some (CN, T, N)) (hk : k < N) (hlink : Cond.fieldLink own idx (T k).1 (T k).2.1 (T k).2.2.1 ∈ gtb) (hfin : (T k).2.2.2 = true) (hin2 : meth.name = "<init>") (hdecl : (T k).1 = own) (hn : narrow (ty0 k) v = v) (hfit : fits (ty0 k) v = true) (hdg : decode cc pc = .ok (.putfield idx, 3))
    (kk : ∀ (H1 : Heap) (locs1 : List Loc), St g A s h' H1 locs1 → W p l e R s m args below meth c H1 locs1 cells slots Q (F0 m (pc + 3) ls rest)) : W p l e R s m args below meth c H locs cells slots Q (F0 m pc ls (v :: .ref a :: rest)) := by
  obtain ⟨⟨hx, hb, hml, hown, hts⟩, -, hG, -⟩ := C
  obtain ⟨hS, w, hP, hD, hw⟩ := Z
  obtain ⟨fs, hfs, hkl, rfl⟩ := pF_of hv
  obtain ⟨q0, hq⟩ := hw.1 a _ hfs
  exact va_putF hx hb hts hin ty0 hty hnm hown hG.1 hP hD hS q0 hq hc k hk (hts _ hlink) (fun x hx => hx) hfin hin2 hdecl (hty k hk) hn hfit hkl hdg (fun H1 locs1 hP1 hD1 hS1 => kk H1 locs1 ⟨hS1, _, hP1, hD1, hpw_set hw hq (.inr (ci, fs.set k v))⟩)
theorem r_iald (C : Cx g A own cc nL p s m args meth c) (Z : St g A s h H locs) {i v : Int32} (hv : gI h a 0 i = some v) (hdg : decode cc pc = .ok (.iaload, 1))
    (kk : W p l e R s m args below meth c H locs cells slots Q (F0 m (pc + 1) ls (.int v :: rest))) : W p l e R s m args below meth c H locs cells slots Q (F0 m pc ls (.int i :: .ref a :: rest)) := by
  obtain ⟨⟨hx, hb, hml, hown, hts⟩, -, hG, -⟩ := C
  obtain ⟨-, w, hP, hD, hw⟩ := Z
  obtain ⟨n, f, hf, hi, rfl⟩ := gI_of hv
  obtain ⟨q0, hq⟩ := hw.1 a _ hf
  exact va_iald hx hb hG.1 hP q0 0 hq (tysg_at g (by omega)) hi hdg kk
theorem r_zald (C : Cx g A own cc nL p s m args meth c) (Z : St g A s h H locs) {i v : Int32} (hv : gI h a 2 i = some v) (hdg : decode cc pc = .ok (.baload, 1))
    (kk : W p l e R s m args below meth c H locs cells slots Q (F0 m (pc + 1) ls (.int v :: rest))) : W p l e R s m args below meth c H locs cells slots Q (F0 m pc ls (.int i :: .ref a :: rest)) := by
  obtain ⟨⟨hx, hb, hml, hown, hts⟩, -, hG, -⟩ := C
  obtain ⟨-, w, hP, hD, hw⟩ := Z
  obtain ⟨n, f, hf, hi, rfl⟩ := gI_of hv
  obtain ⟨q0, hq⟩ := hw.1 a _ hf
  exact va_zald hx hb hG.1 hP q0 2 hq (tysg_at g (by omega)) hi hdg kk
theorem r_lald (C : Cx g A own cc nL p s m args meth c) (Z : St g A s h H locs) {i : Int32} {v : Int64} (hv : gL h a i = some v) (hdg : decode cc pc = .ok (.laload, 1))
    (kk : W p l e R s m args below meth c H locs cells slots Q (F0 m (pc + 1) ls (.long v :: rest))) : W p l e R s m args below meth c H locs cells slots Q (F0 m pc ls (.int i :: .ref a :: rest)) := by
  obtain ⟨⟨hx, hb, hml, hown, hts⟩, -, hG, -⟩ := C
  obtain ⟨-, w, hP, hD, hw⟩ := Z
  obtain ⟨n, f, hf, hi, rfl⟩ := gL_of hv
  obtain ⟨q0, hq⟩ := hw.1 a _ hf
  exact va_lald hx hb hG.1 hP q0 1 hq (tysg_at g (by omega)) hi hdg kk
theorem r_aald3 (C : Cx g A own cc nL p s m args meth c) (Z : St g A s h H locs) {i : Int32} {v : Nat} (hv : gQ h a 3 i = some v) (hdg : decode cc pc = .ok (.aaload, 1))
    (kk : W p l e R s m args below meth c H locs cells slots Q (F0 m (pc + 1) ls (.ref v :: rest))) : W p l e R s m args below meth c H locs cells slots Q (F0 m pc ls (.int i :: .ref a :: rest)) := by
  obtain ⟨⟨hx, hb, hml, hown, hts⟩, -, hG, -⟩ := C
  obtain ⟨-, w, hP, hD, hw⟩ := Z
  obtain ⟨n, f, hf, hi, hv⟩ := gQ_of hv
  obtain ⟨q0, hq⟩ := hw.1 a _ hf
  exact va_aldq (C := RX0) hx hb hG.1 hP q0 3 hq (tysg_at g (by omega)) hi hdg (by rw [hv]; exact kk)
theorem r_aald4 (C : Cx g A own cc nL p s m args meth c) (Z : St g A s h H locs) {i : Int32} {v : Nat} (hv : gQ h a 4 i = some v) (hdg : decode cc pc = .ok (.aaload, 1))
    (kk : W p l e R s m args below meth c H locs cells slots Q (F0 m (pc + 1) ls (.ref v :: rest))) : W p l e R s m args below meth c H locs cells slots Q (F0 m pc ls (.int i :: .ref a :: rest)) := by
  obtain ⟨⟨hx, hb, hml, hown, hts⟩, -, hG, -⟩ := C
  obtain ⟨-, w, hP, hD, hw⟩ := Z
  obtain ⟨n, f, hf, hi, hv⟩ := gQ_of hv
  obtain ⟨q0, hq⟩ := hw.1 a _ hf
  exact va_aldq (C := RX6) hx hb hG.1 hP q0 4 hq (tysg_at g (by omega)) hi hdg (by rw [hv]; exact kk)
theorem r_alen (C : Cx g A own cc nL p s m args meth c) (Z : St g A s h H locs) {v : Int32} (hv : gN h a = some v) (hdg : decode cc pc = .ok (.arraylength, 1))
    (kk : W p l e R s m args below meth c H locs cells slots Q (F0 m (pc + 1) ls (.int v :: rest))) : W p l e R s m args below meth c H locs cells slots Q (F0 m pc ls (.ref a :: rest)) := by
  obtain ⟨⟨hx, hb, hml, hown, hts⟩, -, hG, -⟩ := C
  obtain ⟨-, w, hP, hD, hw⟩ := Z
  obtain ⟨t, x, hf, ht, hv⟩ := gN_of hv
  obtain ⟨q0, hq⟩ := hw.1 a _ hf
  exact va_alen hx hb hG.1 hP q0 t hq (tysg_at g ht) hv hdg kk
theorem r_iast (C : Cx g A own cc nL p s m args meth c) (Z : St g A s h H locs) {i x : Int32} {h' : Hp} (hv : sI h a i x = some h') (hdg : decode cc pc = .ok (.iastore, 1))
    (kk : ∀ (H1 : Heap) (locs1 : List Loc), St g A s h' H1 locs1 → W p l e R s m args below meth c H1 locs1 cells slots Q (F0 m (pc + 1) ls rest)) : W p l e R s m args below meth c H locs cells slots Q (F0 m pc ls (.int x :: .int i :: .ref a :: rest)) := by
  obtain ⟨⟨hx, hb, hml, hown, hts⟩, -, hG, -⟩ := C
  obtain ⟨hS, w, hP, hD, hw⟩ := Z
  obtain ⟨n, f, hf, hi, rfl⟩ := sI_of hv
  obtain ⟨q0, hq⟩ := hw.1 a _ hf
  exact va_iast hx hb hG.1 hP hD hS q0 0 hq (tysg_at g (by omega)) hi hdg (fun H1 locs1 hP1 hD1 hS1 => kk H1 locs1 ⟨hS1, _, hP1, hD1, hpw_set hw hq (.inl (0, n, .inl (upd f i.toNatClampNeg x)))⟩)
theorem vnz {x : Int32} (hx : x = 0 ∨ x = 1) : vp_nar .boolean x = x := by
  rcases hx with rfl | rfl <;> decide +kernel
theorem r_zast (C : Cx g A own cc nL p s m args meth c) (Z : St g A s h H locs) {i x : Int32} {h' : Hp} (hv : sZ h a i x = some h') (hdg : decode cc pc = .ok (.bastore, 1))
    (kk : ∀ (H1 : Heap) (locs1 : List Loc), St g A s h' H1 locs1 → W p l e R s m args below meth c H1 locs1 cells slots Q (F0 m (pc + 1) ls rest)) : W p l e R s m args below meth c H locs cells slots Q (F0 m pc ls (.int x :: .int i :: .ref a :: rest)) := by
  obtain ⟨⟨hx, hb, hml, hown, hts⟩, -, hG, -⟩ := C
  obtain ⟨hS, w, hP, hD, hw⟩ := Z
  obtain ⟨n, f, hf, h01, hi, rfl⟩ := sZ_of hv
  obtain ⟨q0, hq⟩ := hw.1 a _ hf
  refine va_zast hx hb hG.1 hP hD hS q0 2 hq (tysg_at g (by omega)) hi hdg (fun H1 locs1 hP1 hD1 hS1 => kk H1 locs1 ⟨hS1, _, hP1, hD1, ?_⟩)
  rw [vnz h01]
  exact hpw_set hw hq (.inl (2, n, .inl (upd f i.toNatClampNeg x)))
theorem r_last (C : Cx g A own cc nL p s m args meth c) (Z : St g A s h H locs) {i : Int32} {x : Int64} {h' : Hp} (hv : sL h a i x = some h') (hdg : decode cc pc = .ok (.lastore, 1))
    (kk : ∀ (H1 : Heap) (locs1 : List Loc), St g A s h' H1 locs1 → W p l e R s m args below meth c H1 locs1 cells slots Q (F0 m (pc + 1) ls rest)) : W p l e R s m args below meth c H locs cells slots Q (F0 m pc ls (.long x :: .int i :: .ref a :: rest)) := by
  obtain ⟨⟨hx, hb, hml, hown, hts⟩, -, hG, -⟩ := C
  obtain ⟨hS, w, hP, hD, hw⟩ := Z
  obtain ⟨n, f, hf, hi, rfl⟩ := sL_of hv
  obtain ⟨q0, hq⟩ := hw.1 a _ hf
  exact va_last hx hb hG.1 hP hD hS q0 1 hq (tysg_at g (by omega)) hi hdg (fun H1 locs1 hP1 hD1 hS1 => kk H1 locs1 ⟨hS1, _, hP1, hD1, hpw_set hw hq (.inl (1, n, .inr (.inl (vp_updL f i.toNatClampNeg x))))⟩)
theorem r_aast3 (C : Cx g A own cc nL p s m args meth c) (Z : St g A s h H locs) {i : Int32} {v : Nat} {h' : Hp} (ho : isO h v 0) (hv : sQ h a 3 i v = some h') (hdg : decode cc pc = .ok (.aastore, 1))
    (kk : ∀ (H1 : Heap) (locs1 : List Loc), St g A s h' H1 locs1 → W p l e R s m args below meth c H1 locs1 cells slots Q (F0 m (pc + 1) ls rest)) : W p l e R s m args below meth c H locs cells slots Q (F0 m pc ls (.ref v :: .int i :: .ref a :: rest)) := by
  obtain ⟨⟨hx, hb, hml, hown, hts⟩, -, hG, -⟩ := C
  obtain ⟨hS, w, hP, hD, hw⟩ := Z
  obtain ⟨n, f, hf, hi, rfl⟩ := sQ_of hv
  obtain ⟨q0, hq⟩ := hw.1 a _ hf
  obtain ⟨fs, ho⟩ := ho
  obtain ⟨q1, hq1⟩ := hw.1 v _ ho
  exact va_astq hx hb hG.1 hP hD hS q0 3 q1 0 (r := (RX0, TX0, 11)) hq (tysg_at g (by omega)) hq1 rfl hi hdg (fun H1 locs1 hP1 hD1 hS1 => kk H1 locs1 ⟨hS1, _, hP1, hD1, hpw_set hw hq (.inl (3, n, .inr (.inr (.inr (.inr (va_up f i.toNatClampNeg (some v)))))))⟩)
theorem r_aast4 (C : Cx g A own cc nL p s m args meth c) (Z : St g A s h H locs) {i : Int32} {v : Nat} {h' : Hp} (ho : isO h v 6) (hv : sQ h a 4 i v = some h') (hdg : decode cc pc = .ok (.aastore, 1))
    (kk : ∀ (H1 : Heap) (locs1 : List Loc), St g A s h' H1 locs1 → W p l e R s m args below meth c H1 locs1 cells slots Q (F0 m (pc + 1) ls rest)) : W p l e R s m args below meth c H locs cells slots Q (F0 m pc ls (.ref v :: .int i :: .ref a :: rest)) := by
  obtain ⟨⟨hx, hb, hml, hown, hts⟩, -, hG, -⟩ := C
  obtain ⟨hS, w, hP, hD, hw⟩ := Z
  obtain ⟨n, f, hf, hi, rfl⟩ := sQ_of hv
  obtain ⟨q0, hq⟩ := hw.1 a _ hf
  obtain ⟨fs, ho⟩ := ho
  obtain ⟨q1, hq1⟩ := hw.1 v _ ho
  exact va_astq hx hb hG.1 hP hD hS q0 4 q1 6 (r := (RX6, TX6, 2)) hq (tysg_at g (by omega)) hq1 rfl hi hdg (fun H1 locs1 hP1 hD1 hS1 => kk H1 locs1 ⟨hS1, _, hP1, hD1, hpw_set hw hq (.inl (4, n, .inr (.inr (.inr (.inr (va_up f i.toNatClampNeg (some v)))))))⟩)
theorem r_copyI (C : Cx g A own cc nL p s m args meth c) (Z : St g A s h H locs) {a0 : Nat} {sp dp n : Int32} {h' : Hp} (hv : cpI h a0 sp a dp n = some h') {index : Nat} (hml : c.maxLocals = ls.size) (hlink : (Cond.methodLink own index arraycopyName).before args s = true) (hnat : (Cond.native arraycopyName).before args s = true) (hstat : (Cond.static arraycopyName).before args s = true) (hini : (Cond.initialized "java/lang/System").before args s = true) (hframes : 1 ≤ R.frames) (hlocals : (rest.map fun v => v.category).sum + (nativeFrameWords "java/lang/System" "arraycopy" 5 + 11) ≤ R.locals) (hdg : decode cc pc = .ok (.invokestatic index, 3))
    (kk : ∀ (H1 : Heap) (locs1 : List Loc), St g A s h' H1 locs1 → W p l e R s m args below meth c H1 locs1 cells slots Q (F0 m (pc + 3) ls rest)) : W p l e R s m args below meth c H locs cells slots Q (F0 m pc ls (.int n :: .int dp :: .ref a :: .int sp :: .ref a0 :: rest)) := by
  obtain ⟨⟨hx, hb, hmm, hown, hts⟩, -, hG, -⟩ := C
  obtain ⟨hS, w, hP, hD, hw⟩ := Z
  obtain ⟨n0, n1, f, q, hf, hq, z1, z2, z3, z4, z5, rfl⟩ := cpI_of hv
  obtain ⟨k0, hk0⟩ := hw.1 a0 _ hf
  obtain ⟨k1, hk1⟩ := hw.1 a _ hq
  exact va_copyi (ty := .int) hx hb hml hown hlink hnat hstat hini hG.1 hP hD hS k0 k1 0 0 hk0 hk1 (tysg_at g (by omega)) (tysg_at g (by omega)) rfl z1 z2 z3 z4 z5 (fun i _ => rfl) hframes hlocals hdg (fun H1 locs1 hP1 hD1 hS1 => kk H1 locs1 ⟨hS1, _, hP1, hD1, hpw_set hw hk1 (.inl (0, n1, .inl (va_cpy f q sp.toNatClampNeg dp.toNatClampNeg n.toNatClampNeg)))⟩)
theorem r_copyL (C : Cx g A own cc nL p s m args meth c) (Z : St g A s h H locs) {a0 : Nat} {sp dp n : Int32} {h' : Hp} (hv : cpL h a0 sp a dp n = some h') {index : Nat} (hml : c.maxLocals = ls.size) (hlink : (Cond.methodLink own index arraycopyName).before args s = true) (hnat : (Cond.native arraycopyName).before args s = true) (hstat : (Cond.static arraycopyName).before args s = true) (hini : (Cond.initialized "java/lang/System").before args s = true) (hframes : 1 ≤ R.frames) (hlocals : (rest.map fun v => v.category).sum + (nativeFrameWords "java/lang/System" "arraycopy" 5 + 11) ≤ R.locals) (hdg : decode cc pc = .ok (.invokestatic index, 3))
    (kk : ∀ (H1 : Heap) (locs1 : List Loc), St g A s h' H1 locs1 → W p l e R s m args below meth c H1 locs1 cells slots Q (F0 m (pc + 3) ls rest)) : W p l e R s m args below meth c H locs cells slots Q (F0 m pc ls (.int n :: .int dp :: .ref a :: .int sp :: .ref a0 :: rest)) := by
  obtain ⟨⟨hx, hb, hmm, hown, hts⟩, -, hG, -⟩ := C
  obtain ⟨hS, w, hP, hD, hw⟩ := Z
  obtain ⟨n0, n1, f, q, hf, hq, z1, z2, z3, z4, z5, rfl⟩ := cpL_of hv
  obtain ⟨k0, hk0⟩ := hw.1 a0 _ hf
  obtain ⟨k1, hk1⟩ := hw.1 a _ hq
  exact va_copyl (ty := .long) hx hb hml hown hlink hnat hstat hini hG.1 hP hD hS k0 k1 1 1 hk0 hk1 (tysg_at g (by omega)) (tysg_at g (by omega)) rfl z1 z2 z3 z4 z5 (fun i _ => rfl) hframes hlocals hdg (fun H1 locs1 hP1 hD1 hS1 => kk H1 locs1 ⟨hS1, _, hP1, hD1, hpw_set hw hk1 (.inl (1, n1, .inr (.inl (va_cpy f q sp.toNatClampNeg dp.toNatClampNeg n.toNatClampNeg))))⟩)
/-! the static tables -/
theorem r_sti (C : Cx g A own cc nL p s m args meth c) (Z : St g A s h H locs) {i : Nat} (hi : i < 2) {x v : Int32} (hv : sT i x = some v) (hdg : decode cc pc = .ok (.iaload, 1))
    (kk : W p l e R s m args below meth c H locs cells slots Q (F0 m (pc + 1) ls (.int v :: rest))) : W p l e R s m args below meth c H locs cells slots Q (F0 m pc ls (.int x :: .ref (g.2.2 i) :: rest)) := by
  obtain ⟨⟨hx, hb, hml, hown, hts⟩, -, hG, hSP⟩ := C
  obtain ⟨hin, rfl⟩ := sT_of hv
  match i, hi with
  | 0, _ => exact va_ti hx hb hSP.1.2 Z.1 hin rfl hdg kk
  | 1, _ => exact va_ti hx hb hSP.2.1.2 Z.1 hin rfl hdg kk
theorem r_stl (C : Cx g A own cc nL p s m args meth c) (Z : St g A s h H locs) {x : Int32} {v : Int64} (hv : sW x = some v) (hdg : decode cc pc = .ok (.laload, 1))
    (kk : W p l e R s m args below meth c H locs cells slots Q (F0 m (pc + 1) ls (.long v :: rest))) : W p l e R s m args below meth c H locs cells slots Q (F0 m pc ls (.int x :: .ref (g.2.2 2) :: rest)) := by
  obtain ⟨⟨hx, hb, hml, hown, hts⟩, -, hG, hSP⟩ := C
  obtain ⟨hin, rfl⟩ := sW_of hv
  exact va_tl hx hb hSP.2.2.1.2 Z.1 hin rfl hdg kk
theorem r_ldcS (C : Cx g A RX3 cc nL p s m args meth c) (Z : St g A s h H locs) {i : Nat} (hi : i < 5) (hdg : decode cc pc = .ok (.ldc (sKx i), 2))
    (kk : W p l e R s m args below meth c H locs cells slots Q (F0 m (pc + 2) ls (.ref (g.2.2 (3 + i)) :: rest))) : W p l e R s m args below meth c H locs cells slots Q (F0 m pc ls rest) :=
  va_ldcS C.1.1 C.1.2.1 C.1.2.2.2.1 (C.2.2.1.2.2.2.1 i hi) hdg kk
/-! calls: receiver, arguments; behind them the world is the callee's -/
theorem r_recv (C : Cx g A own cc nL p s m args meth c) (Z : St g A s h H locs) {ci : Nat} {r : vw_C} (ho : isO h a ci) (hc : vwCl[ci]? = some r) : ∃ cell : Cell, H[a]? = some cell ∧ cell.vm.isStatics = false ∧ s.vm.findClass r.1 = some cell.cls := by
  obtain ⟨fs, ho⟩ := ho
  obtain ⟨-, w, hP, hD, hw⟩ := Z
  obtain ⟨q0, hq⟩ := hw.1 a _ ho
  exact va_recv C.2.2.1.1 hP hc hq
theorem r_back (Z : St g A s h H locs) {h' : Hp} {t : State} {H1 : Heap} {locs1 : List Loc} (ht : t.heap = H1) (hB : QB g h h' t) (hS : va_S A s.heap H1 locs1) : St g A s h' H1 locs1 := by
  obtain ⟨w, hP, hD, hw⟩ := hB
  rw [ht] at hP
  exact ⟨hS, w, hP, hD.weaken (fun k q _ hq => Z.sub _ hq), hw⟩
theorem r_calli (Z : St g A s h H locs) {Post : Int32 → Hp → Prop} {st0 : List Value} {av : Array Value} (hr : va_Run p l e R s m args below meth c H locs cells slots 0 0 (F0 m pc ls st0) rest (Qi g h Post av) (dm h))
    (kk : ∀ (r : Int32) (h' : Hp) (H1 : Heap) (locs1 : List Loc), Post r h' → St g A s h' H1 locs1 → W p l e R s m args below meth c H1 locs1 cells slots Q (F0 m (pc + 3) ls (.int r :: rest))) : W p l e R s m args below meth c H locs cells slots Q (F0 m pc ls st0) :=
  va_calli hr Z.1 (fun q _ hq => Z.sub q hq) Z.sub (fun r u t H1 locs1 ht _ hp hB _ _ hS => kk r u H1 locs1 hp (r_back Z ht hB hS))
theorem r_calll (Z : St g A s h H locs) {Post : Int64 → Hp → Prop} {st0 : List Value} {av : Array Value} (hr : va_Run p l e R s m args below meth c H locs cells slots 0 0 (F0 m pc ls st0) rest (Ql g h Post av) (dm h))
    (kk : ∀ (r : Int64) (h' : Hp) (H1 : Heap) (locs1 : List Loc), Post r h' → St g A s h' H1 locs1 → W p l e R s m args below meth c H1 locs1 cells slots Q (F0 m (pc + 3) ls (.long r :: rest))) : W p l e R s m args below meth c H locs cells slots Q (F0 m pc ls st0) :=
  va_calll hr Z.1 (fun q _ hq => Z.sub q hq) Z.sub (fun r u t H1 locs1 ht _ hp hB _ _ hS => kk r u H1 locs1 hp (r_back Z ht hB hS))
theorem r_callv (Z : St g A s h H locs) {Post : Hp → Prop} {st0 : List Value} {av : Array Value} (hr : va_Run p l e R s m args below meth c H locs cells slots 0 0 (F0 m pc ls st0) rest (Qv g h Post av) (dm h))
    (kk : ∀ (h' : Hp) (H1 : Heap) (locs1 : List Loc), Post h' → St g A s h' H1 locs1 → W p l e R s m args below meth c H1 locs1 cells slots Q (F0 m (pc + 3) ls rest)) : W p l e R s m args below meth c H locs cells slots Q (F0 m pc ls st0) :=
  va_callv hr Z.1 (fun q _ hq => Z.sub q hq) Z.sub (fun u t H1 locs1 ht _ hp hB _ _ hS => kk u H1 locs1 hp (r_back Z ht hB hS))
/-- a call of an instance's method -/
theorem r_runV (C : Cx g A own cc nL p s m args meth c) (Z : St g A s h H locs) {y : MethodName} {wsy : List Cond} {rm : Room} {Qc : Array Value → State → Outcome → State → Prop} {bytes : ByteArray} {maxL n idx ci : Nat} {ret : Option FieldType} {r : vw_C} {As : List Value} (hM : Met l y wsy rm (Pg g h (.ref a :: As)) Qc 0 0 (dm h)) (ho : isO h a ci) (hc : vwCl[ci]? = some r) (cw : CallW R s args own r.1 idx y bytes maxL ret wsy rm 0 0 n) {st0 : List Value} (hn : As.length = n) (hsize : ls.size = nL) (hst : st0 = As.reverse ++ .ref a :: rest) (hW : (rest.map fun v => v.category).sum ≤ 8) (hdg : decode cc pc = .ok (.invokevirtual idx, 3)) (hf : cells ≤ R.cells ∧ slots ≤ R.slots) :
    va_Run p l e R s m args below meth c H locs cells slots 0 0 (F0 m pc ls st0) rest (Qc (Value.ref a :: As).toArray) (dm h) :=
  va_runV C.1 hM cw ⟨Pg.blind g h _, r_recv C Z ho hc, Pg.of C Z⟩ rfl hn hsize hst (lv_room hW) hdg hf
theorem r_runS (C : Cx g A own cc nL p s m args meth c) (Z : St g A s h H locs) {y : MethodName} {wsy : List Cond} {rm : Room} {Qc : Array Value → State → Outcome → State → Prop} {bytes : ByteArray} {maxL n idx : Nat} {ret : Option FieldType} {As : List Value} (hM : Met l y wsy rm (Pg g h As) Qc 0 0 (dm h)) (cw : CallB R s args own idx y bytes maxL ret wsy rm 0 0 n ∧ (Cond.static y).before args s = true) {st0 : List Value} (hn : As.length = n) (hsize : ls.size = nL) (hst : st0 = As.reverse ++ rest) (hW : (rest.map fun v => v.category).sum ≤ 8) (hdg : decode cc pc = .ok (.invokestatic idx, 3)) (hf : cells ≤ R.cells ∧ slots ≤ R.slots) :
    va_Run p l e R s m args below meth c H locs cells slots 0 0 (F0 m pc ls st0) rest (Qc As.toArray) (dm h) :=
  va_runS C.1 hM cw ⟨Pg.blind g h _, Pg.of C Z⟩ rfl hn hsize hst (lv_room hW) hdg hf
theorem r_runSN (C : Cx g A own cc nL p s m args meth c) (Z : St g A s h H locs) {y : MethodName} {wsy : List Cond} {rm : Room} {Qc : Array Value → State → Outcome → State → Prop} {bytes : ByteArray} {maxL n idx : Nat} {ret : Option FieldType} {As : List Value} (hM : Met l y wsy rm (Pg g h As) Qc 0 0 (dm h)) (cw : va_CN R s args own idx y "SmudgeTally" bytes maxL ret wsy rm 0 0 n ∧ (Cond.static y).before args s = true ∧ True) {st0 : List Value} (hn : As.length = n) (hsize : ls.size = nL) (hst : st0 = As.reverse ++ rest) (hW : (rest.map fun v => v.category).sum ≤ 8) (hdg : decode cc pc = .ok (.invokestatic idx, 3)) (hf : cells ≤ R.cells ∧ slots ≤ R.slots) :
    va_Run p l e R s m args below meth c H locs cells slots 0 0 (F0 m pc ls st0) rest (Qc As.toArray) (dm h) :=
  va_runSN C.1 hM cw ⟨Pg.blind g h _, Pg.of C Z⟩ rfl hn hsize hst (lv_room hW) hdg hf
/-! the ends -/
theorem r_qb (C : Cx g (dm h) own cc nL p s m args meth c) {h' : Hp} (Z : St g (dm h) s h' H locs) {t : State} (ht : t.heap = H) : QB g h h' t := by
  obtain ⟨-, w, hP, hD, hw⟩ := Z
  exact ⟨w, by rw [ht]; exact hP, hD, hw⟩
theorem r_iret (C : Cx g (dm h) own cc nL p s m args meth c) {h' : Hp} (Z : St g (dm h) s h' H locs) {Post : Int32 → Hp → Prop} {v : Int32} (hr : meth.sig.returnType = some .int) (hp : Post v h') (hdg : decode cc pc = .ok (.ireturn, 1)) : W p l e R s m args below meth c H locs cells slots (MQ below (Qi g h Post) args s cells slots (dm h)) (F0 m pc ls [.int v]) :=
  W.iret C.1.1 C.1.2.1 hr (fun t ht hW => ⟨⟨v, h', rfl, hp, r_qb C Z ht⟩, Z.1.F ht⟩) Z.1.2.2 hdg C.2.1
theorem r_zret (C : Cx g (dm h) own cc nL p s m args meth c) {h' : Hp} (Z : St g (dm h) s h' H locs) {Post : Int32 → Hp → Prop} {v : Int32} (hr : meth.sig.returnType = some .boolean) (h01 : v = 0 ∨ v = 1) (hp : Post v h') (hdg : decode cc pc = .ok (.ireturn, 1)) : W p l e R s m args below meth c H locs cells slots (MQ below (Qi g h Post) args s cells slots (dm h)) (F0 m pc ls [.int v]) :=
  W.zret C.1.1 C.1.2.1 hr (by rcases h01 with rfl | rfl <;> decide +kernel) (fun t ht hW => ⟨⟨v, h', rfl, hp, r_qb C Z ht⟩, Z.1.F ht⟩) Z.1.2.2 hdg C.2.1
theorem r_lret (C : Cx g (dm h) own cc nL p s m args meth c) {h' : Hp} (Z : St g (dm h) s h' H locs) {Post : Int64 → Hp → Prop} {v : Int64} (hr : meth.sig.returnType = some .long) (hp : Post v h') (hdg : decode cc pc = .ok (.lreturn, 1)) : W p l e R s m args below meth c H locs cells slots (MQ below (Ql g h Post) args s cells slots (dm h)) (F0 m pc ls [.long v]) :=
  W.lret C.1.1 C.1.2.1 hr (fun t ht hW => ⟨⟨v, h', rfl, hp, r_qb C Z ht⟩, Z.1.F ht⟩) Z.1.2.2 hdg C.2.1
theorem r_vret (C : Cx g (dm h) own cc nL p s m args meth c) {h' : Hp} (Z : St g (dm h) s h' H locs) {Post : Hp → Prop} (hr : meth.sig.returnType = none) (hp : Post h') (hdg : decode cc pc = .ok (.return_, 1)) : W p l e R s m args below meth c H locs cells slots (MQ below (Qv g h Post) args s cells slots (dm h)) (F0 m pc ls []) :=
  W.vret C.1.1 C.1.2.1 hr (fun t ht hW => ⟨⟨h', rfl, hp, r_qb C Z ht⟩, Z.1.F ht⟩) Z.1.2.2 hdg C.2.1
end RW
/-- a method's contract out of the walk of its body -/
theorem Met_of {l : Launch} {y : MethodName} {rm : Room} {Qc : Array Value → State → Outcome → State → Prop} {cc : ByteArray} {maxL : Nat} {ret : Option FieldType} {g : Gt} {h : Hp} {av : List Value} (hy : plainName y.cls = true) (hav : (lg_sl av).length ≤ maxL)
    (body : ∀ p e s m below meth c ls, Cx g (dm h) y.cls cc maxL p s m av.toArray meth c → meth.sig.returnType = ret → meth.name = y.name → lv_has ls maxL (lv_args 0 av) → St g (dm h) s h s.heap [] →
      W p l e rm s m av.toArray below meth c s.heap [] 0 0 (MQ below Qc av.toArray s 0 0 (dm h)) (F0 m 0 ls [])) : Met l y (WS y cc maxL ret) rm (Pg g h av) Qc 0 0 (dm h) := by
  refine Met.ofW (cc := cc) (maxL := maxL) (ret := ret) hy rfl ?_
  intro p e s m args below meth c s₁ B hml hv
  obtain ⟨rfl, hG, hSP, w, hP, hD, hwp⟩ := hv
  have hl := lv_entry av (n := maxL) hav
  rw [lg_entry_eq]
  exact body p e s m below meth c _ ⟨⟨B.exec, B.bytes, hml, findClass_of_methodNamed B.named, fun w hw => atoms_spec (ws := WS y cc maxL ret) B.pre w (List.mem_cons_of_mem _ hw)⟩, B.notSynchronized, hG, hSP⟩ B.returns (name_of_methodNamed B.named B.method).1 hl ⟨va_S.rf, w, hP, hD, hwp⟩
end
section

/-! String's own methods on the five constants -/
theorem s_len : ∀ i, i < 5 → sLens.getD i 0 = sLn i := by decide +kernel
theorem s_byt : ∀ i, i < 5 → ∀ j, j < sLn i → ((((sByts.getD i []).getD j 0) &&& nI 255).toUInt32 % 65536).toInt32 = nI ((sTx i).getD j 0) ∧ narrow .char (.int (nI ((sTx i).getD j 0))) = .int (nI ((sTx i).getD j 0)) := by decide +kernel
theorem s_l31 : ∀ i, i < 5 → sLn i < 2 ^ 31 := by decide +kernel
section STR
variable {p : Program} {l : Launch} {e : Env} {R : Room} {s : State} {m : MethodId} {args : Array Value} {below : List Frame} {meth : Method} {c : Code} {H : Heap} {locs : List Loc} {cells slots : Nat} {Q : State → Prop}
variable {cc : ByteArray} {pc : Nat} {ls : Array Slot} {rest : List Value} {g : Gt} {A : Nat → Prop} {h : Hp} {a : Nat} {own : String} {nL : Nat}
theorem r_bret {ty : FieldType} (C : Cx g (dm h) own cc nL p s m args meth c) {h' : Hp} (Z : St g (dm h) s h' H locs) {Post : Int32 → Hp → Prop} {v : Int32} (hr : meth.sig.returnType = some ty) (hn : narrow ty (.int v) = .int v) (hp : Post v h') (hdg : decode cc pc = .ok (.ireturn, 1)) : W p l e R s m args below meth c H locs cells slots (MQ below (Qi g h Post) args s cells slots (dm h)) (F0 m pc ls [.int v]) :=
  W.zret C.1.1 C.1.2.1 hr hn (fun t ht hW => ⟨⟨v, h', rfl, hp, r_qb C Z ht⟩, Z.1.F ht⟩) Z.1.2.2 hdg C.2.1
end STR
set_option maxRecDepth 100000 in
theorem mJ_coder (l : Launch) (g : Gt) (h : Hp) (i : Nat) (hi : i < 5) : Met l yJ0_coder_7d493 (WS yJ0_coder_7d493 cJ0_coder_7d493 1 (some .byte)) ({ frames := 0, cells := 0, slots := 0, locals := 0 } : Room) (Pg g h [.ref (g.2.2 (3 + i))]) (Qi g h (fun r h' => r = nI 0 ∧ h' = h)) 0 0 (dm h) := by
  refine Met_of (by decide) (Nat.le_of_ble_eq_true rfl) (fun p e s m below meth c ls C hr hnm hl Z => ?_)
  have hx := C.1.1
  have hb := C.1.2.1
  have hml := C.1.2.2.1
  have hown := C.1.2.2.2.1
  have hts := C.1.2.2.2.2
  have hE := C.2.2.2.2.2.2.2.2
  have hC := C.2.2.2.2.2.2.1
  generalize s.heap = H at Z ⊢
  generalize ([] : List Loc) = locs at Z ⊢
  have hl : lv_has ls 1 [(0, .ref (g.2.2 (3 + i)))] := hl
  refine va_gets hx hb hC Z.1 hown (hts _ tw_630) (fun x hx => hx) dJ0_coder_7d493_0 ?_
  refine lv_if_eq (tgt := 13) hx hb dJ0_coder_7d493_3 (by decide) (fun q => absurd q (by decide)) (fun _ => ?_)
  refine lv_aload_n hx hb dJ0_coder_7d493_6 rfl (lv_at hl 0 rfl) ?_
  refine vk_getf hx hb (hE.1 i hi).2.1 Z.1 hown (hts _ tw_1248) (fun x hx => hx) dJ0_coder_7d493_7 ?_
  refine lv_goto (tgt := 14) hx hb dJ0_coder_7d493_10 (by decide) ?_
  exact r_bret C Z hr (by decide +kernel) ⟨by decide, rfl⟩ dJ0_coder_7d493_14
set_option maxRecDepth 100000 in
theorem mJ_latin (l : Launch) (g : Gt) (h : Hp) (i : Nat) (hi : i < 5) : Met l yJ0_isLatin1_aae02 (WS yJ0_isLatin1_aae02 cJ0_isLatin1_aae02 1 (some .boolean)) ({ frames := 0, cells := 0, slots := 0, locals := 0 } : Room) (Pg g h [.ref (g.2.2 (3 + i))]) (Qi g h (fun r h' => r = nI 1 ∧ h' = h)) 0 0 (dm h) := by
  refine Met_of (by decide) (Nat.le_of_ble_eq_true rfl) (fun p e s m below meth c ls C hr hnm hl Z => ?_)
  have hx := C.1.1
  have hb := C.1.2.1
  have hml := C.1.2.2.1
  have hown := C.1.2.2.2.1
  have hts := C.1.2.2.2.2
  have hE := C.2.2.2.2.2.2.2.2
  have hC := C.2.2.2.2.2.2.1
  generalize s.heap = H at Z ⊢
  generalize ([] : List Loc) = locs at Z ⊢
  have hl : lv_has ls 1 [(0, .ref (g.2.2 (3 + i)))] := hl
  refine va_gets hx hb hC Z.1 hown (hts _ tw_630) (fun x hx => hx) dJ0_isLatin1_aae02_0 ?_
  refine lv_if_eq (tgt := 17) hx hb dJ0_isLatin1_aae02_3 (by decide) (fun q => absurd q (by decide)) (fun _ => ?_)
  refine lv_aload_n hx hb dJ0_isLatin1_aae02_6 rfl (lv_at hl 0 rfl) ?_
  refine vk_getf hx hb (hE.1 i hi).2.1 Z.1 hown (hts _ tw_1248) (fun x hx => hx) dJ0_isLatin1_aae02_7 ?_
  refine lv_if_ne (tgt := 17) hx hb dJ0_isLatin1_aae02_10 (by decide) (fun q => absurd rfl q) (fun _ => ?_)
  refine lv_iconst (v := nI 1) hx hb dJ0_isLatin1_aae02_13 (by decide) ?_
  refine lv_goto (tgt := 18) hx hb dJ0_isLatin1_aae02_14 (by decide) ?_
  exact r_bret C Z hr (by decide +kernel) ⟨rfl, rfl⟩ dJ0_isLatin1_aae02_18
set_option maxRecDepth 100000 in
theorem mJ_length (l : Launch) (g : Gt) (h : Hp) (i : Nat) (hi : i < 5) : Met l yJ0_length_8abf5 (WS yJ0_length_8abf5 cJ0_length_8abf5 1 (some .int)) ({ frames := 1, cells := 0, slots := 0, locals := 20 } : Room) (Pg g h [.ref (g.2.2 (3 + i))]) (Qi g h (fun r h' => r = nI (sLn i) ∧ h' = h)) 0 0 (dm h) := by
  refine Met_of (by decide) (Nat.le_of_ble_eq_true rfl) (fun p e s m below meth c ls C hr hnm hl Z => ?_)
  have hx := C.1.1
  have hb := C.1.2.1
  have hml := C.1.2.2.1
  have hown := C.1.2.2.2.1
  have hts := C.1.2.2.2.2
  have hE := C.2.2.2.2.2.2.2.2
  have hC := C.2.2.2.2.2.2.1
  generalize s.heap = H at Z ⊢
  generalize ([] : List Loc) = locs at Z ⊢
  have hl : lv_has ls 1 [(0, .ref (g.2.2 (3 + i)))] := hl
  refine lv_aload_n hx hb dJ0_length_8abf5_0 rfl (lv_at hl 0 rfl) ?_
  refine vk_getf hx hb (hE.1 i hi).2.2.1 Z.1 hown (hts _ tw_1247) (fun x hx => hx) dJ0_length_8abf5_1 ?_
  refine va_tlen (v := nI (sLn i)) hx hb (hE.1 i hi).2.2.2 Z.1 (by rw [s_len i hi]; rfl) dJ0_length_8abf5_4 ?_
  refine lv_aload_n hx hb dJ0_length_8abf5_5 rfl (lv_at hl 0 rfl) ?_
  refine r_calli Z (va_runV (As := []) (rest := [.int (nI (sLn i))]) C.1 (mJ_coder l g h i hi) (cwV 0 hts (gV tw_626 tw_627 tw_628 tw_69 tw_629) rfl rfl rfl (by decide +kernel) ⟨Nat.le_of_ble_eq_true rfl, Nat.le_of_ble_eq_true rfl⟩) ⟨Pg.blind g h _, vk_recv hE hi Z.1, Pg.of C Z⟩ rfl rfl hl.1 rfl (lv_room (Nat.le_of_ble_eq_true rfl)) dJ0_length_8abf5_6 ⟨Nat.zero_le _, Nat.zero_le _⟩) (fun r h2 H locs hk Z => ?_)
  obtain ⟨rfl, rfl⟩ := hk
  refine lv_ishr hx hb dJ0_length_8abf5_9 ?_
  exact r_iret C Z hr ⟨sb_shr0 _, rfl⟩ dJ0_length_8abf5_10
set_option maxRecDepth 100000 in
theorem mJ_check3 (l : Launch) (g : Gt) (h : Hp) (x n : Int32) (w : Value) (hw : w = .null ∨ ∃ t : Nat, w = .ref t) (h0 : ¬ x < 0) (hn : x < n) : Met l yJ3_checkIndex_8e157 (WS yJ3_checkIndex_8e157 cJ3_checkIndex_8e157 3 (some .int)) ({ frames := 0, cells := 0, slots := 0, locals := 0 } : Room) (Pg g h [.int x, .int n, w]) (Qi g h (fun r h' => r = x ∧ h' = h)) 0 0 (dm h) := by
  have hsl : (lg_sl [.int x, .int n, w]).length ≤ 3 := by rcases hw with rfl | ⟨t, rfl⟩ <;> exact Nat.le_of_ble_eq_true rfl
  refine Met_of (by decide) hsl (fun p e s m below meth c ls C hr hnm hl Z => ?_)
  have hx := C.1.1
  have hb := C.1.2.1
  have hml := C.1.2.2.1
  have hown := C.1.2.2.2.1
  have hts := C.1.2.2.2.2
  have hE := C.2.2.2.2.2.2.2.2
  have hC := C.2.2.2.2.2.2.1
  generalize s.heap = H at Z ⊢
  generalize ([] : List Loc) = locs at Z ⊢
  have hl : lv_has ls 3 [(0, .int x), (1, .int n), (2, w)] := hl
  refine lv_iload_n hx hb dJ3_checkIndex_8e157_0 rfl (lv_at hl 0 rfl) ?_
  refine lv_if_lt (tgt := 9) hx hb dJ3_checkIndex_8e157_1 (by decide) (fun q => absurd q h0) (fun _ => ?_)
  refine lv_iload_n hx hb dJ3_checkIndex_8e157_4 rfl (lv_at hl 0 rfl) ?_
  refine lv_iload_n hx hb dJ3_checkIndex_8e157_5 rfl (lv_at hl 1 rfl) ?_
  refine lv_icmp_lt (tgt := 16) hx hb dJ3_checkIndex_8e157_6 (by decide) (fun _ => ?_) (fun q => absurd hn q)
  refine lv_iload_n hx hb dJ3_checkIndex_8e157_16 rfl (lv_at hl 0 rfl) ?_
  exact r_iret C Z hr ⟨rfl, rfl⟩ dJ3_checkIndex_8e157_17
set_option maxRecDepth 100000 in
theorem mJ_check2 (l : Launch) (g : Gt) (h : Hp) (x n : Int32) (h0 : ¬ x < 0) (hn : x < n) : Met l yJ0_checkIndex_df160 (WS yJ0_checkIndex_df160 cJ0_checkIndex_df160 2 none) ({ frames := 1, cells := 0, slots := 0, locals := 22 } : Room) (Pg g h [.int x, .int n]) (Qv g h (fun h' => h' = h)) 0 0 (dm h) := by
  refine Met_of (by decide) (Nat.le_of_ble_eq_true rfl) (fun p e s m below meth c ls C hr hnm hl Z => ?_)
  have hx := C.1.1
  have hb := C.1.2.1
  have hml := C.1.2.2.1
  have hown := C.1.2.2.2.1
  have hts := C.1.2.2.2.2
  have hE := C.2.2.2.2.2.2.2.2
  have hC := C.2.2.2.2.2.2.1
  generalize s.heap = H at Z ⊢
  generalize ([] : List Loc) = locs at Z ⊢
  have hl : lv_has ls 2 [(0, .int x), (1, .int n)] := hl
  have hQ := C.2.2.2.2.2.2.2.1
  refine lv_iload_n hx hb dJ0_checkIndex_df160_0 rfl (lv_at hl 0 rfl) ?_
  refine lv_iload_n hx hb dJ0_checkIndex_df160_1 rfl (lv_at hl 1 rfl) ?_
  have key : ∀ w : Value, (w = .null ∨ ∃ t : Nat, w = .ref t) → W p l e ({ frames := 1, cells := 0, slots := 0, locals := 22 } : Room) s m ([.int x, .int n] : List Value).toArray below meth c H locs 0 0 (MQ below (Qv g h (fun h' => h' = h)) ([.int x, .int n] : List Value).toArray s 0 0 (dm h)) (F0 m 5 ls [w, .int n, .int x]) := by
    intro w hw
    refine r_calli Z (va_runS (As := [.int x, .int n, w]) (rest := []) C.1 (mJ_check3 l g h x n w hw h0 hn) (va_cwS 3 hts (gS tw_648 tw_649 tw_71 tw_650) rfl rfl rfl (by decide +kernel) ⟨Nat.le_of_ble_eq_true rfl, Nat.le_of_ble_eq_true rfl⟩) ⟨Pg.blind g h _, Pg.of C Z⟩ rfl rfl hl.1 rfl (lv_room (Nat.le_of_ble_eq_true rfl)) dJ0_checkIndex_df160_5 ⟨Nat.zero_le _, Nat.zero_le _⟩) (fun r h2 H locs hk Z => ?_)
    obtain ⟨rfl, rfl⟩ := hk
    refine lv_pop hx hb dJ0_checkIndex_df160_8 rfl ?_
    exact r_vret C Z hr rfl dJ0_checkIndex_df160_9
  rcases hQ with hQ | ⟨t, hQ⟩
  · exact va_gets hx hb hQ Z.1 hown (hts _ tw_646) (fun x hx => hx) dJ0_checkIndex_df160_2 (key _ (Or.inl rfl))
  · exact va_gets hx hb hQ Z.1 hown (hts _ tw_646) (fun x hx => hx) dJ0_checkIndex_df160_2 (key _ (Or.inr ⟨t, rfl⟩))
set_option maxRecDepth 100000 in
theorem mJ_charL (l : Launch) (g : Gt) (h : Hp) (i k : Nat) (hi : i < 5) (hk : k < sLn i) : Met l yJ1_charAt_3b067 (WS yJ1_charAt_3b067 cJ1_charAt_3b067 2 (some .char)) ({ frames := 2, cells := 0, slots := 0, locals := 43 } : Room) (Pg g h [.ref (g.2.2 (8 + i)), .int (nI k)]) (Qi g h (fun r h' => r = nI ((sTx i).getD k 0) ∧ h' = h)) 0 0 (dm h) := by
  have h31 := s_l31 i hi
  refine Met_of (by decide) (Nat.le_of_ble_eq_true rfl) (fun p e s m below meth c ls C hr hnm hl Z => ?_)
  have hx := C.1.1
  have hb := C.1.2.1
  have hml := C.1.2.2.1
  have hown := C.1.2.2.2.1
  have hts := C.1.2.2.2.2
  have hE := C.2.2.2.2.2.2.2.2
  have hC := C.2.2.2.2.2.2.1
  generalize s.heap = H at Z ⊢
  generalize ([] : List Loc) = locs at Z ⊢
  have hl : lv_has ls 2 [(0, .ref (g.2.2 (8 + i))), (1, .int (nI k))] := hl
  refine lv_iload_n hx hb dJ1_charAt_3b067_0 rfl (lv_at hl 1 rfl) ?_
  refine lv_aload_n hx hb dJ1_charAt_3b067_1 rfl (lv_at hl 0 rfl) ?_
  refine va_tlen (v := nI (sLn i)) hx hb (hE.1 i hi).2.2.2 Z.1 (by rw [s_len i hi]; rfl) dJ1_charAt_3b067_2 ?_
  refine r_callv Z (va_runS (As := [.int (nI k), .int (nI (sLn i))]) (rest := []) C.1 (mJ_check2 l g h (nI k) (nI (sLn i)) (nI_pos (by omega)) (nI_lt hk (by omega))) (va_cwS 2 hts (gS tw_643 tw_644 tw_69 tw_645) rfl rfl rfl (by decide +kernel) ⟨Nat.le_of_ble_eq_true rfl, Nat.le_of_ble_eq_true rfl⟩) ⟨Pg.blind g h _, Pg.of C Z⟩ rfl rfl hl.1 rfl (lv_room (Nat.le_of_ble_eq_true rfl)) dJ1_charAt_3b067_3 ⟨Nat.zero_le _, Nat.zero_le _⟩) (fun h2 H locs hk2 Z => ?_)
  subst hk2
  refine lv_aload_n hx hb dJ1_charAt_3b067_6 rfl (lv_at hl 0 rfl) ?_
  refine lv_iload_n hx hb dJ1_charAt_3b067_7 rfl (lv_at hl 1 rfl) ?_
  refine va_tb (v := .int ((sByts.getD i []).getD k 0)) hx hb (hE.1 i hi).2.2.2 Z.1 (by rw [s_len i hi]; exact vp_in_nI hk (by omega)) (by rw [nI_clamp (by omega)]) dJ1_charAt_3b067_8 ?_
  refine lv_sipush (v := nI 255) hx hb dJ1_charAt_3b067_9 (by decide) ?_
  refine lv_iand hx hb dJ1_charAt_3b067_12 ?_
  refine lv_i2c hx hb dJ1_charAt_3b067_13 rfl ?_
  rw [(s_byt i hi k hk).1]
  exact r_bret C Z hr (s_byt i hi k hk).2 ⟨rfl, rfl⟩ dJ1_charAt_3b067_14
set_option maxRecDepth 100000 in
theorem mJ_charS (l : Launch) (g : Gt) (h : Hp) (i k : Nat) (hi : i < 5) (hk : k < sLn i) : Met l yJ0_charAt_5068e (WS yJ0_charAt_5068e cJ0_charAt_5068e 2 (some .char)) ({ frames := 3, cells := 0, slots := 0, locals := 64 } : Room) (Pg g h [.ref (g.2.2 (3 + i)), .int (nI k)]) (Qi g h (fun r h' => r = nI ((sTx i).getD k 0) ∧ h' = h)) 0 0 (dm h) := by
  refine Met_of (by decide) (Nat.le_of_ble_eq_true rfl) (fun p e s m below meth c ls C hr hnm hl Z => ?_)
  have hx := C.1.1
  have hb := C.1.2.1
  have hml := C.1.2.2.1
  have hown := C.1.2.2.2.1
  have hts := C.1.2.2.2.2
  have hE := C.2.2.2.2.2.2.2.2
  have hC := C.2.2.2.2.2.2.1
  generalize s.heap = H at Z ⊢
  generalize ([] : List Loc) = locs at Z ⊢
  have hl : lv_has ls 2 [(0, .ref (g.2.2 (3 + i))), (1, .int (nI k))] := hl
  refine lv_aload_n hx hb dJ0_charAt_5068e_0 rfl (lv_at hl 0 rfl) ?_
  refine r_calli Z (va_runV (As := []) (rest := []) C.1 (mJ_latin l g h i hi) (cwV 0 hts (gV tw_636 tw_637 tw_638 tw_69 tw_639) rfl rfl rfl (by decide +kernel) ⟨Nat.le_of_ble_eq_true rfl, Nat.le_of_ble_eq_true rfl⟩) ⟨Pg.blind g h _, vk_recv hE hi Z.1, Pg.of C Z⟩ rfl rfl hl.1 rfl (lv_room (Nat.le_of_ble_eq_true rfl)) dJ0_charAt_5068e_1 ⟨Nat.zero_le _, Nat.zero_le _⟩) (fun r h2 H locs hk2 Z => ?_)
  obtain ⟨rfl, rfl⟩ := hk2
  refine lv_if_eq (tgt := 16) hx hb dJ0_charAt_5068e_4 (by decide) (fun q => absurd q (by decide)) (fun _ => ?_)
  refine lv_aload_n hx hb dJ0_charAt_5068e_7 rfl (lv_at hl 0 rfl) ?_
  refine vk_getf hx hb (hE.1 i hi).2.2.1 Z.1 hown (hts _ tw_1247) (fun x hx => hx) dJ0_charAt_5068e_8 ?_
  refine lv_iload_n hx hb dJ0_charAt_5068e_11 rfl (lv_at hl 1 rfl) ?_
  refine r_calli Z (va_runS (As := [.ref (g.2.2 (8 + i)), .int (nI k)]) (rest := []) C.1 (mJ_charL l g _ i k hi hk) (va_cwS 2 hts (gS tw_640 tw_641 tw_70 tw_642) rfl rfl rfl (by decide +kernel) ⟨Nat.le_of_ble_eq_true rfl, Nat.le_of_ble_eq_true rfl⟩) ⟨Pg.blind g _ _, Pg.of C Z⟩ rfl rfl hl.1 rfl (lv_room (Nat.le_of_ble_eq_true rfl)) dJ0_charAt_5068e_12 ⟨Nat.zero_le _, Nat.zero_le _⟩) (fun r h2 H locs hk2 Z => ?_)
  obtain ⟨rfl, rfl⟩ := hk2
  exact r_bret C Z hr (s_byt i hi k hk).2 ⟨rfl, rfl⟩ dJ0_charAt_5068e_15
section STR2
variable {p : Program} {l : Launch} {e : Env} {R : Room} {s : State} {m : MethodId} {args : Array Value} {below : List Frame} {meth : Method} {c : Code} {H : Heap} {locs : List Loc} {cells slots : Nat} {Q : State → Prop}
variable {cc : ByteArray} {pc : Nat} {ls : Array Slot} {rest : List Value} {g : Gt} {A : Nat → Prop} {h : Hp} {a : Nat} {own : String} {nL : Nat}
theorem r_slen (C : Cx g A RX7 cc nL p s m args meth c) (Z : St g A s h H locs) {i : Nat} (hi : i < 5) (hsize : ls.size = nL) (hR : 4 ≤ R.frames ∧ 100 ≤ R.locals) (hf : cells ≤ R.cells ∧ slots ≤ R.slots) (hW : (rest.map fun v => v.category).sum ≤ 8) (hdg : decode cc pc = .ok (.invokevirtual 32, 3))
    (kk : ∀ (H1 : Heap) (locs1 : List Loc), St g A s h H1 locs1 → W p l e R s m args below meth c H1 locs1 cells slots Q (F0 m (pc + 3) ls (.int (nI (sLn i)) :: rest))) : W p l e R s m args below meth c H locs cells slots Q (F0 m pc ls (.ref (g.2.2 (3 + i)) :: rest)) := by
  refine r_calli Z (va_runV (As := []) (rest := rest) C.1 (mJ_length l g h i hi) (cwV 0 C.1.2.2.2.2 (gV tw_622 tw_623 tw_624 tw_69 tw_625) rfl rfl rfl (by decide +kernel) ⟨by show 1 + 1 ≤ _; omega, by show 8 + (1 + 11) + 20 ≤ _; omega⟩) ⟨Pg.blind g h _, vk_recv C.2.2.2.2.2.2.2.2 hi Z.1, Pg.of C Z⟩ rfl rfl hsize rfl (lv_room hW) hdg hf) (fun r h2 H1 locs1 hk Z1 => ?_)
  obtain ⟨rfl, rfl⟩ := hk
  exact kk H1 locs1 Z1
theorem sCh_of {i : Nat} {x v : Int32} (hi : i < 5) (e : sCh i x = some v) : ∃ k : Nat, k < sLn i ∧ x = nI k ∧ v = nI ((sTx i).getD k 0) := by
  unfold sCh at e
  split at e
  · rename_i z
    obtain ⟨k, hk, rfl⟩ := vp_in_of (n := sLn i) z (s_l31 i hi)
    rw [nI_clamp (by have := s_l31 i hi; omega)] at e
    exact ⟨k, hk, rfl, (Option.some.inj e).symm⟩
  · cases e
theorem r_scharAt (C : Cx g A RX7 cc nL p s m args meth c) (Z : St g A s h H locs) {i : Nat} (hi : i < 5) (hsize : ls.size = nL) (hR : 4 ≤ R.frames ∧ 100 ≤ R.locals) (hf : cells ≤ R.cells ∧ slots ≤ R.slots) (hW : (rest.map fun v => v.category).sum ≤ 8) {x v : Int32} (hv : sCh i x = some v) (hdg : decode cc pc = .ok (.invokevirtual 37, 3))
    (kk : ∀ (H1 : Heap) (locs1 : List Loc), St g A s h H1 locs1 → W p l e R s m args below meth c H1 locs1 cells slots Q (F0 m (pc + 3) ls (.int v :: rest))) : W p l e R s m args below meth c H locs cells slots Q (F0 m pc ls (.int x :: .ref (g.2.2 (3 + i)) :: rest)) := by
  obtain ⟨k, hk, rfl, rfl⟩ := sCh_of hi hv
  refine r_calli Z (va_runV (As := [.int (nI k)]) (rest := rest) C.1 (mJ_charS l g h i k hi hk) (cwV 1 C.1.2.2.2.2 (gV tw_632 tw_633 tw_634 tw_69 tw_635) rfl rfl rfl (by decide +kernel) ⟨by show 3 + 1 ≤ _; omega, by show 8 + (2 + 11) + 64 ≤ _; omega⟩) ⟨Pg.blind g h _, vk_recv C.2.2.2.2.2.2.2.2 hi Z.1, Pg.of C Z⟩ rfl rfl hsize rfl (lv_room hW) hdg hf) (fun r h2 H1 locs1 hk Z1 => ?_)
  obtain ⟨rfl, rfl⟩ := hk
  exact kk H1 locs1 Z1
end STR2
end
section
/-! constructors: they make cells; the heap's size is known to the cell -/
def Stz (g : Gt) (A : Nat → Prop) (s : State) (h : Hp) (z : Nat) (H : Heap) (locs : List Loc) (cells : Nat) : Prop := z = s.heap.size + cells ∧ z ≤ H.size ∧ St g A s h H locs
def dmz (h : Hp) (z : Nat) : Nat → Prop := fun q => dm h q ∨ z ≤ q
def PBz (g : Gt) (h : Hp) (z : Nat) (U : State) : Prop := U.heap.size = z ∧ GP g U ∧ SP g (dmz h z) U U.heap ∧ ∃ w : va_W, va_P g.1 vwCl w U.heap ∧ va_D (dmz h z) w ∧ hpw g h w
def QBz (g : Gt) (h : Hp) (z mc : Nat) (h' : Hp) (t : State) : Prop := z + mc ≤ t.heap.size ∧ ∃ w : va_W, va_P g.1 vwCl w t.heap ∧ va_D (dmz h z) w ∧ hpw g h' w
abbrev Pgz (g : Gt) (h : Hp) (z : Nat) (av : List Value) : Array Value → State → Prop := va_Pc av (PBz g h z)
abbrev Qvz (g : Gt) (h : Hp) (z mc : Nat) (Post : Hp → Prop) : Array Value → State → Outcome → State → Prop := va_Qv (S := Hp) Post (QBz g h z mc) (dmz h z)
theorem Pgz.blind (g : Gt) (h : Hp) (z : Nat) (av : List Value) : FrameBlind (Pgz g h z av) := fun a U f mk q => ⟨q.1, q.2.1, GP.same (U := U.calling f mk a) rfl q.2.2.1, SP.moved (U := U.calling f mk a) (Vm.Alike.refl U.vm) q.2.2.2.1, q.2.2.2.2⟩
theorem hpw_push {g : Gt} {h : Hp} {w : va_W} (hw : hpw g h w) (a : Nat) (e : AE) : hpw g (hset h a e) (w ++ [(a, cv g e)]) := by
  refine ⟨fun b x hb => ?_, fun k q hk => ?_⟩
  · by_cases n : b = a
    · subst n
      rw [hset_s] at hb
      cases hb
      exact ⟨w.length, by rw [List.getElem?_append_right (Nat.le_refl _), Nat.sub_self]; rfl⟩
    · rw [hset_n n] at hb
      obtain ⟨k, hk⟩ := hw.1 b x hb
      exact ⟨k, by rw [List.getElem?_append_left (List.getElem?_eq_some_iff.mp hk).1]; exact hk⟩
  · by_cases n : q.1 = a
    · rw [n, hset_s]; rfl
    · rw [hset_n n]
      by_cases hl : k < w.length
      · rw [List.getElem?_append_left hl] at hk
        exact hw.2 k q hk
      · rw [List.getElem?_append_right (by omega)] at hk
        have hz : k - w.length < 1 := (List.getElem?_eq_some_iff.mp hk).1
        rw [show k - w.length = 0 by omega] at hk
        cases hk
        exact absurd rfl n
section CT
variable {p : Program} {l : Launch} {e : Env} {R : Room} {s : State} {m : MethodId} {args : Array Value} {below : List Frame} {meth : Method} {c : Code} {H : Heap} {locs : List Loc} {cells slots : Nat} {Q : State → Prop}
variable {cc : ByteArray} {pc : Nat} {ls : Array Slot} {rest : List Value} {g : Gt} {A : Nat → Prop} {h : Hp} {a z : Nat} {own : String} {nL : Nat}
theorem W_sz (Z : Stz g A s h z H locs cells) {f : JFrame} (k : H.size = z → W p l e R s m args below meth c H locs cells slots Q f) : W p l e R s m args below meth c H locs cells slots Q f := fun T hT X => k (by
  have h0 := X.heapSize
  rw [hT] at h0
  obtain ⟨h1, h2, -⟩ := Z
  omega) T hT X
/-- a store keeps the size: seen from the heap just before it -/
theorem Stz.here (Z : Stz g A s h z H locs cells) : va_S A H H locs := ⟨Nat.le_refl _, fun _ _ _ => rfl, Z.2.2.1.2.2⟩
theorem Stz.then (Z : Stz g A s h z H locs cells) {H1 : Heap} {locs1 : List Loc} (S : va_S A H H1 locs1) {h' : Hp} {w : va_W} (hP : va_P g.1 vwCl w H1) (hD : va_D A w) (hw : hpw g h' w) : Stz g A s h' z H1 locs1 cells := by
  obtain ⟨h1, h2, hS, -⟩ := Z
  refine ⟨h1, Nat.le_trans h2 S.1, ⟨Nat.le_trans hS.1 S.1, fun q h3 h4 => ?_, S.2.2⟩, w, hP, hD, hw⟩
  rw [S.2.1 q (Nat.lt_of_lt_of_le h3 hS.1) h4]
  exact hS.2.1 q h3 h4
theorem rz_put (C : Cx g A own cc nL p s m args meth c) (Z : Stz g A s h z H locs cells) {ci k idx : Nat} {CN : String} {T : u_T} {N : Nat} {v : Value} {h' : Hp} (hv : pF h a ci k v = some h') (hin : ∀ w ∈ u_ws CN T N, w ∈ gtb) {ty0 : Nat → FieldType} (hty : ∀ k, k < N → parseFieldDescriptor (T k).2.2.1 = some (ty0 k)) (hnm : ∀ a, a < N → ∀ b, b < N → a ≠ b → (T a).2.1 ≠ (T b).2.1) (hc : vwCl[ci]? = some (CN, T, N)) (hk : k < N) (hlink : Cond.fieldLink own idx (T k).1 (T k).2.1 (T k).2.2.1 ∈ gtb) (hfin : (T k).2.2.2 = false) (hn : narrow (ty0 k) v = v) (hfit : fits (ty0 k) v = true) (hdg : decode cc pc = .ok (.putfield idx, 3))
    (kk : ∀ (H1 : Heap) (locs1 : List Loc), Stz g A s h' z H1 locs1 cells → W p l e R s m args below meth c H1 locs1 cells slots Q (F0 m (pc + 3) ls rest)) : W p l e R s m args below meth c H locs cells slots Q (F0 m pc ls (v :: .ref a :: rest)) := by
  obtain ⟨⟨hx, hb, hml, hown, hts⟩, -, hG, -⟩ := C
  obtain ⟨-, w, hP, hD, hw⟩ := Z.2.2
  obtain ⟨fs, hfs, hkl, rfl⟩ := pF_of hv
  obtain ⟨q0, hq⟩ := hw.1 a _ hfs
  exact va_put hx hb hts hin ty0 hty hnm hown hG.1 hP hD Z.here q0 hq hc k hk (hts _ hlink) (fun x hx => hx) hfin (hty k hk) hn hfit hkl hdg (fun H1 locs1 hP1 hD1 hS1 => kk H1 locs1 (Z.then hS1 hP1 hD1 (hpw_set hw hq (.inr (ci, fs.set k v)))))
theorem rz_putF (C : Cx g A own cc nL p s m args meth c) (Z : Stz g A s h z H locs cells) {ci k idx : Nat} {CN : String} {T : u_T} {N : Nat} {v : Value} {h' : Hp} (hv : pF h a ci k v = some h') (hin : ∀ w ∈ u_ws CN T N, w ∈ gtb) {ty0 : Nat → FieldType} (hty : ∀ k, k < N → parseFieldDescriptor (T k).2.2.1 = some (ty0 k)) (hnm : ∀ a, a < N → ∀ b, b < N → a ≠ b → (T a).2.1 ≠ (T b).2.1) (hc : vwCl[ci]? = some (CN, T, N)) (hk : k < N) (hlink : Cond.fieldLink own idx (T k).1 (T k).2.1 (T k).2.2.1 ∈ gtb) (hfin : (T k).2.2.2 = true) (hin2 : meth.name = "<init>") (hdecl : (T k).1 = own) (hn : narrow (ty0 k) v = v) (hfit : fits (ty0 k) v = true) (hdg : decode cc pc = .ok (.putfield idx, 3))
    (kk : ∀ (H1 : Heap) (locs1 : List Loc), Stz g A s h' z H1 locs1 cells → W p l e R s m args below meth c H1 locs1 cells slots Q (F0 m (pc + 3) ls rest)) : W p l e R s m args below meth c H locs cells slots Q (F0 m pc ls (v :: .ref a :: rest)) := by
  obtain ⟨⟨hx, hb, hml, hown, hts⟩, -, hG, -⟩ := C
  obtain ⟨-, w, hP, hD, hw⟩ := Z.2.2
  obtain ⟨fs, hfs, hkl, rfl⟩ := pF_of hv
  obtain ⟨q0, hq⟩ := hw.1 a _ hfs
  exact va_putF hx hb hts hin ty0 hty hnm hown hG.1 hP hD Z.here q0 hq hc k hk (hts _ hlink) (fun x hx => hx) hfin hin2 hdecl (hty k hk) hn hfit hkl hdg (fun H1 locs1 hP1 hD1 hS1 => kk H1 locs1 (Z.then hS1 hP1 hD1 (hpw_set hw hq (.inr (ci, fs.set k v)))))
theorem rz_iast (C : Cx g A own cc nL p s m args meth c) (Z : Stz g A s h z H locs cells) {i x : Int32} {h' : Hp} (hv : sI h a i x = some h') (hdg : decode cc pc = .ok (.iastore, 1))
    (kk : ∀ (H1 : Heap) (locs1 : List Loc), Stz g A s h' z H1 locs1 cells → W p l e R s m args below meth c H1 locs1 cells slots Q (F0 m (pc + 1) ls rest)) : W p l e R s m args below meth c H locs cells slots Q (F0 m pc ls (.int x :: .int i :: .ref a :: rest)) := by
  obtain ⟨⟨hx, hb, hml, hown, hts⟩, -, hG, -⟩ := C
  obtain ⟨-, w, hP, hD, hw⟩ := Z.2.2
  obtain ⟨n, f, hf, hi, rfl⟩ := sI_of hv
  obtain ⟨q0, hq⟩ := hw.1 a _ hf
  exact va_iast hx hb hG.1 hP hD Z.here q0 0 hq (tysg_at g (by omega)) hi hdg (fun H1 locs1 hP1 hD1 hS1 => kk H1 locs1 (Z.then hS1 hP1 hD1 (hpw_set hw hq (.inl (0, n, .inl (upd f i.toNatClampNeg x))))))
theorem rz_last (C : Cx g A own cc nL p s m args meth c) (Z : Stz g A s h z H locs cells) {i : Int32} {x : Int64} {h' : Hp} (hv : sL h a i x = some h') (hdg : decode cc pc = .ok (.lastore, 1))
    (kk : ∀ (H1 : Heap) (locs1 : List Loc), Stz g A s h' z H1 locs1 cells → W p l e R s m args below meth c H1 locs1 cells slots Q (F0 m (pc + 1) ls rest)) : W p l e R s m args below meth c H locs cells slots Q (F0 m pc ls (.long x :: .int i :: .ref a :: rest)) := by
  obtain ⟨⟨hx, hb, hml, hown, hts⟩, -, hG, -⟩ := C
  obtain ⟨-, w, hP, hD, hw⟩ := Z.2.2
  obtain ⟨n, f, hf, hi, rfl⟩ := sL_of hv
  obtain ⟨q0, hq⟩ := hw.1 a _ hf
  exact va_last hx hb hG.1 hP hD Z.here q0 1 hq (tysg_at g (by omega)) hi hdg (fun H1 locs1 hP1 hD1 hS1 => kk H1 locs1 (Z.then hS1 hP1 hD1 (hpw_set hw hq (.inl (1, n, .inr (.inl (vp_updL f i.toNatClampNeg x)))))))
theorem rz_aast3 (C : Cx g A own cc nL p s m args meth c) (Z : Stz g A s h z H locs cells) {i : Int32} {v : Nat} {h' : Hp} (ho : isO h v 0) (hv : sQ h a 3 i v = some h') (hdg : decode cc pc = .ok (.aastore, 1))
    (kk : ∀ (H1 : Heap) (locs1 : List Loc), Stz g A s h' z H1 locs1 cells → W p l e R s m args below meth c H1 locs1 cells slots Q (F0 m (pc + 1) ls rest)) : W p l e R s m args below meth c H locs cells slots Q (F0 m pc ls (.ref v :: .int i :: .ref a :: rest)) := by
  obtain ⟨⟨hx, hb, hml, hown, hts⟩, -, hG, -⟩ := C
  obtain ⟨-, w, hP, hD, hw⟩ := Z.2.2
  obtain ⟨n, f, hf, hi, rfl⟩ := sQ_of hv
  obtain ⟨q0, hq⟩ := hw.1 a _ hf
  obtain ⟨fs, ho⟩ := ho
  obtain ⟨q1, hq1⟩ := hw.1 v _ ho
  exact va_astq hx hb hG.1 hP hD Z.here q0 3 q1 0 (r := (RX0, TX0, 11)) hq (tysg_at g (by omega)) hq1 rfl hi hdg (fun H1 locs1 hP1 hD1 hS1 => kk H1 locs1 (Z.then hS1 hP1 hD1 (hpw_set hw hq (.inl (3, n, .inr (.inr (.inr (.inr (va_up f i.toNatClampNeg (some v))))))))))
theorem rz_aast4 (C : Cx g A own cc nL p s m args meth c) (Z : Stz g A s h z H locs cells) {i : Int32} {v : Nat} {h' : Hp} (ho : isO h v 6) (hv : sQ h a 4 i v = some h') (hdg : decode cc pc = .ok (.aastore, 1))
    (kk : ∀ (H1 : Heap) (locs1 : List Loc), Stz g A s h' z H1 locs1 cells → W p l e R s m args below meth c H1 locs1 cells slots Q (F0 m (pc + 1) ls rest)) : W p l e R s m args below meth c H locs cells slots Q (F0 m pc ls (.ref v :: .int i :: .ref a :: rest)) := by
  obtain ⟨⟨hx, hb, hml, hown, hts⟩, -, hG, -⟩ := C
  obtain ⟨-, w, hP, hD, hw⟩ := Z.2.2
  obtain ⟨n, f, hf, hi, rfl⟩ := sQ_of hv
  obtain ⟨q0, hq⟩ := hw.1 a _ hf
  obtain ⟨fs, ho⟩ := ho
  obtain ⟨q1, hq1⟩ := hw.1 v _ ho
  exact va_astq hx hb hG.1 hP hD Z.here q0 4 q1 6 (r := (RX6, TX6, 2)) hq (tysg_at g (by omega)) hq1 rfl hi hdg (fun H1 locs1 hP1 hD1 hS1 => kk H1 locs1 (Z.then hS1 hP1 hD1 (hpw_set hw hq (.inl (4, n, .inr (.inr (.inr (.inr (va_up f i.toNatClampNeg (some v))))))))))
/-- a new cell at the heap's end -/
theorem Stz.push (Z : Stz g A s h z H locs cells) (hA : ∀ q, s.heap.size ≤ q → A q) (ez : H.size = z) {H1 : Heap} {x : AE} (z1 : H1.size = z + 1) (o1 : ∀ q, q < z → H1[q]? = H[q]?) (hx : va_at g.1 vwCl (z, cv g x) H1) : Stz g A s (hset h z x) (z + 1) H1 locs (cells + 1) := by
  obtain ⟨h1, h2, hS, w, hP, hD, hw⟩ := Z
  subst ez
  refine ⟨by omega, by omega, ⟨by have := hS.1; omega, fun q h3 h4 => (o1 q (Nat.lt_of_lt_of_le h3 hS.1)).trans (hS.2.1 q h3 h4), hS.2.2⟩, w ++ [(H.size, cv g x)], (hP.kept (fun k q hq => o1 q.1 (hP k q hq).lt)).app (fun k q hq => ?_), hD.push hP rfl (hA _ hS.1), hpw_push hw H.size x⟩
  have hz : k < 1 := (List.getElem?_eq_some_iff.mp hq).1
  rw [show k = 0 by omega] at hq
  cases hq
  exact hx
theorem rz_new (C : Cx g A own cc nL p s m args meth c) (Z : Stz g A s h z H locs cells) (hA : ∀ q, s.heap.size ≤ q → A q) {ci N idx : Nat} {CN : String} {T : u_T} {fs : List Value} (hc : vwCl[ci]? = some (CN, T, N)) (hin : ∀ w ∈ u_ws CN T N, w ∈ gtb) {ty : Nat → FieldType} (hty : ∀ k, k < N → parseFieldDescriptor (T k).2.2.1 = some (ty k)) (hcl : Cond.classLink own idx CN ∈ gtb) (hinst : Cond.instantiable CN N ∈ gtb) (hini : Cond.initialized CN ∈ gtb) (hfs : ∀ j, j < N → defaultValue (ty j) = vp_V fs j) (hcells : cells + 1 ≤ R.cells) (hslots : slots + N ≤ R.slots) (hdg : decode cc pc = .ok (.new idx, 3))
    (kk : ∀ H1 : Heap, Stz g A s (hset h z (.inr (ci, fs))) (z + 1) H1 locs (cells + 1) → W p l e R s m args below meth c H1 locs (cells + 1) (slots + N) Q (F0 m (pc + 3) ls (.ref z :: rest))) : W p l e R s m args below meth c H locs cells slots Q (F0 m pc ls rest) := by
  refine W_sz Z fun ez => ?_
  obtain ⟨⟨hx, hb, hml, hown, hts⟩, -, hG, -⟩ := C
  have hKn := hG.1.1 ci _ hc
  refine W.newcK hx hb hown (hts _ hcl) (hts _ hinst) (hts _ hini) rfl hdg hcells hslots hKn.2.1 ez fun H1 kC hkC e1 z1 o1 => ?_
  exact kk H1 (Z.push hA ez z1 o1 ⟨_, hc, (u_born ty hts hin hKn hkC e1 hty).to hfs⟩)
theorem rz_newa (C : Cx g A own cc nL p s m args meth c) (Z : Stz g A s h z H locs cells) (hA : ∀ q, s.heap.size ≤ q → A q) {atype : ArrayType} {t : Nat} (ht : t < 3) (hty : newarray.typeOf atype = tyn t) (harr : Cond.arrayClass (newarray.typeOf atype) ∈ gtb) {n : Int32} {N : Nat} {x : (Nat → Int32) ⊕ (Nat → Int64) ⊕ (Nat → UInt32) ⊕ (Nat → UInt64) ⊕ (Nat → Option Nat)} (hxx : ∀ cA : ClassId, vp_cell cA (N, x) = arrV cA N (fun _ => defaultValue (newarray.typeOf atype))) (hn : ¬ n < 0) (hN : n.toNatClampNeg = N) (hbytes : N * componentBytes (newarray.typeOf atype) ≤ 536870912) (hcells : cells + 1 ≤ R.cells) (hslots : slots + N ≤ R.slots) (hdg : decode cc pc = .ok (.newarray atype, 2))
    (kk : ∀ H1 : Heap, Stz g A s (hset h z (.inl (t, N, x))) (z + 1) H1 locs (cells + 1) → W p l e R s m args below meth c H1 locs (cells + 1) (slots + N) Q (F0 m (pc + 2) ls (.ref z :: rest))) : W p l e R s m args below meth c H locs cells slots Q (F0 m pc ls (.int n :: rest)) := by
  refine W_sz Z fun ez => ?_
  obtain ⟨⟨hx, hb, hml, hown, hts⟩, -, hG, -⟩ := C
  refine va_newaK hx hb (hts _ harr) rfl hdg rfl hn hN hbytes hcells hslots ez fun H1 cA e1 z1 o1 hAr hNm => ?_
  refine kk H1 (Z.push hA ez z1 o1 ?_)
  have hr := (hG.1.2 t _ (tysg_at g (by omega))).2
  have hcA : g.2.1 t = cA := by
    rw [hty] at hNm
    match t, ht with
    | 0, _ => exact Option.some.inj (hr.symm.trans hNm)
    | 1, _ => exact Option.some.inj (hr.symm.trans hNm)
    | 2, _ => exact Option.some.inj (hr.symm.trans hNm)
  show H1[z]? = some (vp_cell (g.2.1 t) (N, x))
  rw [hcA, hxx]
  exact e1
theorem rz_anew (C : Cx g A own cc nL p s m args meth c) (Z : Stz g A s h z H locs cells) (hA : ∀ q, s.heap.size ≤ q → A q) {CN : String} {t idx : Nat} (ht : t = 3 ∨ t = 4) (hty : tyn t = .object CN) (hcl : Cond.classLink own idx CN ∈ gtb) (hao : va_AO CN s) {n : Int32} {N : Nat} (hn : ¬ n < 0) (hN : n.toNatClampNeg = N) (hbytes : N * 4 ≤ 536870912) (hcells : cells + 1 ≤ R.cells) (hslots : slots + N ≤ R.slots) (hdg : decode cc pc = .ok (.anewarray idx, 3))
    (kk : ∀ H1 : Heap, Stz g A s (hset h z (.inl (t, N, .inr (.inr (.inr (.inr (fun _ => none))))))) (z + 1) H1 locs (cells + 1) → W p l e R s m args below meth c H1 locs (cells + 1) (slots + N) Q (F0 m (pc + 3) ls (.ref z :: rest))) : W p l e R s m args below meth c H locs cells slots Q (F0 m pc ls (.int n :: rest)) := by
  refine W_sz Z fun ez => ?_
  obtain ⟨⟨hx, hb, hml, hown, hts⟩, -, hG, -⟩ := C
  subst hN
  refine W.anew hx hb hown (hts _ hcl) (va_AO.use hao) rfl hdg rfl hn hbytes hcells hslots fun cA kA comp f1 f2 f3 f4 => ?_
  generalize hH1 : H.push ({ cls := cA, slots := Array.replicate n.toNatClampNeg .null, vm := .none } : Cell) = H1
  have z1 : H1.size = z + 1 := by rw [← hH1, Array.size_push, ez]
  have e1 : H1[z]? = some (arrV cA n.toNatClampNeg (fun _ => .null)) := by rw [← hH1, ← ez, Array.getElem?_push_size, ← arrV_new]
  have o1 : ∀ q : Nat, q < z → H1[q]? = H[q]? := fun q hq => by rw [← hH1, Array.getElem?_push, if_neg (by omega)]
  rw [ez]
  refine kk H1 (Z.push hA ez z1 o1 ?_)
  have hr := (hG.1.2 t _ (tysg_at g (by omega))).2
  rw [hty] at hr
  obtain ⟨kA', comp', g1, g2, g3, g4⟩ := hr
  have hcA : g.2.1 t = cA := Option.some.inj (g4.symm.trans f1)
  show H1[z]? = some (vp_cell (g.2.1 t) _)
  rw [hcA, e1]
  rfl
/-- a call of a nest mate's constructor -/
theorem rz_init (C : Cx g A own cc nL p s m args meth c) (Z : Stz g A s h z H locs cells) (hA : ∀ q, s.heap.size ≤ q → A q) {y : MethodName} {wsy : List Cond} {rm : Room} {bytes : ByteArray} {maxL idx mc ms : Nat} {Post : Hp → Prop} (hM : Met l y wsy rm (Pgz g h z [.ref a]) (Qvz g h z mc Post) mc ms (dmz h z)) (cw : va_CN R s args own idx y "SmudgeTally" bytes maxL none wsy rm mc ms 0 ∧ y.name = "<init>" ∧ (Cond.instanceMethod y).before args s = true) (hsize : ls.size = nL) (hW : (rest.map fun v => v.category).sum ≤ 8) (hdg : decode cc pc = .ok (.invokespecial idx, 3)) (hf : cells + mc ≤ R.cells ∧ slots + ms ≤ R.slots)
    (kk : ∀ (h' : Hp) (H1 : Heap) (locs1 : List Loc), Post h' → Stz g A s h' (z + mc) H1 locs1 (cells + mc) → W p l e R s m args below meth c H1 locs1 (cells + mc) (slots + ms) Q (F0 m (pc + 3) ls rest)) : W p l e R s m args below meth c H locs cells slots Q (F0 m pc ls (.ref a :: rest)) := by
  refine W_sz Z fun ez => ?_
  obtain ⟨h1, h2, Z2⟩ := id Z
  have hsub : ∀ q, dmz h z q → A q := fun q hq => hq.elim (Z2.sub q) (fun hq => hA q (by omega))
  obtain ⟨hS, w, hP, hD, hw⟩ := id Z2
  refine va_callv (va_runIN (As := []) C.1 hM cw ⟨Pgz.blind g h z _, fun U hU hW => ⟨rfl, by rw [hU]; exact ez, GP.moved hW C.2.2.1, ?_, w, by rw [hU]; exact hP, ⟨hD.1, fun k q hk => Or.inl (hw.2 k q hk)⟩, hw⟩⟩ rfl rfl hsize rfl (lv_room hW) hdg hf) hS (fun q _ hq => hsub q hq) hsub (fun u t H1 locs1 ht _ hp hB hz1 hk1 hS1 => kk u H1 locs1 hp ?_)
  · rw [hU]
    exact SP.moved hW.alike (SP.narrow (SP.kept C.2.2.2 (fun q h1 h2 => hS.2.1 q h1 h2)) hsub)
  · obtain ⟨hz, w1, hP1, hD1, hw1⟩ := hB
    rw [ht] at hz hP1
    exact ⟨by omega, hz, hS1, w1, hP1, hD1.weaken (fun k q _ hq => hsub _ hq), hw1⟩
theorem rz_vret {mc : Nat} (hmc : cells = mc) (C : Cx g (dmz h z) own cc nL p s m args meth c) {h' : Hp} {z' : Nat} (hz0 : s.heap.size = z) (Z : Stz g (dmz h z) s h' z' H locs cells) {Post : Hp → Prop} (hr : meth.sig.returnType = none) (hp : Post h') (hdg : decode cc pc = .ok (.return_, 1)) : W p l e R s m args below meth c H locs cells slots (MQ below (Qvz g h z mc Post) args s cells slots (dmz h z)) (F0 m pc ls []) := by
  obtain ⟨h1, h2, hS, w, hP, hD, hw⟩ := Z
  exact W.vret C.1.1 C.1.2.1 hr (fun t ht hW => ⟨⟨h', rfl, hp, by rw [ht]; omega, w, by rw [ht]; exact hP, hD, hw⟩, hS.F ht⟩) hS.2.2 hdg C.2.1
end CT
theorem Met_ofz {l : Launch} {y : MethodName} {rm : Room} {mc ms : Nat} {Post : Hp → Prop} {cc : ByteArray} {maxL : Nat} {ret : Option FieldType} {g : Gt} {h : Hp} {z : Nat} {av : List Value} (hy : plainName y.cls = true) (hav : (lg_sl av).length ≤ maxL)
    (body : ∀ p e s m below meth c ls, Cx g (dmz h z) y.cls cc maxL p s m av.toArray meth c → meth.sig.returnType = ret → meth.name = y.name → lv_has ls maxL (lv_args 0 av) → s.heap.size = z → Stz g (dmz h z) s h z s.heap [] 0 →
      W p l e rm s m av.toArray below meth c s.heap [] 0 0 (MQ below (Qvz g h z mc Post) av.toArray s mc ms (dmz h z)) (F0 m 0 ls [])) : Met l y (WS y cc maxL ret) rm (Pgz g h z av) (Qvz g h z mc Post) mc ms (dmz h z) := by
  refine Met.ofW (cc := cc) (maxL := maxL) (ret := ret) hy rfl ?_
  intro p e s m args below meth c s₁ B hml hv
  obtain ⟨rfl, hz, hG, hSP, w, hP, hD, hwp⟩ := hv
  have hl := lv_entry av (n := maxL) hav
  rw [lg_entry_eq]
  exact body p e s m below meth c _ ⟨⟨B.exec, B.bytes, hml, findClass_of_methodNamed B.named, fun w hw => atoms_spec (ws := WS y cc maxL ret) B.pre w (List.mem_cons_of_mem _ hw)⟩, B.notSynchronized, hG, hSP⟩ B.returns (name_of_methodNamed B.named B.method).1 hl hz ⟨by omega, by omega, va_S.rf, w, hP, hD, hwp⟩
end
