section
-- ===== PART A: goes FIRST, ahead of the names: the tables' words, and 'selects' of the private methods out of them =====
/-- a private method of a class that the tables say can be made, by its rows of tables_1 -/
def lw_okq (q : MethodName × Nat) : Prop := (q.1.cls ≠ "java/lang/invoke/MethodHandle" ∧ q.1.cls ≠ "java/lang/invoke/VarHandle") ∧ Cond.instantiable q.1.cls q.2 ∈ tables_1 ∧ Cond.privateMethod q.1 ∈ tables_1 ∧ Cond.instanceMethod q.1 ∈ tables_1
theorem lw_p0 : lw_okq (⟨"ChanceArena", "growTape", "()[C"⟩, 19) := ⟨⟨by decide +kernel, by decide +kernel⟩, List.mem_of_getElem? (i := 41) (by decide +kernel), List.mem_of_getElem? (i := 718) (by decide +kernel), List.mem_of_getElem? (i := 719) (by decide +kernel)⟩
theorem lw_p1 : lw_okq (⟨"ChanceArena", "putFour", "(I)V"⟩, 19) := ⟨⟨by decide +kernel, by decide +kernel⟩, List.mem_of_getElem? (i := 41) (by decide +kernel), List.mem_of_getElem? (i := 725) (by decide +kernel), List.mem_of_getElem? (i := 726) (by decide +kernel)⟩
theorem lw_p2 : lw_okq (⟨"ChanceArena$Words", "reserve", "(I)V"⟩, 6) := ⟨⟨by decide +kernel, by decide +kernel⟩, List.mem_of_getElem? (i := 49) (by decide +kernel), List.mem_of_getElem? (i := 737) (by decide +kernel), List.mem_of_getElem? (i := 738) (by decide +kernel)⟩
theorem lw_p3 : lw_okq (⟨"ChanceArena$Words", "afterBlanks", "(I)I"⟩, 6) := ⟨⟨by decide +kernel, by decide +kernel⟩, List.mem_of_getElem? (i := 49) (by decide +kernel), List.mem_of_getElem? (i := 741) (by decide +kernel), List.mem_of_getElem? (i := 742) (by decide +kernel)⟩
theorem lw_p4 : lw_okq (⟨"ChanceArena$Words", "takeWord", "(I)I"⟩, 6) := ⟨⟨by decide +kernel, by decide +kernel⟩, List.mem_of_getElem? (i := 49) (by decide +kernel), List.mem_of_getElem? (i := 745) (by decide +kernel), List.mem_of_getElem? (i := 746) (by decide +kernel)⟩
theorem lw_p5 : lw_okq (⟨"ChanceArena$Words", "takeName", "(I)I"⟩, 6) := ⟨⟨by decide +kernel, by decide +kernel⟩, List.mem_of_getElem? (i := 49) (by decide +kernel), List.mem_of_getElem? (i := 752) (by decide +kernel), List.mem_of_getElem? (i := 753) (by decide +kernel)⟩
theorem lw_p6 : lw_okq (⟨"ChanceArena$Words", "nameSort", "(II)I"⟩, 6) := ⟨⟨by decide +kernel, by decide +kernel⟩, List.mem_of_getElem? (i := 49) (by decide +kernel), List.mem_of_getElem? (i := 759) (by decide +kernel), List.mem_of_getElem? (i := 760) (by decide +kernel)⟩
theorem lw_p7 : lw_okq (⟨"ChanceArena$Words", "spells", "(ILjava/lang/String;)Z"⟩, 6) := ⟨⟨by decide +kernel, by decide +kernel⟩, List.mem_of_getElem? (i := 49) (by decide +kernel), List.mem_of_getElem? (i := 764) (by decide +kernel), List.mem_of_getElem? (i := 765) (by decide +kernel)⟩
theorem lw_p8 : lw_okq (⟨"ChanceArena$Words", "add", "(III)V"⟩, 6) := ⟨⟨by decide +kernel, by decide +kernel⟩, List.mem_of_getElem? (i := 49) (by decide +kernel), List.mem_of_getElem? (i := 828) (by decide +kernel), List.mem_of_getElem? (i := 829) (by decide +kernel)⟩
theorem lw_p9 : lw_okq (⟨"ChanceArena$Words", "takeNumber", "(I)I"⟩, 6) := ⟨⟨by decide +kernel, by decide +kernel⟩, List.mem_of_getElem? (i := 49) (by decide +kernel), List.mem_of_getElem? (i := 832) (by decide +kernel), List.mem_of_getElem? (i := 833) (by decide +kernel)⟩
theorem lw_p10 : lw_okq (⟨"ChanceArena$TextReader", "readVar", "()Z"⟩, 9) := ⟨⟨by decide +kernel, by decide +kernel⟩, List.mem_of_getElem? (i := 84) (by decide +kernel), List.mem_of_getElem? (i := 854) (by decide +kernel), List.mem_of_getElem? (i := 855) (by decide +kernel)⟩
theorem lw_p11 : lw_okq (⟨"ChanceArena$TextReader", "readName", "(Z)Z"⟩, 9) := ⟨⟨by decide +kernel, by decide +kernel⟩, List.mem_of_getElem? (i := 84) (by decide +kernel), List.mem_of_getElem? (i := 858) (by decide +kernel), List.mem_of_getElem? (i := 859) (by decide +kernel)⟩
theorem lw_p12 : lw_okq (⟨"ChanceArena$TextReader", "readItemRule", "(II)Z"⟩, 9) := ⟨⟨by decide +kernel, by decide +kernel⟩, List.mem_of_getElem? (i := 84) (by decide +kernel), List.mem_of_getElem? (i := 882) (by decide +kernel), List.mem_of_getElem? (i := 883) (by decide +kernel)⟩
theorem lw_p13 : lw_okq (⟨"ChanceArena$RuleReader", "takeOperand", "()I"⟩, 20) := ⟨⟨by decide +kernel, by decide +kernel⟩, List.mem_of_getElem? (i := 90) (by decide +kernel), List.mem_of_getElem? (i := 891) (by decide +kernel), List.mem_of_getElem? (i := 892) (by decide +kernel)⟩
theorem lw_p14 : lw_okq (⟨"ChanceArena$RuleReader", "takeValue", "(IIZ)I"⟩, 20) := ⟨⟨by decide +kernel, by decide +kernel⟩, List.mem_of_getElem? (i := 90) (by decide +kernel), List.mem_of_getElem? (i := 895) (by decide +kernel), List.mem_of_getElem? (i := 896) (by decide +kernel)⟩
theorem lw_p15 : lw_okq (⟨"ChanceArena$RuleReader", "pushKind", "(Z)V"⟩, 20) := ⟨⟨by decide +kernel, by decide +kernel⟩, List.mem_of_getElem? (i := 90) (by decide +kernel), List.mem_of_getElem? (i := 903) (by decide +kernel), List.mem_of_getElem? (i := 904) (by decide +kernel)⟩
def lw_privs_1 : List (MethodName × Nat) := [(⟨"ChanceArena", "growTape", "()[C"⟩, 19), (⟨"ChanceArena", "putFour", "(I)V"⟩, 19), (⟨"ChanceArena$Words", "reserve", "(I)V"⟩, 6), (⟨"ChanceArena$Words", "afterBlanks", "(I)I"⟩, 6), (⟨"ChanceArena$Words", "takeWord", "(I)I"⟩, 6), (⟨"ChanceArena$Words", "takeName", "(I)I"⟩, 6), (⟨"ChanceArena$Words", "nameSort", "(II)I"⟩, 6), (⟨"ChanceArena$Words", "spells", "(ILjava/lang/String;)Z"⟩, 6), (⟨"ChanceArena$Words", "add", "(III)V"⟩, 6), (⟨"ChanceArena$Words", "takeNumber", "(I)I"⟩, 6), (⟨"ChanceArena$TextReader", "readVar", "()Z"⟩, 9), (⟨"ChanceArena$TextReader", "readName", "(Z)Z"⟩, 9), (⟨"ChanceArena$TextReader", "readItemRule", "(II)Z"⟩, 9), (⟨"ChanceArena$RuleReader", "takeOperand", "()I"⟩, 20), (⟨"ChanceArena$RuleReader", "takeValue", "(IIZ)I"⟩, 20), (⟨"ChanceArena$RuleReader", "pushKind", "(Z)V"⟩, 20)]
theorem lw_r1 : ∀ q ∈ lw_privs_1, lw_okq q := List.forall_mem_cons.mpr ⟨lw_p0, List.forall_mem_cons.mpr ⟨lw_p1, List.forall_mem_cons.mpr ⟨lw_p2, List.forall_mem_cons.mpr ⟨lw_p3, List.forall_mem_cons.mpr ⟨lw_p4, List.forall_mem_cons.mpr ⟨lw_p5, List.forall_mem_cons.mpr ⟨lw_p6, List.forall_mem_cons.mpr ⟨lw_p7, List.forall_mem_cons.mpr ⟨lw_p8, List.forall_mem_cons.mpr ⟨lw_p9, List.forall_mem_cons.mpr ⟨lw_p10, List.forall_mem_cons.mpr ⟨lw_p11, List.forall_mem_cons.mpr ⟨lw_p12, List.forall_mem_cons.mpr ⟨lw_p13, List.forall_mem_cons.mpr ⟨lw_p14, List.forall_mem_cons.mpr ⟨lw_p15, fun _ h => absurd h List.not_mem_nil⟩⟩⟩⟩⟩⟩⟩⟩⟩⟩⟩⟩⟩⟩⟩⟩
theorem lw_p16 : lw_okq (⟨"ChanceArena$RuleReader", "takeLevel", "(II)I"⟩, 20) := ⟨⟨by decide +kernel, by decide +kernel⟩, List.mem_of_getElem? (i := 90) (by decide +kernel), List.mem_of_getElem? (i := 909) (by decide +kernel), List.mem_of_getElem? (i := 910) (by decide +kernel)⟩
theorem lw_p17 : lw_okq (⟨"ChanceArena$RuleReader", "push", "(III)V"⟩, 20) := ⟨⟨by decide +kernel, by decide +kernel⟩, List.mem_of_getElem? (i := 90) (by decide +kernel), List.mem_of_getElem? (i := 913) (by decide +kernel), List.mem_of_getElem? (i := 914) (by decide +kernel)⟩
theorem lw_p18 : lw_okq (⟨"ChanceArena$RuleReader", "mayDeny", "()Z"⟩, 20) := ⟨⟨by decide +kernel, by decide +kernel⟩, List.mem_of_getElem? (i := 90) (by decide +kernel), List.mem_of_getElem? (i := 917) (by decide +kernel), List.mem_of_getElem? (i := 918) (by decide +kernel)⟩
theorem lw_p19 : lw_okq (⟨"ChanceArena$RuleReader", "takeOperator", "(Z)I"⟩, 20) := ⟨⟨by decide +kernel, by decide +kernel⟩, List.mem_of_getElem? (i := 90) (by decide +kernel), List.mem_of_getElem? (i := 924) (by decide +kernel), List.mem_of_getElem? (i := 925) (by decide +kernel)⟩
theorem lw_p20 : lw_okq (⟨"ChanceArena$RuleReader", "group", "()V"⟩, 20) := ⟨⟨by decide +kernel, by decide +kernel⟩, List.mem_of_getElem? (i := 90) (by decide +kernel), List.mem_of_getElem? (i := 931) (by decide +kernel), List.mem_of_getElem? (i := 932) (by decide +kernel)⟩
theorem lw_p21 : lw_okq (⟨"ChanceArena$RuleReader", "popKind", "()Z"⟩, 20) := ⟨⟨by decide +kernel, by decide +kernel⟩, List.mem_of_getElem? (i := 90) (by decide +kernel), List.mem_of_getElem? (i := 935) (by decide +kernel), List.mem_of_getElem? (i := 936) (by decide +kernel)⟩
theorem lw_p22 : lw_okq (⟨"ChanceArena$RuleReader", "takeSign", "(II)I"⟩, 20) := ⟨⟨by decide +kernel, by decide +kernel⟩, List.mem_of_getElem? (i := 90) (by decide +kernel), List.mem_of_getElem? (i := 939) (by decide +kernel), List.mem_of_getElem? (i := 940) (by decide +kernel)⟩
theorem lw_p23 : lw_okq (⟨"ChanceArena$RuleReader", "takeAsk", "()I"⟩, 20) := ⟨⟨by decide +kernel, by decide +kernel⟩, List.mem_of_getElem? (i := 90) (by decide +kernel), List.mem_of_getElem? (i := 943) (by decide +kernel), List.mem_of_getElem? (i := 944) (by decide +kernel)⟩
theorem lw_p24 : lw_okq (⟨"ChanceArena$RuleReader", "closeInner", "(II)I"⟩, 20) := ⟨⟨by decide +kernel, by decide +kernel⟩, List.mem_of_getElem? (i := 90) (by decide +kernel), List.mem_of_getElem? (i := 947) (by decide +kernel), List.mem_of_getElem? (i := 948) (by decide +kernel)⟩
theorem lw_p25 : lw_okq (⟨"ChanceArena$TextReader", "readTarget", "()Z"⟩, 9) := ⟨⟨by decide +kernel, by decide +kernel⟩, List.mem_of_getElem? (i := 84) (by decide +kernel), List.mem_of_getElem? (i := 956) (by decide +kernel), List.mem_of_getElem? (i := 957) (by decide +kernel)⟩
theorem lw_p26 : lw_okq (⟨"ChanceArena$TextReader", "readCommand", "(I)Z"⟩, 9) := ⟨⟨by decide +kernel, by decide +kernel⟩, List.mem_of_getElem? (i := 84) (by decide +kernel), List.mem_of_getElem? (i := 960) (by decide +kernel), List.mem_of_getElem? (i := 961) (by decide +kernel)⟩
theorem lw_p27 : lw_okq (⟨"ChanceArena$TextReader", "readChance", "(I)Z"⟩, 9) := ⟨⟨by decide +kernel, by decide +kernel⟩, List.mem_of_getElem? (i := 84) (by decide +kernel), List.mem_of_getElem? (i := 967) (by decide +kernel), List.mem_of_getElem? (i := 968) (by decide +kernel)⟩
theorem lw_p28 : lw_okq (⟨"ChanceArena$TextReader", "readSets", "()Z"⟩, 9) := ⟨⟨by decide +kernel, by decide +kernel⟩, List.mem_of_getElem? (i := 84) (by decide +kernel), List.mem_of_getElem? (i := 971) (by decide +kernel), List.mem_of_getElem? (i := 972) (by decide +kernel)⟩
theorem lw_p29 : lw_okq (⟨"ChanceArena$TextReader", "readNamed", "(I)Z"⟩, 9) := ⟨⟨by decide +kernel, by decide +kernel⟩, List.mem_of_getElem? (i := 84) (by decide +kernel), List.mem_of_getElem? (i := 984) (by decide +kernel), List.mem_of_getElem? (i := 985) (by decide +kernel)⟩
theorem lw_p30 : lw_okq (⟨"ChanceArena$TextReader", "settleVar", "()V"⟩, 9) := ⟨⟨by decide +kernel, by decide +kernel⟩, List.mem_of_getElem? (i := 84) (by decide +kernel), List.mem_of_getElem? (i := 989) (by decide +kernel), List.mem_of_getElem? (i := 990) (by decide +kernel)⟩
theorem lw_p31 : lw_okq (⟨"ChanceArena$TextReader", "worksOut", "(IZ)Z"⟩, 9) := ⟨⟨by decide +kernel, by decide +kernel⟩, List.mem_of_getElem? (i := 84) (by decide +kernel), List.mem_of_getElem? (i := 993) (by decide +kernel), List.mem_of_getElem? (i := 994) (by decide +kernel)⟩
def lw_privs_2 : List (MethodName × Nat) := [(⟨"ChanceArena$RuleReader", "takeLevel", "(II)I"⟩, 20), (⟨"ChanceArena$RuleReader", "push", "(III)V"⟩, 20), (⟨"ChanceArena$RuleReader", "mayDeny", "()Z"⟩, 20), (⟨"ChanceArena$RuleReader", "takeOperator", "(Z)I"⟩, 20), (⟨"ChanceArena$RuleReader", "group", "()V"⟩, 20), (⟨"ChanceArena$RuleReader", "popKind", "()Z"⟩, 20), (⟨"ChanceArena$RuleReader", "takeSign", "(II)I"⟩, 20), (⟨"ChanceArena$RuleReader", "takeAsk", "()I"⟩, 20), (⟨"ChanceArena$RuleReader", "closeInner", "(II)I"⟩, 20), (⟨"ChanceArena$TextReader", "readTarget", "()Z"⟩, 9), (⟨"ChanceArena$TextReader", "readCommand", "(I)Z"⟩, 9), (⟨"ChanceArena$TextReader", "readChance", "(I)Z"⟩, 9), (⟨"ChanceArena$TextReader", "readSets", "()Z"⟩, 9), (⟨"ChanceArena$TextReader", "readNamed", "(I)Z"⟩, 9), (⟨"ChanceArena$TextReader", "settleVar", "()V"⟩, 9), (⟨"ChanceArena$TextReader", "worksOut", "(IZ)Z"⟩, 9)]
theorem lw_r2 : ∀ q ∈ lw_privs_2, lw_okq q := List.forall_mem_cons.mpr ⟨lw_p16, List.forall_mem_cons.mpr ⟨lw_p17, List.forall_mem_cons.mpr ⟨lw_p18, List.forall_mem_cons.mpr ⟨lw_p19, List.forall_mem_cons.mpr ⟨lw_p20, List.forall_mem_cons.mpr ⟨lw_p21, List.forall_mem_cons.mpr ⟨lw_p22, List.forall_mem_cons.mpr ⟨lw_p23, List.forall_mem_cons.mpr ⟨lw_p24, List.forall_mem_cons.mpr ⟨lw_p25, List.forall_mem_cons.mpr ⟨lw_p26, List.forall_mem_cons.mpr ⟨lw_p27, List.forall_mem_cons.mpr ⟨lw_p28, List.forall_mem_cons.mpr ⟨lw_p29, List.forall_mem_cons.mpr ⟨lw_p30, List.forall_mem_cons.mpr ⟨lw_p31, fun _ h => absurd h List.not_mem_nil⟩⟩⟩⟩⟩⟩⟩⟩⟩⟩⟩⟩⟩⟩⟩⟩
theorem lw_p32 : lw_okq (⟨"ChanceArena$Machine", "push", "(II)V"⟩, 16) := ⟨⟨by decide +kernel, by decide +kernel⟩, List.mem_of_getElem? (i := 164) (by decide +kernel), List.mem_of_getElem? (i := 1002) (by decide +kernel), List.mem_of_getElem? (i := 1003) (by decide +kernel)⟩
theorem lw_p33 : lw_okq (⟨"ChanceArena$Machine", "meet", "(II)I"⟩, 16) := ⟨⟨by decide +kernel, by decide +kernel⟩, List.mem_of_getElem? (i := 164) (by decide +kernel), List.mem_of_getElem? (i := 1018) (by decide +kernel), List.mem_of_getElem? (i := 1019) (by decide +kernel)⟩
theorem lw_p34 : lw_okq (⟨"ChanceArena$Machine", "comeBack", "()I"⟩, 16) := ⟨⟨by decide +kernel, by decide +kernel⟩, List.mem_of_getElem? (i := 164) (by decide +kernel), List.mem_of_getElem? (i := 1022) (by decide +kernel), List.mem_of_getElem? (i := 1023) (by decide +kernel)⟩
theorem lw_p35 : lw_okq (⟨"ChanceArena$Machine", "compute", "(II)Z"⟩, 16) := ⟨⟨by decide +kernel, by decide +kernel⟩, List.mem_of_getElem? (i := 164) (by decide +kernel), List.mem_of_getElem? (i := 1026) (by decide +kernel), List.mem_of_getElem? (i := 1027) (by decide +kernel)⟩
theorem lw_p36 : lw_okq (⟨"ChanceArena$Machine", "store", "(II)Z"⟩, 16) := ⟨⟨by decide +kernel, by decide +kernel⟩, List.mem_of_getElem? (i := 164) (by decide +kernel), List.mem_of_getElem? (i := 1030) (by decide +kernel), List.mem_of_getElem? (i := 1031) (by decide +kernel)⟩
theorem lw_p37 : lw_okq (⟨"ChanceArena$Machine", "stop", "(II)Z"⟩, 16) := ⟨⟨by decide +kernel, by decide +kernel⟩, List.mem_of_getElem? (i := 164) (by decide +kernel), List.mem_of_getElem? (i := 1034) (by decide +kernel), List.mem_of_getElem? (i := 1035) (by decide +kernel)⟩
theorem lw_p38 : lw_okq (⟨"ChanceArena$Machine", "settle", "(JJI)Z"⟩, 16) := ⟨⟨by decide +kernel, by decide +kernel⟩, List.mem_of_getElem? (i := 164) (by decide +kernel), List.mem_of_getElem? (i := 1038) (by decide +kernel), List.mem_of_getElem? (i := 1039) (by decide +kernel)⟩
theorem lw_p39 : lw_okq (⟨"ChanceArena$Machine", "relate", "(II)Z"⟩, 16) := ⟨⟨by decide +kernel, by decide +kernel⟩, List.mem_of_getElem? (i := 164) (by decide +kernel), List.mem_of_getElem? (i := 1053) (by decide +kernel), List.mem_of_getElem? (i := 1054) (by decide +kernel)⟩
theorem lw_p40 : lw_okq (⟨"ChanceArena$TextReader", "settleNamed", "(I)V"⟩, 9) := ⟨⟨by decide +kernel, by decide +kernel⟩, List.mem_of_getElem? (i := 84) (by decide +kernel), List.mem_of_getElem? (i := 1061) (by decide +kernel), List.mem_of_getElem? (i := 1062) (by decide +kernel)⟩
theorem lw_p41 : lw_okq (⟨"ChanceArena", "forget", "()V"⟩, 19) := ⟨⟨by decide +kernel, by decide +kernel⟩, List.mem_of_getElem? (i := 41) (by decide +kernel), List.mem_of_getElem? (i := 1073) (by decide +kernel), List.mem_of_getElem? (i := 1074) (by decide +kernel)⟩
theorem lw_p42 : lw_okq (⟨"ChanceArena", "fractionOf", "(II)LChanceArena$Fraction;"⟩, 19) := ⟨⟨by decide +kernel, by decide +kernel⟩, List.mem_of_getElem? (i := 41) (by decide +kernel), List.mem_of_getElem? (i := 1128) (by decide +kernel), List.mem_of_getElem? (i := 1129) (by decide +kernel)⟩
theorem lw_p43 : lw_okq (⟨"ChanceArena$Scales", "commonDivisor", "(LChanceArena$Natural;LChanceArena$Natural;)LChanceArena$Natural;"⟩, 11) := ⟨⟨by decide +kernel, by decide +kernel⟩, List.mem_of_getElem? (i := 468) (by decide +kernel), List.mem_of_getElem? (i := 1156) (by decide +kernel), List.mem_of_getElem? (i := 1157) (by decide +kernel)⟩
theorem lw_p44 : lw_okq (⟨"ChanceArena$Natural", "trim", "(I)V"⟩, 2) := ⟨⟨by decide +kernel, by decide +kernel⟩, List.mem_of_getElem? (i := 474) (by decide +kernel), List.mem_of_getElem? (i := 1174) (by decide +kernel), List.mem_of_getElem? (i := 1175) (by decide +kernel)⟩
theorem lw_p45 : lw_okq (⟨"ChanceArena$Scales", "findFactors", "(JJ)Z"⟩, 11) := ⟨⟨by decide +kernel, by decide +kernel⟩, List.mem_of_getElem? (i := 468) (by decide +kernel), List.mem_of_getElem? (i := 1186) (by decide +kernel), List.mem_of_getElem? (i := 1187) (by decide +kernel)⟩
theorem lw_p46 : lw_okq (⟨"java/lang/Throwable", "fillInStackTrace", "(I)Ljava/lang/Throwable;"⟩, 6) := ⟨⟨by decide +kernel, by decide +kernel⟩, List.mem_of_getElem? (i := 1246) (by decide +kernel), List.mem_of_getElem? (i := 1244) (by decide +kernel), List.mem_of_getElem? (i := 1245) (by decide +kernel)⟩
theorem lw_p47 : lw_okq (⟨"ChanceArena$Natural", "takeMultiple", "(LChanceArena$Natural;I)I"⟩, 2) := ⟨⟨by decide +kernel, by decide +kernel⟩, List.mem_of_getElem? (i := 474) (by decide +kernel), List.mem_of_getElem? (i := 1514) (by decide +kernel), List.mem_of_getElem? (i := 1515) (by decide +kernel)⟩
def lw_privs_3 : List (MethodName × Nat) := [(⟨"ChanceArena$Machine", "push", "(II)V"⟩, 16), (⟨"ChanceArena$Machine", "meet", "(II)I"⟩, 16), (⟨"ChanceArena$Machine", "comeBack", "()I"⟩, 16), (⟨"ChanceArena$Machine", "compute", "(II)Z"⟩, 16), (⟨"ChanceArena$Machine", "store", "(II)Z"⟩, 16), (⟨"ChanceArena$Machine", "stop", "(II)Z"⟩, 16), (⟨"ChanceArena$Machine", "settle", "(JJI)Z"⟩, 16), (⟨"ChanceArena$Machine", "relate", "(II)Z"⟩, 16), (⟨"ChanceArena$TextReader", "settleNamed", "(I)V"⟩, 9), (⟨"ChanceArena", "forget", "()V"⟩, 19), (⟨"ChanceArena", "fractionOf", "(II)LChanceArena$Fraction;"⟩, 19), (⟨"ChanceArena$Scales", "commonDivisor", "(LChanceArena$Natural;LChanceArena$Natural;)LChanceArena$Natural;"⟩, 11), (⟨"ChanceArena$Natural", "trim", "(I)V"⟩, 2), (⟨"ChanceArena$Scales", "findFactors", "(JJ)Z"⟩, 11), (⟨"java/lang/Throwable", "fillInStackTrace", "(I)Ljava/lang/Throwable;"⟩, 6), (⟨"ChanceArena$Natural", "takeMultiple", "(LChanceArena$Natural;I)I"⟩, 2)]
theorem lw_r3 : ∀ q ∈ lw_privs_3, lw_okq q := List.forall_mem_cons.mpr ⟨lw_p32, List.forall_mem_cons.mpr ⟨lw_p33, List.forall_mem_cons.mpr ⟨lw_p34, List.forall_mem_cons.mpr ⟨lw_p35, List.forall_mem_cons.mpr ⟨lw_p36, List.forall_mem_cons.mpr ⟨lw_p37, List.forall_mem_cons.mpr ⟨lw_p38, List.forall_mem_cons.mpr ⟨lw_p39, List.forall_mem_cons.mpr ⟨lw_p40, List.forall_mem_cons.mpr ⟨lw_p41, List.forall_mem_cons.mpr ⟨lw_p42, List.forall_mem_cons.mpr ⟨lw_p43, List.forall_mem_cons.mpr ⟨lw_p44, List.forall_mem_cons.mpr ⟨lw_p45, List.forall_mem_cons.mpr ⟨lw_p46, List.forall_mem_cons.mpr ⟨lw_p47, fun _ h => absurd h List.not_mem_nil⟩⟩⟩⟩⟩⟩⟩⟩⟩⟩⟩⟩⟩⟩⟩⟩
theorem lw_p48 : lw_okq (⟨"ChanceArena", "printNumber", "(LChanceArena$Natural;)V"⟩, 19) := ⟨⟨by decide +kernel, by decide +kernel⟩, List.mem_of_getElem? (i := 41) (by decide +kernel), List.mem_of_getElem? (i := 1525) (by decide +kernel), List.mem_of_getElem? (i := 1526) (by decide +kernel)⟩
theorem lw_p49 : lw_okq (⟨"ChanceArena$Solver", "attain", "(LChanceArena$Fractions;)Z"⟩, 14) := ⟨⟨by decide +kernel, by decide +kernel⟩, List.mem_of_getElem? (i := 462) (by decide +kernel), List.mem_of_getElem? (i := 1582) (by decide +kernel), List.mem_of_getElem? (i := 1583) (by decide +kernel)⟩
theorem lw_p50 : lw_okq (⟨"ChanceArena$Solver", "fillRanks", "(LChanceArena$Fractions;[I)V"⟩, 14) := ⟨⟨by decide +kernel, by decide +kernel⟩, List.mem_of_getElem? (i := 462) (by decide +kernel), List.mem_of_getElem? (i := 1601) (by decide +kernel), List.mem_of_getElem? (i := 1602) (by decide +kernel)⟩
theorem lw_p51 : lw_okq (⟨"ChanceArena$Solver", "earns", "(II[I)Z"⟩, 14) := ⟨⟨by decide +kernel, by decide +kernel⟩, List.mem_of_getElem? (i := 462) (by decide +kernel), List.mem_of_getElem? (i := 1605) (by decide +kernel), List.mem_of_getElem? (i := 1606) (by decide +kernel)⟩
theorem lw_p52 : lw_okq (⟨"ChanceArena$Solver", "leadsBelow", "(II[I)Z"⟩, 14) := ⟨⟨by decide +kernel, by decide +kernel⟩, List.mem_of_getElem? (i := 462) (by decide +kernel), List.mem_of_getElem? (i := 1609) (by decide +kernel), List.mem_of_getElem? (i := 1610) (by decide +kernel)⟩
theorem lw_p53 : lw_okq (⟨"ChanceArena$Game", "enter", "()I"⟩, 19) := ⟨⟨by decide +kernel, by decide +kernel⟩, List.mem_of_getElem? (i := 367) (by decide +kernel), List.mem_of_getElem? (i := 1664) (by decide +kernel), List.mem_of_getElem? (i := 1665) (by decide +kernel)⟩
theorem lw_p54 : lw_okq (⟨"ChanceArena$Game", "isNext", "(I)Z"⟩, 19) := ⟨⟨by decide +kernel, by decide +kernel⟩, List.mem_of_getElem? (i := 367) (by decide +kernel), List.mem_of_getElem? (i := 1668) (by decide +kernel), List.mem_of_getElem? (i := 1669) (by decide +kernel)⟩
theorem lw_p55 : lw_okq (⟨"ChanceArena$Game", "lookAt", "(I)I"⟩, 19) := ⟨⟨by decide +kernel, by decide +kernel⟩, List.mem_of_getElem? (i := 367) (by decide +kernel), List.mem_of_getElem? (i := 1672) (by decide +kernel), List.mem_of_getElem? (i := 1673) (by decide +kernel)⟩
theorem lw_p56 : lw_okq (⟨"ChanceArena$Game", "machineFault", "()I"⟩, 19) := ⟨⟨by decide +kernel, by decide +kernel⟩, List.mem_of_getElem? (i := 367) (by decide +kernel), List.mem_of_getElem? (i := 1681) (by decide +kernel), List.mem_of_getElem? (i := 1682) (by decide +kernel)⟩
theorem lw_p57 : lw_okq (⟨"ChanceArena$Game", "tryCommand", "(II)I"⟩, 19) := ⟨⟨by decide +kernel, by decide +kernel⟩, List.mem_of_getElem? (i := 367) (by decide +kernel), List.mem_of_getElem? (i := 1685) (by decide +kernel), List.mem_of_getElem? (i := 1686) (by decide +kernel)⟩
theorem lw_p58 : lw_okq (⟨"ChanceArena$Game", "fault", "(II)I"⟩, 19) := ⟨⟨by decide +kernel, by decide +kernel⟩, List.mem_of_getElem? (i := 367) (by decide +kernel), List.mem_of_getElem? (i := 1689) (by decide +kernel), List.mem_of_getElem? (i := 1690) (by decide +kernel)⟩
theorem lw_p59 : lw_okq (⟨"ChanceArena$Game", "weighChances", "(I)I"⟩, 19) := ⟨⟨by decide +kernel, by decide +kernel⟩, List.mem_of_getElem? (i := 367) (by decide +kernel), List.mem_of_getElem? (i := 1693) (by decide +kernel), List.mem_of_getElem? (i := 1694) (by decide +kernel)⟩
theorem lw_p60 : lw_okq (⟨"ChanceArena$Game", "follow", "(III)I"⟩, 19) := ⟨⟨by decide +kernel, by decide +kernel⟩, List.mem_of_getElem? (i := 367) (by decide +kernel), List.mem_of_getElem? (i := 1699) (by decide +kernel), List.mem_of_getElem? (i := 1700) (by decide +kernel)⟩
theorem lw_p61 : lw_okq (⟨"ChanceArena$Solver", "leaveCommands", "(I)V"⟩, 14) := ⟨⟨by decide +kernel, by decide +kernel⟩, List.mem_of_getElem? (i := 462) (by decide +kernel), List.mem_of_getElem? (i := 1742) (by decide +kernel), List.mem_of_getElem? (i := 1743) (by decide +kernel)⟩
theorem lw_p62 : lw_okq (⟨"ChanceArena$Solver", "findUnknown", "()Z"⟩, 14) := ⟨⟨by decide +kernel, by decide +kernel⟩, List.mem_of_getElem? (i := 462) (by decide +kernel), List.mem_of_getElem? (i := 1746) (by decide +kernel), List.mem_of_getElem? (i := 1747) (by decide +kernel)⟩
theorem lw_p63 : lw_okq (⟨"ChanceArena$Solver", "wayFrom", "(I)I"⟩, 14) := ⟨⟨by decide +kernel, by decide +kernel⟩, List.mem_of_getElem? (i := 462) (by decide +kernel), List.mem_of_getElem? (i := 1751) (by decide +kernel), List.mem_of_getElem? (i := 1752) (by decide +kernel)⟩
def lw_privs_4 : List (MethodName × Nat) := [(⟨"ChanceArena", "printNumber", "(LChanceArena$Natural;)V"⟩, 19), (⟨"ChanceArena$Solver", "attain", "(LChanceArena$Fractions;)Z"⟩, 14), (⟨"ChanceArena$Solver", "fillRanks", "(LChanceArena$Fractions;[I)V"⟩, 14), (⟨"ChanceArena$Solver", "earns", "(II[I)Z"⟩, 14), (⟨"ChanceArena$Solver", "leadsBelow", "(II[I)Z"⟩, 14), (⟨"ChanceArena$Game", "enter", "()I"⟩, 19), (⟨"ChanceArena$Game", "isNext", "(I)Z"⟩, 19), (⟨"ChanceArena$Game", "lookAt", "(I)I"⟩, 19), (⟨"ChanceArena$Game", "machineFault", "()I"⟩, 19), (⟨"ChanceArena$Game", "tryCommand", "(II)I"⟩, 19), (⟨"ChanceArena$Game", "fault", "(II)I"⟩, 19), (⟨"ChanceArena$Game", "weighChances", "(I)I"⟩, 19), (⟨"ChanceArena$Game", "follow", "(III)I"⟩, 19), (⟨"ChanceArena$Solver", "leaveCommands", "(I)V"⟩, 14), (⟨"ChanceArena$Solver", "findUnknown", "()Z"⟩, 14), (⟨"ChanceArena$Solver", "wayFrom", "(I)I"⟩, 14)]
theorem lw_r4 : ∀ q ∈ lw_privs_4, lw_okq q := List.forall_mem_cons.mpr ⟨lw_p48, List.forall_mem_cons.mpr ⟨lw_p49, List.forall_mem_cons.mpr ⟨lw_p50, List.forall_mem_cons.mpr ⟨lw_p51, List.forall_mem_cons.mpr ⟨lw_p52, List.forall_mem_cons.mpr ⟨lw_p53, List.forall_mem_cons.mpr ⟨lw_p54, List.forall_mem_cons.mpr ⟨lw_p55, List.forall_mem_cons.mpr ⟨lw_p56, List.forall_mem_cons.mpr ⟨lw_p57, List.forall_mem_cons.mpr ⟨lw_p58, List.forall_mem_cons.mpr ⟨lw_p59, List.forall_mem_cons.mpr ⟨lw_p60, List.forall_mem_cons.mpr ⟨lw_p61, List.forall_mem_cons.mpr ⟨lw_p62, List.forall_mem_cons.mpr ⟨lw_p63, fun _ h => absurd h List.not_mem_nil⟩⟩⟩⟩⟩⟩⟩⟩⟩⟩⟩⟩⟩⟩⟩⟩
theorem lw_p64 : lw_okq (⟨"ChanceArena$Solver", "comesOn", "(I)Z"⟩, 14) := ⟨⟨by decide +kernel, by decide +kernel⟩, List.mem_of_getElem? (i := 462) (by decide +kernel), List.mem_of_getElem? (i := 1755) (by decide +kernel), List.mem_of_getElem? (i := 1756) (by decide +kernel)⟩
theorem lw_p65 : lw_okq (⟨"ChanceArena$Solver", "weights", "()I"⟩, 14) := ⟨⟨by decide +kernel, by decide +kernel⟩, List.mem_of_getElem? (i := 462) (by decide +kernel), List.mem_of_getElem? (i := 1759) (by decide +kernel), List.mem_of_getElem? (i := 1760) (by decide +kernel)⟩
theorem lw_p66 : lw_okq (⟨"ChanceArena$Solver", "evaluate", "(LChanceArena$Fractions;)V"⟩, 14) := ⟨⟨by decide +kernel, by decide +kernel⟩, List.mem_of_getElem? (i := 462) (by decide +kernel), List.mem_of_getElem? (i := 1778) (by decide +kernel), List.mem_of_getElem? (i := 1779) (by decide +kernel)⟩
theorem lw_p67 : lw_okq (⟨"ChanceArena$Residues", "eliminate", "(II)Z"⟩, 7) := ⟨⟨by decide +kernel, by decide +kernel⟩, List.mem_of_getElem? (i := 551) (by decide +kernel), List.mem_of_getElem? (i := 1790) (by decide +kernel), List.mem_of_getElem? (i := 1791) (by decide +kernel)⟩
theorem lw_p68 : lw_okq (⟨"ChanceArena$Residues", "swapRows", "(II)V"⟩, 7) := ⟨⟨by decide +kernel, by decide +kernel⟩, List.mem_of_getElem? (i := 551) (by decide +kernel), List.mem_of_getElem? (i := 1794) (by decide +kernel), List.mem_of_getElem? (i := 1795) (by decide +kernel)⟩
theorem lw_p69 : lw_okq (⟨"ChanceArena$Residues", "clearBelow", "(III)V"⟩, 7) := ⟨⟨by decide +kernel, by decide +kernel⟩, List.mem_of_getElem? (i := 551) (by decide +kernel), List.mem_of_getElem? (i := 1801) (by decide +kernel), List.mem_of_getElem? (i := 1802) (by decide +kernel)⟩
theorem lw_p70 : lw_okq (⟨"ChanceArena$Residues", "substitute", "(II)V"⟩, 7) := ⟨⟨by decide +kernel, by decide +kernel⟩, List.mem_of_getElem? (i := 551) (by decide +kernel), List.mem_of_getElem? (i := 1805) (by decide +kernel), List.mem_of_getElem? (i := 1806) (by decide +kernel)⟩
theorem lw_p71 : lw_okq (⟨"ChanceArena$Residues", "combine", "(II)V"⟩, 7) := ⟨⟨by decide +kernel, by decide +kernel⟩, List.mem_of_getElem? (i := 551) (by decide +kernel), List.mem_of_getElem? (i := 1809) (by decide +kernel), List.mem_of_getElem? (i := 1810) (by decide +kernel)⟩
theorem lw_p72 : lw_okq (⟨"ChanceArena$Solver", "improve", "(ILChanceArena$Fractions;)Z"⟩, 14) := ⟨⟨by decide +kernel, by decide +kernel⟩, List.mem_of_getElem? (i := 462) (by decide +kernel), List.mem_of_getElem? (i := 1820) (by decide +kernel), List.mem_of_getElem? (i := 1821) (by decide +kernel)⟩
theorem lw_p73 : lw_okq (⟨"ChanceArena$Scales", "fits", "(LChanceArena$Fraction;)Z"⟩, 11) := ⟨⟨by decide +kernel, by decide +kernel⟩, List.mem_of_getElem? (i := 468) (by decide +kernel), List.mem_of_getElem? (i := 1853) (by decide +kernel), List.mem_of_getElem? (i := 1854) (by decide +kernel)⟩
theorem lw_p74 : lw_okq (⟨"ChanceArenaModel", "add4", "(I)V"⟩, 49) := ⟨⟨by decide +kernel, by decide +kernel⟩, List.mem_of_getElem? (i := 1880) (by decide +kernel), List.mem_of_getElem? (i := 2363) (by decide +kernel), List.mem_of_getElem? (i := 2364) (by decide +kernel)⟩
theorem lw_p75 : lw_okq (⟨"ChanceArenaModel", "cut", "()V"⟩, 49) := ⟨⟨by decide +kernel, by decide +kernel⟩, List.mem_of_getElem? (i := 1880) (by decide +kernel), List.mem_of_getElem? (i := 2379) (by decide +kernel), List.mem_of_getElem? (i := 2380) (by decide +kernel)⟩
theorem lw_p76 : lw_okq (⟨"ChanceArenaModel", "skip", "(I)I"⟩, 49) := ⟨⟨by decide +kernel, by decide +kernel⟩, List.mem_of_getElem? (i := 1880) (by decide +kernel), List.mem_of_getElem? (i := 2383) (by decide +kernel), List.mem_of_getElem? (i := 2384) (by decide +kernel)⟩
theorem lw_p77 : lw_okq (⟨"ChanceArenaModel", "letter", "(I)I"⟩, 49) := ⟨⟨by decide +kernel, by decide +kernel⟩, List.mem_of_getElem? (i := 1880) (by decide +kernel), List.mem_of_getElem? (i := 2387) (by decide +kernel), List.mem_of_getElem? (i := 2388) (by decide +kernel)⟩
theorem lw_p78 : lw_okq (⟨"ChanceArenaModel", "wordKind", "(II)I"⟩, 49) := ⟨⟨by decide +kernel, by decide +kernel⟩, List.mem_of_getElem? (i := 1880) (by decide +kernel), List.mem_of_getElem? (i := 2404) (by decide +kernel), List.mem_of_getElem? (i := 2405) (by decide +kernel)⟩
theorem lw_p79 : lw_okq (⟨"ChanceArenaModel", "is", "(IILjava/lang/String;)Z"⟩, 49) := ⟨⟨by decide +kernel, by decide +kernel⟩, List.mem_of_getElem? (i := 1880) (by decide +kernel), List.mem_of_getElem? (i := 2409) (by decide +kernel), List.mem_of_getElem? (i := 2410) (by decide +kernel)⟩
def lw_privs_5 : List (MethodName × Nat) := [(⟨"ChanceArena$Solver", "comesOn", "(I)Z"⟩, 14), (⟨"ChanceArena$Solver", "weights", "()I"⟩, 14), (⟨"ChanceArena$Solver", "evaluate", "(LChanceArena$Fractions;)V"⟩, 14), (⟨"ChanceArena$Residues", "eliminate", "(II)Z"⟩, 7), (⟨"ChanceArena$Residues", "swapRows", "(II)V"⟩, 7), (⟨"ChanceArena$Residues", "clearBelow", "(III)V"⟩, 7), (⟨"ChanceArena$Residues", "substitute", "(II)V"⟩, 7), (⟨"ChanceArena$Residues", "combine", "(II)V"⟩, 7), (⟨"ChanceArena$Solver", "improve", "(ILChanceArena$Fractions;)Z"⟩, 14), (⟨"ChanceArena$Scales", "fits", "(LChanceArena$Fraction;)Z"⟩, 11), (⟨"ChanceArenaModel", "add4", "(I)V"⟩, 49), (⟨"ChanceArenaModel", "cut", "()V"⟩, 49), (⟨"ChanceArenaModel", "skip", "(I)I"⟩, 49), (⟨"ChanceArenaModel", "letter", "(I)I"⟩, 49), (⟨"ChanceArenaModel", "wordKind", "(II)I"⟩, 49), (⟨"ChanceArenaModel", "is", "(IILjava/lang/String;)Z"⟩, 49)]
theorem lw_r5 : ∀ q ∈ lw_privs_5, lw_okq q := List.forall_mem_cons.mpr ⟨lw_p64, List.forall_mem_cons.mpr ⟨lw_p65, List.forall_mem_cons.mpr ⟨lw_p66, List.forall_mem_cons.mpr ⟨lw_p67, List.forall_mem_cons.mpr ⟨lw_p68, List.forall_mem_cons.mpr ⟨lw_p69, List.forall_mem_cons.mpr ⟨lw_p70, List.forall_mem_cons.mpr ⟨lw_p71, List.forall_mem_cons.mpr ⟨lw_p72, List.forall_mem_cons.mpr ⟨lw_p73, List.forall_mem_cons.mpr ⟨lw_p74, List.forall_mem_cons.mpr ⟨lw_p75, List.forall_mem_cons.mpr ⟨lw_p76, List.forall_mem_cons.mpr ⟨lw_p77, List.forall_mem_cons.mpr ⟨lw_p78, List.forall_mem_cons.mpr ⟨lw_p79, fun _ h => absurd h List.not_mem_nil⟩⟩⟩⟩⟩⟩⟩⟩⟩⟩⟩⟩⟩⟩⟩⟩
theorem lw_p80 : lw_okq (⟨"ChanceArenaModel", "signKind", "(I)I"⟩, 49) := ⟨⟨by decide +kernel, by decide +kernel⟩, List.mem_of_getElem? (i := 1880) (by decide +kernel), List.mem_of_getElem? (i := 2427) (by decide +kernel), List.mem_of_getElem? (i := 2428) (by decide +kernel)⟩
theorem lw_p81 : lw_okq (⟨"ChanceArenaModel", "word", "(III)V"⟩, 49) := ⟨⟨by decide +kernel, by decide +kernel⟩, List.mem_of_getElem? (i := 1880) (by decide +kernel), List.mem_of_getElem? (i := 2431) (by decide +kernel), List.mem_of_getElem? (i := 2432) (by decide +kernel)⟩
theorem lw_p82 : lw_okq (⟨"ChanceArenaModel", "readText", "()Z"⟩, 49) := ⟨⟨by decide +kernel, by decide +kernel⟩, List.mem_of_getElem? (i := 1880) (by decide +kernel), List.mem_of_getElem? (i := 2435) (by decide +kernel), List.mem_of_getElem? (i := 2436) (by decide +kernel)⟩
theorem lw_p83 : lw_okq (⟨"ChanceArenaModel", "item", "(II)I"⟩, 49) := ⟨⟨by decide +kernel, by decide +kernel⟩, List.mem_of_getElem? (i := 1880) (by decide +kernel), List.mem_of_getElem? (i := 2443) (by decide +kernel), List.mem_of_getElem? (i := 2444) (by decide +kernel)⟩
theorem lw_p84 : lw_okq (⟨"ChanceArenaModel", "anItem", "(I)I"⟩, 49) := ⟨⟨by decide +kernel, by decide +kernel⟩, List.mem_of_getElem? (i := 1880) (by decide +kernel), List.mem_of_getElem? (i := 2447) (by decide +kernel), List.mem_of_getElem? (i := 2448) (by decide +kernel)⟩
theorem lw_p85 : lw_okq (⟨"ChanceArenaModel", "want", "(III)V"⟩, 49) := ⟨⟨by decide +kernel, by decide +kernel⟩, List.mem_of_getElem? (i := 1880) (by decide +kernel), List.mem_of_getElem? (i := 2451) (by decide +kernel), List.mem_of_getElem? (i := 2452) (by decide +kernel)⟩
theorem lw_p86 : lw_okq (⟨"ChanceArenaModel", "again", "(ZII)I"⟩, 49) := ⟨⟨by decide +kernel, by decide +kernel⟩, List.mem_of_getElem? (i := 1880) (by decide +kernel), List.mem_of_getElem? (i := 2455) (by decide +kernel), List.mem_of_getElem? (i := 2456) (by decide +kernel)⟩
theorem lw_p87 : lw_okq (⟨"ChanceArenaModel", "set", "(I)I"⟩, 49) := ⟨⟨by decide +kernel, by decide +kernel⟩, List.mem_of_getElem? (i := 1880) (by decide +kernel), List.mem_of_getElem? (i := 2459) (by decide +kernel), List.mem_of_getElem? (i := 2460) (by decide +kernel)⟩
theorem lw_p88 : lw_okq (⟨"ChanceArenaModel", "level", "()Z"⟩, 49) := ⟨⟨by decide +kernel, by decide +kernel⟩, List.mem_of_getElem? (i := 1880) (by decide +kernel), List.mem_of_getElem? (i := 2463) (by decide +kernel), List.mem_of_getElem? (i := 2464) (by decide +kernel)⟩
theorem lw_p89 : lw_okq (⟨"ChanceArenaModel", "rule", "(II)I"⟩, 49) := ⟨⟨by decide +kernel, by decide +kernel⟩, List.mem_of_getElem? (i := 1880) (by decide +kernel), List.mem_of_getElem? (i := 2467) (by decide +kernel), List.mem_of_getElem? (i := 2468) (by decide +kernel)⟩
theorem lw_p90 : lw_okq (⟨"ChanceArenaModel", "ask", "()I"⟩, 49) := ⟨⟨by decide +kernel, by decide +kernel⟩, List.mem_of_getElem? (i := 1880) (by decide +kernel), List.mem_of_getElem? (i := 2471) (by decide +kernel), List.mem_of_getElem? (i := 2472) (by decide +kernel)⟩
theorem lw_p91 : lw_okq (⟨"ChanceArenaModel", "sign", "(I)I"⟩, 49) := ⟨⟨by decide +kernel, by decide +kernel⟩, List.mem_of_getElem? (i := 1880) (by decide +kernel), List.mem_of_getElem? (i := 2478) (by decide +kernel), List.mem_of_getElem? (i := 2479) (by decide +kernel)⟩
theorem lw_p92 : lw_okq (⟨"ChanceArenaModel", "place", "(I)I"⟩, 49) := ⟨⟨by decide +kernel, by decide +kernel⟩, List.mem_of_getElem? (i := 1880) (by decide +kernel), List.mem_of_getElem? (i := 2482) (by decide +kernel), List.mem_of_getElem? (i := 2483) (by decide +kernel)⟩
theorem lw_p93 : lw_okq (⟨"ChanceArenaModel", "items", "()V"⟩, 49) := ⟨⟨by decide +kernel, by decide +kernel⟩, List.mem_of_getElem? (i := 1880) (by decide +kernel), List.mem_of_getElem? (i := 2486) (by decide +kernel), List.mem_of_getElem? (i := 2487) (by decide +kernel)⟩
theorem lw_p94 : lw_okq (⟨"ChanceArenaModel", "word", "(I)I"⟩, 49) := ⟨⟨by decide +kernel, by decide +kernel⟩, List.mem_of_getElem? (i := 1880) (by decide +kernel), List.mem_of_getElem? (i := 2494) (by decide +kernel), List.mem_of_getElem? (i := 2495) (by decide +kernel)⟩
theorem lw_p95 : lw_okq (⟨"ChanceArenaModel", "until", "(II)I"⟩, 49) := ⟨⟨by decide +kernel, by decide +kernel⟩, List.mem_of_getElem? (i := 1880) (by decide +kernel), List.mem_of_getElem? (i := 2498) (by decide +kernel), List.mem_of_getElem? (i := 2499) (by decide +kernel)⟩
def lw_privs_6 : List (MethodName × Nat) := [(⟨"ChanceArenaModel", "signKind", "(I)I"⟩, 49), (⟨"ChanceArenaModel", "word", "(III)V"⟩, 49), (⟨"ChanceArenaModel", "readText", "()Z"⟩, 49), (⟨"ChanceArenaModel", "item", "(II)I"⟩, 49), (⟨"ChanceArenaModel", "anItem", "(I)I"⟩, 49), (⟨"ChanceArenaModel", "want", "(III)V"⟩, 49), (⟨"ChanceArenaModel", "again", "(ZII)I"⟩, 49), (⟨"ChanceArenaModel", "set", "(I)I"⟩, 49), (⟨"ChanceArenaModel", "level", "()Z"⟩, 49), (⟨"ChanceArenaModel", "rule", "(II)I"⟩, 49), (⟨"ChanceArenaModel", "ask", "()I"⟩, 49), (⟨"ChanceArenaModel", "sign", "(I)I"⟩, 49), (⟨"ChanceArenaModel", "place", "(I)I"⟩, 49), (⟨"ChanceArenaModel", "items", "()V"⟩, 49), (⟨"ChanceArenaModel", "word", "(I)I"⟩, 49), (⟨"ChanceArenaModel", "until", "(II)I"⟩, 49)]
theorem lw_r6 : ∀ q ∈ lw_privs_6, lw_okq q := List.forall_mem_cons.mpr ⟨lw_p80, List.forall_mem_cons.mpr ⟨lw_p81, List.forall_mem_cons.mpr ⟨lw_p82, List.forall_mem_cons.mpr ⟨lw_p83, List.forall_mem_cons.mpr ⟨lw_p84, List.forall_mem_cons.mpr ⟨lw_p85, List.forall_mem_cons.mpr ⟨lw_p86, List.forall_mem_cons.mpr ⟨lw_p87, List.forall_mem_cons.mpr ⟨lw_p88, List.forall_mem_cons.mpr ⟨lw_p89, List.forall_mem_cons.mpr ⟨lw_p90, List.forall_mem_cons.mpr ⟨lw_p91, List.forall_mem_cons.mpr ⟨lw_p92, List.forall_mem_cons.mpr ⟨lw_p93, List.forall_mem_cons.mpr ⟨lw_p94, List.forall_mem_cons.mpr ⟨lw_p95, fun _ h => absurd h List.not_mem_nil⟩⟩⟩⟩⟩⟩⟩⟩⟩⟩⟩⟩⟩⟩⟩⟩
theorem lw_p96 : lw_okq (⟨"ChanceArenaModel", "ruleItem", "(II)V"⟩, 49) := ⟨⟨by decide +kernel, by decide +kernel⟩, List.mem_of_getElem? (i := 1880) (by decide +kernel), List.mem_of_getElem? (i := 2502) (by decide +kernel), List.mem_of_getElem? (i := 2503) (by decide +kernel)⟩
theorem lw_p97 : lw_okq (⟨"ChanceArenaModel", "stop", "(II)V"⟩, 49) := ⟨⟨by decide +kernel, by decide +kernel⟩, List.mem_of_getElem? (i := 1880) (by decide +kernel), List.mem_of_getElem? (i := 2506) (by decide +kernel), List.mem_of_getElem? (i := 2507) (by decide +kernel)⟩
theorem lw_p98 : lw_okq (⟨"ChanceArenaModel", "find", "(I)I"⟩, 49) := ⟨⟨by decide +kernel, by decide +kernel⟩, List.mem_of_getElem? (i := 1880) (by decide +kernel), List.mem_of_getElem? (i := 2510) (by decide +kernel), List.mem_of_getElem? (i := 2511) (by decide +kernel)⟩
theorem lw_p99 : lw_okq (⟨"ChanceArenaModel", "sameWord", "(II)Z"⟩, 49) := ⟨⟨by decide +kernel, by decide +kernel⟩, List.mem_of_getElem? (i := 1880) (by decide +kernel), List.mem_of_getElem? (i := 2514) (by decide +kernel), List.mem_of_getElem? (i := 2515) (by decide +kernel)⟩
theorem lw_p100 : lw_okq (⟨"ChanceArenaModel", "tree", "(II)I"⟩, 49) := ⟨⟨by decide +kernel, by decide +kernel⟩, List.mem_of_getElem? (i := 1880) (by decide +kernel), List.mem_of_getElem? (i := 2518) (by decide +kernel), List.mem_of_getElem? (i := 2519) (by decide +kernel)⟩
theorem lw_p101 : lw_okq (⟨"ChanceArenaModel", "job", "(III)V"⟩, 49) := ⟨⟨by decide +kernel, by decide +kernel⟩, List.mem_of_getElem? (i := 1880) (by decide +kernel), List.mem_of_getElem? (i := 2522) (by decide +kernel), List.mem_of_getElem? (i := 2523) (by decide +kernel)⟩
theorem lw_p102 : lw_okq (⟨"ChanceArenaModel", "part", "(III)V"⟩, 49) := ⟨⟨by decide +kernel, by decide +kernel⟩, List.mem_of_getElem? (i := 1880) (by decide +kernel), List.mem_of_getElem? (i := 2526) (by decide +kernel), List.mem_of_getElem? (i := 2527) (by decide +kernel)⟩
theorem lw_p103 : lw_okq (⟨"ChanceArenaModel", "loosest", "(II)I"⟩, 49) := ⟨⟨by decide +kernel, by decide +kernel⟩, List.mem_of_getElem? (i := 1880) (by decide +kernel), List.mem_of_getElem? (i := 2530) (by decide +kernel), List.mem_of_getElem? (i := 2531) (by decide +kernel)⟩
theorem lw_p104 : lw_okq (⟨"ChanceArenaModel", "looseness", "(II)I"⟩, 49) := ⟨⟨by decide +kernel, by decide +kernel⟩, List.mem_of_getElem? (i := 1880) (by decide +kernel), List.mem_of_getElem? (i := 2534) (by decide +kernel), List.mem_of_getElem? (i := 2535) (by decide +kernel)⟩
theorem lw_p105 : lw_okq (⟨"ChanceArenaModel", "isOperand", "(I)Z"⟩, 49) := ⟨⟨by decide +kernel, by decide +kernel⟩, List.mem_of_getElem? (i := 1880) (by decide +kernel), List.mem_of_getElem? (i := 2538) (by decide +kernel), List.mem_of_getElem? (i := 2539) (by decide +kernel)⟩
theorem lw_p106 : lw_okq (⟨"ChanceArenaModel", "node", "(III)I"⟩, 49) := ⟨⟨by decide +kernel, by decide +kernel⟩, List.mem_of_getElem? (i := 1880) (by decide +kernel), List.mem_of_getElem? (i := 2542) (by decide +kernel), List.mem_of_getElem? (i := 2543) (by decide +kernel)⟩
theorem lw_p107 : lw_okq (⟨"ChanceArenaModel", "join", "(II)V"⟩, 49) := ⟨⟨by decide +kernel, by decide +kernel⟩, List.mem_of_getElem? (i := 1880) (by decide +kernel), List.mem_of_getElem? (i := 2546) (by decide +kernel), List.mem_of_getElem? (i := 2547) (by decide +kernel)⟩
theorem lw_p108 : lw_okq (⟨"ChanceArenaModel", "colonOf", "(II)I"⟩, 49) := ⟨⟨by decide +kernel, by decide +kernel⟩, List.mem_of_getElem? (i := 1880) (by decide +kernel), List.mem_of_getElem? (i := 2550) (by decide +kernel), List.mem_of_getElem? (i := 2551) (by decide +kernel)⟩
theorem lw_p109 : lw_okq (⟨"ChanceArenaModel", "numberOf", "(I)I"⟩, 49) := ⟨⟨by decide +kernel, by decide +kernel⟩, List.mem_of_getElem? (i := 1880) (by decide +kernel), List.mem_of_getElem? (i := 2554) (by decide +kernel), List.mem_of_getElem? (i := 2555) (by decide +kernel)⟩
theorem lw_p110 : lw_okq (⟨"ChanceArenaModel", "list", "(III)V"⟩, 49) := ⟨⟨by decide +kernel, by decide +kernel⟩, List.mem_of_getElem? (i := 1880) (by decide +kernel), List.mem_of_getElem? (i := 2558) (by decide +kernel), List.mem_of_getElem? (i := 2559) (by decide +kernel)⟩
theorem lw_p111 : lw_okq (⟨"ChanceArenaModel", "look", "(IZ)Z"⟩, 49) := ⟨⟨by decide +kernel, by decide +kernel⟩, List.mem_of_getElem? (i := 1880) (by decide +kernel), List.mem_of_getElem? (i := 2562) (by decide +kernel), List.mem_of_getElem? (i := 2563) (by decide +kernel)⟩
def lw_privs_7 : List (MethodName × Nat) := [(⟨"ChanceArenaModel", "ruleItem", "(II)V"⟩, 49), (⟨"ChanceArenaModel", "stop", "(II)V"⟩, 49), (⟨"ChanceArenaModel", "find", "(I)I"⟩, 49), (⟨"ChanceArenaModel", "sameWord", "(II)Z"⟩, 49), (⟨"ChanceArenaModel", "tree", "(II)I"⟩, 49), (⟨"ChanceArenaModel", "job", "(III)V"⟩, 49), (⟨"ChanceArenaModel", "part", "(III)V"⟩, 49), (⟨"ChanceArenaModel", "loosest", "(II)I"⟩, 49), (⟨"ChanceArenaModel", "looseness", "(II)I"⟩, 49), (⟨"ChanceArenaModel", "isOperand", "(I)Z"⟩, 49), (⟨"ChanceArenaModel", "node", "(III)I"⟩, 49), (⟨"ChanceArenaModel", "join", "(II)V"⟩, 49), (⟨"ChanceArenaModel", "colonOf", "(II)I"⟩, 49), (⟨"ChanceArenaModel", "numberOf", "(I)I"⟩, 49), (⟨"ChanceArenaModel", "list", "(III)V"⟩, 49), (⟨"ChanceArenaModel", "look", "(IZ)Z"⟩, 49)]
theorem lw_r7 : ∀ q ∈ lw_privs_7, lw_okq q := List.forall_mem_cons.mpr ⟨lw_p96, List.forall_mem_cons.mpr ⟨lw_p97, List.forall_mem_cons.mpr ⟨lw_p98, List.forall_mem_cons.mpr ⟨lw_p99, List.forall_mem_cons.mpr ⟨lw_p100, List.forall_mem_cons.mpr ⟨lw_p101, List.forall_mem_cons.mpr ⟨lw_p102, List.forall_mem_cons.mpr ⟨lw_p103, List.forall_mem_cons.mpr ⟨lw_p104, List.forall_mem_cons.mpr ⟨lw_p105, List.forall_mem_cons.mpr ⟨lw_p106, List.forall_mem_cons.mpr ⟨lw_p107, List.forall_mem_cons.mpr ⟨lw_p108, List.forall_mem_cons.mpr ⟨lw_p109, List.forall_mem_cons.mpr ⟨lw_p110, List.forall_mem_cons.mpr ⟨lw_p111, fun _ h => absurd h List.not_mem_nil⟩⟩⟩⟩⟩⟩⟩⟩⟩⟩⟩⟩⟩⟩⟩⟩
theorem lw_p112 : lw_okq (⟨"ChanceArenaModel", "lookAt", "(IZ)V"⟩, 49) := ⟨⟨by decide +kernel, by decide +kernel⟩, List.mem_of_getElem? (i := 1880) (by decide +kernel), List.mem_of_getElem? (i := 2566) (by decide +kernel), List.mem_of_getElem? (i := 2567) (by decide +kernel)⟩
theorem lw_p113 : lw_okq (⟨"ChanceArenaModel", "parts", "(I)I"⟩, 49) := ⟨⟨by decide +kernel, by decide +kernel⟩, List.mem_of_getElem? (i := 1880) (by decide +kernel), List.mem_of_getElem? (i := 2570) (by decide +kernel), List.mem_of_getElem? (i := 2571) (by decide +kernel)⟩
theorem lw_p114 : lw_okq (⟨"ChanceArenaModel", "lookUp", "(IZ)I"⟩, 49) := ⟨⟨by decide +kernel, by decide +kernel⟩, List.mem_of_getElem? (i := 1880) (by decide +kernel), List.mem_of_getElem? (i := 2574) (by decide +kernel), List.mem_of_getElem? (i := 2575) (by decide +kernel)⟩
theorem lw_p115 : lw_okq (⟨"ChanceArenaModel", "turn", "(I)V"⟩, 49) := ⟨⟨by decide +kernel, by decide +kernel⟩, List.mem_of_getElem? (i := 1880) (by decide +kernel), List.mem_of_getElem? (i := 2582) (by decide +kernel), List.mem_of_getElem? (i := 2583) (by decide +kernel)⟩
theorem lw_p116 : lw_okq (⟨"ChanceArenaModel", "workOut", "(LChanceArenaModel$Game;I)V"⟩, 49) := ⟨⟨by decide +kernel, by decide +kernel⟩, List.mem_of_getElem? (i := 1880) (by decide +kernel), List.mem_of_getElem? (i := 2586) (by decide +kernel), List.mem_of_getElem? (i := 2587) (by decide +kernel)⟩
theorem lw_p117 : lw_okq (⟨"ChanceArenaModel", "todo", "(II)V"⟩, 49) := ⟨⟨by decide +kernel, by decide +kernel⟩, List.mem_of_getElem? (i := 1880) (by decide +kernel), List.mem_of_getElem? (i := 2590) (by decide +kernel), List.mem_of_getElem? (i := 2591) (by decide +kernel)⟩
theorem lw_p118 : lw_okq (⟨"ChanceArenaModel", "begin", "(LChanceArenaModel$Game;I)V"⟩, 49) := ⟨⟨by decide +kernel, by decide +kernel⟩, List.mem_of_getElem? (i := 1880) (by decide +kernel), List.mem_of_getElem? (i := 2594) (by decide +kernel), List.mem_of_getElem? (i := 2595) (by decide +kernel)⟩
theorem lw_p119 : lw_okq (⟨"ChanceArenaModel", "push", "(JJ)V"⟩, 49) := ⟨⟨by decide +kernel, by decide +kernel⟩, List.mem_of_getElem? (i := 1880) (by decide +kernel), List.mem_of_getElem? (i := 2598) (by decide +kernel), List.mem_of_getElem? (i := 2599) (by decide +kernel)⟩
theorem lw_p120 : lw_okq (⟨"ChanceArenaModel", "pushTruth", "(Z)V"⟩, 49) := ⟨⟨by decide +kernel, by decide +kernel⟩, List.mem_of_getElem? (i := 1880) (by decide +kernel), List.mem_of_getElem? (i := 2602) (by decide +kernel), List.mem_of_getElem? (i := 2603) (by decide +kernel)⟩
theorem lw_p121 : lw_okq (⟨"ChanceArenaModel", "name", "(LChanceArenaModel$Game;I)V"⟩, 49) := ⟨⟨by decide +kernel, by decide +kernel⟩, List.mem_of_getElem? (i := 1880) (by decide +kernel), List.mem_of_getElem? (i := 2606) (by decide +kernel), List.mem_of_getElem? (i := 2607) (by decide +kernel)⟩
theorem lw_p122 : lw_okq (⟨"ChanceArenaModel", "turnTodo", "(I)V"⟩, 49) := ⟨⟨by decide +kernel, by decide +kernel⟩, List.mem_of_getElem? (i := 1880) (by decide +kernel), List.mem_of_getElem? (i := 2610) (by decide +kernel), List.mem_of_getElem? (i := 2611) (by decide +kernel)⟩
theorem lw_p123 : lw_okq (⟨"ChanceArenaModel", "finish", "(LChanceArenaModel$Game;I)V"⟩, 49) := ⟨⟨by decide +kernel, by decide +kernel⟩, List.mem_of_getElem? (i := 1880) (by decide +kernel), List.mem_of_getElem? (i := 2614) (by decide +kernel), List.mem_of_getElem? (i := 2615) (by decide +kernel)⟩
theorem lw_p124 : lw_okq (⟨"ChanceArenaModel", "best", "(ZII)V"⟩, 49) := ⟨⟨by decide +kernel, by decide +kernel⟩, List.mem_of_getElem? (i := 1880) (by decide +kernel), List.mem_of_getElem? (i := 2618) (by decide +kernel), List.mem_of_getElem? (i := 2619) (by decide +kernel)⟩
theorem lw_p125 : lw_okq (⟨"ChanceArenaModel", "reckon", "(IJJJJI)V"⟩, 49) := ⟨⟨by decide +kernel, by decide +kernel⟩, List.mem_of_getElem? (i := 1880) (by decide +kernel), List.mem_of_getElem? (i := 2622) (by decide +kernel), List.mem_of_getElem? (i := 2623) (by decide +kernel)⟩
theorem lw_p126 : lw_okq (⟨"ChanceArenaModel", "pushFraction", "(JJI)V"⟩, 49) := ⟨⟨by decide +kernel, by decide +kernel⟩, List.mem_of_getElem? (i := 1880) (by decide +kernel), List.mem_of_getElem? (i := 2626) (by decide +kernel), List.mem_of_getElem? (i := 2627) (by decide +kernel)⟩
theorem lw_p127 : lw_okq (⟨"ChanceArenaModel", "choose", "(LChanceArenaModel$Game;I)V"⟩, 49) := ⟨⟨by decide +kernel, by decide +kernel⟩, List.mem_of_getElem? (i := 1880) (by decide +kernel), List.mem_of_getElem? (i := 2635) (by decide +kernel), List.mem_of_getElem? (i := 2636) (by decide +kernel)⟩
def lw_privs_8 : List (MethodName × Nat) := [(⟨"ChanceArenaModel", "lookAt", "(IZ)V"⟩, 49), (⟨"ChanceArenaModel", "parts", "(I)I"⟩, 49), (⟨"ChanceArenaModel", "lookUp", "(IZ)I"⟩, 49), (⟨"ChanceArenaModel", "turn", "(I)V"⟩, 49), (⟨"ChanceArenaModel", "workOut", "(LChanceArenaModel$Game;I)V"⟩, 49), (⟨"ChanceArenaModel", "todo", "(II)V"⟩, 49), (⟨"ChanceArenaModel", "begin", "(LChanceArenaModel$Game;I)V"⟩, 49), (⟨"ChanceArenaModel", "push", "(JJ)V"⟩, 49), (⟨"ChanceArenaModel", "pushTruth", "(Z)V"⟩, 49), (⟨"ChanceArenaModel", "name", "(LChanceArenaModel$Game;I)V"⟩, 49), (⟨"ChanceArenaModel", "turnTodo", "(I)V"⟩, 49), (⟨"ChanceArenaModel", "finish", "(LChanceArenaModel$Game;I)V"⟩, 49), (⟨"ChanceArenaModel", "best", "(ZII)V"⟩, 49), (⟨"ChanceArenaModel", "reckon", "(IJJJJI)V"⟩, 49), (⟨"ChanceArenaModel", "pushFraction", "(JJI)V"⟩, 49), (⟨"ChanceArenaModel", "choose", "(LChanceArenaModel$Game;I)V"⟩, 49)]
theorem lw_r8 : ∀ q ∈ lw_privs_8, lw_okq q := List.forall_mem_cons.mpr ⟨lw_p112, List.forall_mem_cons.mpr ⟨lw_p113, List.forall_mem_cons.mpr ⟨lw_p114, List.forall_mem_cons.mpr ⟨lw_p115, List.forall_mem_cons.mpr ⟨lw_p116, List.forall_mem_cons.mpr ⟨lw_p117, List.forall_mem_cons.mpr ⟨lw_p118, List.forall_mem_cons.mpr ⟨lw_p119, List.forall_mem_cons.mpr ⟨lw_p120, List.forall_mem_cons.mpr ⟨lw_p121, List.forall_mem_cons.mpr ⟨lw_p122, List.forall_mem_cons.mpr ⟨lw_p123, List.forall_mem_cons.mpr ⟨lw_p124, List.forall_mem_cons.mpr ⟨lw_p125, List.forall_mem_cons.mpr ⟨lw_p126, List.forall_mem_cons.mpr ⟨lw_p127, fun _ h => absurd h List.not_mem_nil⟩⟩⟩⟩⟩⟩⟩⟩⟩⟩⟩⟩⟩⟩⟩⟩
theorem lw_p128 : lw_okq (⟨"ChanceArenaModel", "know", "(III)V"⟩, 49) := ⟨⟨by decide +kernel, by decide +kernel⟩, List.mem_of_getElem? (i := 1880) (by decide +kernel), List.mem_of_getElem? (i := 2639) (by decide +kernel), List.mem_of_getElem? (i := 2640) (by decide +kernel)⟩
theorem lw_p129 : lw_okq (⟨"ChanceArenaModel", "varItem", "(II)V"⟩, 49) := ⟨⟨by decide +kernel, by decide +kernel⟩, List.mem_of_getElem? (i := 1880) (by decide +kernel), List.mem_of_getElem? (i := 2643) (by decide +kernel), List.mem_of_getElem? (i := 2644) (by decide +kernel)⟩
theorem lw_p130 : lw_okq (⟨"ChanceArenaModel", "initOf", "(II)I"⟩, 49) := ⟨⟨by decide +kernel, by decide +kernel⟩, List.mem_of_getElem? (i := 1880) (by decide +kernel), List.mem_of_getElem? (i := 2647) (by decide +kernel), List.mem_of_getElem? (i := 2648) (by decide +kernel)⟩
theorem lw_p131 : lw_okq (⟨"ChanceArenaModel", "rule", "(IIZZ)I"⟩, 49) := ⟨⟨by decide +kernel, by decide +kernel⟩, List.mem_of_getElem? (i := 1880) (by decide +kernel), List.mem_of_getElem? (i := 2651) (by decide +kernel), List.mem_of_getElem? (i := 2652) (by decide +kernel)⟩
theorem lw_p132 : lw_okq (⟨"ChanceArenaModel", "wholeOf", "(II)I"⟩, 49) := ⟨⟨by decide +kernel, by decide +kernel⟩, List.mem_of_getElem? (i := 1880) (by decide +kernel), List.mem_of_getElem? (i := 2655) (by decide +kernel), List.mem_of_getElem? (i := 2656) (by decide +kernel)⟩
theorem lw_p133 : lw_okq (⟨"ChanceArenaModel", "begins", "(III)V"⟩, 49) := ⟨⟨by decide +kernel, by decide +kernel⟩, List.mem_of_getElem? (i := 1880) (by decide +kernel), List.mem_of_getElem? (i := 2659) (by decide +kernel), List.mem_of_getElem? (i := 2660) (by decide +kernel)⟩
theorem lw_p134 : lw_okq (⟨"ChanceArenaModel", "commandItem", "(II)V"⟩, 49) := ⟨⟨by decide +kernel, by decide +kernel⟩, List.mem_of_getElem? (i := 1880) (by decide +kernel), List.mem_of_getElem? (i := 2663) (by decide +kernel), List.mem_of_getElem? (i := 2664) (by decide +kernel)⟩
theorem lw_p135 : lw_okq (⟨"ChanceArenaModel", "branch", "(III)I"⟩, 49) := ⟨⟨by decide +kernel, by decide +kernel⟩, List.mem_of_getElem? (i := 1880) (by decide +kernel), List.mem_of_getElem? (i := 2667) (by decide +kernel), List.mem_of_getElem? (i := 2668) (by decide +kernel)⟩
theorem lw_p136 : lw_okq (⟨"ChanceArenaModel", "setItem", "(II)I"⟩, 49) := ⟨⟨by decide +kernel, by decide +kernel⟩, List.mem_of_getElem? (i := 1880) (by decide +kernel), List.mem_of_getElem? (i := 2671) (by decide +kernel), List.mem_of_getElem? (i := 2672) (by decide +kernel)⟩
theorem lw_p137 : lw_okq (⟨"ChanceArenaModel", "closeOf", "(I)I"⟩, 49) := ⟨⟨by decide +kernel, by decide +kernel⟩, List.mem_of_getElem? (i := 1880) (by decide +kernel), List.mem_of_getElem? (i := 2675) (by decide +kernel), List.mem_of_getElem? (i := 2676) (by decide +kernel)⟩
theorem lw_p138 : lw_okq (⟨"ChanceArenaModel", "state", "(I)V"⟩, 49) := ⟨⟨by decide +kernel, by decide +kernel⟩, List.mem_of_getElem? (i := 1880) (by decide +kernel), List.mem_of_getElem? (i := 2695) (by decide +kernel), List.mem_of_getElem? (i := 2696) (by decide +kernel)⟩
theorem lw_p139 : lw_okq (⟨"ChanceArenaModel", "enter", "(I)V"⟩, 49) := ⟨⟨by decide +kernel, by decide +kernel⟩, List.mem_of_getElem? (i := 1880) (by decide +kernel), List.mem_of_getElem? (i := 2699) (by decide +kernel), List.mem_of_getElem? (i := 2700) (by decide +kernel)⟩
theorem lw_p140 : lw_okq (⟨"ChanceArenaModel", "reach", "(I)V"⟩, 49) := ⟨⟨by decide +kernel, by decide +kernel⟩, List.mem_of_getElem? (i := 1880) (by decide +kernel), List.mem_of_getElem? (i := 2703) (by decide +kernel), List.mem_of_getElem? (i := 2704) (by decide +kernel)⟩
theorem lw_p141 : lw_okq (⟨"ChanceArenaModel", "enabled", "(II)V"⟩, 49) := ⟨⟨by decide +kernel, by decide +kernel⟩, List.mem_of_getElem? (i := 1880) (by decide +kernel), List.mem_of_getElem? (i := 2707) (by decide +kernel), List.mem_of_getElem? (i := 2708) (by decide +kernel)⟩
theorem lw_p142 : lw_okq (⟨"ChanceArenaModel", "chances", "(II)J"⟩, 49) := ⟨⟨by decide +kernel, by decide +kernel⟩, List.mem_of_getElem? (i := 1880) (by decide +kernel), List.mem_of_getElem? (i := 2711) (by decide +kernel), List.mem_of_getElem? (i := 2712) (by decide +kernel)⟩
theorem lw_p143 : lw_okq (⟨"ChanceArenaModel", "way", "(III)V"⟩, 49) := ⟨⟨by decide +kernel, by decide +kernel⟩, List.mem_of_getElem? (i := 1880) (by decide +kernel), List.mem_of_getElem? (i := 2715) (by decide +kernel), List.mem_of_getElem? (i := 2716) (by decide +kernel)⟩
def lw_privs_9 : List (MethodName × Nat) := [(⟨"ChanceArenaModel", "know", "(III)V"⟩, 49), (⟨"ChanceArenaModel", "varItem", "(II)V"⟩, 49), (⟨"ChanceArenaModel", "initOf", "(II)I"⟩, 49), (⟨"ChanceArenaModel", "rule", "(IIZZ)I"⟩, 49), (⟨"ChanceArenaModel", "wholeOf", "(II)I"⟩, 49), (⟨"ChanceArenaModel", "begins", "(III)V"⟩, 49), (⟨"ChanceArenaModel", "commandItem", "(II)V"⟩, 49), (⟨"ChanceArenaModel", "branch", "(III)I"⟩, 49), (⟨"ChanceArenaModel", "setItem", "(II)I"⟩, 49), (⟨"ChanceArenaModel", "closeOf", "(I)I"⟩, 49), (⟨"ChanceArenaModel", "state", "(I)V"⟩, 49), (⟨"ChanceArenaModel", "enter", "(I)V"⟩, 49), (⟨"ChanceArenaModel", "reach", "(I)V"⟩, 49), (⟨"ChanceArenaModel", "enabled", "(II)V"⟩, 49), (⟨"ChanceArenaModel", "chances", "(II)J"⟩, 49), (⟨"ChanceArenaModel", "way", "(III)V"⟩, 49)]
theorem lw_r9 : ∀ q ∈ lw_privs_9, lw_okq q := List.forall_mem_cons.mpr ⟨lw_p128, List.forall_mem_cons.mpr ⟨lw_p129, List.forall_mem_cons.mpr ⟨lw_p130, List.forall_mem_cons.mpr ⟨lw_p131, List.forall_mem_cons.mpr ⟨lw_p132, List.forall_mem_cons.mpr ⟨lw_p133, List.forall_mem_cons.mpr ⟨lw_p134, List.forall_mem_cons.mpr ⟨lw_p135, List.forall_mem_cons.mpr ⟨lw_p136, List.forall_mem_cons.mpr ⟨lw_p137, List.forall_mem_cons.mpr ⟨lw_p138, List.forall_mem_cons.mpr ⟨lw_p139, List.forall_mem_cons.mpr ⟨lw_p140, List.forall_mem_cons.mpr ⟨lw_p141, List.forall_mem_cons.mpr ⟨lw_p142, List.forall_mem_cons.mpr ⟨lw_p143, fun _ h => absurd h List.not_mem_nil⟩⟩⟩⟩⟩⟩⟩⟩⟩⟩⟩⟩⟩⟩⟩⟩
theorem lw_p144 : lw_okq (⟨"ChanceArenaModel", "set", "(III)V"⟩, 49) := ⟨⟨by decide +kernel, by decide +kernel⟩, List.mem_of_getElem? (i := 1880) (by decide +kernel), List.mem_of_getElem? (i := 2719) (by decide +kernel), List.mem_of_getElem? (i := 2720) (by decide +kernel)⟩
theorem lw_p145 : lw_okq (⟨"ChanceArenaModel", "stateOf", "()I"⟩, 49) := ⟨⟨by decide +kernel, by decide +kernel⟩, List.mem_of_getElem? (i := 1880) (by decide +kernel), List.mem_of_getElem? (i := 2723) (by decide +kernel), List.mem_of_getElem? (i := 2724) (by decide +kernel)⟩
theorem lw_p146 : lw_okq (⟨"ChanceArenaModel", "add", "(IJJ)V"⟩, 49) := ⟨⟨by decide +kernel, by decide +kernel⟩, List.mem_of_getElem? (i := 1880) (by decide +kernel), List.mem_of_getElem? (i := 2727) (by decide +kernel), List.mem_of_getElem? (i := 2728) (by decide +kernel)⟩
theorem lw_p147 : lw_okq (⟨"ChanceArenaModel", "tellState", "(I)V"⟩, 49) := ⟨⟨by decide +kernel, by decide +kernel⟩, List.mem_of_getElem? (i := 1880) (by decide +kernel), List.mem_of_getElem? (i := 2731) (by decide +kernel), List.mem_of_getElem? (i := 2732) (by decide +kernel)⟩
theorem lw_p148 : lw_okq (⟨"ChanceArenaModel", "isState", "(I)Z"⟩, 49) := ⟨⟨by decide +kernel, by decide +kernel⟩, List.mem_of_getElem? (i := 1880) (by decide +kernel), List.mem_of_getElem? (i := 2763) (by decide +kernel), List.mem_of_getElem? (i := 2764) (by decide +kernel)⟩
theorem lw_p149 : lw_okq (⟨"ChanceArenaModel", "isCommand", "(II)Z"⟩, 49) := ⟨⟨by decide +kernel, by decide +kernel⟩, List.mem_of_getElem? (i := 1880) (by decide +kernel), List.mem_of_getElem? (i := 2775) (by decide +kernel), List.mem_of_getElem? (i := 2776) (by decide +kernel)⟩
theorem lw_p150 : lw_okq (⟨"ChanceArenaModel$Solver", "work", "(II)I"⟩, 32) := ⟨⟨by decide +kernel, by decide +kernel⟩, List.mem_of_getElem? (i := 2031) (by decide +kernel), List.mem_of_getElem? (i := 2795) (by decide +kernel), List.mem_of_getElem? (i := 2796) (by decide +kernel)⟩
theorem lw_p151 : lw_okq (⟨"ChanceArenaModel$Solver", "look", "()I"⟩, 32) := ⟨⟨by decide +kernel, by decide +kernel⟩, List.mem_of_getElem? (i := 2031) (by decide +kernel), List.mem_of_getElem? (i := 2799) (by decide +kernel), List.mem_of_getElem? (i := 2800) (by decide +kernel)⟩
theorem lw_p152 : lw_okq (⟨"ChanceArenaModel$Solver", "grow", "(Z)V"⟩, 32) := ⟨⟨by decide +kernel, by decide +kernel⟩, List.mem_of_getElem? (i := 2031) (by decide +kernel), List.mem_of_getElem? (i := 2803) (by decide +kernel), List.mem_of_getElem? (i := 2804) (by decide +kernel)⟩
theorem lw_p153 : lw_okq (⟨"ChanceArenaModel$Solver", "comes", "(IZ)Z"⟩, 32) := ⟨⟨by decide +kernel, by decide +kernel⟩, List.mem_of_getElem? (i := 2031) (by decide +kernel), List.mem_of_getElem? (i := 2807) (by decide +kernel), List.mem_of_getElem? (i := 2808) (by decide +kernel)⟩
theorem lw_p154 : lw_okq (⟨"ChanceArenaModel$Solver", "many", "(I)I"⟩, 32) := ⟨⟨by decide +kernel, by decide +kernel⟩, List.mem_of_getElem? (i := 2031) (by decide +kernel), List.mem_of_getElem? (i := 2811) (by decide +kernel), List.mem_of_getElem? (i := 2812) (by decide +kernel)⟩
theorem lw_p155 : lw_okq (⟨"ChanceArenaModel$Solver", "may", "(II)Z"⟩, 32) := ⟨⟨by decide +kernel, by decide +kernel⟩, List.mem_of_getElem? (i := 2031) (by decide +kernel), List.mem_of_getElem? (i := 2815) (by decide +kernel), List.mem_of_getElem? (i := 2816) (by decide +kernel)⟩
theorem lw_p156 : lw_okq (⟨"ChanceArenaModel$Solver", "leadsIn", "(II)Z"⟩, 32) := ⟨⟨by decide +kernel, by decide +kernel⟩, List.mem_of_getElem? (i := 2031) (by decide +kernel), List.mem_of_getElem? (i := 2819) (by decide +kernel), List.mem_of_getElem? (i := 2820) (by decide +kernel)⟩
theorem lw_p157 : lw_okq (⟨"ChanceArenaModel$Solver", "firstThatMay", "(I)I"⟩, 32) := ⟨⟨by decide +kernel, by decide +kernel⟩, List.mem_of_getElem? (i := 2031) (by decide +kernel), List.mem_of_getElem? (i := 2827) (by decide +kernel), List.mem_of_getElem? (i := 2828) (by decide +kernel)⟩
theorem lw_p158 : lw_okq (⟨"ChanceArenaModel$Solver", "answer", "()V"⟩, 32) := ⟨⟨by decide +kernel, by decide +kernel⟩, List.mem_of_getElem? (i := 2031) (by decide +kernel), List.mem_of_getElem? (i := 2831) (by decide +kernel), List.mem_of_getElem? (i := 2832) (by decide +kernel)⟩
theorem lw_p159 : lw_okq (⟨"ChanceArenaModel$Solver", "settle", "()V"⟩, 32) := ⟨⟨by decide +kernel, by decide +kernel⟩, List.mem_of_getElem? (i := 2031) (by decide +kernel), List.mem_of_getElem? (i := 2835) (by decide +kernel), List.mem_of_getElem? (i := 2836) (by decide +kernel)⟩
def lw_privs_10 : List (MethodName × Nat) := [(⟨"ChanceArenaModel", "set", "(III)V"⟩, 49), (⟨"ChanceArenaModel", "stateOf", "()I"⟩, 49), (⟨"ChanceArenaModel", "add", "(IJJ)V"⟩, 49), (⟨"ChanceArenaModel", "tellState", "(I)V"⟩, 49), (⟨"ChanceArenaModel", "isState", "(I)Z"⟩, 49), (⟨"ChanceArenaModel", "isCommand", "(II)Z"⟩, 49), (⟨"ChanceArenaModel$Solver", "work", "(II)I"⟩, 32), (⟨"ChanceArenaModel$Solver", "look", "()I"⟩, 32), (⟨"ChanceArenaModel$Solver", "grow", "(Z)V"⟩, 32), (⟨"ChanceArenaModel$Solver", "comes", "(IZ)Z"⟩, 32), (⟨"ChanceArenaModel$Solver", "many", "(I)I"⟩, 32), (⟨"ChanceArenaModel$Solver", "may", "(II)Z"⟩, 32), (⟨"ChanceArenaModel$Solver", "leadsIn", "(II)Z"⟩, 32), (⟨"ChanceArenaModel$Solver", "firstThatMay", "(I)I"⟩, 32), (⟨"ChanceArenaModel$Solver", "answer", "()V"⟩, 32), (⟨"ChanceArenaModel$Solver", "settle", "()V"⟩, 32)]
theorem lw_r10 : ∀ q ∈ lw_privs_10, lw_okq q := List.forall_mem_cons.mpr ⟨lw_p144, List.forall_mem_cons.mpr ⟨lw_p145, List.forall_mem_cons.mpr ⟨lw_p146, List.forall_mem_cons.mpr ⟨lw_p147, List.forall_mem_cons.mpr ⟨lw_p148, List.forall_mem_cons.mpr ⟨lw_p149, List.forall_mem_cons.mpr ⟨lw_p150, List.forall_mem_cons.mpr ⟨lw_p151, List.forall_mem_cons.mpr ⟨lw_p152, List.forall_mem_cons.mpr ⟨lw_p153, List.forall_mem_cons.mpr ⟨lw_p154, List.forall_mem_cons.mpr ⟨lw_p155, List.forall_mem_cons.mpr ⟨lw_p156, List.forall_mem_cons.mpr ⟨lw_p157, List.forall_mem_cons.mpr ⟨lw_p158, List.forall_mem_cons.mpr ⟨lw_p159, fun _ h => absurd h List.not_mem_nil⟩⟩⟩⟩⟩⟩⟩⟩⟩⟩⟩⟩⟩⟩⟩⟩
theorem lw_p160 : lw_okq (⟨"ChanceArenaModel$Solver", "writeRows", "()V"⟩, 32) := ⟨⟨by decide +kernel, by decide +kernel⟩, List.mem_of_getElem? (i := 2031) (by decide +kernel), List.mem_of_getElem? (i := 2839) (by decide +kernel), List.mem_of_getElem? (i := 2840) (by decide +kernel)⟩
theorem lw_p161 : lw_okq (⟨"ChanceArenaModel$Solver", "cell", "(II)LChanceArenaModel$Fraction;"⟩, 32) := ⟨⟨by decide +kernel, by decide +kernel⟩, List.mem_of_getElem? (i := 2031) (by decide +kernel), List.mem_of_getElem? (i := 2843) (by decide +kernel), List.mem_of_getElem? (i := 2844) (by decide +kernel)⟩
theorem lw_p162 : lw_okq (⟨"ChanceArenaModel$Whole", "trim", "()V"⟩, 2) := ⟨⟨by decide +kernel, by decide +kernel⟩, List.mem_of_getElem? (i := 2049) (by decide +kernel), List.mem_of_getElem? (i := 2860) (by decide +kernel), List.mem_of_getElem? (i := 2861) (by decide +kernel)⟩
theorem lw_p163 : lw_okq (⟨"ChanceArenaModel$Whole", "at", "(I)I"⟩, 2) := ⟨⟨by decide +kernel, by decide +kernel⟩, List.mem_of_getElem? (i := 2049) (by decide +kernel), List.mem_of_getElem? (i := 2868) (by decide +kernel), List.mem_of_getElem? (i := 2869) (by decide +kernel)⟩
theorem lw_p164 : lw_okq (⟨"ChanceArenaModel$Sums", "settle", "()V"⟩, 7) := ⟨⟨by decide +kernel, by decide +kernel⟩, List.mem_of_getElem? (i := 2037) (by decide +kernel), List.mem_of_getElem? (i := 2885) (by decide +kernel), List.mem_of_getElem? (i := 2886) (by decide +kernel)⟩
theorem lw_p165 : lw_okq (⟨"ChanceArenaModel$Sums", "common", "()V"⟩, 7) := ⟨⟨by decide +kernel, by decide +kernel⟩, List.mem_of_getElem? (i := 2037) (by decide +kernel), List.mem_of_getElem? (i := 2894) (by decide +kernel), List.mem_of_getElem? (i := 2895) (by decide +kernel)⟩
theorem lw_p166 : lw_okq (⟨"ChanceArenaModel$Sums", "divide", "(LChanceArenaModel$Whole;LChanceArenaModel$Whole;)V"⟩, 7) := ⟨⟨by decide +kernel, by decide +kernel⟩, List.mem_of_getElem? (i := 2037) (by decide +kernel), List.mem_of_getElem? (i := 2915) (by decide +kernel), List.mem_of_getElem? (i := 2916) (by decide +kernel)⟩
theorem lw_p167 : lw_okq (⟨"ChanceArenaModel$Solver", "solveRows", "()V"⟩, 32) := ⟨⟨by decide +kernel, by decide +kernel⟩, List.mem_of_getElem? (i := 2031) (by decide +kernel), List.mem_of_getElem? (i := 2935) (by decide +kernel), List.mem_of_getElem? (i := 2936) (by decide +kernel)⟩
theorem lw_p168 : lw_okq (⟨"ChanceArenaModel$Solver", "clearColumn", "(II)V"⟩, 32) := ⟨⟨by decide +kernel, by decide +kernel⟩, List.mem_of_getElem? (i := 2031) (by decide +kernel), List.mem_of_getElem? (i := 2948) (by decide +kernel), List.mem_of_getElem? (i := 2949) (by decide +kernel)⟩
theorem lw_p169 : lw_okq (⟨"ChanceArenaModel$Solver", "improve", "(II)Z"⟩, 32) := ⟨⟨by decide +kernel, by decide +kernel⟩, List.mem_of_getElem? (i := 2031) (by decide +kernel), List.mem_of_getElem? (i := 2956) (by decide +kernel), List.mem_of_getElem? (i := 2957) (by decide +kernel)⟩
theorem lw_p170 : lw_okq (⟨"ChanceArenaModel$Solver", "worthOf", "(II[LChanceArenaModel$Fraction;II)V"⟩, 32) := ⟨⟨by decide +kernel, by decide +kernel⟩, List.mem_of_getElem? (i := 2031) (by decide +kernel), List.mem_of_getElem? (i := 2960) (by decide +kernel), List.mem_of_getElem? (i := 2961) (by decide +kernel)⟩
theorem lw_p171 : lw_okq (⟨"ChanceArenaModel$Solver", "rank", "()V"⟩, 32) := ⟨⟨by decide +kernel, by decide +kernel⟩, List.mem_of_getElem? (i := 2031) (by decide +kernel), List.mem_of_getElem? (i := 2968) (by decide +kernel), List.mem_of_getElem? (i := 2969) (by decide +kernel)⟩
theorem lw_p172 : lw_okq (⟨"ChanceArenaModel$Solver", "isUnknown", "(I)Z"⟩, 32) := ⟨⟨by decide +kernel, by decide +kernel⟩, List.mem_of_getElem? (i := 2031) (by decide +kernel), List.mem_of_getElem? (i := 2972) (by decide +kernel), List.mem_of_getElem? (i := 2973) (by decide +kernel)⟩
theorem lw_p173 : lw_okq (⟨"ChanceArenaModel$Solver", "getsRank", "(II)Z"⟩, 32) := ⟨⟨by decide +kernel, by decide +kernel⟩, List.mem_of_getElem? (i := 2031) (by decide +kernel), List.mem_of_getElem? (i := 2976) (by decide +kernel), List.mem_of_getElem? (i := 2977) (by decide +kernel)⟩
theorem lw_p174 : lw_okq (⟨"ChanceArenaModel$Solver", "attains", "(II)Z"⟩, 32) := ⟨⟨by decide +kernel, by decide +kernel⟩, List.mem_of_getElem? (i := 2031) (by decide +kernel), List.mem_of_getElem? (i := 2980) (by decide +kernel), List.mem_of_getElem? (i := 2981) (by decide +kernel)⟩
theorem lw_p175 : lw_okq (⟨"ChanceArenaModel$Solver", "leadsBelow", "(III)Z"⟩, 32) := ⟨⟨by decide +kernel, by decide +kernel⟩, List.mem_of_getElem? (i := 2031) (by decide +kernel), List.mem_of_getElem? (i := 2984) (by decide +kernel), List.mem_of_getElem? (i := 2985) (by decide +kernel)⟩
def lw_privs_11 : List (MethodName × Nat) := [(⟨"ChanceArenaModel$Solver", "writeRows", "()V"⟩, 32), (⟨"ChanceArenaModel$Solver", "cell", "(II)LChanceArenaModel$Fraction;"⟩, 32), (⟨"ChanceArenaModel$Whole", "trim", "()V"⟩, 2), (⟨"ChanceArenaModel$Whole", "at", "(I)I"⟩, 2), (⟨"ChanceArenaModel$Sums", "settle", "()V"⟩, 7), (⟨"ChanceArenaModel$Sums", "common", "()V"⟩, 7), (⟨"ChanceArenaModel$Sums", "divide", "(LChanceArenaModel$Whole;LChanceArenaModel$Whole;)V"⟩, 7), (⟨"ChanceArenaModel$Solver", "solveRows", "()V"⟩, 32), (⟨"ChanceArenaModel$Solver", "clearColumn", "(II)V"⟩, 32), (⟨"ChanceArenaModel$Solver", "improve", "(II)Z"⟩, 32), (⟨"ChanceArenaModel$Solver", "worthOf", "(II[LChanceArenaModel$Fraction;II)V"⟩, 32), (⟨"ChanceArenaModel$Solver", "rank", "()V"⟩, 32), (⟨"ChanceArenaModel$Solver", "isUnknown", "(I)Z"⟩, 32), (⟨"ChanceArenaModel$Solver", "getsRank", "(II)Z"⟩, 32), (⟨"ChanceArenaModel$Solver", "attains", "(II)Z"⟩, 32), (⟨"ChanceArenaModel$Solver", "leadsBelow", "(III)Z"⟩, 32)]
theorem lw_r11 : ∀ q ∈ lw_privs_11, lw_okq q := List.forall_mem_cons.mpr ⟨lw_p160, List.forall_mem_cons.mpr ⟨lw_p161, List.forall_mem_cons.mpr ⟨lw_p162, List.forall_mem_cons.mpr ⟨lw_p163, List.forall_mem_cons.mpr ⟨lw_p164, List.forall_mem_cons.mpr ⟨lw_p165, List.forall_mem_cons.mpr ⟨lw_p166, List.forall_mem_cons.mpr ⟨lw_p167, List.forall_mem_cons.mpr ⟨lw_p168, List.forall_mem_cons.mpr ⟨lw_p169, List.forall_mem_cons.mpr ⟨lw_p170, List.forall_mem_cons.mpr ⟨lw_p171, List.forall_mem_cons.mpr ⟨lw_p172, List.forall_mem_cons.mpr ⟨lw_p173, List.forall_mem_cons.mpr ⟨lw_p174, List.forall_mem_cons.mpr ⟨lw_p175, fun _ h => absurd h List.not_mem_nil⟩⟩⟩⟩⟩⟩⟩⟩⟩⟩⟩⟩⟩⟩⟩⟩
theorem lw_p176 : lw_okq (⟨"ChanceArenaModel$Solver", "choose", "(I)I"⟩, 32) := ⟨⟨by decide +kernel, by decide +kernel⟩, List.mem_of_getElem? (i := 2031) (by decide +kernel), List.mem_of_getElem? (i := 2988) (by decide +kernel), List.mem_of_getElem? (i := 2989) (by decide +kernel)⟩
theorem lw_p177 : lw_okq (⟨"ChanceArenaModel$Solver", "move", "(I)Z"⟩, 32) := ⟨⟨by decide +kernel, by decide +kernel⟩, List.mem_of_getElem? (i := 2031) (by decide +kernel), List.mem_of_getElem? (i := 3000) (by decide +kernel), List.mem_of_getElem? (i := 3001) (by decide +kernel)⟩
theorem lw_p178 : lw_okq (⟨"ChanceArenaModel$Solver", "say", "(LChanceArenaModel$Whole;[II)I"⟩, 32) := ⟨⟨by decide +kernel, by decide +kernel⟩, List.mem_of_getElem? (i := 2031) (by decide +kernel), List.mem_of_getElem? (i := 3045) (by decide +kernel), List.mem_of_getElem? (i := 3046) (by decide +kernel)⟩
def lw_privs_12 : List (MethodName × Nat) := [(⟨"ChanceArenaModel$Solver", "choose", "(I)I"⟩, 32), (⟨"ChanceArenaModel$Solver", "move", "(I)Z"⟩, 32), (⟨"ChanceArenaModel$Solver", "say", "(LChanceArenaModel$Whole;[II)I"⟩, 32)]
theorem lw_r12 : ∀ q ∈ lw_privs_12, lw_okq q := List.forall_mem_cons.mpr ⟨lw_p176, List.forall_mem_cons.mpr ⟨lw_p177, List.forall_mem_cons.mpr ⟨lw_p178, fun _ h => absurd h List.not_mem_nil⟩⟩⟩
def lw_privs : List (MethodName × Nat) := lw_privs_1 ++ (lw_privs_2 ++ (lw_privs_3 ++ (lw_privs_4 ++ (lw_privs_5 ++ (lw_privs_6 ++ (lw_privs_7 ++ (lw_privs_8 ++ (lw_privs_9 ++ (lw_privs_10 ++ (lw_privs_11 ++ (lw_privs_12)))))))))))
def lw_tbl : List Cond := k2_sels lw_privs ++ tables_1
theorem lw_privs_ok : ∀ q ∈ lw_privs, lw_okq q := by
  show ∀ q ∈ lw_privs_1 ++ (lw_privs_2 ++ (lw_privs_3 ++ (lw_privs_4 ++ (lw_privs_5 ++ (lw_privs_6 ++ (lw_privs_7 ++ (lw_privs_8 ++ (lw_privs_9 ++ (lw_privs_10 ++ (lw_privs_11 ++ (lw_privs_12))))))))))), lw_okq q
  exact List.forall_mem_append.mpr ⟨lw_r1, List.forall_mem_append.mpr ⟨lw_r2, List.forall_mem_append.mpr ⟨lw_r3, List.forall_mem_append.mpr ⟨lw_r4, List.forall_mem_append.mpr ⟨lw_r5, List.forall_mem_append.mpr ⟨lw_r6, List.forall_mem_append.mpr ⟨lw_r7, List.forall_mem_append.mpr ⟨lw_r8, List.forall_mem_append.mpr ⟨lw_r9, List.forall_mem_append.mpr ⟨lw_r10, List.forall_mem_append.mpr ⟨lw_r11, lw_r12⟩⟩⟩⟩⟩⟩⟩⟩⟩⟩⟩
end
section
/-- words that ride along a call: the tables only grow warmer -/
def zRide : Cond → Bool
  | .methodLinkNest .. | .fieldLinkNest .. | .castable .. | .declares _ | .arrayOver (.object _) => true
  | w => goodWord w
theorem zRide_at {args a9 : Array Value} {s U : State} (hW : s.WarmedH U.vm) {w : Cond} (hr : zRide w = true) (h : w.before args s = true) : w.before a9 U = true := by
  unfold zRide at hr
  split at hr
  · exact va_Nw.use rfl (va_Nw.warmM hW (va_Nw.of rfl h))
  · exact va_Nw.use rfl (va_Nw.warmF hW (va_Nw.of rfl h))
  · exact va_Nw.use rfl (va_Nw.warmC hW (va_Nw.of rfl h))
  · exact va_Nw.use rfl (va_Nw.warmD hW (va_Nw.of rfl h))
  · exact va_AO.use (va_AO.moved hW.alike (va_AO.of h))
  · exact word_at hW (good_of_word hr) h
def lw_R : List Cond := lw_tbl.filter zRide
/-- all of them hold -/
def zH (U : State) : Prop := ∀ w ∈ lw_R, w.before #[] U = true
theorem zR {w : Cond} (h : w ∈ lw_tbl) (hr : zRide w = true) : w ∈ lw_R := List.mem_filter.mpr ⟨h, hr⟩
theorem zH.moved {s U : State} (hW : s.WarmedH U.vm) (h : zH s) : zH U := fun w hw => zRide_at hW (List.mem_filter.mp hw).2 (h w hw)
theorem zH.use {s : State} (h : zH s) (a9 : Array Value) : ∀ w ∈ lw_R, w.before a9 s = true := fun w hw => zRide_at (State.WarmedH.refl s) (List.mem_filter.mp hw).2 (h w hw)
theorem zH.of {s : State} {args : Array Value} (h : ∀ w ∈ lw_tbl, w.before args s = true) : zH s := fun w hw => zRide_at (State.WarmedH.refl s) (List.mem_filter.mp hw).2 (h w (List.mem_filter.mp hw).1)
theorem zk_1 : ∀ w ∈ tables_1_1, w ∈ lw_tbl := fun w h => List.mem_append_right _ (List.mem_append_left _ h)
theorem zk_2 : ∀ w ∈ tables_1_2, w ∈ lw_tbl := fun w h => List.mem_append_right _ (List.mem_append_right _ (List.mem_append_left _ h))
theorem zk_3 : ∀ w ∈ tables_1_3, w ∈ lw_tbl := fun w h => List.mem_append_right _ (List.mem_append_right _ (List.mem_append_right _ (List.mem_append_left _ h)))
theorem zk_4 : ∀ w ∈ tables_1_4, w ∈ lw_tbl := fun w h => List.mem_append_right _ (List.mem_append_right _ (List.mem_append_right _ (List.mem_append_right _ (List.mem_append_left _ h))))
theorem zk_5 : ∀ w ∈ tables_1_5, w ∈ lw_tbl := fun w h => List.mem_append_right _ (List.mem_append_right _ (List.mem_append_right _ (List.mem_append_right _ (List.mem_append_right _ (List.mem_append_left _ h)))))
theorem zk_6 : ∀ w ∈ tables_1_6, w ∈ lw_tbl := fun w h => List.mem_append_right _ (List.mem_append_right _ (List.mem_append_right _ (List.mem_append_right _ (List.mem_append_right _ (List.mem_append_right _ (List.mem_append_left _ h))))))
theorem zk_7 : ∀ w ∈ tables_1_7, w ∈ lw_tbl := fun w h => List.mem_append_right _ (List.mem_append_right _ (List.mem_append_right _ (List.mem_append_right _ (List.mem_append_right _ (List.mem_append_right _ (List.mem_append_right _ (List.mem_append_left _ h)))))))
theorem zk_8 : ∀ w ∈ tables_1_8, w ∈ lw_tbl := fun w h => List.mem_append_right _ (List.mem_append_right _ (List.mem_append_right _ (List.mem_append_right _ (List.mem_append_right _ (List.mem_append_right _ (List.mem_append_right _ (List.mem_append_right _ (List.mem_append_left _ h))))))))
theorem zk_9 : ∀ w ∈ tables_1_9, w ∈ lw_tbl := fun w h => List.mem_append_right _ (List.mem_append_right _ (List.mem_append_right _ (List.mem_append_right _ (List.mem_append_right _ (List.mem_append_right _ (List.mem_append_right _ (List.mem_append_right _ (List.mem_append_right _ (List.mem_append_left _ h)))))))))
theorem zk_10 : ∀ w ∈ tables_1_10, w ∈ lw_tbl := fun w h => List.mem_append_right _ (List.mem_append_right _ (List.mem_append_right _ (List.mem_append_right _ (List.mem_append_right _ (List.mem_append_right _ (List.mem_append_right _ (List.mem_append_right _ (List.mem_append_right _ (List.mem_append_right _ (List.mem_append_left _ h))))))))))
theorem zk_11 : ∀ w ∈ tables_1_11, w ∈ lw_tbl := fun w h => List.mem_append_right _ (List.mem_append_right _ (List.mem_append_right _ (List.mem_append_right _ (List.mem_append_right _ (List.mem_append_right _ (List.mem_append_right _ (List.mem_append_right _ (List.mem_append_right _ (List.mem_append_right _ (List.mem_append_right _ (List.mem_append_left _ h)))))))))))
theorem zk_12 : ∀ w ∈ tables_1_12, w ∈ lw_tbl := fun w h => List.mem_append_right _ (List.mem_append_right _ (List.mem_append_right _ (List.mem_append_right _ (List.mem_append_right _ (List.mem_append_right _ (List.mem_append_right _ (List.mem_append_right _ (List.mem_append_right _ (List.mem_append_right _ (List.mem_append_right _ (List.mem_append_right _ (List.mem_append_left _ h))))))))))))
theorem zk_13 : ∀ w ∈ tables_1_13, w ∈ lw_tbl := fun w h => List.mem_append_right _ (List.mem_append_right _ (List.mem_append_right _ (List.mem_append_right _ (List.mem_append_right _ (List.mem_append_right _ (List.mem_append_right _ (List.mem_append_right _ (List.mem_append_right _ (List.mem_append_right _ (List.mem_append_right _ (List.mem_append_right _ (List.mem_append_right _ (List.mem_append_left _ h)))))))))))))
theorem zk_14 : ∀ w ∈ tables_1_14, w ∈ lw_tbl := fun w h => List.mem_append_right _ (List.mem_append_right _ (List.mem_append_right _ (List.mem_append_right _ (List.mem_append_right _ (List.mem_append_right _ (List.mem_append_right _ (List.mem_append_right _ (List.mem_append_right _ (List.mem_append_right _ (List.mem_append_right _ (List.mem_append_right _ (List.mem_append_right _ (List.mem_append_right _ (h))))))))))))))
/-- a method's words: its code alone; all else comes with the start -/
abbrev zW (w : Cond) : List Cond := [w]
theorem zGood {w : Cond} (h : w ∈ lw_R) (hr : goodWord w = true) : GoodIn lw_R (zW w) := fun w9 h9 => by
  have e9 : w9 = w := List.mem_singleton.mp h9
  subst e9
  exact ⟨h, good_of_word hr⟩
theorem k1_68 : (Jvm.Cond.lays "ChanceArena$Words" "ChanceArena$Words" "tape" "[C") ∈ lw_R := zR (zk_1 _ (List.mem_of_getElem? (i := 68) (by decide +kernel))) rfl
theorem k1_70 : (Jvm.Cond.lays "ChanceArena$Words" "ChanceArena$Words" "length" "I") ∈ lw_R := zR (zk_1 _ (List.mem_of_getElem? (i := 70) (by decide +kernel))) rfl
theorem k1_72 : (Jvm.Cond.lays "ChanceArena$Words" "ChanceArena$Words" "count" "I") ∈ lw_R := zR (zk_1 _ (List.mem_of_getElem? (i := 72) (by decide +kernel))) rfl
theorem k1_74 : (Jvm.Cond.lays "ChanceArena$Words" "ChanceArena$Words" "sorts" "[I") ∈ lw_R := zR (zk_1 _ (List.mem_of_getElem? (i := 74) (by decide +kernel))) rfl
theorem k1_76 : (Jvm.Cond.lays "ChanceArena$Words" "ChanceArena$Words" "starts" "[I") ∈ lw_R := zR (zk_1 _ (List.mem_of_getElem? (i := 76) (by decide +kernel))) rfl
theorem k1_78 : (Jvm.Cond.lays "ChanceArena$Words" "ChanceArena$Words" "amounts" "[I") ∈ lw_R := zR (zk_1 _ (List.mem_of_getElem? (i := 78) (by decide +kernel))) rfl
theorem k1_121 : (Jvm.Cond.lays "ChanceArena$RuleReader" "ChanceArena$RuleReader" "words" "LChanceArena$Words;") ∈ lw_R := zR (zk_1 _ (List.mem_of_getElem? (i := 121) (by decide +kernel))) rfl
theorem k1_123 : (Jvm.Cond.lays "ChanceArena$RuleReader" "ChanceArena$RuleReader" "text" "LChanceArena$Program;") ∈ lw_R := zR (zk_1 _ (List.mem_of_getElem? (i := 123) (by decide +kernel))) rfl
theorem k1_125 : (Jvm.Cond.lays "ChanceArena$RuleReader" "ChanceArena$RuleReader" "at" "I") ∈ lw_R := zR (zk_1 _ (List.mem_of_getElem? (i := 125) (by decide +kernel))) rfl
theorem k1_127 : (Jvm.Cond.lays "ChanceArena$RuleReader" "ChanceArena$RuleReader" "fault" "I") ∈ lw_R := zR (zk_1 _ (List.mem_of_getElem? (i := 127) (by decide +kernel))) rfl
theorem k1_129 : (Jvm.Cond.lays "ChanceArena$RuleReader" "ChanceArena$RuleReader" "place" "I") ∈ lw_R := zR (zk_1 _ (List.mem_of_getElem? (i := 129) (by decide +kernel))) rfl
theorem k1_131 : (Jvm.Cond.lays "ChanceArena$RuleReader" "ChanceArena$RuleReader" "depth" "I") ∈ lw_R := zR (zk_1 _ (List.mem_of_getElem? (i := 131) (by decide +kernel))) rfl
theorem k1_133 : (Jvm.Cond.lays "ChanceArena$RuleReader" "ChanceArena$RuleReader" "constsOnly" "Z") ∈ lw_R := zR (zk_1 _ (List.mem_of_getElem? (i := 133) (by decide +kernel))) rfl
theorem k1_135 : (Jvm.Cond.lays "ChanceArena$RuleReader" "ChanceArena$RuleReader" "operandWanted" "Z") ∈ lw_R := zR (zk_1 _ (List.mem_of_getElem? (i := 135) (by decide +kernel))) rfl
theorem k1_137 : (Jvm.Cond.laysFinal "ChanceArena$RuleReader" "ChanceArena$RuleReader" "open" "[I") ∈ lw_R := zR (zk_1 _ (List.mem_of_getElem? (i := 137) (by decide +kernel))) rfl
theorem k1_139 : (Jvm.Cond.laysFinal "ChanceArena$RuleReader" "ChanceArena$RuleReader" "openPlace" "[I") ∈ lw_R := zR (zk_1 _ (List.mem_of_getElem? (i := 139) (by decide +kernel))) rfl
theorem k1_141 : (Jvm.Cond.laysFinal "ChanceArena$RuleReader" "ChanceArena$RuleReader" "openOrder" "[I") ∈ lw_R := zR (zk_1 _ (List.mem_of_getElem? (i := 141) (by decide +kernel))) rfl
theorem k1_143 : (Jvm.Cond.laysFinal "ChanceArena$RuleReader" "ChanceArena$RuleReader" "openMarks" "[I") ∈ lw_R := zR (zk_1 _ (List.mem_of_getElem? (i := 143) (by decide +kernel))) rfl
theorem k1_145 : (Jvm.Cond.lays "ChanceArena$RuleReader" "ChanceArena$RuleReader" "opened" "I") ∈ lw_R := zR (zk_1 _ (List.mem_of_getElem? (i := 145) (by decide +kernel))) rfl
theorem k1_147 : (Jvm.Cond.laysFinal "ChanceArena$RuleReader" "ChanceArena$RuleReader" "truths" "[Z") ∈ lw_R := zR (zk_1 _ (List.mem_of_getElem? (i := 147) (by decide +kernel))) rfl
theorem k1_149 : (Jvm.Cond.lays "ChanceArena$RuleReader" "ChanceArena$RuleReader" "operandCount" "I") ∈ lw_R := zR (zk_1 _ (List.mem_of_getElem? (i := 149) (by decide +kernel))) rfl
theorem k1_151 : (Jvm.Cond.laysFinal "ChanceArena$RuleReader" "ChanceArena$RuleReader" "nameWord" "[I") ∈ lw_R := zR (zk_1 _ (List.mem_of_getElem? (i := 151) (by decide +kernel))) rfl
theorem k1_153 : (Jvm.Cond.laysFinal "ChanceArena$RuleReader" "ChanceArena$RuleReader" "nameSort" "[I") ∈ lw_R := zR (zk_1 _ (List.mem_of_getElem? (i := 153) (by decide +kernel))) rfl
theorem k1_155 : (Jvm.Cond.laysFinal "ChanceArena$RuleReader" "ChanceArena$RuleReader" "nameIndex" "[I") ∈ lw_R := zR (zk_1 _ (List.mem_of_getElem? (i := 155) (by decide +kernel))) rfl
theorem k1_157 : (Jvm.Cond.laysFinal "ChanceArena$RuleReader" "ChanceArena$RuleReader" "nameTruth" "[Z") ∈ lw_R := zR (zk_1 _ (List.mem_of_getElem? (i := 157) (by decide +kernel))) rfl
theorem k1_159 : (Jvm.Cond.lays "ChanceArena$RuleReader" "ChanceArena$RuleReader" "nameCount" "I") ∈ lw_R := zR (zk_1 _ (List.mem_of_getElem? (i := 159) (by decide +kernel))) rfl
theorem k1_196 : (Jvm.Cond.lays "ChanceArena$Machine" "ChanceArena$Machine" "text" "LChanceArena$Program;") ∈ lw_R := zR (zk_1 _ (List.mem_of_getElem? (i := 196) (by decide +kernel))) rfl
theorem k1_198 : (Jvm.Cond.lays "ChanceArena$Machine" "ChanceArena$Machine" "fault" "I") ∈ lw_R := zR (zk_1 _ (List.mem_of_getElem? (i := 198) (by decide +kernel))) rfl
theorem k1_200 : (Jvm.Cond.lays "ChanceArena$Machine" "ChanceArena$Machine" "place" "I") ∈ lw_R := zR (zk_1 _ (List.mem_of_getElem? (i := 200) (by decide +kernel))) rfl
theorem k1_202 : (Jvm.Cond.lays "ChanceArena$Machine" "ChanceArena$Machine" "numbers" "[I") ∈ lw_R := zR (zk_1 _ (List.mem_of_getElem? (i := 202) (by decide +kernel))) rfl
theorem k1_204 : (Jvm.Cond.lays "ChanceArena$Machine" "ChanceArena$Machine" "base" "I") ∈ lw_R := zR (zk_1 _ (List.mem_of_getElem? (i := 204) (by decide +kernel))) rfl
theorem k1_206 : (Jvm.Cond.laysFinal "ChanceArena$Machine" "ChanceArena$Machine" "next" "[I") ∈ lw_R := zR (zk_1 _ (List.mem_of_getElem? (i := 206) (by decide +kernel))) rfl
theorem k1_208 : (Jvm.Cond.lays "ChanceArena$Machine" "ChanceArena$Machine" "above" "[I") ∈ lw_R := zR (zk_1 _ (List.mem_of_getElem? (i := 208) (by decide +kernel))) rfl
theorem k1_210 : (Jvm.Cond.lays "ChanceArena$Machine" "ChanceArena$Machine" "below" "[I") ∈ lw_R := zR (zk_1 _ (List.mem_of_getElem? (i := 210) (by decide +kernel))) rfl
theorem k1_212 : (Jvm.Cond.lays "ChanceArena$Machine" "ChanceArena$Machine" "top" "I") ∈ lw_R := zR (zk_1 _ (List.mem_of_getElem? (i := 212) (by decide +kernel))) rfl
theorem k1_214 : (Jvm.Cond.lays "ChanceArena$Machine" "ChanceArena$Machine" "stamp" "I") ∈ lw_R := zR (zk_1 _ (List.mem_of_getElem? (i := 214) (by decide +kernel))) rfl
theorem k1_216 : (Jvm.Cond.laysFinal "ChanceArena$Machine" "ChanceArena$Machine" "stamps" "[I") ∈ lw_R := zR (zk_1 _ (List.mem_of_getElem? (i := 216) (by decide +kernel))) rfl
theorem k1_218 : (Jvm.Cond.laysFinal "ChanceArena$Machine" "ChanceArena$Machine" "metAbove" "[I") ∈ lw_R := zR (zk_1 _ (List.mem_of_getElem? (i := 218) (by decide +kernel))) rfl
theorem k1_220 : (Jvm.Cond.laysFinal "ChanceArena$Machine" "ChanceArena$Machine" "metBelow" "[I") ∈ lw_R := zR (zk_1 _ (List.mem_of_getElem? (i := 220) (by decide +kernel))) rfl
theorem k1_222 : (Jvm.Cond.laysFinal "ChanceArena$Machine" "ChanceArena$Machine" "called" "[I") ∈ lw_R := zR (zk_1 _ (List.mem_of_getElem? (i := 222) (by decide +kernel))) rfl
theorem k1_224 : (Jvm.Cond.laysFinal "ChanceArena$Machine" "ChanceArena$Machine" "back" "[I") ∈ lw_R := zR (zk_1 _ (List.mem_of_getElem? (i := 224) (by decide +kernel))) rfl
theorem k1_226 : (Jvm.Cond.lays "ChanceArena$Machine" "ChanceArena$Machine" "calls" "I") ∈ lw_R := zR (zk_1 _ (List.mem_of_getElem? (i := 226) (by decide +kernel))) rfl
theorem k1_238 : (Jvm.Cond.laysFinal "ChanceArena$TextReader" "ChanceArena$TextReader" "rules" "LChanceArena$RuleReader;") ∈ lw_R := zR (zk_1 _ (List.mem_of_getElem? (i := 238) (by decide +kernel))) rfl
theorem k2_0 : (Jvm.Cond.laysFinal "ChanceArena$TextReader" "ChanceArena$TextReader" "machine" "LChanceArena$Machine;") ∈ lw_R := zR (zk_2 _ (List.mem_of_getElem? (i := 0) (by decide +kernel))) rfl
theorem k2_2 : (Jvm.Cond.lays "ChanceArena$TextReader" "ChanceArena$TextReader" "text" "LChanceArena$Program;") ∈ lw_R := zR (zk_2 _ (List.mem_of_getElem? (i := 2) (by decide +kernel))) rfl
theorem k2_4 : (Jvm.Cond.lays "ChanceArena$TextReader" "ChanceArena$TextReader" "nameWord" "I") ∈ lw_R := zR (zk_2 _ (List.mem_of_getElem? (i := 4) (by decide +kernel))) rfl
theorem k2_6 : (Jvm.Cond.lays "ChanceArena$TextReader" "ChanceArena$TextReader" "itemStart" "I") ∈ lw_R := zR (zk_2 _ (List.mem_of_getElem? (i := 6) (by decide +kernel))) rfl
theorem k2_8 : (Jvm.Cond.laysFinal "ChanceArena$TextReader" "ChanceArena$TextReader" "ruleStart" "[I") ∈ lw_R := zR (zk_2 _ (List.mem_of_getElem? (i := 8) (by decide +kernel))) rfl
theorem k2_10 : (Jvm.Cond.laysFinal "ChanceArena$TextReader" "ChanceArena$TextReader" "rulePlace" "[I") ∈ lw_R := zR (zk_2 _ (List.mem_of_getElem? (i := 10) (by decide +kernel))) rfl
theorem k2_12 : (Jvm.Cond.lays "ChanceArena$TextReader" "ChanceArena$TextReader" "inited" "Z") ∈ lw_R := zR (zk_2 _ (List.mem_of_getElem? (i := 12) (by decide +kernel))) rfl
theorem k2_14 : (Jvm.Cond.lays "ChanceArena$TextReader" "ChanceArena$TextReader" "truth" "Z") ∈ lw_R := zR (zk_2 _ (List.mem_of_getElem? (i := 14) (by decide +kernel))) rfl
theorem k2_85 : (Jvm.Cond.lays "ChanceArena$Program" "ChanceArena$Program" "orders" "[I") ∈ lw_R := zR (zk_2 _ (List.mem_of_getElem? (i := 85) (by decide +kernel))) rfl
theorem k2_87 : (Jvm.Cond.lays "ChanceArena$Program" "ChanceArena$Program" "operands" "[I") ∈ lw_R := zR (zk_2 _ (List.mem_of_getElem? (i := 87) (by decide +kernel))) rfl
theorem k2_89 : (Jvm.Cond.lays "ChanceArena$Program" "ChanceArena$Program" "length" "I") ∈ lw_R := zR (zk_2 _ (List.mem_of_getElem? (i := 89) (by decide +kernel))) rfl
theorem k2_91 : (Jvm.Cond.lays "ChanceArena$Program" "ChanceArena$Program" "vars" "I") ∈ lw_R := zR (zk_2 _ (List.mem_of_getElem? (i := 91) (by decide +kernel))) rfl
theorem k2_93 : (Jvm.Cond.laysFinal "ChanceArena$Program" "ChanceArena$Program" "low" "[I") ∈ lw_R := zR (zk_2 _ (List.mem_of_getElem? (i := 93) (by decide +kernel))) rfl
theorem k2_95 : (Jvm.Cond.laysFinal "ChanceArena$Program" "ChanceArena$Program" "high" "[I") ∈ lw_R := zR (zk_2 _ (List.mem_of_getElem? (i := 95) (by decide +kernel))) rfl
theorem k2_97 : (Jvm.Cond.laysFinal "ChanceArena$Program" "ChanceArena$Program" "init" "[I") ∈ lw_R := zR (zk_2 _ (List.mem_of_getElem? (i := 97) (by decide +kernel))) rfl
theorem k2_99 : (Jvm.Cond.lays "ChanceArena$Program" "ChanceArena$Program" "names" "I") ∈ lw_R := zR (zk_2 _ (List.mem_of_getElem? (i := 99) (by decide +kernel))) rfl
theorem k2_101 : (Jvm.Cond.laysFinal "ChanceArena$Program" "ChanceArena$Program" "above" "[I") ∈ lw_R := zR (zk_2 _ (List.mem_of_getElem? (i := 101) (by decide +kernel))) rfl
theorem k2_103 : (Jvm.Cond.laysFinal "ChanceArena$Program" "ChanceArena$Program" "below" "[I") ∈ lw_R := zR (zk_2 _ (List.mem_of_getElem? (i := 103) (by decide +kernel))) rfl
theorem k2_105 : (Jvm.Cond.laysFinal "ChanceArena$Program" "ChanceArena$Program" "formula" "[I") ∈ lw_R := zR (zk_2 _ (List.mem_of_getElem? (i := 105) (by decide +kernel))) rfl
theorem k2_107 : (Jvm.Cond.lays "ChanceArena$Program" "ChanceArena$Program" "target" "I") ∈ lw_R := zR (zk_2 _ (List.mem_of_getElem? (i := 107) (by decide +kernel))) rfl
theorem k2_109 : (Jvm.Cond.lays "ChanceArena$Program" "ChanceArena$Program" "commands" "I") ∈ lw_R := zR (zk_2 _ (List.mem_of_getElem? (i := 109) (by decide +kernel))) rfl
theorem k2_111 : (Jvm.Cond.laysFinal "ChanceArena$Program" "ChanceArena$Program" "player" "[I") ∈ lw_R := zR (zk_2 _ (List.mem_of_getElem? (i := 111) (by decide +kernel))) rfl
theorem k2_113 : (Jvm.Cond.laysFinal "ChanceArena$Program" "ChanceArena$Program" "commandPlace" "[I") ∈ lw_R := zR (zk_2 _ (List.mem_of_getElem? (i := 113) (by decide +kernel))) rfl
theorem k2_115 : (Jvm.Cond.laysFinal "ChanceArena$Program" "ChanceArena$Program" "guard" "[I") ∈ lw_R := zR (zk_2 _ (List.mem_of_getElem? (i := 115) (by decide +kernel))) rfl
theorem k2_117 : (Jvm.Cond.laysFinal "ChanceArena$Program" "ChanceArena$Program" "firstBranch" "[I") ∈ lw_R := zR (zk_2 _ (List.mem_of_getElem? (i := 117) (by decide +kernel))) rfl
theorem k2_119 : (Jvm.Cond.laysFinal "ChanceArena$Program" "ChanceArena$Program" "branchPlace" "[I") ∈ lw_R := zR (zk_2 _ (List.mem_of_getElem? (i := 119) (by decide +kernel))) rfl
theorem k2_121 : (Jvm.Cond.laysFinal "ChanceArena$Program" "ChanceArena$Program" "chance" "[I") ∈ lw_R := zR (zk_2 _ (List.mem_of_getElem? (i := 121) (by decide +kernel))) rfl
theorem k2_123 : (Jvm.Cond.laysFinal "ChanceArena$Program" "ChanceArena$Program" "sets" "[I") ∈ lw_R := zR (zk_2 _ (List.mem_of_getElem? (i := 123) (by decide +kernel))) rfl
theorem k2_182 : (Jvm.Cond.lays "ChanceArena$Game" "ChanceArena$Game" "count" "I") ∈ lw_R := zR (zk_2 _ (List.mem_of_getElem? (i := 182) (by decide +kernel))) rfl
theorem k2_184 : (Jvm.Cond.laysFinal "ChanceArena$Game" "ChanceArena$Game" "numbers" "[I") ∈ lw_R := zR (zk_2 _ (List.mem_of_getElem? (i := 184) (by decide +kernel))) rfl
theorem k2_186 : (Jvm.Cond.laysFinal "ChanceArena$Game" "ChanceArena$Game" "sorts" "[I") ∈ lw_R := zR (zk_2 _ (List.mem_of_getElem? (i := 186) (by decide +kernel))) rfl
theorem k2_188 : (Jvm.Cond.laysFinal "ChanceArena$Game" "ChanceArena$Game" "told" "[I") ∈ lw_R := zR (zk_2 _ (List.mem_of_getElem? (i := 188) (by decide +kernel))) rfl
theorem k2_190 : (Jvm.Cond.laysFinal "ChanceArena$Game" "ChanceArena$Game" "firstCommand" "[I") ∈ lw_R := zR (zk_2 _ (List.mem_of_getElem? (i := 190) (by decide +kernel))) rfl
theorem k2_192 : (Jvm.Cond.laysFinal "ChanceArena$Game" "ChanceArena$Game" "textCommand" "[I") ∈ lw_R := zR (zk_2 _ (List.mem_of_getElem? (i := 192) (by decide +kernel))) rfl
theorem k2_194 : (Jvm.Cond.laysFinal "ChanceArena$Game" "ChanceArena$Game" "multiple" "[I") ∈ lw_R := zR (zk_2 _ (List.mem_of_getElem? (i := 194) (by decide +kernel))) rfl
theorem k2_196 : (Jvm.Cond.laysFinal "ChanceArena$Game" "ChanceArena$Game" "firstBranch" "[I") ∈ lw_R := zR (zk_2 _ (List.mem_of_getElem? (i := 196) (by decide +kernel))) rfl
theorem k2_198 : (Jvm.Cond.laysFinal "ChanceArena$Game" "ChanceArena$Game" "goal" "[I") ∈ lw_R := zR (zk_2 _ (List.mem_of_getElem? (i := 198) (by decide +kernel))) rfl
theorem k2_200 : (Jvm.Cond.laysFinal "ChanceArena$Game" "ChanceArena$Game" "weight" "[I") ∈ lw_R := zR (zk_2 _ (List.mem_of_getElem? (i := 200) (by decide +kernel))) rfl
theorem k2_202 : (Jvm.Cond.lays "ChanceArena$Game" "ChanceArena$Game" "place" "I") ∈ lw_R := zR (zk_2 _ (List.mem_of_getElem? (i := 202) (by decide +kernel))) rfl
theorem k2_204 : (Jvm.Cond.lays "ChanceArena$Game" "ChanceArena$Game" "faultState" "I") ∈ lw_R := zR (zk_2 _ (List.mem_of_getElem? (i := 204) (by decide +kernel))) rfl
theorem k2_206 : (Jvm.Cond.lays "ChanceArena$Game" "ChanceArena$Game" "commandCount" "I") ∈ lw_R := zR (zk_2 _ (List.mem_of_getElem? (i := 206) (by decide +kernel))) rfl
theorem k2_208 : (Jvm.Cond.lays "ChanceArena$Game" "ChanceArena$Game" "branchCount" "I") ∈ lw_R := zR (zk_2 _ (List.mem_of_getElem? (i := 208) (by decide +kernel))) rfl
theorem k2_210 : (Jvm.Cond.lays "ChanceArena$Game" "ChanceArena$Game" "text" "LChanceArena$Program;") ∈ lw_R := zR (zk_2 _ (List.mem_of_getElem? (i := 210) (by decide +kernel))) rfl
theorem k2_212 : (Jvm.Cond.laysFinal "ChanceArena$Game" "ChanceArena$Game" "machine" "LChanceArena$Machine;") ∈ lw_R := zR (zk_2 _ (List.mem_of_getElem? (i := 212) (by decide +kernel))) rfl
theorem k2_214 : (Jvm.Cond.laysFinal "ChanceArena$Game" "ChanceArena$Game" "slots" "[I") ∈ lw_R := zR (zk_2 _ (List.mem_of_getElem? (i := 214) (by decide +kernel))) rfl
theorem k2_216 : (Jvm.Cond.laysFinal "ChanceArena$Game" "ChanceArena$Game" "chanceAbove" "[I") ∈ lw_R := zR (zk_2 _ (List.mem_of_getElem? (i := 216) (by decide +kernel))) rfl
theorem k2_218 : (Jvm.Cond.laysFinal "ChanceArena$Game" "ChanceArena$Game" "chanceBelow" "[I") ∈ lw_R := zR (zk_2 _ (List.mem_of_getElem? (i := 218) (by decide +kernel))) rfl
theorem k3_5 : (Jvm.Cond.lays "ChanceArena$Natural" "ChanceArena$Natural" "limbs" "[I") ∈ lw_R := zR (zk_3 _ (List.mem_of_getElem? (i := 5) (by decide +kernel))) rfl
theorem k3_7 : (Jvm.Cond.lays "ChanceArena$Natural" "ChanceArena$Natural" "size" "I") ∈ lw_R := zR (zk_3 _ (List.mem_of_getElem? (i := 7) (by decide +kernel))) rfl
theorem k3_28 : (Jvm.Cond.laysFinal "ChanceArena$Fraction" "ChanceArena$Fraction" "above" "LChanceArena$Natural;") ∈ lw_R := zR (zk_3 _ (List.mem_of_getElem? (i := 28) (by decide +kernel))) rfl
theorem k3_30 : (Jvm.Cond.laysFinal "ChanceArena$Fraction" "ChanceArena$Fraction" "below" "LChanceArena$Natural;") ∈ lw_R := zR (zk_3 _ (List.mem_of_getElem? (i := 30) (by decide +kernel))) rfl
theorem k3_32 : (Jvm.Cond.lays "ChanceArena$Fraction" "ChanceArena$Fraction" "times" "I") ∈ lw_R := zR (zk_3 _ (List.mem_of_getElem? (i := 32) (by decide +kernel))) rfl
theorem k3_47 : (Jvm.Cond.laysFinal "ChanceArena$Scales" "ChanceArena$Scales" "left" "LChanceArena$Natural;") ∈ lw_R := zR (zk_3 _ (List.mem_of_getElem? (i := 47) (by decide +kernel))) rfl
theorem k3_49 : (Jvm.Cond.laysFinal "ChanceArena$Scales" "ChanceArena$Scales" "right" "LChanceArena$Natural;") ∈ lw_R := zR (zk_3 _ (List.mem_of_getElem? (i := 49) (by decide +kernel))) rfl
theorem k3_51 : (Jvm.Cond.laysFinal "ChanceArena$Scales" "ChanceArena$Scales" "quotient" "LChanceArena$Natural;") ∈ lw_R := zR (zk_3 _ (List.mem_of_getElem? (i := 51) (by decide +kernel))) rfl
theorem k3_53 : (Jvm.Cond.laysFinal "ChanceArena$Scales" "ChanceArena$Scales" "scaled" "LChanceArena$Natural;") ∈ lw_R := zR (zk_3 _ (List.mem_of_getElem? (i := 53) (by decide +kernel))) rfl
theorem k3_55 : (Jvm.Cond.laysFinal "ChanceArena$Scales" "ChanceArena$Scales" "part" "LChanceArena$Natural;") ∈ lw_R := zR (zk_3 _ (List.mem_of_getElem? (i := 55) (by decide +kernel))) rfl
theorem k3_57 : (Jvm.Cond.laysFinal "ChanceArena$Scales" "ChanceArena$Scales" "product" "LChanceArena$Natural;") ∈ lw_R := zR (zk_3 _ (List.mem_of_getElem? (i := 57) (by decide +kernel))) rfl
theorem k3_59 : (Jvm.Cond.laysFinal "ChanceArena$Scales" "ChanceArena$Scales" "factors" "[J") ∈ lw_R := zR (zk_3 _ (List.mem_of_getElem? (i := 59) (by decide +kernel))) rfl
theorem k3_61 : (Jvm.Cond.laysFinal "ChanceArena$Scales" "ChanceArena$Scales" "sumPart" "LChanceArena$Natural;") ∈ lw_R := zR (zk_3 _ (List.mem_of_getElem? (i := 61) (by decide +kernel))) rfl
theorem k3_63 : (Jvm.Cond.laysFinal "ChanceArena$Scales" "ChanceArena$Scales" "termPart" "LChanceArena$Natural;") ∈ lw_R := zR (zk_3 _ (List.mem_of_getElem? (i := 63) (by decide +kernel))) rfl
theorem k3_65 : (Jvm.Cond.lays "ChanceArena$Scales" "ChanceArena$Scales" "best" "LChanceArena$Fraction;") ∈ lw_R := zR (zk_3 _ (List.mem_of_getElem? (i := 65) (by decide +kernel))) rfl
theorem k3_67 : (Jvm.Cond.lays "ChanceArena$Scales" "ChanceArena$Scales" "trial" "LChanceArena$Fraction;") ∈ lw_R := zR (zk_3 _ (List.mem_of_getElem? (i := 67) (by decide +kernel))) rfl
theorem k3_88 : (Jvm.Cond.laysFinal "ChanceArena$Residues" "ChanceArena$Residues" "entries" "[I") ∈ lw_R := zR (zk_3 _ (List.mem_of_getElem? (i := 88) (by decide +kernel))) rfl
theorem k3_90 : (Jvm.Cond.laysFinal "ChanceArena$Residues" "ChanceArena$Residues" "results" "[LChanceArena$Natural;") ∈ lw_R := zR (zk_3 _ (List.mem_of_getElem? (i := 90) (by decide +kernel))) rfl
theorem k3_92 : (Jvm.Cond.laysFinal "ChanceArena$Residues" "ChanceArena$Residues" "work" "[I") ∈ lw_R := zR (zk_3 _ (List.mem_of_getElem? (i := 92) (by decide +kernel))) rfl
theorem k3_94 : (Jvm.Cond.laysFinal "ChanceArena$Residues" "ChanceArena$Residues" "inverses" "[I") ∈ lw_R := zR (zk_3 _ (List.mem_of_getElem? (i := 94) (by decide +kernel))) rfl
theorem k3_96 : (Jvm.Cond.laysFinal "ChanceArena$Residues" "ChanceArena$Residues" "columns" "[I") ∈ lw_R := zR (zk_3 _ (List.mem_of_getElem? (i := 96) (by decide +kernel))) rfl
theorem k3_98 : (Jvm.Cond.laysFinal "ChanceArena$Residues" "ChanceArena$Residues" "residues" "[I") ∈ lw_R := zR (zk_3 _ (List.mem_of_getElem? (i := 98) (by decide +kernel))) rfl
theorem k3_100 : (Jvm.Cond.laysFinal "ChanceArena$Residues" "ChanceArena$Residues" "modulus" "LChanceArena$Natural;") ∈ lw_R := zR (zk_3 _ (List.mem_of_getElem? (i := 100) (by decide +kernel))) rfl
theorem k3_122 : (Jvm.Cond.laysFinal "ChanceArena$Solver" "ChanceArena$Solver" "scales" "LChanceArena$Scales;") ∈ lw_R := zR (zk_3 _ (List.mem_of_getElem? (i := 122) (by decide +kernel))) rfl
theorem k3_124 : (Jvm.Cond.laysFinal "ChanceArena$Solver" "ChanceArena$Solver" "ranks" "[I") ∈ lw_R := zR (zk_3 _ (List.mem_of_getElem? (i := 124) (by decide +kernel))) rfl
theorem k3_126 : (Jvm.Cond.laysFinal "ChanceArena$Solver" "ChanceArena$Solver" "choices" "[I") ∈ lw_R := zR (zk_3 _ (List.mem_of_getElem? (i := 126) (by decide +kernel))) rfl
theorem k3_128 : (Jvm.Cond.laysFinal "ChanceArena$Solver" "ChanceArena$Solver" "game" "LChanceArena$Game;") ∈ lw_R := zR (zk_3 _ (List.mem_of_getElem? (i := 128) (by decide +kernel))) rfl
theorem k3_130 : (Jvm.Cond.laysFinal "ChanceArena$Solver" "ChanceArena$Solver" "system" "LChanceArena$Residues;") ∈ lw_R := zR (zk_3 _ (List.mem_of_getElem? (i := 130) (by decide +kernel))) rfl
theorem k3_132 : (Jvm.Cond.laysFinal "ChanceArena$Solver" "ChanceArena$Solver" "low" "[I") ∈ lw_R := zR (zk_3 _ (List.mem_of_getElem? (i := 132) (by decide +kernel))) rfl
theorem k3_134 : (Jvm.Cond.laysFinal "ChanceArena$Solver" "ChanceArena$Solver" "high" "[I") ∈ lw_R := zR (zk_3 _ (List.mem_of_getElem? (i := 134) (by decide +kernel))) rfl
theorem k3_136 : (Jvm.Cond.laysFinal "ChanceArena$Solver" "ChanceArena$Solver" "slot" "[I") ∈ lw_R := zR (zk_3 _ (List.mem_of_getElem? (i := 136) (by decide +kernel))) rfl
theorem k3_138 : (Jvm.Cond.laysFinal "ChanceArena$Solver" "ChanceArena$Solver" "unknown" "[I") ∈ lw_R := zR (zk_3 _ (List.mem_of_getElem? (i := 138) (by decide +kernel))) rfl
theorem k3_140 : (Jvm.Cond.laysFinal "ChanceArena$Solver" "ChanceArena$Solver" "chosen" "[I") ∈ lw_R := zR (zk_3 _ (List.mem_of_getElem? (i := 140) (by decide +kernel))) rfl
theorem k3_142 : (Jvm.Cond.lays "ChanceArena$Solver" "ChanceArena$Solver" "unknowns" "I") ∈ lw_R := zR (zk_3 _ (List.mem_of_getElem? (i := 142) (by decide +kernel))) rfl
theorem k3_144 : (Jvm.Cond.laysFinal "ChanceArena$Solver" "ChanceArena$Solver" "attains" "[Z") ∈ lw_R := zR (zk_3 _ (List.mem_of_getElem? (i := 144) (by decide +kernel))) rfl
theorem k3_146 : (Jvm.Cond.laysFinal "ChanceArena$Solver" "ChanceArena$Solver" "probe" "[I") ∈ lw_R := zR (zk_3 _ (List.mem_of_getElem? (i := 146) (by decide +kernel))) rfl
theorem k3_148 : (Jvm.Cond.laysFinal "ChanceArena$Solver" "ChanceArena$Solver" "worth" "LChanceArena$Fraction;") ∈ lw_R := zR (zk_3 _ (List.mem_of_getElem? (i := 148) (by decide +kernel))) rfl
theorem k3_166 : (Jvm.Cond.lays "ChanceArena$Fractions" "ChanceArena$Fractions" "rows" "[LChanceArena$Fraction;") ∈ lw_R := zR (zk_3 _ (List.mem_of_getElem? (i := 166) (by decide +kernel))) rfl
theorem k3_168 : (Jvm.Cond.lays "ChanceArena$Fractions" "ChanceArena$Fractions" "known" "Z") ∈ lw_R := zR (zk_3 _ (List.mem_of_getElem? (i := 168) (by decide +kernel))) rfl
theorem k3_194 : (Jvm.Cond.lays "ChanceArena" "ChanceArena" "tape" "[C") ∈ lw_R := zR (zk_3 _ (List.mem_of_getElem? (i := 194) (by decide +kernel))) rfl
theorem k3_196 : (Jvm.Cond.lays "ChanceArena" "ChanceArena" "tapeLength" "I") ∈ lw_R := zR (zk_3 _ (List.mem_of_getElem? (i := 196) (by decide +kernel))) rfl
theorem k3_198 : (Jvm.Cond.laysFinal "ChanceArena" "ChanceArena" "words" "LChanceArena$Words;") ∈ lw_R := zR (zk_3 _ (List.mem_of_getElem? (i := 198) (by decide +kernel))) rfl
theorem k3_200 : (Jvm.Cond.laysFinal "ChanceArena" "ChanceArena" "reader" "LChanceArena$TextReader;") ∈ lw_R := zR (zk_3 _ (List.mem_of_getElem? (i := 200) (by decide +kernel))) rfl
theorem k3_202 : (Jvm.Cond.lays "ChanceArena" "ChanceArena" "text" "LChanceArena$Program;") ∈ lw_R := zR (zk_3 _ (List.mem_of_getElem? (i := 202) (by decide +kernel))) rfl
theorem k3_204 : (Jvm.Cond.lays "ChanceArena" "ChanceArena" "spare" "LChanceArena$Program;") ∈ lw_R := zR (zk_3 _ (List.mem_of_getElem? (i := 204) (by decide +kernel))) rfl
theorem k3_206 : (Jvm.Cond.lays "ChanceArena" "ChanceArena" "hasText" "Z") ∈ lw_R := zR (zk_3 _ (List.mem_of_getElem? (i := 206) (by decide +kernel))) rfl
theorem k3_208 : (Jvm.Cond.lays "ChanceArena" "ChanceArena" "faultPlace" "I") ∈ lw_R := zR (zk_3 _ (List.mem_of_getElem? (i := 208) (by decide +kernel))) rfl
theorem k3_210 : (Jvm.Cond.lays "ChanceArena" "ChanceArena" "faultState" "I") ∈ lw_R := zR (zk_3 _ (List.mem_of_getElem? (i := 210) (by decide +kernel))) rfl
theorem k3_212 : (Jvm.Cond.laysFinal "ChanceArena" "ChanceArena" "game" "LChanceArena$Game;") ∈ lw_R := zR (zk_3 _ (List.mem_of_getElem? (i := 212) (by decide +kernel))) rfl
theorem k3_214 : (Jvm.Cond.laysFinal "ChanceArena" "ChanceArena" "solver" "LChanceArena$Solver;") ∈ lw_R := zR (zk_3 _ (List.mem_of_getElem? (i := 214) (by decide +kernel))) rfl
theorem k3_216 : (Jvm.Cond.laysFinal "ChanceArena" "ChanceArena" "values" "LChanceArena$Fractions;") ∈ lw_R := zR (zk_3 _ (List.mem_of_getElem? (i := 216) (by decide +kernel))) rfl
theorem k3_218 : (Jvm.Cond.lays "ChanceArena" "ChanceArena" "withins" "LChanceArena$Fractions;") ∈ lw_R := zR (zk_3 _ (List.mem_of_getElem? (i := 218) (by decide +kernel))) rfl
theorem k3_220 : (Jvm.Cond.lays "ChanceArena" "ChanceArena" "earlier" "LChanceArena$Fractions;") ∈ lw_R := zR (zk_3 _ (List.mem_of_getElem? (i := 220) (by decide +kernel))) rfl
theorem k3_222 : (Jvm.Cond.laysFinal "ChanceArena" "ChanceArena" "judged" "LChanceArena$Fractions;") ∈ lw_R := zR (zk_3 _ (List.mem_of_getElem? (i := 222) (by decide +kernel))) rfl
theorem k3_224 : (Jvm.Cond.laysFinal "ChanceArena" "ChanceArena" "number" "LChanceArena$Natural;") ∈ lw_R := zR (zk_3 _ (List.mem_of_getElem? (i := 224) (by decide +kernel))) rfl
theorem k3_226 : (Jvm.Cond.laysFinal "ChanceArena" "ChanceArena" "shown" "LChanceArena$Fraction;") ∈ lw_R := zR (zk_3 _ (List.mem_of_getElem? (i := 226) (by decide +kernel))) rfl
theorem k3_228 : (Jvm.Cond.laysFinal "ChanceArena" "ChanceArena" "printed" "[C") ∈ lw_R := zR (zk_3 _ (List.mem_of_getElem? (i := 228) (by decide +kernel))) rfl
theorem k3_230 : (Jvm.Cond.lays "ChanceArena" "ChanceArena" "printedLength" "I") ∈ lw_R := zR (zk_3 _ (List.mem_of_getElem? (i := 230) (by decide +kernel))) rfl
theorem k8_216 : (Jvm.Cond.lays "ChanceArenaModel$Numbers" "ChanceArenaModel$Numbers" "all" "[I") ∈ lw_R := zR (zk_8 _ (List.mem_of_getElem? (i := 216) (by decide +kernel))) rfl
theorem k8_218 : (Jvm.Cond.lays "ChanceArenaModel$Numbers" "ChanceArenaModel$Numbers" "size" "I") ∈ lw_R := zR (zk_8 _ (List.mem_of_getElem? (i := 218) (by decide +kernel))) rfl
theorem k9_49 : (Jvm.Cond.laysFinal "ChanceArenaModel$Game" "ChanceArenaModel$Game" "sort" "LChanceArenaModel$Numbers;") ∈ lw_R := zR (zk_9 _ (List.mem_of_getElem? (i := 49) (by decide +kernel))) rfl
theorem k9_51 : (Jvm.Cond.laysFinal "ChanceArenaModel$Game" "ChanceArenaModel$Game" "place" "LChanceArenaModel$Numbers;") ∈ lw_R := zR (zk_9 _ (List.mem_of_getElem? (i := 51) (by decide +kernel))) rfl
theorem k9_53 : (Jvm.Cond.laysFinal "ChanceArenaModel$Game" "ChanceArenaModel$Game" "from" "LChanceArenaModel$Numbers;") ∈ lw_R := zR (zk_9 _ (List.mem_of_getElem? (i := 53) (by decide +kernel))) rfl
theorem k9_55 : (Jvm.Cond.laysFinal "ChanceArenaModel$Game" "ChanceArenaModel$Game" "value" "LChanceArenaModel$Numbers;") ∈ lw_R := zR (zk_9 _ (List.mem_of_getElem? (i := 55) (by decide +kernel))) rfl
theorem k9_57 : (Jvm.Cond.laysFinal "ChanceArenaModel$Game" "ChanceArenaModel$Game" "firstPart" "LChanceArenaModel$Numbers;") ∈ lw_R := zR (zk_9 _ (List.mem_of_getElem? (i := 57) (by decide +kernel))) rfl
theorem k9_59 : (Jvm.Cond.laysFinal "ChanceArenaModel$Game" "ChanceArenaModel$Game" "nextPart" "LChanceArenaModel$Numbers;") ∈ lw_R := zR (zk_9 _ (List.mem_of_getElem? (i := 59) (by decide +kernel))) rfl
theorem k9_61 : (Jvm.Cond.lays "ChanceArenaModel$Game" "ChanceArenaModel$Game" "rules" "I") ∈ lw_R := zR (zk_9 _ (List.mem_of_getElem? (i := 61) (by decide +kernel))) rfl
theorem k9_63 : (Jvm.Cond.laysFinal "ChanceArenaModel$Game" "ChanceArenaModel$Game" "isFormula" "[Z") ∈ lw_R := zR (zk_9 _ (List.mem_of_getElem? (i := 63) (by decide +kernel))) rfl
theorem k9_65 : (Jvm.Cond.laysFinal "ChanceArenaModel$Game" "ChanceArenaModel$Game" "isTruth" "[Z") ∈ lw_R := zR (zk_9 _ (List.mem_of_getElem? (i := 65) (by decide +kernel))) rfl
theorem k9_67 : (Jvm.Cond.laysFinal "ChanceArenaModel$Game" "ChanceArenaModel$Game" "rootOf" "[I") ∈ lw_R := zR (zk_9 _ (List.mem_of_getElem? (i := 67) (by decide +kernel))) rfl
theorem k9_69 : (Jvm.Cond.laysFinal "ChanceArenaModel$Game" "ChanceArenaModel$Game" "above" "[J") ∈ lw_R := zR (zk_9 _ (List.mem_of_getElem? (i := 69) (by decide +kernel))) rfl
theorem k9_71 : (Jvm.Cond.laysFinal "ChanceArenaModel$Game" "ChanceArenaModel$Game" "below" "[J") ∈ lw_R := zR (zk_9 _ (List.mem_of_getElem? (i := 71) (by decide +kernel))) rfl
theorem k9_73 : (Jvm.Cond.lays "ChanceArenaModel$Game" "ChanceArenaModel$Game" "vars" "I") ∈ lw_R := zR (zk_9 _ (List.mem_of_getElem? (i := 73) (by decide +kernel))) rfl
theorem k9_75 : (Jvm.Cond.laysFinal "ChanceArenaModel$Game" "ChanceArenaModel$Game" "isBool" "[Z") ∈ lw_R := zR (zk_9 _ (List.mem_of_getElem? (i := 75) (by decide +kernel))) rfl
theorem k9_77 : (Jvm.Cond.laysFinal "ChanceArenaModel$Game" "ChanceArenaModel$Game" "least" "[I") ∈ lw_R := zR (zk_9 _ (List.mem_of_getElem? (i := 77) (by decide +kernel))) rfl
theorem k9_79 : (Jvm.Cond.laysFinal "ChanceArenaModel$Game" "ChanceArenaModel$Game" "greatest" "[I") ∈ lw_R := zR (zk_9 _ (List.mem_of_getElem? (i := 79) (by decide +kernel))) rfl
theorem k9_81 : (Jvm.Cond.laysFinal "ChanceArenaModel$Game" "ChanceArenaModel$Game" "begin" "[I") ∈ lw_R := zR (zk_9 _ (List.mem_of_getElem? (i := 81) (by decide +kernel))) rfl
theorem k9_83 : (Jvm.Cond.lays "ChanceArenaModel$Game" "ChanceArenaModel$Game" "target" "I") ∈ lw_R := zR (zk_9 _ (List.mem_of_getElem? (i := 83) (by decide +kernel))) rfl
theorem k9_85 : (Jvm.Cond.lays "ChanceArenaModel$Game" "ChanceArenaModel$Game" "commands" "I") ∈ lw_R := zR (zk_9 _ (List.mem_of_getElem? (i := 85) (by decide +kernel))) rfl
theorem k9_87 : (Jvm.Cond.laysFinal "ChanceArenaModel$Game" "ChanceArenaModel$Game" "isMin" "[Z") ∈ lw_R := zR (zk_9 _ (List.mem_of_getElem? (i := 87) (by decide +kernel))) rfl
theorem k9_89 : (Jvm.Cond.laysFinal "ChanceArenaModel$Game" "ChanceArenaModel$Game" "commandPlace" "[I") ∈ lw_R := zR (zk_9 _ (List.mem_of_getElem? (i := 89) (by decide +kernel))) rfl
theorem k9_91 : (Jvm.Cond.laysFinal "ChanceArenaModel$Game" "ChanceArenaModel$Game" "guard" "[I") ∈ lw_R := zR (zk_9 _ (List.mem_of_getElem? (i := 91) (by decide +kernel))) rfl
theorem k9_93 : (Jvm.Cond.laysFinal "ChanceArenaModel$Game" "ChanceArenaModel$Game" "branches" "[I") ∈ lw_R := zR (zk_9 _ (List.mem_of_getElem? (i := 93) (by decide +kernel))) rfl
theorem k9_95 : (Jvm.Cond.laysFinal "ChanceArenaModel$Game" "ChanceArenaModel$Game" "chance" "[I") ∈ lw_R := zR (zk_9 _ (List.mem_of_getElem? (i := 95) (by decide +kernel))) rfl
theorem k9_97 : (Jvm.Cond.laysFinal "ChanceArenaModel$Game" "ChanceArenaModel$Game" "branchPlace" "[I") ∈ lw_R := zR (zk_9 _ (List.mem_of_getElem? (i := 97) (by decide +kernel))) rfl
theorem k9_99 : (Jvm.Cond.laysFinal "ChanceArenaModel$Game" "ChanceArenaModel$Game" "firstSet" "[I") ∈ lw_R := zR (zk_9 _ (List.mem_of_getElem? (i := 99) (by decide +kernel))) rfl
theorem k9_101 : (Jvm.Cond.laysFinal "ChanceArenaModel$Game" "ChanceArenaModel$Game" "manySets" "[I") ∈ lw_R := zR (zk_9 _ (List.mem_of_getElem? (i := 101) (by decide +kernel))) rfl
theorem k9_103 : (Jvm.Cond.laysFinal "ChanceArenaModel$Game" "ChanceArenaModel$Game" "setVar" "LChanceArenaModel$Numbers;") ∈ lw_R := zR (zk_9 _ (List.mem_of_getElem? (i := 103) (by decide +kernel))) rfl
theorem k9_105 : (Jvm.Cond.laysFinal "ChanceArenaModel$Game" "ChanceArenaModel$Game" "setPlace" "LChanceArenaModel$Numbers;") ∈ lw_R := zR (zk_9 _ (List.mem_of_getElem? (i := 105) (by decide +kernel))) rfl
theorem k9_107 : (Jvm.Cond.laysFinal "ChanceArenaModel$Game" "ChanceArenaModel$Game" "setRule" "LChanceArenaModel$Numbers;") ∈ lw_R := zR (zk_9 _ (List.mem_of_getElem? (i := 107) (by decide +kernel))) rfl
theorem k9_136 : (Jvm.Cond.laysFinal "ChanceArenaModel$Whole" "ChanceArenaModel$Whole" "parts" "[I") ∈ lw_R := zR (zk_9 _ (List.mem_of_getElem? (i := 136) (by decide +kernel))) rfl
theorem k9_138 : (Jvm.Cond.lays "ChanceArenaModel$Whole" "ChanceArenaModel$Whole" "n" "I") ∈ lw_R := zR (zk_9 _ (List.mem_of_getElem? (i := 138) (by decide +kernel))) rfl
theorem k9_154 : (Jvm.Cond.laysFinal "ChanceArenaModel$Fraction" "ChanceArenaModel$Fraction" "top" "LChanceArenaModel$Whole;") ∈ lw_R := zR (zk_9 _ (List.mem_of_getElem? (i := 154) (by decide +kernel))) rfl
theorem k9_156 : (Jvm.Cond.laysFinal "ChanceArenaModel$Fraction" "ChanceArenaModel$Fraction" "bottom" "LChanceArenaModel$Whole;") ∈ lw_R := zR (zk_9 _ (List.mem_of_getElem? (i := 156) (by decide +kernel))) rfl
theorem k9_158 : (Jvm.Cond.lays "ChanceArenaModel$Fraction" "ChanceArenaModel$Fraction" "below" "Z") ∈ lw_R := zR (zk_9 _ (List.mem_of_getElem? (i := 158) (by decide +kernel))) rfl
theorem k9_171 : (Jvm.Cond.laysFinal "ChanceArenaModel$Sums" "ChanceArenaModel$Sums" "made" "LChanceArenaModel$Fraction;") ∈ lw_R := zR (zk_9 _ (List.mem_of_getElem? (i := 171) (by decide +kernel))) rfl
theorem k9_173 : (Jvm.Cond.laysFinal "ChanceArenaModel$Sums" "ChanceArenaModel$Sums" "sum" "LChanceArenaModel$Fraction;") ∈ lw_R := zR (zk_9 _ (List.mem_of_getElem? (i := 173) (by decide +kernel))) rfl
theorem k9_175 : (Jvm.Cond.laysFinal "ChanceArenaModel$Sums" "ChanceArenaModel$Sums" "x" "LChanceArenaModel$Whole;") ∈ lw_R := zR (zk_9 _ (List.mem_of_getElem? (i := 175) (by decide +kernel))) rfl
theorem k9_177 : (Jvm.Cond.laysFinal "ChanceArenaModel$Sums" "ChanceArenaModel$Sums" "y" "LChanceArenaModel$Whole;") ∈ lw_R := zR (zk_9 _ (List.mem_of_getElem? (i := 177) (by decide +kernel))) rfl
theorem k9_179 : (Jvm.Cond.laysFinal "ChanceArenaModel$Sums" "ChanceArenaModel$Sums" "z" "LChanceArenaModel$Whole;") ∈ lw_R := zR (zk_9 _ (List.mem_of_getElem? (i := 179) (by decide +kernel))) rfl
theorem k9_181 : (Jvm.Cond.laysFinal "ChanceArenaModel$Sums" "ChanceArenaModel$Sums" "quotient" "LChanceArenaModel$Whole;") ∈ lw_R := zR (zk_9 _ (List.mem_of_getElem? (i := 181) (by decide +kernel))) rfl
theorem k9_183 : (Jvm.Cond.laysFinal "ChanceArenaModel$Sums" "ChanceArenaModel$Sums" "rest" "LChanceArenaModel$Whole;") ∈ lw_R := zR (zk_9 _ (List.mem_of_getElem? (i := 183) (by decide +kernel))) rfl
theorem k9_221 : (Jvm.Cond.laysFinal "ChanceArenaModel$Solver" "ChanceArenaModel$Solver" "sums" "LChanceArenaModel$Sums;") ∈ lw_R := zR (zk_9 _ (List.mem_of_getElem? (i := 221) (by decide +kernel))) rfl
theorem k9_223 : (Jvm.Cond.lays "ChanceArenaModel$Solver" "ChanceArenaModel$Solver" "states" "I") ∈ lw_R := zR (zk_9 _ (List.mem_of_getElem? (i := 223) (by decide +kernel))) rfl
theorem k9_225 : (Jvm.Cond.lays "ChanceArenaModel$Solver" "ChanceArenaModel$Solver" "commands" "I") ∈ lw_R := zR (zk_9 _ (List.mem_of_getElem? (i := 225) (by decide +kernel))) rfl
theorem k9_227 : (Jvm.Cond.lays "ChanceArenaModel$Solver" "ChanceArenaModel$Solver" "branches" "I") ∈ lw_R := zR (zk_9 _ (List.mem_of_getElem? (i := 227) (by decide +kernel))) rfl
theorem k9_229 : (Jvm.Cond.laysFinal "ChanceArenaModel$Solver" "ChanceArenaModel$Solver" "kinds" "[I") ∈ lw_R := zR (zk_9 _ (List.mem_of_getElem? (i := 229) (by decide +kernel))) rfl
theorem k9_231 : (Jvm.Cond.laysFinal "ChanceArenaModel$Solver" "ChanceArenaModel$Solver" "firstCommands" "[I") ∈ lw_R := zR (zk_9 _ (List.mem_of_getElem? (i := 231) (by decide +kernel))) rfl
theorem k9_233 : (Jvm.Cond.laysFinal "ChanceArenaModel$Solver" "ChanceArenaModel$Solver" "multiples" "[I") ∈ lw_R := zR (zk_9 _ (List.mem_of_getElem? (i := 233) (by decide +kernel))) rfl
theorem k9_235 : (Jvm.Cond.laysFinal "ChanceArenaModel$Solver" "ChanceArenaModel$Solver" "firstBranches" "[I") ∈ lw_R := zR (zk_9 _ (List.mem_of_getElem? (i := 235) (by decide +kernel))) rfl
theorem k9_237 : (Jvm.Cond.laysFinal "ChanceArenaModel$Solver" "ChanceArenaModel$Solver" "targets" "[I") ∈ lw_R := zR (zk_9 _ (List.mem_of_getElem? (i := 237) (by decide +kernel))) rfl
theorem k9_239 : (Jvm.Cond.laysFinal "ChanceArenaModel$Solver" "ChanceArenaModel$Solver" "ups" "[I") ∈ lw_R := zR (zk_9 _ (List.mem_of_getElem? (i := 239) (by decide +kernel))) rfl
theorem k10_1 : (Jvm.Cond.laysFinal "ChanceArenaModel$Solver" "ChanceArenaModel$Solver" "downs" "[I") ∈ lw_R := zR (zk_10 _ (List.mem_of_getElem? (i := 1) (by decide +kernel))) rfl
theorem k10_3 : (Jvm.Cond.laysFinal "ChanceArenaModel$Solver" "ChanceArenaModel$Solver" "fractions" "[LChanceArenaModel$Fraction;") ∈ lw_R := zR (zk_10 _ (List.mem_of_getElem? (i := 3) (by decide +kernel))) rfl
theorem k10_5 : (Jvm.Cond.laysFinal "ChanceArenaModel$Solver" "ChanceArenaModel$Solver" "has" "[Z") ∈ lw_R := zR (zk_10 _ (List.mem_of_getElem? (i := 5) (by decide +kernel))) rfl
theorem k10_7 : (Jvm.Cond.laysFinal "ChanceArenaModel$Solver" "ChanceArenaModel$Solver" "next" "[LChanceArenaModel$Fraction;") ∈ lw_R := zR (zk_10 _ (List.mem_of_getElem? (i := 7) (by decide +kernel))) rfl
theorem k10_9 : (Jvm.Cond.laysFinal "ChanceArenaModel$Solver" "ChanceArenaModel$Solver" "told" "[I") ∈ lw_R := zR (zk_10 _ (List.mem_of_getElem? (i := 9) (by decide +kernel))) rfl
theorem k10_11 : (Jvm.Cond.laysFinal "ChanceArenaModel$Solver" "ChanceArenaModel$Solver" "choices" "[I") ∈ lw_R := zR (zk_10 _ (List.mem_of_getElem? (i := 11) (by decide +kernel))) rfl
theorem k10_13 : (Jvm.Cond.laysFinal "ChanceArenaModel$Solver" "ChanceArenaModel$Solver" "ranks" "[I") ∈ lw_R := zR (zk_10 _ (List.mem_of_getElem? (i := 13) (by decide +kernel))) rfl
theorem k10_15 : (Jvm.Cond.lays "ChanceArenaModel$Solver" "ChanceArenaModel$Solver" "kept" "I") ∈ lw_R := zR (zk_10 _ (List.mem_of_getElem? (i := 15) (by decide +kernel))) rfl
theorem k10_17 : (Jvm.Cond.laysFinal "ChanceArenaModel$Solver" "ChanceArenaModel$Solver" "plays" "[I") ∈ lw_R := zR (zk_10 _ (List.mem_of_getElem? (i := 17) (by decide +kernel))) rfl
theorem k10_19 : (Jvm.Cond.laysFinal "ChanceArenaModel$Solver" "ChanceArenaModel$Solver" "inside" "[Z") ∈ lw_R := zR (zk_10 _ (List.mem_of_getElem? (i := 19) (by decide +kernel))) rfl
theorem k10_21 : (Jvm.Cond.laysFinal "ChanceArenaModel$Solver" "ChanceArenaModel$Solver" "fixed" "[Z") ∈ lw_R := zR (zk_10 _ (List.mem_of_getElem? (i := 21) (by decide +kernel))) rfl
theorem k10_23 : (Jvm.Cond.laysFinal "ChanceArenaModel$Solver" "ChanceArenaModel$Solver" "values" "[LChanceArenaModel$Fraction;") ∈ lw_R := zR (zk_10 _ (List.mem_of_getElem? (i := 23) (by decide +kernel))) rfl
theorem k10_25 : (Jvm.Cond.laysFinal "ChanceArenaModel$Solver" "ChanceArenaModel$Solver" "unknown" "[I") ∈ lw_R := zR (zk_10 _ (List.mem_of_getElem? (i := 25) (by decide +kernel))) rfl
theorem k10_27 : (Jvm.Cond.laysFinal "ChanceArenaModel$Solver" "ChanceArenaModel$Solver" "rowOf" "[I") ∈ lw_R := zR (zk_10 _ (List.mem_of_getElem? (i := 27) (by decide +kernel))) rfl
theorem k10_29 : (Jvm.Cond.lays "ChanceArenaModel$Solver" "ChanceArenaModel$Solver" "count" "I") ∈ lw_R := zR (zk_10 _ (List.mem_of_getElem? (i := 29) (by decide +kernel))) rfl
theorem k10_31 : (Jvm.Cond.laysFinal "ChanceArenaModel$Solver" "ChanceArenaModel$Solver" "cells" "[LChanceArenaModel$Fraction;") ∈ lw_R := zR (zk_10 _ (List.mem_of_getElem? (i := 31) (by decide +kernel))) rfl
theorem k10_33 : (Jvm.Cond.laysFinal "ChanceArenaModel$Solver" "ChanceArenaModel$Solver" "chance" "LChanceArenaModel$Fraction;") ∈ lw_R := zR (zk_10 _ (List.mem_of_getElem? (i := 33) (by decide +kernel))) rfl
theorem k10_35 : (Jvm.Cond.laysFinal "ChanceArenaModel$Solver" "ChanceArenaModel$Solver" "factor" "LChanceArenaModel$Fraction;") ∈ lw_R := zR (zk_10 _ (List.mem_of_getElem? (i := 35) (by decide +kernel))) rfl
theorem k10_37 : (Jvm.Cond.laysFinal "ChanceArenaModel$Solver" "ChanceArenaModel$Solver" "worth" "LChanceArenaModel$Fraction;") ∈ lw_R := zR (zk_10 _ (List.mem_of_getElem? (i := 37) (by decide +kernel))) rfl
theorem k10_39 : (Jvm.Cond.laysFinal "ChanceArenaModel$Solver" "ChanceArenaModel$Solver" "other" "LChanceArenaModel$Fraction;") ∈ lw_R := zR (zk_10 _ (List.mem_of_getElem? (i := 39) (by decide +kernel))) rfl
theorem k10_41 : (Jvm.Cond.laysFinal "ChanceArenaModel$Solver" "ChanceArenaModel$Solver" "best" "LChanceArenaModel$Fraction;") ∈ lw_R := zR (zk_10 _ (List.mem_of_getElem? (i := 41) (by decide +kernel))) rfl
theorem k10_43 : (Jvm.Cond.laysFinal "ChanceArenaModel$Solver" "ChanceArenaModel$Solver" "digits" "[I") ∈ lw_R := zR (zk_10 _ (List.mem_of_getElem? (i := 43) (by decide +kernel))) rfl
theorem k10_95 : (Jvm.Cond.lays "ChanceArenaModel" "ChanceArenaModel" "thrown" "I") ∈ lw_R := zR (zk_10 _ (List.mem_of_getElem? (i := 95) (by decide +kernel))) rfl
theorem k10_97 : (Jvm.Cond.lays "ChanceArenaModel" "ChanceArenaModel" "tape" "LChanceArenaModel$Numbers;") ∈ lw_R := zR (zk_10 _ (List.mem_of_getElem? (i := 97) (by decide +kernel))) rfl
theorem k10_99 : (Jvm.Cond.lays "ChanceArenaModel" "ChanceArenaModel" "text" "LChanceArenaModel$Numbers;") ∈ lw_R := zR (zk_10 _ (List.mem_of_getElem? (i := 99) (by decide +kernel))) rfl
theorem k10_101 : (Jvm.Cond.laysFinal "ChanceArenaModel" "ChanceArenaModel" "kinds" "LChanceArenaModel$Numbers;") ∈ lw_R := zR (zk_10 _ (List.mem_of_getElem? (i := 101) (by decide +kernel))) rfl
theorem k10_103 : (Jvm.Cond.laysFinal "ChanceArenaModel" "ChanceArenaModel" "places" "LChanceArenaModel$Numbers;") ∈ lw_R := zR (zk_10 _ (List.mem_of_getElem? (i := 103) (by decide +kernel))) rfl
theorem k10_105 : (Jvm.Cond.laysFinal "ChanceArenaModel" "ChanceArenaModel" "ends" "LChanceArenaModel$Numbers;") ∈ lw_R := zR (zk_10 _ (List.mem_of_getElem? (i := 105) (by decide +kernel))) rfl
theorem k10_107 : (Jvm.Cond.laysFinal "ChanceArenaModel" "ChanceArenaModel" "wanted" "LChanceArenaModel$Numbers;") ∈ lw_R := zR (zk_10 _ (List.mem_of_getElem? (i := 107) (by decide +kernel))) rfl
theorem k10_109 : (Jvm.Cond.lays "ChanceArenaModel" "ChanceArenaModel" "levels" "I") ∈ lw_R := zR (zk_10 _ (List.mem_of_getElem? (i := 109) (by decide +kernel))) rfl
theorem k10_111 : (Jvm.Cond.lays "ChanceArenaModel" "ChanceArenaModel" "bad" "I") ∈ lw_R := zR (zk_10 _ (List.mem_of_getElem? (i := 111) (by decide +kernel))) rfl
theorem k10_113 : (Jvm.Cond.lays "ChanceArenaModel" "ChanceArenaModel" "game" "LChanceArenaModel$Game;") ∈ lw_R := zR (zk_10 _ (List.mem_of_getElem? (i := 113) (by decide +kernel))) rfl
theorem k10_115 : (Jvm.Cond.lays "ChanceArenaModel" "ChanceArenaModel" "draft" "LChanceArenaModel$Game;") ∈ lw_R := zR (zk_10 _ (List.mem_of_getElem? (i := 115) (by decide +kernel))) rfl
theorem k10_117 : (Jvm.Cond.lays "ChanceArenaModel" "ChanceArenaModel" "known" "Z") ∈ lw_R := zR (zk_10 _ (List.mem_of_getElem? (i := 117) (by decide +kernel))) rfl
theorem k10_119 : (Jvm.Cond.lays "ChanceArenaModel" "ChanceArenaModel" "wrong" "I") ∈ lw_R := zR (zk_10 _ (List.mem_of_getElem? (i := 119) (by decide +kernel))) rfl
theorem k10_121 : (Jvm.Cond.laysFinal "ChanceArenaModel" "ChanceArenaModel" "nameWord" "LChanceArenaModel$Numbers;") ∈ lw_R := zR (zk_10 _ (List.mem_of_getElem? (i := 121) (by decide +kernel))) rfl
theorem k10_123 : (Jvm.Cond.laysFinal "ChanceArenaModel" "ChanceArenaModel" "nameSort" "LChanceArenaModel$Numbers;") ∈ lw_R := zR (zk_10 _ (List.mem_of_getElem? (i := 123) (by decide +kernel))) rfl
theorem k10_125 : (Jvm.Cond.laysFinal "ChanceArenaModel" "ChanceArenaModel" "nameIndex" "LChanceArenaModel$Numbers;") ∈ lw_R := zR (zk_10 _ (List.mem_of_getElem? (i := 125) (by decide +kernel))) rfl
theorem k10_127 : (Jvm.Cond.lays "ChanceArenaModel" "ChanceArenaModel" "fault" "I") ∈ lw_R := zR (zk_10 _ (List.mem_of_getElem? (i := 127) (by decide +kernel))) rfl
theorem k10_129 : (Jvm.Cond.lays "ChanceArenaModel" "ChanceArenaModel" "faultPlace" "I") ∈ lw_R := zR (zk_10 _ (List.mem_of_getElem? (i := 129) (by decide +kernel))) rfl
theorem k10_131 : (Jvm.Cond.laysFinal "ChanceArenaModel" "ChanceArenaModel" "jobs" "LChanceArenaModel$Numbers;") ∈ lw_R := zR (zk_10 _ (List.mem_of_getElem? (i := 131) (by decide +kernel))) rfl
theorem k10_133 : (Jvm.Cond.laysFinal "ChanceArenaModel" "ChanceArenaModel" "truths" "LChanceArenaModel$Numbers;") ∈ lw_R := zR (zk_10 _ (List.mem_of_getElem? (i := 133) (by decide +kernel))) rfl
theorem k10_135 : (Jvm.Cond.laysFinal "ChanceArenaModel" "ChanceArenaModel" "looks" "LChanceArenaModel$Numbers;") ∈ lw_R := zR (zk_10 _ (List.mem_of_getElem? (i := 135) (by decide +kernel))) rfl
theorem k10_137 : (Jvm.Cond.laysFinal "ChanceArenaModel" "ChanceArenaModel" "above" "[J") ∈ lw_R := zR (zk_10 _ (List.mem_of_getElem? (i := 137) (by decide +kernel))) rfl
theorem k10_139 : (Jvm.Cond.laysFinal "ChanceArenaModel" "ChanceArenaModel" "below" "[J") ∈ lw_R := zR (zk_10 _ (List.mem_of_getElem? (i := 139) (by decide +kernel))) rfl
theorem k10_141 : (Jvm.Cond.lays "ChanceArenaModel" "ChanceArenaModel" "values" "I") ∈ lw_R := zR (zk_10 _ (List.mem_of_getElem? (i := 141) (by decide +kernel))) rfl
theorem k10_143 : (Jvm.Cond.laysFinal "ChanceArenaModel" "ChanceArenaModel" "todo" "LChanceArenaModel$Numbers;") ∈ lw_R := zR (zk_10 _ (List.mem_of_getElem? (i := 143) (by decide +kernel))) rfl
theorem k10_145 : (Jvm.Cond.laysFinal "ChanceArenaModel" "ChanceArenaModel" "now" "[I") ∈ lw_R := zR (zk_10 _ (List.mem_of_getElem? (i := 145) (by decide +kernel))) rfl
theorem k10_147 : (Jvm.Cond.laysFinal "ChanceArenaModel" "ChanceArenaModel" "met" "[Z") ∈ lw_R := zR (zk_10 _ (List.mem_of_getElem? (i := 147) (by decide +kernel))) rfl
theorem k10_149 : (Jvm.Cond.laysFinal "ChanceArenaModel" "ChanceArenaModel" "metAbove" "[J") ∈ lw_R := zR (zk_10 _ (List.mem_of_getElem? (i := 149) (by decide +kernel))) rfl
theorem k10_151 : (Jvm.Cond.laysFinal "ChanceArenaModel" "ChanceArenaModel" "metBelow" "[J") ∈ lw_R := zR (zk_10 _ (List.mem_of_getElem? (i := 151) (by decide +kernel))) rfl
theorem k10_153 : (Jvm.Cond.lays "ChanceArenaModel" "ChanceArenaModel" "many" "I") ∈ lw_R := zR (zk_10 _ (List.mem_of_getElem? (i := 153) (by decide +kernel))) rfl
theorem k10_155 : (Jvm.Cond.lays "ChanceArenaModel" "ChanceArenaModel" "faultState" "I") ∈ lw_R := zR (zk_10 _ (List.mem_of_getElem? (i := 155) (by decide +kernel))) rfl
theorem k10_157 : (Jvm.Cond.laysFinal "ChanceArenaModel" "ChanceArenaModel" "vars" "[I") ∈ lw_R := zR (zk_10 _ (List.mem_of_getElem? (i := 157) (by decide +kernel))) rfl
theorem k10_159 : (Jvm.Cond.laysFinal "ChanceArenaModel" "ChanceArenaModel" "kindOf" "[I") ∈ lw_R := zR (zk_10 _ (List.mem_of_getElem? (i := 159) (by decide +kernel))) rfl
theorem k10_161 : (Jvm.Cond.laysFinal "ChanceArenaModel" "ChanceArenaModel" "firstCommand" "[I") ∈ lw_R := zR (zk_10 _ (List.mem_of_getElem? (i := 161) (by decide +kernel))) rfl
theorem k10_163 : (Jvm.Cond.laysFinal "ChanceArenaModel" "ChanceArenaModel" "manyCommands" "[I") ∈ lw_R := zR (zk_10 _ (List.mem_of_getElem? (i := 163) (by decide +kernel))) rfl
theorem k10_165 : (Jvm.Cond.laysFinal "ChanceArenaModel" "ChanceArenaModel" "commandOf" "LChanceArenaModel$Numbers;") ∈ lw_R := zR (zk_10 _ (List.mem_of_getElem? (i := 165) (by decide +kernel))) rfl
theorem k10_167 : (Jvm.Cond.laysFinal "ChanceArenaModel" "ChanceArenaModel" "firstBranch" "LChanceArenaModel$Numbers;") ∈ lw_R := zR (zk_10 _ (List.mem_of_getElem? (i := 167) (by decide +kernel))) rfl
theorem k10_169 : (Jvm.Cond.laysFinal "ChanceArenaModel" "ChanceArenaModel" "manyBranches" "LChanceArenaModel$Numbers;") ∈ lw_R := zR (zk_10 _ (List.mem_of_getElem? (i := 169) (by decide +kernel))) rfl
theorem k10_171 : (Jvm.Cond.laysFinal "ChanceArenaModel" "ChanceArenaModel" "multipleOf" "LChanceArenaModel$Numbers;") ∈ lw_R := zR (zk_10 _ (List.mem_of_getElem? (i := 171) (by decide +kernel))) rfl
theorem k10_173 : (Jvm.Cond.laysFinal "ChanceArenaModel" "ChanceArenaModel" "solver" "LChanceArenaModel$Solver;") ∈ lw_R := zR (zk_10 _ (List.mem_of_getElem? (i := 173) (by decide +kernel))) rfl
theorem k10_175 : (Jvm.Cond.lays "ChanceArenaModel" "ChanceArenaModel" "ways" "I") ∈ lw_R := zR (zk_10 _ (List.mem_of_getElem? (i := 175) (by decide +kernel))) rfl
theorem k10_177 : (Jvm.Cond.laysFinal "ChanceArenaModel" "ChanceArenaModel" "wayTo" "[I") ∈ lw_R := zR (zk_10 _ (List.mem_of_getElem? (i := 177) (by decide +kernel))) rfl
theorem k10_179 : (Jvm.Cond.laysFinal "ChanceArenaModel" "ChanceArenaModel" "wayAbove" "[J") ∈ lw_R := zR (zk_10 _ (List.mem_of_getElem? (i := 179) (by decide +kernel))) rfl
theorem k10_181 : (Jvm.Cond.laysFinal "ChanceArenaModel" "ChanceArenaModel" "wayBelow" "[J") ∈ lw_R := zR (zk_10 _ (List.mem_of_getElem? (i := 181) (by decide +kernel))) rfl
theorem k10_183 : (Jvm.Cond.laysFinal "ChanceArenaModel" "ChanceArenaModel" "next" "[I") ∈ lw_R := zR (zk_10 _ (List.mem_of_getElem? (i := 183) (by decide +kernel))) rfl
theorem k10_185 : (Jvm.Cond.laysFinal "ChanceArenaModel" "ChanceArenaModel" "chanceAbove" "[J") ∈ lw_R := zR (zk_10 _ (List.mem_of_getElem? (i := 185) (by decide +kernel))) rfl
theorem k10_187 : (Jvm.Cond.laysFinal "ChanceArenaModel" "ChanceArenaModel" "chanceBelow" "[J") ∈ lw_R := zR (zk_10 _ (List.mem_of_getElem? (i := 187) (by decide +kernel))) rfl
theorem k10_189 : (Jvm.Cond.laysFinal "ChanceArenaModel" "ChanceArenaModel" "printed" "[I") ∈ lw_R := zR (zk_10 _ (List.mem_of_getElem? (i := 189) (by decide +kernel))) rfl
theorem k10_191 : (Jvm.Cond.lays "ChanceArenaModel" "ChanceArenaModel" "printedSize" "I") ∈ lw_R := zR (zk_10 _ (List.mem_of_getElem? (i := 191) (by decide +kernel))) rfl
def R_CA : String := "ChanceArena"
def T_CA : u_T := fun k => match k with
  | 0 => ("ChanceArena", "tape", "[C", false)
  | 1 => ("ChanceArena", "tapeLength", "I", false)
  | 2 => ("ChanceArena", "words", "LChanceArena$Words;", true)
  | 3 => ("ChanceArena", "reader", "LChanceArena$TextReader;", true)
  | 4 => ("ChanceArena", "text", "LChanceArena$Program;", false)
  | 5 => ("ChanceArena", "spare", "LChanceArena$Program;", false)
  | 6 => ("ChanceArena", "hasText", "Z", false)
  | 7 => ("ChanceArena", "faultPlace", "I", false)
  | 8 => ("ChanceArena", "faultState", "I", false)
  | 9 => ("ChanceArena", "game", "LChanceArena$Game;", true)
  | 10 => ("ChanceArena", "solver", "LChanceArena$Solver;", true)
  | 11 => ("ChanceArena", "values", "LChanceArena$Fractions;", true)
  | 12 => ("ChanceArena", "withins", "LChanceArena$Fractions;", false)
  | 13 => ("ChanceArena", "earlier", "LChanceArena$Fractions;", false)
  | 14 => ("ChanceArena", "judged", "LChanceArena$Fractions;", true)
  | 15 => ("ChanceArena", "number", "LChanceArena$Natural;", true)
  | 16 => ("ChanceArena", "shown", "LChanceArena$Fraction;", true)
  | 17 => ("ChanceArena", "printed", "[C", true)
  | _ => ("ChanceArena", "printedLength", "I", false)
def t_CA : Nat → FieldType := fun k => match k with
  | 0 => .array .char
  | 1 => .int
  | 2 => .object "ChanceArena$Words"
  | 3 => .object "ChanceArena$TextReader"
  | 4 => .object "ChanceArena$Program"
  | 5 => .object "ChanceArena$Program"
  | 6 => .boolean
  | 7 => .int
  | 8 => .int
  | 9 => .object "ChanceArena$Game"
  | 10 => .object "ChanceArena$Solver"
  | 11 => .object "ChanceArena$Fractions"
  | 12 => .object "ChanceArena$Fractions"
  | 13 => .object "ChanceArena$Fractions"
  | 14 => .object "ChanceArena$Fractions"
  | 15 => .object "ChanceArena$Natural"
  | 16 => .object "ChanceArena$Fraction"
  | 17 => .array .char
  | _ => .int
theorem n_CA : ∀ a, a < 19 → ∀ b, b < 19 → a ≠ b → (T_CA a).2.1 ≠ (T_CA b).2.1 := by decide +kernel
theorem o_CA : ∀ k, k < 19 → parseFieldDescriptor (T_CA k).2.2.1 = some (t_CA k) := by decide +kernel
theorem i_CA : ∀ w ∈ u_ws R_CA T_CA 19, w ∈ lw_R := (List.forall_mem_cons.mpr ⟨k3_194, (List.forall_mem_cons.mpr ⟨k3_196, (List.forall_mem_cons.mpr ⟨k3_198, (List.forall_mem_cons.mpr ⟨k3_200, (List.forall_mem_cons.mpr ⟨k3_202, (List.forall_mem_cons.mpr ⟨k3_204, (List.forall_mem_cons.mpr ⟨k3_206, (List.forall_mem_cons.mpr ⟨k3_208, (List.forall_mem_cons.mpr ⟨k3_210, (List.forall_mem_cons.mpr ⟨k3_212, (List.forall_mem_cons.mpr ⟨k3_214, (List.forall_mem_cons.mpr ⟨k3_216, (List.forall_mem_cons.mpr ⟨k3_218, (List.forall_mem_cons.mpr ⟨k3_220, (List.forall_mem_cons.mpr ⟨k3_222, (List.forall_mem_cons.mpr ⟨k3_224, (List.forall_mem_cons.mpr ⟨k3_226, (List.forall_mem_cons.mpr ⟨k3_228, (List.forall_mem_cons.mpr ⟨k3_230, (fun _ h => absurd h List.not_mem_nil)⟩)⟩)⟩)⟩)⟩)⟩)⟩)⟩)⟩)⟩)⟩)⟩)⟩)⟩)⟩)⟩)⟩)⟩)⟩)
def R_Wo : String := "ChanceArena$Words"
def T_Wo : u_T := fun k => match k with
  | 0 => ("ChanceArena$Words", "tape", "[C", false)
  | 1 => ("ChanceArena$Words", "length", "I", false)
  | 2 => ("ChanceArena$Words", "count", "I", false)
  | 3 => ("ChanceArena$Words", "sorts", "[I", false)
  | 4 => ("ChanceArena$Words", "starts", "[I", false)
  | _ => ("ChanceArena$Words", "amounts", "[I", false)
def t_Wo : Nat → FieldType := fun k => match k with
  | 0 => .array .char
  | 1 => .int
  | 2 => .int
  | 3 => .array .int
  | 4 => .array .int
  | _ => .array .int
theorem n_Wo : ∀ a, a < 6 → ∀ b, b < 6 → a ≠ b → (T_Wo a).2.1 ≠ (T_Wo b).2.1 := by decide +kernel
theorem o_Wo : ∀ k, k < 6 → parseFieldDescriptor (T_Wo k).2.2.1 = some (t_Wo k) := by decide +kernel
theorem i_Wo : ∀ w ∈ u_ws R_Wo T_Wo 6, w ∈ lw_R := (List.forall_mem_cons.mpr ⟨k1_68, (List.forall_mem_cons.mpr ⟨k1_70, (List.forall_mem_cons.mpr ⟨k1_72, (List.forall_mem_cons.mpr ⟨k1_74, (List.forall_mem_cons.mpr ⟨k1_76, (List.forall_mem_cons.mpr ⟨k1_78, (fun _ h => absurd h List.not_mem_nil)⟩)⟩)⟩)⟩)⟩)⟩)
def R_TR : String := "ChanceArena$TextReader"
def T_TR : u_T := fun k => match k with
  | 0 => ("ChanceArena$TextReader", "rules", "LChanceArena$RuleReader;", true)
  | 1 => ("ChanceArena$TextReader", "machine", "LChanceArena$Machine;", true)
  | 2 => ("ChanceArena$TextReader", "text", "LChanceArena$Program;", false)
  | 3 => ("ChanceArena$TextReader", "nameWord", "I", false)
  | 4 => ("ChanceArena$TextReader", "itemStart", "I", false)
  | 5 => ("ChanceArena$TextReader", "ruleStart", "[I", true)
  | 6 => ("ChanceArena$TextReader", "rulePlace", "[I", true)
  | 7 => ("ChanceArena$TextReader", "inited", "Z", false)
  | _ => ("ChanceArena$TextReader", "truth", "Z", false)
def t_TR : Nat → FieldType := fun k => match k with
  | 0 => .object "ChanceArena$RuleReader"
  | 1 => .object "ChanceArena$Machine"
  | 2 => .object "ChanceArena$Program"
  | 3 => .int
  | 4 => .int
  | 5 => .array .int
  | 6 => .array .int
  | 7 => .boolean
  | _ => .boolean
theorem n_TR : ∀ a, a < 9 → ∀ b, b < 9 → a ≠ b → (T_TR a).2.1 ≠ (T_TR b).2.1 := by decide +kernel
theorem o_TR : ∀ k, k < 9 → parseFieldDescriptor (T_TR k).2.2.1 = some (t_TR k) := by decide +kernel
theorem i_TR : ∀ w ∈ u_ws R_TR T_TR 9, w ∈ lw_R := (List.forall_mem_cons.mpr ⟨k1_238, (List.forall_mem_cons.mpr ⟨k2_0, (List.forall_mem_cons.mpr ⟨k2_2, (List.forall_mem_cons.mpr ⟨k2_4, (List.forall_mem_cons.mpr ⟨k2_6, (List.forall_mem_cons.mpr ⟨k2_8, (List.forall_mem_cons.mpr ⟨k2_10, (List.forall_mem_cons.mpr ⟨k2_12, (List.forall_mem_cons.mpr ⟨k2_14, (fun _ h => absurd h List.not_mem_nil)⟩)⟩)⟩)⟩)⟩)⟩)⟩)⟩)⟩)
def R_RR : String := "ChanceArena$RuleReader"
def T_RR : u_T := fun k => match k with
  | 0 => ("ChanceArena$RuleReader", "words", "LChanceArena$Words;", false)
  | 1 => ("ChanceArena$RuleReader", "text", "LChanceArena$Program;", false)
  | 2 => ("ChanceArena$RuleReader", "at", "I", false)
  | 3 => ("ChanceArena$RuleReader", "fault", "I", false)
  | 4 => ("ChanceArena$RuleReader", "place", "I", false)
  | 5 => ("ChanceArena$RuleReader", "depth", "I", false)
  | 6 => ("ChanceArena$RuleReader", "constsOnly", "Z", false)
  | 7 => ("ChanceArena$RuleReader", "operandWanted", "Z", false)
  | 8 => ("ChanceArena$RuleReader", "open", "[I", true)
  | 9 => ("ChanceArena$RuleReader", "openPlace", "[I", true)
  | 10 => ("ChanceArena$RuleReader", "openOrder", "[I", true)
  | 11 => ("ChanceArena$RuleReader", "openMarks", "[I", true)
  | 12 => ("ChanceArena$RuleReader", "opened", "I", false)
  | 13 => ("ChanceArena$RuleReader", "truths", "[Z", true)
  | 14 => ("ChanceArena$RuleReader", "operandCount", "I", false)
  | 15 => ("ChanceArena$RuleReader", "nameWord", "[I", true)
  | 16 => ("ChanceArena$RuleReader", "nameSort", "[I", true)
  | 17 => ("ChanceArena$RuleReader", "nameIndex", "[I", true)
  | 18 => ("ChanceArena$RuleReader", "nameTruth", "[Z", true)
  | _ => ("ChanceArena$RuleReader", "nameCount", "I", false)
def t_RR : Nat → FieldType := fun k => match k with
  | 0 => .object "ChanceArena$Words"
  | 1 => .object "ChanceArena$Program"
  | 2 => .int
  | 3 => .int
  | 4 => .int
  | 5 => .int
  | 6 => .boolean
  | 7 => .boolean
  | 8 => .array .int
  | 9 => .array .int
  | 10 => .array .int
  | 11 => .array .int
  | 12 => .int
  | 13 => .array .boolean
  | 14 => .int
  | 15 => .array .int
  | 16 => .array .int
  | 17 => .array .int
  | 18 => .array .boolean
  | _ => .int
theorem n_RR : ∀ a, a < 20 → ∀ b, b < 20 → a ≠ b → (T_RR a).2.1 ≠ (T_RR b).2.1 := by decide +kernel
theorem o_RR : ∀ k, k < 20 → parseFieldDescriptor (T_RR k).2.2.1 = some (t_RR k) := by decide +kernel
theorem i_RR : ∀ w ∈ u_ws R_RR T_RR 20, w ∈ lw_R := (List.forall_mem_cons.mpr ⟨k1_121, (List.forall_mem_cons.mpr ⟨k1_123, (List.forall_mem_cons.mpr ⟨k1_125, (List.forall_mem_cons.mpr ⟨k1_127, (List.forall_mem_cons.mpr ⟨k1_129, (List.forall_mem_cons.mpr ⟨k1_131, (List.forall_mem_cons.mpr ⟨k1_133, (List.forall_mem_cons.mpr ⟨k1_135, (List.forall_mem_cons.mpr ⟨k1_137, (List.forall_mem_cons.mpr ⟨k1_139, (List.forall_mem_cons.mpr ⟨k1_141, (List.forall_mem_cons.mpr ⟨k1_143, (List.forall_mem_cons.mpr ⟨k1_145, (List.forall_mem_cons.mpr ⟨k1_147, (List.forall_mem_cons.mpr ⟨k1_149, (List.forall_mem_cons.mpr ⟨k1_151, (List.forall_mem_cons.mpr ⟨k1_153, (List.forall_mem_cons.mpr ⟨k1_155, (List.forall_mem_cons.mpr ⟨k1_157, (List.forall_mem_cons.mpr ⟨k1_159, (fun _ h => absurd h List.not_mem_nil)⟩)⟩)⟩)⟩)⟩)⟩)⟩)⟩)⟩)⟩)⟩)⟩)⟩)⟩)⟩)⟩)⟩)⟩)⟩)⟩)
def R_Ma : String := "ChanceArena$Machine"
def T_Ma : u_T := fun k => match k with
  | 0 => ("ChanceArena$Machine", "text", "LChanceArena$Program;", false)
  | 1 => ("ChanceArena$Machine", "fault", "I", false)
  | 2 => ("ChanceArena$Machine", "place", "I", false)
  | 3 => ("ChanceArena$Machine", "numbers", "[I", false)
  | 4 => ("ChanceArena$Machine", "base", "I", false)
  | 5 => ("ChanceArena$Machine", "next", "[I", true)
  | 6 => ("ChanceArena$Machine", "above", "[I", false)
  | 7 => ("ChanceArena$Machine", "below", "[I", false)
  | 8 => ("ChanceArena$Machine", "top", "I", false)
  | 9 => ("ChanceArena$Machine", "stamp", "I", false)
  | 10 => ("ChanceArena$Machine", "stamps", "[I", true)
  | 11 => ("ChanceArena$Machine", "metAbove", "[I", true)
  | 12 => ("ChanceArena$Machine", "metBelow", "[I", true)
  | 13 => ("ChanceArena$Machine", "called", "[I", true)
  | 14 => ("ChanceArena$Machine", "back", "[I", true)
  | _ => ("ChanceArena$Machine", "calls", "I", false)
def t_Ma : Nat → FieldType := fun k => match k with
  | 0 => .object "ChanceArena$Program"
  | 1 => .int
  | 2 => .int
  | 3 => .array .int
  | 4 => .int
  | 5 => .array .int
  | 6 => .array .int
  | 7 => .array .int
  | 8 => .int
  | 9 => .int
  | 10 => .array .int
  | 11 => .array .int
  | 12 => .array .int
  | 13 => .array .int
  | 14 => .array .int
  | _ => .int
theorem n_Ma : ∀ a, a < 16 → ∀ b, b < 16 → a ≠ b → (T_Ma a).2.1 ≠ (T_Ma b).2.1 := by decide +kernel
theorem o_Ma : ∀ k, k < 16 → parseFieldDescriptor (T_Ma k).2.2.1 = some (t_Ma k) := by decide +kernel
theorem i_Ma : ∀ w ∈ u_ws R_Ma T_Ma 16, w ∈ lw_R := (List.forall_mem_cons.mpr ⟨k1_196, (List.forall_mem_cons.mpr ⟨k1_198, (List.forall_mem_cons.mpr ⟨k1_200, (List.forall_mem_cons.mpr ⟨k1_202, (List.forall_mem_cons.mpr ⟨k1_204, (List.forall_mem_cons.mpr ⟨k1_206, (List.forall_mem_cons.mpr ⟨k1_208, (List.forall_mem_cons.mpr ⟨k1_210, (List.forall_mem_cons.mpr ⟨k1_212, (List.forall_mem_cons.mpr ⟨k1_214, (List.forall_mem_cons.mpr ⟨k1_216, (List.forall_mem_cons.mpr ⟨k1_218, (List.forall_mem_cons.mpr ⟨k1_220, (List.forall_mem_cons.mpr ⟨k1_222, (List.forall_mem_cons.mpr ⟨k1_224, (List.forall_mem_cons.mpr ⟨k1_226, (fun _ h => absurd h List.not_mem_nil)⟩)⟩)⟩)⟩)⟩)⟩)⟩)⟩)⟩)⟩)⟩)⟩)⟩)⟩)⟩)⟩)
def R_Pr : String := "ChanceArena$Program"
def T_Pr : u_T := fun k => match k with
  | 0 => ("ChanceArena$Program", "orders", "[I", false)
  | 1 => ("ChanceArena$Program", "operands", "[I", false)
  | 2 => ("ChanceArena$Program", "length", "I", false)
  | 3 => ("ChanceArena$Program", "vars", "I", false)
  | 4 => ("ChanceArena$Program", "low", "[I", true)
  | 5 => ("ChanceArena$Program", "high", "[I", true)
  | 6 => ("ChanceArena$Program", "init", "[I", true)
  | 7 => ("ChanceArena$Program", "names", "I", false)
  | 8 => ("ChanceArena$Program", "above", "[I", true)
  | 9 => ("ChanceArena$Program", "below", "[I", true)
  | 10 => ("ChanceArena$Program", "formula", "[I", true)
  | 11 => ("ChanceArena$Program", "target", "I", false)
  | 12 => ("ChanceArena$Program", "commands", "I", false)
  | 13 => ("ChanceArena$Program", "player", "[I", true)
  | 14 => ("ChanceArena$Program", "commandPlace", "[I", true)
  | 15 => ("ChanceArena$Program", "guard", "[I", true)
  | 16 => ("ChanceArena$Program", "firstBranch", "[I", true)
  | 17 => ("ChanceArena$Program", "branchPlace", "[I", true)
  | 18 => ("ChanceArena$Program", "chance", "[I", true)
  | _ => ("ChanceArena$Program", "sets", "[I", true)
def t_Pr : Nat → FieldType := fun k => match k with
  | 0 => .array .int
  | 1 => .array .int
  | 2 => .int
  | 3 => .int
  | 4 => .array .int
  | 5 => .array .int
  | 6 => .array .int
  | 7 => .int
  | 8 => .array .int
  | 9 => .array .int
  | 10 => .array .int
  | 11 => .int
  | 12 => .int
  | 13 => .array .int
  | 14 => .array .int
  | 15 => .array .int
  | 16 => .array .int
  | 17 => .array .int
  | 18 => .array .int
  | _ => .array .int
theorem n_Pr : ∀ a, a < 20 → ∀ b, b < 20 → a ≠ b → (T_Pr a).2.1 ≠ (T_Pr b).2.1 := by decide +kernel
theorem o_Pr : ∀ k, k < 20 → parseFieldDescriptor (T_Pr k).2.2.1 = some (t_Pr k) := by decide +kernel
theorem i_Pr : ∀ w ∈ u_ws R_Pr T_Pr 20, w ∈ lw_R := (List.forall_mem_cons.mpr ⟨k2_85, (List.forall_mem_cons.mpr ⟨k2_87, (List.forall_mem_cons.mpr ⟨k2_89, (List.forall_mem_cons.mpr ⟨k2_91, (List.forall_mem_cons.mpr ⟨k2_93, (List.forall_mem_cons.mpr ⟨k2_95, (List.forall_mem_cons.mpr ⟨k2_97, (List.forall_mem_cons.mpr ⟨k2_99, (List.forall_mem_cons.mpr ⟨k2_101, (List.forall_mem_cons.mpr ⟨k2_103, (List.forall_mem_cons.mpr ⟨k2_105, (List.forall_mem_cons.mpr ⟨k2_107, (List.forall_mem_cons.mpr ⟨k2_109, (List.forall_mem_cons.mpr ⟨k2_111, (List.forall_mem_cons.mpr ⟨k2_113, (List.forall_mem_cons.mpr ⟨k2_115, (List.forall_mem_cons.mpr ⟨k2_117, (List.forall_mem_cons.mpr ⟨k2_119, (List.forall_mem_cons.mpr ⟨k2_121, (List.forall_mem_cons.mpr ⟨k2_123, (fun _ h => absurd h List.not_mem_nil)⟩)⟩)⟩)⟩)⟩)⟩)⟩)⟩)⟩)⟩)⟩)⟩)⟩)⟩)⟩)⟩)⟩)⟩)⟩)⟩)
def R_Ga : String := "ChanceArena$Game"
def T_Ga : u_T := fun k => match k with
  | 0 => ("ChanceArena$Game", "count", "I", false)
  | 1 => ("ChanceArena$Game", "numbers", "[I", true)
  | 2 => ("ChanceArena$Game", "sorts", "[I", true)
  | 3 => ("ChanceArena$Game", "told", "[I", true)
  | 4 => ("ChanceArena$Game", "firstCommand", "[I", true)
  | 5 => ("ChanceArena$Game", "textCommand", "[I", true)
  | 6 => ("ChanceArena$Game", "multiple", "[I", true)
  | 7 => ("ChanceArena$Game", "firstBranch", "[I", true)
  | 8 => ("ChanceArena$Game", "goal", "[I", true)
  | 9 => ("ChanceArena$Game", "weight", "[I", true)
  | 10 => ("ChanceArena$Game", "place", "I", false)
  | 11 => ("ChanceArena$Game", "faultState", "I", false)
  | 12 => ("ChanceArena$Game", "commandCount", "I", false)
  | 13 => ("ChanceArena$Game", "branchCount", "I", false)
  | 14 => ("ChanceArena$Game", "text", "LChanceArena$Program;", false)
  | 15 => ("ChanceArena$Game", "machine", "LChanceArena$Machine;", true)
  | 16 => ("ChanceArena$Game", "slots", "[I", true)
  | 17 => ("ChanceArena$Game", "chanceAbove", "[I", true)
  | _ => ("ChanceArena$Game", "chanceBelow", "[I", true)
def t_Ga : Nat → FieldType := fun k => match k with
  | 0 => .int
  | 1 => .array .int
  | 2 => .array .int
  | 3 => .array .int
  | 4 => .array .int
  | 5 => .array .int
  | 6 => .array .int
  | 7 => .array .int
  | 8 => .array .int
  | 9 => .array .int
  | 10 => .int
  | 11 => .int
  | 12 => .int
  | 13 => .int
  | 14 => .object "ChanceArena$Program"
  | 15 => .object "ChanceArena$Machine"
  | 16 => .array .int
  | 17 => .array .int
  | _ => .array .int
theorem n_Ga : ∀ a, a < 19 → ∀ b, b < 19 → a ≠ b → (T_Ga a).2.1 ≠ (T_Ga b).2.1 := by decide +kernel
theorem o_Ga : ∀ k, k < 19 → parseFieldDescriptor (T_Ga k).2.2.1 = some (t_Ga k) := by decide +kernel
theorem i_Ga : ∀ w ∈ u_ws R_Ga T_Ga 19, w ∈ lw_R := (List.forall_mem_cons.mpr ⟨k2_182, (List.forall_mem_cons.mpr ⟨k2_184, (List.forall_mem_cons.mpr ⟨k2_186, (List.forall_mem_cons.mpr ⟨k2_188, (List.forall_mem_cons.mpr ⟨k2_190, (List.forall_mem_cons.mpr ⟨k2_192, (List.forall_mem_cons.mpr ⟨k2_194, (List.forall_mem_cons.mpr ⟨k2_196, (List.forall_mem_cons.mpr ⟨k2_198, (List.forall_mem_cons.mpr ⟨k2_200, (List.forall_mem_cons.mpr ⟨k2_202, (List.forall_mem_cons.mpr ⟨k2_204, (List.forall_mem_cons.mpr ⟨k2_206, (List.forall_mem_cons.mpr ⟨k2_208, (List.forall_mem_cons.mpr ⟨k2_210, (List.forall_mem_cons.mpr ⟨k2_212, (List.forall_mem_cons.mpr ⟨k2_214, (List.forall_mem_cons.mpr ⟨k2_216, (List.forall_mem_cons.mpr ⟨k2_218, (fun _ h => absurd h List.not_mem_nil)⟩)⟩)⟩)⟩)⟩)⟩)⟩)⟩)⟩)⟩)⟩)⟩)⟩)⟩)⟩)⟩)⟩)⟩)⟩)
def R_So : String := "ChanceArena$Solver"
def T_So : u_T := fun k => match k with
  | 0 => ("ChanceArena$Solver", "scales", "LChanceArena$Scales;", true)
  | 1 => ("ChanceArena$Solver", "ranks", "[I", true)
  | 2 => ("ChanceArena$Solver", "choices", "[I", true)
  | 3 => ("ChanceArena$Solver", "game", "LChanceArena$Game;", true)
  | 4 => ("ChanceArena$Solver", "system", "LChanceArena$Residues;", true)
  | 5 => ("ChanceArena$Solver", "low", "[I", true)
  | 6 => ("ChanceArena$Solver", "high", "[I", true)
  | 7 => ("ChanceArena$Solver", "slot", "[I", true)
  | 8 => ("ChanceArena$Solver", "unknown", "[I", true)
  | 9 => ("ChanceArena$Solver", "chosen", "[I", true)
  | 10 => ("ChanceArena$Solver", "unknowns", "I", false)
  | 11 => ("ChanceArena$Solver", "attains", "[Z", true)
  | 12 => ("ChanceArena$Solver", "probe", "[I", true)
  | _ => ("ChanceArena$Solver", "worth", "LChanceArena$Fraction;", true)
def t_So : Nat → FieldType := fun k => match k with
  | 0 => .object "ChanceArena$Scales"
  | 1 => .array .int
  | 2 => .array .int
  | 3 => .object "ChanceArena$Game"
  | 4 => .object "ChanceArena$Residues"
  | 5 => .array .int
  | 6 => .array .int
  | 7 => .array .int
  | 8 => .array .int
  | 9 => .array .int
  | 10 => .int
  | 11 => .array .boolean
  | 12 => .array .int
  | _ => .object "ChanceArena$Fraction"
theorem n_So : ∀ a, a < 14 → ∀ b, b < 14 → a ≠ b → (T_So a).2.1 ≠ (T_So b).2.1 := by decide +kernel
theorem o_So : ∀ k, k < 14 → parseFieldDescriptor (T_So k).2.2.1 = some (t_So k) := by decide +kernel
theorem i_So : ∀ w ∈ u_ws R_So T_So 14, w ∈ lw_R := (List.forall_mem_cons.mpr ⟨k3_122, (List.forall_mem_cons.mpr ⟨k3_124, (List.forall_mem_cons.mpr ⟨k3_126, (List.forall_mem_cons.mpr ⟨k3_128, (List.forall_mem_cons.mpr ⟨k3_130, (List.forall_mem_cons.mpr ⟨k3_132, (List.forall_mem_cons.mpr ⟨k3_134, (List.forall_mem_cons.mpr ⟨k3_136, (List.forall_mem_cons.mpr ⟨k3_138, (List.forall_mem_cons.mpr ⟨k3_140, (List.forall_mem_cons.mpr ⟨k3_142, (List.forall_mem_cons.mpr ⟨k3_144, (List.forall_mem_cons.mpr ⟨k3_146, (List.forall_mem_cons.mpr ⟨k3_148, (fun _ h => absurd h List.not_mem_nil)⟩)⟩)⟩)⟩)⟩)⟩)⟩)⟩)⟩)⟩)⟩)⟩)⟩)⟩)
def R_Sc : String := "ChanceArena$Scales"
def T_Sc : u_T := fun k => match k with
  | 0 => ("ChanceArena$Scales", "left", "LChanceArena$Natural;", true)
  | 1 => ("ChanceArena$Scales", "right", "LChanceArena$Natural;", true)
  | 2 => ("ChanceArena$Scales", "quotient", "LChanceArena$Natural;", true)
  | 3 => ("ChanceArena$Scales", "scaled", "LChanceArena$Natural;", true)
  | 4 => ("ChanceArena$Scales", "part", "LChanceArena$Natural;", true)
  | 5 => ("ChanceArena$Scales", "product", "LChanceArena$Natural;", true)
  | 6 => ("ChanceArena$Scales", "factors", "[J", true)
  | 7 => ("ChanceArena$Scales", "sumPart", "LChanceArena$Natural;", true)
  | 8 => ("ChanceArena$Scales", "termPart", "LChanceArena$Natural;", true)
  | 9 => ("ChanceArena$Scales", "best", "LChanceArena$Fraction;", false)
  | _ => ("ChanceArena$Scales", "trial", "LChanceArena$Fraction;", false)
def t_Sc : Nat → FieldType := fun k => match k with
  | 0 => .object "ChanceArena$Natural"
  | 1 => .object "ChanceArena$Natural"
  | 2 => .object "ChanceArena$Natural"
  | 3 => .object "ChanceArena$Natural"
  | 4 => .object "ChanceArena$Natural"
  | 5 => .object "ChanceArena$Natural"
  | 6 => .array .long
  | 7 => .object "ChanceArena$Natural"
  | 8 => .object "ChanceArena$Natural"
  | 9 => .object "ChanceArena$Fraction"
  | _ => .object "ChanceArena$Fraction"
theorem n_Sc : ∀ a, a < 11 → ∀ b, b < 11 → a ≠ b → (T_Sc a).2.1 ≠ (T_Sc b).2.1 := by decide +kernel
theorem o_Sc : ∀ k, k < 11 → parseFieldDescriptor (T_Sc k).2.2.1 = some (t_Sc k) := by decide +kernel
theorem i_Sc : ∀ w ∈ u_ws R_Sc T_Sc 11, w ∈ lw_R := (List.forall_mem_cons.mpr ⟨k3_47, (List.forall_mem_cons.mpr ⟨k3_49, (List.forall_mem_cons.mpr ⟨k3_51, (List.forall_mem_cons.mpr ⟨k3_53, (List.forall_mem_cons.mpr ⟨k3_55, (List.forall_mem_cons.mpr ⟨k3_57, (List.forall_mem_cons.mpr ⟨k3_59, (List.forall_mem_cons.mpr ⟨k3_61, (List.forall_mem_cons.mpr ⟨k3_63, (List.forall_mem_cons.mpr ⟨k3_65, (List.forall_mem_cons.mpr ⟨k3_67, (fun _ h => absurd h List.not_mem_nil)⟩)⟩)⟩)⟩)⟩)⟩)⟩)⟩)⟩)⟩)⟩)
def R_Na : String := "ChanceArena$Natural"
def T_Na : u_T := fun k => match k with
  | 0 => ("ChanceArena$Natural", "limbs", "[I", false)
  | _ => ("ChanceArena$Natural", "size", "I", false)
def t_Na : Nat → FieldType := fun k => match k with
  | 0 => .array .int
  | _ => .int
theorem n_Na : ∀ a, a < 2 → ∀ b, b < 2 → a ≠ b → (T_Na a).2.1 ≠ (T_Na b).2.1 := by decide +kernel
theorem o_Na : ∀ k, k < 2 → parseFieldDescriptor (T_Na k).2.2.1 = some (t_Na k) := by decide +kernel
theorem i_Na : ∀ w ∈ u_ws R_Na T_Na 2, w ∈ lw_R := (List.forall_mem_cons.mpr ⟨k3_5, (List.forall_mem_cons.mpr ⟨k3_7, (fun _ h => absurd h List.not_mem_nil)⟩)⟩)
def R_Fr : String := "ChanceArena$Fraction"
def T_Fr : u_T := fun k => match k with
  | 0 => ("ChanceArena$Fraction", "above", "LChanceArena$Natural;", true)
  | 1 => ("ChanceArena$Fraction", "below", "LChanceArena$Natural;", true)
  | _ => ("ChanceArena$Fraction", "times", "I", false)
def t_Fr : Nat → FieldType := fun k => match k with
  | 0 => .object "ChanceArena$Natural"
  | 1 => .object "ChanceArena$Natural"
  | _ => .int
theorem n_Fr : ∀ a, a < 3 → ∀ b, b < 3 → a ≠ b → (T_Fr a).2.1 ≠ (T_Fr b).2.1 := by decide +kernel
theorem o_Fr : ∀ k, k < 3 → parseFieldDescriptor (T_Fr k).2.2.1 = some (t_Fr k) := by decide +kernel
theorem i_Fr : ∀ w ∈ u_ws R_Fr T_Fr 3, w ∈ lw_R := (List.forall_mem_cons.mpr ⟨k3_28, (List.forall_mem_cons.mpr ⟨k3_30, (List.forall_mem_cons.mpr ⟨k3_32, (fun _ h => absurd h List.not_mem_nil)⟩)⟩)⟩)
def R_Re : String := "ChanceArena$Residues"
def T_Re : u_T := fun k => match k with
  | 0 => ("ChanceArena$Residues", "entries", "[I", true)
  | 1 => ("ChanceArena$Residues", "results", "[LChanceArena$Natural;", true)
  | 2 => ("ChanceArena$Residues", "work", "[I", true)
  | 3 => ("ChanceArena$Residues", "inverses", "[I", true)
  | 4 => ("ChanceArena$Residues", "columns", "[I", true)
  | 5 => ("ChanceArena$Residues", "residues", "[I", true)
  | _ => ("ChanceArena$Residues", "modulus", "LChanceArena$Natural;", true)
def t_Re : Nat → FieldType := fun k => match k with
  | 0 => .array .int
  | 1 => .array (.object "ChanceArena$Natural")
  | 2 => .array .int
  | 3 => .array .int
  | 4 => .array .int
  | 5 => .array .int
  | _ => .object "ChanceArena$Natural"
theorem n_Re : ∀ a, a < 7 → ∀ b, b < 7 → a ≠ b → (T_Re a).2.1 ≠ (T_Re b).2.1 := by decide +kernel
theorem o_Re : ∀ k, k < 7 → parseFieldDescriptor (T_Re k).2.2.1 = some (t_Re k) := by decide +kernel
theorem i_Re : ∀ w ∈ u_ws R_Re T_Re 7, w ∈ lw_R := (List.forall_mem_cons.mpr ⟨k3_88, (List.forall_mem_cons.mpr ⟨k3_90, (List.forall_mem_cons.mpr ⟨k3_92, (List.forall_mem_cons.mpr ⟨k3_94, (List.forall_mem_cons.mpr ⟨k3_96, (List.forall_mem_cons.mpr ⟨k3_98, (List.forall_mem_cons.mpr ⟨k3_100, (fun _ h => absurd h List.not_mem_nil)⟩)⟩)⟩)⟩)⟩)⟩)⟩)
def R_Fs : String := "ChanceArena$Fractions"
def T_Fs : u_T := fun k => match k with
  | 0 => ("ChanceArena$Fractions", "rows", "[LChanceArena$Fraction;", false)
  | _ => ("ChanceArena$Fractions", "known", "Z", false)
def t_Fs : Nat → FieldType := fun k => match k with
  | 0 => .array (.object "ChanceArena$Fraction")
  | _ => .boolean
theorem n_Fs : ∀ a, a < 2 → ∀ b, b < 2 → a ≠ b → (T_Fs a).2.1 ≠ (T_Fs b).2.1 := by decide +kernel
theorem o_Fs : ∀ k, k < 2 → parseFieldDescriptor (T_Fs k).2.2.1 = some (t_Fs k) := by decide +kernel
theorem i_Fs : ∀ w ∈ u_ws R_Fs T_Fs 2, w ∈ lw_R := (List.forall_mem_cons.mpr ⟨k3_166, (List.forall_mem_cons.mpr ⟨k3_168, (fun _ h => absurd h List.not_mem_nil)⟩)⟩)
def R_MM : String := "ChanceArenaModel"
def T_MM : u_T := fun k => match k with
  | 0 => ("ChanceArenaModel", "thrown", "I", false)
  | 1 => ("ChanceArenaModel", "tape", "LChanceArenaModel$Numbers;", false)
  | 2 => ("ChanceArenaModel", "text", "LChanceArenaModel$Numbers;", false)
  | 3 => ("ChanceArenaModel", "kinds", "LChanceArenaModel$Numbers;", true)
  | 4 => ("ChanceArenaModel", "places", "LChanceArenaModel$Numbers;", true)
  | 5 => ("ChanceArenaModel", "ends", "LChanceArenaModel$Numbers;", true)
  | 6 => ("ChanceArenaModel", "wanted", "LChanceArenaModel$Numbers;", true)
  | 7 => ("ChanceArenaModel", "levels", "I", false)
  | 8 => ("ChanceArenaModel", "bad", "I", false)
  | 9 => ("ChanceArenaModel", "game", "LChanceArenaModel$Game;", false)
  | 10 => ("ChanceArenaModel", "draft", "LChanceArenaModel$Game;", false)
  | 11 => ("ChanceArenaModel", "known", "Z", false)
  | 12 => ("ChanceArenaModel", "wrong", "I", false)
  | 13 => ("ChanceArenaModel", "nameWord", "LChanceArenaModel$Numbers;", true)
  | 14 => ("ChanceArenaModel", "nameSort", "LChanceArenaModel$Numbers;", true)
  | 15 => ("ChanceArenaModel", "nameIndex", "LChanceArenaModel$Numbers;", true)
  | 16 => ("ChanceArenaModel", "fault", "I", false)
  | 17 => ("ChanceArenaModel", "faultPlace", "I", false)
  | 18 => ("ChanceArenaModel", "jobs", "LChanceArenaModel$Numbers;", true)
  | 19 => ("ChanceArenaModel", "truths", "LChanceArenaModel$Numbers;", true)
  | 20 => ("ChanceArenaModel", "looks", "LChanceArenaModel$Numbers;", true)
  | 21 => ("ChanceArenaModel", "above", "[J", true)
  | 22 => ("ChanceArenaModel", "below", "[J", true)
  | 23 => ("ChanceArenaModel", "values", "I", false)
  | 24 => ("ChanceArenaModel", "todo", "LChanceArenaModel$Numbers;", true)
  | 25 => ("ChanceArenaModel", "now", "[I", true)
  | 26 => ("ChanceArenaModel", "met", "[Z", true)
  | 27 => ("ChanceArenaModel", "metAbove", "[J", true)
  | 28 => ("ChanceArenaModel", "metBelow", "[J", true)
  | 29 => ("ChanceArenaModel", "many", "I", false)
  | 30 => ("ChanceArenaModel", "faultState", "I", false)
  | 31 => ("ChanceArenaModel", "vars", "[I", true)
  | 32 => ("ChanceArenaModel", "kindOf", "[I", true)
  | 33 => ("ChanceArenaModel", "firstCommand", "[I", true)
  | 34 => ("ChanceArenaModel", "manyCommands", "[I", true)
  | 35 => ("ChanceArenaModel", "commandOf", "LChanceArenaModel$Numbers;", true)
  | 36 => ("ChanceArenaModel", "firstBranch", "LChanceArenaModel$Numbers;", true)
  | 37 => ("ChanceArenaModel", "manyBranches", "LChanceArenaModel$Numbers;", true)
  | 38 => ("ChanceArenaModel", "multipleOf", "LChanceArenaModel$Numbers;", true)
  | 39 => ("ChanceArenaModel", "solver", "LChanceArenaModel$Solver;", true)
  | 40 => ("ChanceArenaModel", "ways", "I", false)
  | 41 => ("ChanceArenaModel", "wayTo", "[I", true)
  | 42 => ("ChanceArenaModel", "wayAbove", "[J", true)
  | 43 => ("ChanceArenaModel", "wayBelow", "[J", true)
  | 44 => ("ChanceArenaModel", "next", "[I", true)
  | 45 => ("ChanceArenaModel", "chanceAbove", "[J", true)
  | 46 => ("ChanceArenaModel", "chanceBelow", "[J", true)
  | 47 => ("ChanceArenaModel", "printed", "[I", true)
  | _ => ("ChanceArenaModel", "printedSize", "I", false)
def t_MM : Nat → FieldType := fun k => match k with
  | 0 => .int
  | 1 => .object "ChanceArenaModel$Numbers"
  | 2 => .object "ChanceArenaModel$Numbers"
  | 3 => .object "ChanceArenaModel$Numbers"
  | 4 => .object "ChanceArenaModel$Numbers"
  | 5 => .object "ChanceArenaModel$Numbers"
  | 6 => .object "ChanceArenaModel$Numbers"
  | 7 => .int
  | 8 => .int
  | 9 => .object "ChanceArenaModel$Game"
  | 10 => .object "ChanceArenaModel$Game"
  | 11 => .boolean
  | 12 => .int
  | 13 => .object "ChanceArenaModel$Numbers"
  | 14 => .object "ChanceArenaModel$Numbers"
  | 15 => .object "ChanceArenaModel$Numbers"
  | 16 => .int
  | 17 => .int
  | 18 => .object "ChanceArenaModel$Numbers"
  | 19 => .object "ChanceArenaModel$Numbers"
  | 20 => .object "ChanceArenaModel$Numbers"
  | 21 => .array .long
  | 22 => .array .long
  | 23 => .int
  | 24 => .object "ChanceArenaModel$Numbers"
  | 25 => .array .int
  | 26 => .array .boolean
  | 27 => .array .long
  | 28 => .array .long
  | 29 => .int
  | 30 => .int
  | 31 => .array .int
  | 32 => .array .int
  | 33 => .array .int
  | 34 => .array .int
  | 35 => .object "ChanceArenaModel$Numbers"
  | 36 => .object "ChanceArenaModel$Numbers"
  | 37 => .object "ChanceArenaModel$Numbers"
  | 38 => .object "ChanceArenaModel$Numbers"
  | 39 => .object "ChanceArenaModel$Solver"
  | 40 => .int
  | 41 => .array .int
  | 42 => .array .long
  | 43 => .array .long
  | 44 => .array .int
  | 45 => .array .long
  | 46 => .array .long
  | 47 => .array .int
  | _ => .int
theorem n_MM : ∀ a, a < 49 → ∀ b, b < 49 → a ≠ b → (T_MM a).2.1 ≠ (T_MM b).2.1 := by decide +kernel
theorem o_MM : ∀ k, k < 49 → parseFieldDescriptor (T_MM k).2.2.1 = some (t_MM k) := by decide +kernel
theorem i_MM : ∀ w ∈ u_ws R_MM T_MM 49, w ∈ lw_R := (List.forall_mem_cons.mpr ⟨k10_95, (List.forall_mem_cons.mpr ⟨k10_97, (List.forall_mem_cons.mpr ⟨k10_99, (List.forall_mem_cons.mpr ⟨k10_101, (List.forall_mem_cons.mpr ⟨k10_103, (List.forall_mem_cons.mpr ⟨k10_105, (List.forall_mem_cons.mpr ⟨k10_107, (List.forall_mem_cons.mpr ⟨k10_109, (List.forall_mem_cons.mpr ⟨k10_111, (List.forall_mem_cons.mpr ⟨k10_113, (List.forall_mem_cons.mpr ⟨k10_115, (List.forall_mem_cons.mpr ⟨k10_117, (List.forall_mem_cons.mpr ⟨k10_119, (List.forall_mem_cons.mpr ⟨k10_121, (List.forall_mem_cons.mpr ⟨k10_123, (List.forall_mem_cons.mpr ⟨k10_125, (List.forall_mem_cons.mpr ⟨k10_127, (List.forall_mem_cons.mpr ⟨k10_129, (List.forall_mem_cons.mpr ⟨k10_131, (List.forall_mem_cons.mpr ⟨k10_133, (List.forall_mem_cons.mpr ⟨k10_135, (List.forall_mem_cons.mpr ⟨k10_137, (List.forall_mem_cons.mpr ⟨k10_139, (List.forall_mem_cons.mpr ⟨k10_141, (List.forall_mem_cons.mpr ⟨k10_143, (List.forall_mem_cons.mpr ⟨k10_145, (List.forall_mem_cons.mpr ⟨k10_147, (List.forall_mem_cons.mpr ⟨k10_149, (List.forall_mem_cons.mpr ⟨k10_151, (List.forall_mem_cons.mpr ⟨k10_153, (List.forall_mem_cons.mpr ⟨k10_155, (List.forall_mem_cons.mpr ⟨k10_157, (List.forall_mem_cons.mpr ⟨k10_159, (List.forall_mem_cons.mpr ⟨k10_161, (List.forall_mem_cons.mpr ⟨k10_163, (List.forall_mem_cons.mpr ⟨k10_165, (List.forall_mem_cons.mpr ⟨k10_167, (List.forall_mem_cons.mpr ⟨k10_169, (List.forall_mem_cons.mpr ⟨k10_171, (List.forall_mem_cons.mpr ⟨k10_173, (List.forall_mem_cons.mpr ⟨k10_175, (List.forall_mem_cons.mpr ⟨k10_177, (List.forall_mem_cons.mpr ⟨k10_179, (List.forall_mem_cons.mpr ⟨k10_181, (List.forall_mem_cons.mpr ⟨k10_183, (List.forall_mem_cons.mpr ⟨k10_185, (List.forall_mem_cons.mpr ⟨k10_187, (List.forall_mem_cons.mpr ⟨k10_189, (List.forall_mem_cons.mpr ⟨k10_191, (fun _ h => absurd h List.not_mem_nil)⟩)⟩)⟩)⟩)⟩)⟩)⟩)⟩)⟩)⟩)⟩)⟩)⟩)⟩)⟩)⟩)⟩)⟩)⟩)⟩)⟩)⟩)⟩)⟩)⟩)⟩)⟩)⟩)⟩)⟩)⟩)⟩)⟩)⟩)⟩)⟩)⟩)⟩)⟩)⟩)⟩)⟩)⟩)⟩)⟩)⟩)⟩)⟩)⟩)
def R_MN : String := "ChanceArenaModel$Numbers"
def T_MN : u_T := fun k => match k with
  | 0 => ("ChanceArenaModel$Numbers", "all", "[I", false)
  | _ => ("ChanceArenaModel$Numbers", "size", "I", false)
def t_MN : Nat → FieldType := fun k => match k with
  | 0 => .array .int
  | _ => .int
theorem n_MN : ∀ a, a < 2 → ∀ b, b < 2 → a ≠ b → (T_MN a).2.1 ≠ (T_MN b).2.1 := by decide +kernel
theorem o_MN : ∀ k, k < 2 → parseFieldDescriptor (T_MN k).2.2.1 = some (t_MN k) := by decide +kernel
theorem i_MN : ∀ w ∈ u_ws R_MN T_MN 2, w ∈ lw_R := (List.forall_mem_cons.mpr ⟨k8_216, (List.forall_mem_cons.mpr ⟨k8_218, (fun _ h => absurd h List.not_mem_nil)⟩)⟩)
def R_MG : String := "ChanceArenaModel$Game"
def T_MG : u_T := fun k => match k with
  | 0 => ("ChanceArenaModel$Game", "sort", "LChanceArenaModel$Numbers;", true)
  | 1 => ("ChanceArenaModel$Game", "place", "LChanceArenaModel$Numbers;", true)
  | 2 => ("ChanceArenaModel$Game", "from", "LChanceArenaModel$Numbers;", true)
  | 3 => ("ChanceArenaModel$Game", "value", "LChanceArenaModel$Numbers;", true)
  | 4 => ("ChanceArenaModel$Game", "firstPart", "LChanceArenaModel$Numbers;", true)
  | 5 => ("ChanceArenaModel$Game", "nextPart", "LChanceArenaModel$Numbers;", true)
  | 6 => ("ChanceArenaModel$Game", "rules", "I", false)
  | 7 => ("ChanceArenaModel$Game", "isFormula", "[Z", true)
  | 8 => ("ChanceArenaModel$Game", "isTruth", "[Z", true)
  | 9 => ("ChanceArenaModel$Game", "rootOf", "[I", true)
  | 10 => ("ChanceArenaModel$Game", "above", "[J", true)
  | 11 => ("ChanceArenaModel$Game", "below", "[J", true)
  | 12 => ("ChanceArenaModel$Game", "vars", "I", false)
  | 13 => ("ChanceArenaModel$Game", "isBool", "[Z", true)
  | 14 => ("ChanceArenaModel$Game", "least", "[I", true)
  | 15 => ("ChanceArenaModel$Game", "greatest", "[I", true)
  | 16 => ("ChanceArenaModel$Game", "begin", "[I", true)
  | 17 => ("ChanceArenaModel$Game", "target", "I", false)
  | 18 => ("ChanceArenaModel$Game", "commands", "I", false)
  | 19 => ("ChanceArenaModel$Game", "isMin", "[Z", true)
  | 20 => ("ChanceArenaModel$Game", "commandPlace", "[I", true)
  | 21 => ("ChanceArenaModel$Game", "guard", "[I", true)
  | 22 => ("ChanceArenaModel$Game", "branches", "[I", true)
  | 23 => ("ChanceArenaModel$Game", "chance", "[I", true)
  | 24 => ("ChanceArenaModel$Game", "branchPlace", "[I", true)
  | 25 => ("ChanceArenaModel$Game", "firstSet", "[I", true)
  | 26 => ("ChanceArenaModel$Game", "manySets", "[I", true)
  | 27 => ("ChanceArenaModel$Game", "setVar", "LChanceArenaModel$Numbers;", true)
  | 28 => ("ChanceArenaModel$Game", "setPlace", "LChanceArenaModel$Numbers;", true)
  | _ => ("ChanceArenaModel$Game", "setRule", "LChanceArenaModel$Numbers;", true)
def t_MG : Nat → FieldType := fun k => match k with
  | 0 => .object "ChanceArenaModel$Numbers"
  | 1 => .object "ChanceArenaModel$Numbers"
  | 2 => .object "ChanceArenaModel$Numbers"
  | 3 => .object "ChanceArenaModel$Numbers"
  | 4 => .object "ChanceArenaModel$Numbers"
  | 5 => .object "ChanceArenaModel$Numbers"
  | 6 => .int
  | 7 => .array .boolean
  | 8 => .array .boolean
  | 9 => .array .int
  | 10 => .array .long
  | 11 => .array .long
  | 12 => .int
  | 13 => .array .boolean
  | 14 => .array .int
  | 15 => .array .int
  | 16 => .array .int
  | 17 => .int
  | 18 => .int
  | 19 => .array .boolean
  | 20 => .array .int
  | 21 => .array .int
  | 22 => .array .int
  | 23 => .array .int
  | 24 => .array .int
  | 25 => .array .int
  | 26 => .array .int
  | 27 => .object "ChanceArenaModel$Numbers"
  | 28 => .object "ChanceArenaModel$Numbers"
  | _ => .object "ChanceArenaModel$Numbers"
theorem n_MG : ∀ a, a < 30 → ∀ b, b < 30 → a ≠ b → (T_MG a).2.1 ≠ (T_MG b).2.1 := by decide +kernel
theorem o_MG : ∀ k, k < 30 → parseFieldDescriptor (T_MG k).2.2.1 = some (t_MG k) := by decide +kernel
theorem i_MG : ∀ w ∈ u_ws R_MG T_MG 30, w ∈ lw_R := (List.forall_mem_cons.mpr ⟨k9_49, (List.forall_mem_cons.mpr ⟨k9_51, (List.forall_mem_cons.mpr ⟨k9_53, (List.forall_mem_cons.mpr ⟨k9_55, (List.forall_mem_cons.mpr ⟨k9_57, (List.forall_mem_cons.mpr ⟨k9_59, (List.forall_mem_cons.mpr ⟨k9_61, (List.forall_mem_cons.mpr ⟨k9_63, (List.forall_mem_cons.mpr ⟨k9_65, (List.forall_mem_cons.mpr ⟨k9_67, (List.forall_mem_cons.mpr ⟨k9_69, (List.forall_mem_cons.mpr ⟨k9_71, (List.forall_mem_cons.mpr ⟨k9_73, (List.forall_mem_cons.mpr ⟨k9_75, (List.forall_mem_cons.mpr ⟨k9_77, (List.forall_mem_cons.mpr ⟨k9_79, (List.forall_mem_cons.mpr ⟨k9_81, (List.forall_mem_cons.mpr ⟨k9_83, (List.forall_mem_cons.mpr ⟨k9_85, (List.forall_mem_cons.mpr ⟨k9_87, (List.forall_mem_cons.mpr ⟨k9_89, (List.forall_mem_cons.mpr ⟨k9_91, (List.forall_mem_cons.mpr ⟨k9_93, (List.forall_mem_cons.mpr ⟨k9_95, (List.forall_mem_cons.mpr ⟨k9_97, (List.forall_mem_cons.mpr ⟨k9_99, (List.forall_mem_cons.mpr ⟨k9_101, (List.forall_mem_cons.mpr ⟨k9_103, (List.forall_mem_cons.mpr ⟨k9_105, (List.forall_mem_cons.mpr ⟨k9_107, (fun _ h => absurd h List.not_mem_nil)⟩)⟩)⟩)⟩)⟩)⟩)⟩)⟩)⟩)⟩)⟩)⟩)⟩)⟩)⟩)⟩)⟩)⟩)⟩)⟩)⟩)⟩)⟩)⟩)⟩)⟩)⟩)⟩)⟩)⟩)
def R_MS : String := "ChanceArenaModel$Solver"
def T_MS : u_T := fun k => match k with
  | 0 => ("ChanceArenaModel$Solver", "sums", "LChanceArenaModel$Sums;", true)
  | 1 => ("ChanceArenaModel$Solver", "states", "I", false)
  | 2 => ("ChanceArenaModel$Solver", "commands", "I", false)
  | 3 => ("ChanceArenaModel$Solver", "branches", "I", false)
  | 4 => ("ChanceArenaModel$Solver", "kinds", "[I", true)
  | 5 => ("ChanceArenaModel$Solver", "firstCommands", "[I", true)
  | 6 => ("ChanceArenaModel$Solver", "multiples", "[I", true)
  | 7 => ("ChanceArenaModel$Solver", "firstBranches", "[I", true)
  | 8 => ("ChanceArenaModel$Solver", "targets", "[I", true)
  | 9 => ("ChanceArenaModel$Solver", "ups", "[I", true)
  | 10 => ("ChanceArenaModel$Solver", "downs", "[I", true)
  | 11 => ("ChanceArenaModel$Solver", "fractions", "[LChanceArenaModel$Fraction;", true)
  | 12 => ("ChanceArenaModel$Solver", "has", "[Z", true)
  | 13 => ("ChanceArenaModel$Solver", "next", "[LChanceArenaModel$Fraction;", true)
  | 14 => ("ChanceArenaModel$Solver", "told", "[I", true)
  | 15 => ("ChanceArenaModel$Solver", "choices", "[I", true)
  | 16 => ("ChanceArenaModel$Solver", "ranks", "[I", true)
  | 17 => ("ChanceArenaModel$Solver", "kept", "I", false)
  | 18 => ("ChanceArenaModel$Solver", "plays", "[I", true)
  | 19 => ("ChanceArenaModel$Solver", "inside", "[Z", true)
  | 20 => ("ChanceArenaModel$Solver", "fixed", "[Z", true)
  | 21 => ("ChanceArenaModel$Solver", "values", "[LChanceArenaModel$Fraction;", true)
  | 22 => ("ChanceArenaModel$Solver", "unknown", "[I", true)
  | 23 => ("ChanceArenaModel$Solver", "rowOf", "[I", true)
  | 24 => ("ChanceArenaModel$Solver", "count", "I", false)
  | 25 => ("ChanceArenaModel$Solver", "cells", "[LChanceArenaModel$Fraction;", true)
  | 26 => ("ChanceArenaModel$Solver", "chance", "LChanceArenaModel$Fraction;", true)
  | 27 => ("ChanceArenaModel$Solver", "factor", "LChanceArenaModel$Fraction;", true)
  | 28 => ("ChanceArenaModel$Solver", "worth", "LChanceArenaModel$Fraction;", true)
  | 29 => ("ChanceArenaModel$Solver", "other", "LChanceArenaModel$Fraction;", true)
  | 30 => ("ChanceArenaModel$Solver", "best", "LChanceArenaModel$Fraction;", true)
  | _ => ("ChanceArenaModel$Solver", "digits", "[I", true)
def t_MS : Nat → FieldType := fun k => match k with
  | 0 => .object "ChanceArenaModel$Sums"
  | 1 => .int
  | 2 => .int
  | 3 => .int
  | 4 => .array .int
  | 5 => .array .int
  | 6 => .array .int
  | 7 => .array .int
  | 8 => .array .int
  | 9 => .array .int
  | 10 => .array .int
  | 11 => .array (.object "ChanceArenaModel$Fraction")
  | 12 => .array .boolean
  | 13 => .array (.object "ChanceArenaModel$Fraction")
  | 14 => .array .int
  | 15 => .array .int
  | 16 => .array .int
  | 17 => .int
  | 18 => .array .int
  | 19 => .array .boolean
  | 20 => .array .boolean
  | 21 => .array (.object "ChanceArenaModel$Fraction")
  | 22 => .array .int
  | 23 => .array .int
  | 24 => .int
  | 25 => .array (.object "ChanceArenaModel$Fraction")
  | 26 => .object "ChanceArenaModel$Fraction"
  | 27 => .object "ChanceArenaModel$Fraction"
  | 28 => .object "ChanceArenaModel$Fraction"
  | 29 => .object "ChanceArenaModel$Fraction"
  | 30 => .object "ChanceArenaModel$Fraction"
  | _ => .array .int
theorem n_MS : ∀ a, a < 32 → ∀ b, b < 32 → a ≠ b → (T_MS a).2.1 ≠ (T_MS b).2.1 := by decide +kernel
theorem o_MS : ∀ k, k < 32 → parseFieldDescriptor (T_MS k).2.2.1 = some (t_MS k) := by decide +kernel
theorem i_MS : ∀ w ∈ u_ws R_MS T_MS 32, w ∈ lw_R := (List.forall_mem_cons.mpr ⟨k9_221, (List.forall_mem_cons.mpr ⟨k9_223, (List.forall_mem_cons.mpr ⟨k9_225, (List.forall_mem_cons.mpr ⟨k9_227, (List.forall_mem_cons.mpr ⟨k9_229, (List.forall_mem_cons.mpr ⟨k9_231, (List.forall_mem_cons.mpr ⟨k9_233, (List.forall_mem_cons.mpr ⟨k9_235, (List.forall_mem_cons.mpr ⟨k9_237, (List.forall_mem_cons.mpr ⟨k9_239, (List.forall_mem_cons.mpr ⟨k10_1, (List.forall_mem_cons.mpr ⟨k10_3, (List.forall_mem_cons.mpr ⟨k10_5, (List.forall_mem_cons.mpr ⟨k10_7, (List.forall_mem_cons.mpr ⟨k10_9, (List.forall_mem_cons.mpr ⟨k10_11, (List.forall_mem_cons.mpr ⟨k10_13, (List.forall_mem_cons.mpr ⟨k10_15, (List.forall_mem_cons.mpr ⟨k10_17, (List.forall_mem_cons.mpr ⟨k10_19, (List.forall_mem_cons.mpr ⟨k10_21, (List.forall_mem_cons.mpr ⟨k10_23, (List.forall_mem_cons.mpr ⟨k10_25, (List.forall_mem_cons.mpr ⟨k10_27, (List.forall_mem_cons.mpr ⟨k10_29, (List.forall_mem_cons.mpr ⟨k10_31, (List.forall_mem_cons.mpr ⟨k10_33, (List.forall_mem_cons.mpr ⟨k10_35, (List.forall_mem_cons.mpr ⟨k10_37, (List.forall_mem_cons.mpr ⟨k10_39, (List.forall_mem_cons.mpr ⟨k10_41, (List.forall_mem_cons.mpr ⟨k10_43, (fun _ h => absurd h List.not_mem_nil)⟩)⟩)⟩)⟩)⟩)⟩)⟩)⟩)⟩)⟩)⟩)⟩)⟩)⟩)⟩)⟩)⟩)⟩)⟩)⟩)⟩)⟩)⟩)⟩)⟩)⟩)⟩)⟩)⟩)⟩)⟩)⟩)
def R_MU : String := "ChanceArenaModel$Sums"
def T_MU : u_T := fun k => match k with
  | 0 => ("ChanceArenaModel$Sums", "made", "LChanceArenaModel$Fraction;", true)
  | 1 => ("ChanceArenaModel$Sums", "sum", "LChanceArenaModel$Fraction;", true)
  | 2 => ("ChanceArenaModel$Sums", "x", "LChanceArenaModel$Whole;", true)
  | 3 => ("ChanceArenaModel$Sums", "y", "LChanceArenaModel$Whole;", true)
  | 4 => ("ChanceArenaModel$Sums", "z", "LChanceArenaModel$Whole;", true)
  | 5 => ("ChanceArenaModel$Sums", "quotient", "LChanceArenaModel$Whole;", true)
  | _ => ("ChanceArenaModel$Sums", "rest", "LChanceArenaModel$Whole;", true)
def t_MU : Nat → FieldType := fun k => match k with
  | 0 => .object "ChanceArenaModel$Fraction"
  | 1 => .object "ChanceArenaModel$Fraction"
  | 2 => .object "ChanceArenaModel$Whole"
  | 3 => .object "ChanceArenaModel$Whole"
  | 4 => .object "ChanceArenaModel$Whole"
  | 5 => .object "ChanceArenaModel$Whole"
  | _ => .object "ChanceArenaModel$Whole"
theorem n_MU : ∀ a, a < 7 → ∀ b, b < 7 → a ≠ b → (T_MU a).2.1 ≠ (T_MU b).2.1 := by decide +kernel
theorem o_MU : ∀ k, k < 7 → parseFieldDescriptor (T_MU k).2.2.1 = some (t_MU k) := by decide +kernel
theorem i_MU : ∀ w ∈ u_ws R_MU T_MU 7, w ∈ lw_R := (List.forall_mem_cons.mpr ⟨k9_171, (List.forall_mem_cons.mpr ⟨k9_173, (List.forall_mem_cons.mpr ⟨k9_175, (List.forall_mem_cons.mpr ⟨k9_177, (List.forall_mem_cons.mpr ⟨k9_179, (List.forall_mem_cons.mpr ⟨k9_181, (List.forall_mem_cons.mpr ⟨k9_183, (fun _ h => absurd h List.not_mem_nil)⟩)⟩)⟩)⟩)⟩)⟩)⟩)
def R_MF : String := "ChanceArenaModel$Fraction"
def T_MF : u_T := fun k => match k with
  | 0 => ("ChanceArenaModel$Fraction", "top", "LChanceArenaModel$Whole;", true)
  | 1 => ("ChanceArenaModel$Fraction", "bottom", "LChanceArenaModel$Whole;", true)
  | _ => ("ChanceArenaModel$Fraction", "below", "Z", false)
def t_MF : Nat → FieldType := fun k => match k with
  | 0 => .object "ChanceArenaModel$Whole"
  | 1 => .object "ChanceArenaModel$Whole"
  | _ => .boolean
theorem n_MF : ∀ a, a < 3 → ∀ b, b < 3 → a ≠ b → (T_MF a).2.1 ≠ (T_MF b).2.1 := by decide +kernel
theorem o_MF : ∀ k, k < 3 → parseFieldDescriptor (T_MF k).2.2.1 = some (t_MF k) := by decide +kernel
theorem i_MF : ∀ w ∈ u_ws R_MF T_MF 3, w ∈ lw_R := (List.forall_mem_cons.mpr ⟨k9_154, (List.forall_mem_cons.mpr ⟨k9_156, (List.forall_mem_cons.mpr ⟨k9_158, (fun _ h => absurd h List.not_mem_nil)⟩)⟩)⟩)
def R_MW : String := "ChanceArenaModel$Whole"
def T_MW : u_T := fun k => match k with
  | 0 => ("ChanceArenaModel$Whole", "parts", "[I", true)
  | _ => ("ChanceArenaModel$Whole", "n", "I", false)
def t_MW : Nat → FieldType := fun k => match k with
  | 0 => .array .int
  | _ => .int
theorem n_MW : ∀ a, a < 2 → ∀ b, b < 2 → a ≠ b → (T_MW a).2.1 ≠ (T_MW b).2.1 := by decide +kernel
theorem o_MW : ∀ k, k < 2 → parseFieldDescriptor (T_MW k).2.2.1 = some (t_MW k) := by decide +kernel
theorem i_MW : ∀ w ∈ u_ws R_MW T_MW 2, w ∈ lw_R := (List.forall_mem_cons.mpr ⟨k9_136, (List.forall_mem_cons.mpr ⟨k9_138, (fun _ h => absurd h List.not_mem_nil)⟩)⟩)
abbrev vwCl : List vw_C := [(R_CA, T_CA, 19), (R_Wo, T_Wo, 6), (R_TR, T_TR, 9), (R_RR, T_RR, 20), (R_Ma, T_Ma, 16), (R_Pr, T_Pr, 20), (R_Ga, T_Ga, 19), (R_So, T_So, 14), (R_Sc, T_Sc, 11), (R_Na, T_Na, 2), (R_Fr, T_Fr, 3), (R_Re, T_Re, 7), (R_Fs, T_Fs, 2), (R_MM, T_MM, 49), (R_MN, T_MN, 2), (R_MG, T_MG, 30), (R_MS, T_MS, 32), (R_MU, T_MU, 7), (R_MF, T_MF, 3), (R_MW, T_MW, 2)]
end
section
/-! A shorter dress for contracts: the array classes are fixed (tA), a contract's world comes in and goes out as a list of cells, the frame is joined in one row. -/
section Base
variable {p : Program} {l : Launch} {e : Env} {R : Room} {s : State} {m : MethodId} {args : Array Value} {below : List Frame} {meth : Method} {c : Code} {H : Heap} {locs : List Loc} {cells slots : Nat} {Q : State → Prop}
/-- the array classes -/
abbrev zT (tA : Nat → ClassId) : List (ClassId × FieldType) := [(tA 0, .int), (tA 1, .boolean), (tA 2, .char), (tA 3, .long), (tA 4, .object "ChanceArena$Natural"), (tA 5, .object "ChanceArena$Fraction"), (tA 6, .object "ChanceArenaModel$Fraction")]
/-- a contract's start: the world W0, the heap's size -/
def zPre (D : va_G) (tA : Nat → ClassId) (W0 : va_W) (sz : Nat) (U : State) : Prop := U.heap.size = sz ∧ va_P D vwCl W0 U.heap ∧ va_K D vwCl (zT tA) U ∧ va_D (fun _ => True) W0 ∧ zH U
/-- a contract's end: the world W1 u -/
def zPost {S : Type} (D : va_G) (A : Nat → Prop) (W1 : S → va_W) (u : S) (t : State) : Prop := va_P D vwCl (W1 u) t.heap ∧ va_D A (W1 u)
abbrev zMv {S : Type} (l : Launch) (y : MethodName) (ws : List Cond) (rm : Room) (av : List Value) (D : va_G) (tA : Nat → ClassId) (W0 : va_W) (sz : Nat) (post : S → Prop) (W1 : S → va_W) (mc ms : Nat) : Prop :=
  Met l y ws rm (va_Pc av (zPre D tA W0 sz)) (va_Qv post (zPost D (va_A W0 sz) W1) (va_A W0 sz)) mc ms (va_A W0 sz)
abbrev zMi {S : Type} (l : Launch) (y : MethodName) (ws : List Cond) (rm : Room) (av : List Value) (D : va_G) (tA : Nat → ClassId) (W0 : va_W) (sz : Nat) (post : Int32 → S → Prop) (W1 : S → va_W) (mc ms : Nat) : Prop :=
  Met l y ws rm (va_Pc av (zPre D tA W0 sz)) (va_Qi post (zPost D (va_A W0 sz) W1) (va_A W0 sz)) mc ms (va_A W0 sz)
/-- a method that only reads -/
abbrev zMp (l : Launch) (y : MethodName) (ws : List Cond) (rm : Room) (av : List Value) (D : va_G) (tA : Nat → ClassId) (W0 : va_W) (sz : Nat) (post : Int32 → Prop) : Prop :=
  Met l y ws rm (va_Pc av (zPre D tA W0 sz)) (va_Qi (fun r (_ : Unit) => post r) (fun _ _ => True) (va_A [] sz)) 0 0 (va_A [] sz)
theorem zBlind {av : List Value} {D : va_G} {tA : Nat → ClassId} {W0 : va_W} {sz : Nat} : FrameBlind (va_Pc av (zPre D tA W0 sz)) := fun a U g mk q => by
  obtain ⟨q0, q1, qP, qK, qD, qH⟩ := q
  exact ⟨q0, q1, qP, va_K.moved (u := U) (U := U.calling g mk a) (Vm.Alike.refl U.vm) qK, qD, zH.moved (s := U) (U := U.calling g mk a) (State.WarmedH.refl U) qH⟩
theorem zFm {α β : Type} {f : α → Option β} {is : List α} {w : List β} (h : is.map f = w.map some) : is.filterMap f = w := by
  have h1 : (is.map f).filterMap id = (w.map some).filterMap id := by rw [h]
  simpa [List.filterMap_map] using h1
theorem zPc {D : va_G} {ws wc : va_W} (hP : va_P D vwCl ws H) (isC : List Nat) (hC : isC.map (fun i => ws[i]?) = wc.map some) : va_P D vwCl wc H := hP.sub isC (zFm hC)
theorem zPreS {D : va_G} {tA : Nat → ClassId} {A : Nat → Prop} {ws wc : va_W} {av : List Value} (hh : zH s) (hK : va_K D vwCl (zT tA) s) (hP : va_P D vwCl ws H) (hD : va_D A ws) (isC : List Nat) (hn : va_nd isC = true) (hC : isC.map (fun i => ws[i]?) = wc.map some) : PreS s H (va_Pc av (zPre D tA wc H.size)) av :=
  ⟨zBlind, fun U hU hW => ⟨rfl, by rw [hU], by rw [hU]; exact zPc hP isC hC, va_K.moved hW.alike hK, (hD.sub isC hn hC).weaken (fun _ _ _ _ => trivial), zH.moved hW hh⟩⟩
theorem zPreV {D : va_G} {tA : Nat → ClassId} {A : Nat → Prop} {ws wc : va_W} {b : Nat} {As : List Value} (hh : zH s) (hK : va_K D vwCl (zT tA) s) (hP : va_P D vwCl ws H) (hD : va_D A ws) (isC : List Nat) (hn : va_nd isC = true) (hC : isC.map (fun i => ws[i]?) = wc.map some) {ci : Nat} {r : vw_C} (hc : vwCl[ci]? = some r) (q0 : Nat) {fs : List Value} (he : wc[q0]? = some (b, .inr (ci, fs))) : PreV s H r.1 b (va_Pc (.ref b :: As) (zPre D tA wc H.size)) As :=
  ⟨zBlind, va_recv hK (zPc hP isC hC) hc he, fun U hU hW => ⟨rfl, by rw [hU], by rw [hU]; exact zPc hP isC hC, va_K.moved hW.alike hK, (hD.sub isC hn hC).weaken (fun _ _ _ _ => trivial), zH.moved hW hh⟩⟩
/-- a contract is opened -/
theorem zOpen {y : MethodName} {ws ws' : List Cond} {rm : Room} {av : List Value} {D : va_G} {tA : Nat → ClassId} {W0 Wm : va_W} {sz : Nat} (Qz : (Nat → Prop) → Array Value → State → Outcome → State → Prop) {mc ms : Nat} {cc : ByteArray} {maxL : Nat} {ret : Option FieldType} {lv : List (Nat × Value)}
    (hy : plainName y.cls = true) (hw : ws = Cond.code y cc maxL ret :: ws') (hlen : (lg_sl av).length ≤ maxL) (hlv : lv_args 0 av = lv)
    (body : ∀ (p : Program) (e : Env) (s : State) (m : MethodId) (below : List Frame) (meth : Method) (c : Code) (A : Nat → Prop) (ls : Array Slot), p.tables.exec = Jvm.exec → c.code = cc → meth.sig.returnType = ret → c.maxLocals = maxL → zH s → (∀ w ∈ lw_R, w.before av.toArray s = true) → s.vm.findClass y.cls = some m.cls → meth.locks = false → meth.name = y.name → va_K D vwCl (zT tA) s → (∀ q, s.heap.size ≤ q → A q) → va_P D vwCl W0 s.heap → va_D (fun _ => True) W0 → (∀ (k : Nat) (q : Nat × va_E), Wm[k]? = some q → A q.1) → va_S A s.heap s.heap [] → lv_has ls maxL lv →
      W p l e rm s m av.toArray below meth c s.heap [] 0 0 (MQ below (Qz A) av.toArray s mc ms A) (F0 m 0 ls [])) :
    Met l y ws rm (va_Pc av (zPre D tA W0 sz)) (Qz (va_A Wm sz)) mc ms (va_A Wm sz) := by
  refine Met.ofW (cc := cc) (maxL := maxL) (ret := ret) hy hw ?_
  intro p e s m args below meth c s₁ B hml hv
  obtain ⟨rfl, hsz, hP, hK, hD0, hh⟩ := hv
  subst hsz
  have hl := lv_entry av (n := maxL) hlen
  rw [lg_entry_eq]
  generalize (lg_sl av ++ List.replicate (maxL - (lg_sl av).length) Slot.unset).toArray = ls at hl ⊢
  rw [hlv] at hl
  exact body p e s m below meth c _ ls B.exec B.bytes B.returns hml hh (hh.use _) (findClass_of_methodNamed B.named) B.notSynchronized (name_of_methodNamed B.named B.method).1 hK (fun q h => Or.inr h) hP hD0 (fun k q h => Or.inl ⟨k, q.2, h⟩) va_S.rf hl
theorem zD {A : Nat → Prop} {W0 : va_W} (h : va_D (fun _ => True) W0) (hA : ∀ (k : Nat) (q : Nat × va_E), W0[k]? = some q → A q.1) : va_D A W0 := ⟨h.1, fun k q hq => hA k q hq⟩
/-- the ends -/
theorem zVret {cc : ByteArray} {S : Type} {post : S → Prop} {W1 : S → va_W} {D : va_G} {A : Nat → Prop} {ws : va_W} (hexec : p.tables.exec = Jvm.exec) (hb : c.code = cc) (hr : meth.sig.returnType = none) (hlocks : meth.locks = false) (hP : va_P D vwCl ws H) (hD : va_D A ws) (hS : va_S A s.heap H locs) (u : S) (hp : post u) (he : ws = W1 u) {pc : Nat} {ls : Array Slot} (hdg : decode cc pc = .ok (.return_, 1)) :
    W p l e R s m args below meth c H locs cells slots (MQ below (va_Qv post (zPost D A W1) A) args s cells slots A) (F0 m pc ls []) := by
  subst he
  exact W.vret hexec hb hr (fun t ht hW => ⟨⟨u, rfl, hp, by rw [ht]; exact hP, hD⟩, hS.F ht⟩) hS.2.2 hdg
theorem zIret {cc : ByteArray} {S : Type} {post : Int32 → S → Prop} {W1 : S → va_W} {D : va_G} {A : Nat → Prop} {ws : va_W} {v : Int32} (hexec : p.tables.exec = Jvm.exec) (hb : c.code = cc) (hr : meth.sig.returnType = some .int) (hlocks : meth.locks = false) (hP : va_P D vwCl ws H) (hD : va_D A ws) (hS : va_S A s.heap H locs) (u : S) (hp : post v u) (he : ws = W1 u) {pc : Nat} {ls : Array Slot} (hdg : decode cc pc = .ok (.ireturn, 1)) :
    W p l e R s m args below meth c H locs cells slots (MQ below (va_Qi post (zPost D A W1) A) args s cells slots A) (F0 m pc ls [.int v]) := by
  subst he
  exact W.iret hexec hb hr (fun t ht hW => ⟨⟨v, u, rfl, hp, by rw [ht]; exact hP, hD⟩, hS.F ht⟩) hS.2.2 hdg
theorem zPret {cc : ByteArray} {post : Int32 → Prop} {A : Nat → Prop} {v : Int32} {ty : FieldType} (hexec : p.tables.exec = Jvm.exec) (hb : c.code = cc) (hr : meth.sig.returnType = some ty) (hty : narrow ty (.int v) = .int v) (hlocks : meth.locks = false) (hS : va_S A s.heap H locs) (hp : post v) {pc : Nat} {ls : Array Slot} (hdg : decode cc pc = .ok (.ireturn, 1)) :
    W p l e R s m args below meth c H locs cells slots (MQ below (va_Qi (fun r (_ : Unit) => post r) (fun _ _ => True) A) args s cells slots A) (F0 m pc ls [.int v]) :=
  W.zret hexec hb hr hty (fun t ht hW => ⟨⟨v, (), rfl, hp, trivial⟩, hS.F ht⟩) hS.2.2 hdg
/-- calls, the frame joined -/
theorem zCallv {S : Type} {post : S → Prop} {W1 : S → va_W} {D : va_G} {A : Nat → Prop} {ws wc wr : va_W} {a : Array Value} {mc ms pc : Nat} {ls : Array Slot} {rest st0 : List Value}
    (hP : va_P D vwCl ws H) (hD : va_D A ws) (hS : va_S A s.heap H locs) (hA : ∀ q, s.heap.size ≤ q → A q) (isC isR : List Nat) (hC : isC.map (fun i => ws[i]?) = wc.map some) (hR : isR.map (fun i => ws[i]?) = wr.map some) (hn : va_nd isR = true) (hdis : ∀ i ∈ isR, i ∉ isC)
    (hr : va_Run p l e R s m args below meth c H locs cells slots mc ms (F0 m pc ls st0) rest (va_Qv post (zPost D (va_A wc H.size) W1) (va_A wc H.size) a) (va_A wc H.size))
    (kk : ∀ (u : S) (H1 : Heap) (locs1 : List Loc), post u → va_P D vwCl (wr ++ W1 u) H1 → va_D A (wr ++ W1 u) → va_S A s.heap H1 locs1 → W p l e R s m args below meth c H1 locs1 (cells + mc) (slots + ms) Q (F0 m (pc + 3) ls rest)) :
    W p l e R s m args below meth c H locs cells slots Q (F0 m pc ls st0) := by
  have hFc := va_free (wc := wc) hD hS hA isC hC
  refine va_callv hr hS (fun q _ h => hFc q h) hFc (fun u t H1 locs1 ht hvm hw hB hz1 hk1 hS1 => ?_)
  obtain ⟨hP1, hD1⟩ := hB
  rw [ht] at hP1
  obtain ⟨hP2, hD2⟩ := va_join hP hD isC isR hC hR hn hdis hk1 hFc hP1 hD1
  exact kk u H1 locs1 hw hP2 hD2 hS1
theorem zCalli {S : Type} {post : Int32 → S → Prop} {W1 : S → va_W} {D : va_G} {A : Nat → Prop} {ws wc wr : va_W} {a : Array Value} {mc ms pc : Nat} {ls : Array Slot} {rest st0 : List Value}
    (hP : va_P D vwCl ws H) (hD : va_D A ws) (hS : va_S A s.heap H locs) (hA : ∀ q, s.heap.size ≤ q → A q) (isC isR : List Nat) (hC : isC.map (fun i => ws[i]?) = wc.map some) (hR : isR.map (fun i => ws[i]?) = wr.map some) (hn : va_nd isR = true) (hdis : ∀ i ∈ isR, i ∉ isC)
    (hr : va_Run p l e R s m args below meth c H locs cells slots mc ms (F0 m pc ls st0) rest (va_Qi post (zPost D (va_A wc H.size) W1) (va_A wc H.size) a) (va_A wc H.size))
    (kk : ∀ (r : Int32) (u : S) (H1 : Heap) (locs1 : List Loc), post r u → va_P D vwCl (wr ++ W1 u) H1 → va_D A (wr ++ W1 u) → va_S A s.heap H1 locs1 → W p l e R s m args below meth c H1 locs1 (cells + mc) (slots + ms) Q (F0 m (pc + 3) ls (.int r :: rest))) :
    W p l e R s m args below meth c H locs cells slots Q (F0 m pc ls st0) := by
  have hFc := va_free (wc := wc) hD hS hA isC hC
  refine va_calli hr hS (fun q _ h => hFc q h) hFc (fun r u t H1 locs1 ht hvm hw hB hz1 hk1 hS1 => ?_)
  obtain ⟨hP1, hD1⟩ := hB
  rw [ht] at hP1
  obtain ⟨hP2, hD2⟩ := va_join hP hD isC isR hC hR hn hdis hk1 hFc hP1 hD1
  exact kk r u H1 locs1 hw hP2 hD2 hS1
/-- a call that only reads: the world stays, whatever it is -/
theorem zCallp {post : Int32 → Prop} {D : va_G} {A : Nat → Prop} {ws : va_W} {a : Array Value} {pc : Nat} {ls : Array Slot} {rest st0 : List Value}
    (hP : va_P D vwCl ws H) (hS : va_S A s.heap H locs) (hA : ∀ q, s.heap.size ≤ q → A q)
    (hr : va_Run p l e R s m args below meth c H locs cells slots 0 0 (F0 m pc ls st0) rest (va_Qi (fun r (_ : Unit) => post r) (fun _ _ => True) (va_A [] H.size) a) (va_A [] H.size))
    (kk : ∀ (r : Int32) (H1 : Heap) (locs1 : List Loc), post r → va_P D vwCl ws H1 → va_S A s.heap H1 locs1 → W p l e R s m args below meth c H1 locs1 cells slots Q (F0 m (pc + 3) ls (.int r :: rest))) :
    W p l e R s m args below meth c H locs cells slots Q (F0 m pc ls st0) := by
  have hn : ∀ q : Nat, va_A [] H.size q → H.size ≤ q := fun q h => h.elim (fun ⟨k, e9, h9⟩ => by simp at h9) id
  have hFc : ∀ q, va_A [] H.size q → A q := fun q h => hA q (Nat.le_trans hS.1 (hn q h))
  refine va_calli hr hS (fun q _ h => hFc q h) hFc (fun r u t H1 locs1 ht hvm hw hB hz1 hk1 hS1 => ?_)
  exact kk r H1 locs1 hw (hP.kept (fun k q hq => hk1 q.1 (va_at.lt (hP k q hq)) (fun h => absurd (hn q.1 h) (Nat.not_le.mpr (va_at.lt (hP k q hq)))))) hS1
/-- a new array of ints, booleans .. : its class is the fixed one -/
theorem zNewa {cc : ByteArray} {D : va_G} {tA : Nat → ClassId} {A : Nat → Prop} {ws : va_W} {pc : Nat} {ls : Array Slot} {rest : List Value} (hexec : p.tables.exec = Jvm.exec) (hb : c.code = cc) {atype : ArrayType} {ty : FieldType} (hty : newarray.typeOf atype = ty) (harr : (Cond.arrayClass ty).before args s = true) (hK : va_K D vwCl (zT tA) s) (hP : va_P D vwCl ws H) (hD : va_D A ws) (hS : va_S A s.heap H locs) (hA : ∀ q, s.heap.size ≤ q → A q) (t0 : Nat) {cA : ClassId} (ht : (zT tA)[t0]? = some (cA, ty)) (hpr : ∀ C, ty ≠ .object C)
    {n : Int32} {N' : Nat} {a0 : vp_A} (ha : ∀ cA : ClassId, vp_cell cA a0 = arrV cA N' (fun _ => defaultValue ty)) (hn : ¬ n < 0) (hN : n.toNatClampNeg = N') (hbytes : N' * componentBytes ty ≤ 536870912) (hcells : cells + 1 ≤ R.cells) (hslots : slots + N' ≤ R.slots) (hdg : decode cc pc = .ok (.newarray atype, 2))
    (kk : ∀ (q : Nat) (H1 : Heap), va_P D vwCl (ws ++ [(q, .inl (cA, a0))]) H1 → va_D A (ws ++ [(q, .inl (cA, a0))]) → va_S A s.heap H1 locs → W p l e R s m args below meth c H1 locs (cells + 1) (slots + N') Q (F0 m (pc + 2) ls (.ref q :: rest))) :
    W p l e R s m args below meth c H locs cells slots Q (F0 m pc ls (.int n :: rest)) := by
  refine va_newa hexec hb (by rw [hty]; exact harr) hty hK hP hD hS hA ha hn hN hbytes hcells hslots hdg (fun q cA' H1 hK' hP1 hD1 hS1 => ?_)
  have e1 := (hK'.2 (zT tA).length (cA', ty) (by simp)).2
  have e2 := (hK.2 t0 (cA, ty) ht).2
  have e3 : cA' = cA := by
    cases ty with
    | object C => exact absurd rfl (hpr C)
    | _ => exact Option.some.inj (e1.symm.trans e2)
  subst e3
  exact kk q H1 hP1 hD1 hS1
/-- a new array of references -/
theorem zNewq {cc : ByteArray} {D : va_G} {tA : Nat → ClassId} {A : Nat → Prop} {ws : va_W} {pc : Nat} {ls : Array Slot} {rest : List Value} (hexec : p.tables.exec = Jvm.exec) (hb : c.code = cc) {own C : String} {index : Nat} (hown : s.vm.findClass own = some m.cls) (hclink : (Cond.classLink own index C).before args s = true) (hover : (Cond.arrayOver (.object C)).before args s = true) (hK : va_K D vwCl (zT tA) s) (hP : va_P D vwCl ws H) (hD : va_D A ws) (hS : va_S A s.heap H locs) (hA : ∀ q, s.heap.size ≤ q → A q) (t0 : Nat) {cA : ClassId} (ht : (zT tA)[t0]? = some (cA, .object C))
    {n : Int32} {N' : Nat} (hn : ¬ n < 0) (hN : n.toNatClampNeg = N') (hbytes : N' * 4 ≤ 536870912) (hcells : cells + 1 ≤ R.cells) (hslots : slots + N' ≤ R.slots) (hdg : decode cc pc = .ok (.anewarray index, 3))
    (kk : ∀ (q : Nat) (H1 : Heap), va_P D vwCl (ws ++ [(q, .inl (cA, N', .inr (.inr (.inr (.inr (fun _ => none))))))]) H1 → va_D A (ws ++ [(q, .inl (cA, N', .inr (.inr (.inr (.inr (fun _ => none))))))]) → va_S A s.heap H1 locs → W p l e R s m args below meth c H1 locs (cells + 1) (slots + N') Q (F0 m (pc + 3) ls (.ref q :: rest))) :
    W p l e R s m args below meth c H locs cells slots Q (F0 m pc ls (.int n :: rest)) := by
  refine va_newq hexec hb hown hclink (va_AO.of hover) hK hP hD hS hA hn hN hbytes hcells hslots hdg (fun q cA' H1 hK' hP1 hD1 hS1 => ?_)
  have e1 := (hK'.2 (zT tA).length (cA', .object C) (by simp)).2
  have e2 := (hK.2 t0 (cA, .object C) ht).2
  obtain ⟨_, _, _, _, _, f1⟩ := e1
  obtain ⟨_, _, _, _, _, f2⟩ := e2
  have e3 : cA' = cA := Option.some.inj (f1.symm.trans f2)
  subst e3
  exact kk q H1 hP1 hD1 hS1
/-- an object's constructor ends: what it made stands behind what was there -/
theorem zInit {S : Type} {post : S → Prop} {W1 : S → va_W} {D : va_G} {A : Nat → Prop} {ws : va_W} {x : Nat × va_E} {a : Array Value} {mc ms pc : Nat} {ls : Array Slot} {rest st0 : List Value}
    (hP : va_P D vwCl (ws ++ [x]) H) (hD : va_D A (ws ++ [x])) (hS : va_S A s.heap H locs) (hA : ∀ q, s.heap.size ≤ q → A q)
    (hr : va_Run p l e R s m args below meth c H locs cells slots mc ms (F0 m pc ls st0) rest (va_Qv post (zPost D (va_A [x] H.size) W1) (va_A [x] H.size) a) (va_A [x] H.size))
    (kk : ∀ (u : S) (H1 : Heap) (locs1 : List Loc), post u → va_P D vwCl (ws ++ W1 u) H1 → va_D A (ws ++ W1 u) → va_S A s.heap H1 locs1 → W p l e R s m args below meth c H1 locs1 (cells + mc) (slots + ms) Q (F0 m (pc + 3) ls rest)) :
    W p l e R s m args below meth c H locs cells slots Q (F0 m pc ls st0) := by
  have hx : (ws ++ [x])[ws.length]? = some x := by simp
  have hC : [ws.length].map (fun i => (ws ++ [x])[i]?) = [x].map some := by simp
  have hFc := va_free (wc := [x]) hD hS hA [ws.length] hC
  refine va_callv hr hS (fun q _ h => hFc q h) hFc (fun u t H1 locs1 ht hvm hw hB hz1 hk1 hS1 => ?_)
  obtain ⟨hP1, hD1⟩ := hB
  rw [ht] at hP1
  have hold : ∀ (k : Nat) (q : Nat × va_E), ws[k]? = some q → (ws ++ [x])[k]? = some q ∧ k < ws.length := fun k q hk => by
    have hlt : k < ws.length := (List.getElem?_eq_some_iff.mp hk).1
    exact ⟨by rw [List.getElem?_append_left hlt]; exact hk, hlt⟩
  have hne : ∀ (k : Nat) (q : Nat × va_E), ws[k]? = some q → ¬ va_A [x] H.size q.1 := by
    intro k q hk h
    obtain ⟨h1, h2⟩ := hold k q hk
    rcases h with ⟨j, e9, h9⟩ | h
    · have hj : j = 0 := by
        rcases j with _ | j
        · rfl
        · simp at h9
      subst hj
      have h10 : x = (q.1, e9) := by simpa using h9
      have := hD.1 k ws.length q x h1 hx (by rw [h10])
      omega
    · exact absurd h (Nat.not_le.mpr (va_at.lt (hP k q h1)))
  have hPw : va_P D vwCl ws H := fun k q hk => hP k q (hold k q hk).1
  have hDw : va_D A ws := ⟨fun i j p9 q9 hi hj e9 => hD.1 i j p9 q9 (hold i p9 hi).1 (hold j q9 hj).1 e9, fun k q hk => hD.2 k q (hold k q hk).1⟩
  refine kk u H1 locs1 hw ((hPw.kept (fun k q hk => hk1 q.1 (va_at.lt (hPw k q hk)) (hne k q hk))).app hP1) (hDw.app (hD1.weaken (fun k q _ h => hFc _ h)) (fun i j p9 q9 hi hj e9 => hne i p9 hi (by rw [e9]; exact hD1.2 j q9 hj))) hS1
/-- the start of a constructor's call, the new object at the end of the world -/
theorem zPreI {D : va_G} {tA : Nat → ClassId} {A : Nat → Prop} {ws : va_W} {x : Nat × va_E} {av : List Value} (hh : zH s) (hK : va_K D vwCl (zT tA) s) (hP : va_P D vwCl (ws ++ [x]) H) (hD : va_D A (ws ++ [x])) : PreS s H (va_Pc av (zPre D tA [x] H.size)) av :=
  zPreS hh hK hP hD [ws.length] (by simp [va_nd]) (by simp)
end Base
end
section
/-! A constructor's world: the object, and behind it a tail that only grows. -/
theorem zCons {G : Prop} {D : va_G} {A : Nat → Prop} {x : Nat × va_E} {T W1 : va_W} {H : Heap} (k : ∀ T9 : va_W, T9 = T ++ W1 → va_P D vwCl (x :: T9) H → va_D A (x :: T9) → G) (hP : va_P D vwCl ((x :: T) ++ W1) H) (hD : va_D A ((x :: T) ++ W1)) : G := k _ rfl hP hD
end
section
theorem k1_10 : (Jvm.Cond.initialized "ChanceArena$Natural") ∈ lw_R := zR (zk_1 _ (List.mem_of_getElem? (i := 10) (by decide +kernel))) rfl
theorem k1_46 : (Jvm.Cond.instanceMethod ({ cls := "java/lang/Object", name := "<init>", desc := "()V" } : Jvm.MethodName)) ∈ lw_R := zR (zk_1 _ (List.mem_of_getElem? (i := 46) (by decide +kernel))) rfl
theorem k1_47 : (Jvm.Cond.code ({ cls := "java/lang/Object", name := "<init>", desc := "()V" } : Jvm.MethodName) object_method_1_code (1 : Nat) (Option.none : Option Jvm.ClassFile.FieldType)) ∈ lw_R := zR (zk_1 _ (List.mem_of_getElem? (i := 47) (by decide +kernel))) rfl
theorem k1_52 : (Jvm.Cond.code ({ cls := "ChanceArena$Words", name := "<init>", desc := "()V" } : Jvm.MethodName) prog_13_method_1_code (1 : Nat) (Option.none : Option Jvm.ClassFile.FieldType)) ∈ lw_R := zR (zk_1 _ (List.mem_of_getElem? (i := 52) (by decide +kernel))) rfl
theorem k1_53 : (Jvm.Cond.methodLink "ChanceArena$Words" (3 : Nat) ({ cls := "java/lang/Object", name := "<init>", desc := "()V" } : Jvm.MethodName)) ∈ lw_R := zR (zk_1 _ (List.mem_of_getElem? (i := 53) (by decide +kernel))) rfl
theorem k1_54 : (Jvm.Cond.fieldLink "ChanceArena$Words" (9 : Nat) "ChanceArena$Words" "tape" "[C") ∈ lw_R := zR (zk_1 _ (List.mem_of_getElem? (i := 54) (by decide +kernel))) rfl
theorem k1_60 : (Jvm.Cond.fieldLink "ChanceArena$Words" (15 : Nat) "ChanceArena$Words" "sorts" "[I") ∈ lw_R := zR (zk_1 _ (List.mem_of_getElem? (i := 60) (by decide +kernel))) rfl
theorem k1_63 : (Jvm.Cond.fieldLink "ChanceArena$Words" (19 : Nat) "ChanceArena$Words" "starts" "[I") ∈ lw_R := zR (zk_1 _ (List.mem_of_getElem? (i := 63) (by decide +kernel))) rfl
theorem k1_66 : (Jvm.Cond.fieldLink "ChanceArena$Words" (22 : Nat) "ChanceArena$Words" "amounts" "[I") ∈ lw_R := zR (zk_1 _ (List.mem_of_getElem? (i := 66) (by decide +kernel))) rfl
theorem k1_81 : (Jvm.Cond.arrayClass Jvm.ClassFile.FieldType.char) ∈ lw_R := zR (zk_1 _ (List.mem_of_getElem? (i := 81) (by decide +kernel))) rfl
theorem k1_82 : (Jvm.Cond.arrayClass Jvm.ClassFile.FieldType.int) ∈ lw_R := zR (zk_1 _ (List.mem_of_getElem? (i := 82) (by decide +kernel))) rfl
theorem k2_21 : (Jvm.Cond.code ({ cls := "ChanceArena$Program", name := "<init>", desc := "()V" } : Jvm.MethodName) prog_7_method_1_code (1 : Nat) (Option.none : Option Jvm.ClassFile.FieldType)) ∈ lw_R := zR (zk_2 _ (List.mem_of_getElem? (i := 21) (by decide +kernel))) rfl
theorem k2_22 : (Jvm.Cond.methodLink "ChanceArena$Program" (3 : Nat) ({ cls := "java/lang/Object", name := "<init>", desc := "()V" } : Jvm.MethodName)) ∈ lw_R := zR (zk_2 _ (List.mem_of_getElem? (i := 22) (by decide +kernel))) rfl
theorem k2_23 : (Jvm.Cond.fieldLink "ChanceArena$Program" (9 : Nat) "ChanceArena$Program" "orders" "[I") ∈ lw_R := zR (zk_2 _ (List.mem_of_getElem? (i := 23) (by decide +kernel))) rfl
theorem k2_25 : (Jvm.Cond.fieldLink "ChanceArena$Program" (15 : Nat) "ChanceArena$Program" "operands" "[I") ∈ lw_R := zR (zk_2 _ (List.mem_of_getElem? (i := 25) (by decide +kernel))) rfl
theorem k2_36 : (Jvm.Cond.fieldLink "ChanceArena$Program" (18 : Nat) "ChanceArena$Program" "low" "[I") ∈ lw_R := zR (zk_2 _ (List.mem_of_getElem? (i := 36) (by decide +kernel))) rfl
theorem k2_39 : (Jvm.Cond.fieldLink "ChanceArena$Program" (21 : Nat) "ChanceArena$Program" "high" "[I") ∈ lw_R := zR (zk_2 _ (List.mem_of_getElem? (i := 39) (by decide +kernel))) rfl
theorem k2_42 : (Jvm.Cond.fieldLink "ChanceArena$Program" (24 : Nat) "ChanceArena$Program" "init" "[I") ∈ lw_R := zR (zk_2 _ (List.mem_of_getElem? (i := 42) (by decide +kernel))) rfl
theorem k2_48 : (Jvm.Cond.fieldLink "ChanceArena$Program" (27 : Nat) "ChanceArena$Program" "above" "[I") ∈ lw_R := zR (zk_2 _ (List.mem_of_getElem? (i := 48) (by decide +kernel))) rfl
theorem k2_51 : (Jvm.Cond.fieldLink "ChanceArena$Program" (30 : Nat) "ChanceArena$Program" "below" "[I") ∈ lw_R := zR (zk_2 _ (List.mem_of_getElem? (i := 51) (by decide +kernel))) rfl
theorem k2_54 : (Jvm.Cond.fieldLink "ChanceArena$Program" (33 : Nat) "ChanceArena$Program" "formula" "[I") ∈ lw_R := zR (zk_2 _ (List.mem_of_getElem? (i := 54) (by decide +kernel))) rfl
theorem k2_64 : (Jvm.Cond.fieldLink "ChanceArena$Program" (36 : Nat) "ChanceArena$Program" "player" "[I") ∈ lw_R := zR (zk_2 _ (List.mem_of_getElem? (i := 64) (by decide +kernel))) rfl
theorem k2_67 : (Jvm.Cond.fieldLink "ChanceArena$Program" (39 : Nat) "ChanceArena$Program" "commandPlace" "[I") ∈ lw_R := zR (zk_2 _ (List.mem_of_getElem? (i := 67) (by decide +kernel))) rfl
theorem k2_70 : (Jvm.Cond.fieldLink "ChanceArena$Program" (42 : Nat) "ChanceArena$Program" "guard" "[I") ∈ lw_R := zR (zk_2 _ (List.mem_of_getElem? (i := 70) (by decide +kernel))) rfl
theorem k2_73 : (Jvm.Cond.fieldLink "ChanceArena$Program" (45 : Nat) "ChanceArena$Program" "firstBranch" "[I") ∈ lw_R := zR (zk_2 _ (List.mem_of_getElem? (i := 73) (by decide +kernel))) rfl
theorem k2_76 : (Jvm.Cond.fieldLink "ChanceArena$Program" (48 : Nat) "ChanceArena$Program" "branchPlace" "[I") ∈ lw_R := zR (zk_2 _ (List.mem_of_getElem? (i := 76) (by decide +kernel))) rfl
theorem k2_79 : (Jvm.Cond.fieldLink "ChanceArena$Program" (51 : Nat) "ChanceArena$Program" "chance" "[I") ∈ lw_R := zR (zk_2 _ (List.mem_of_getElem? (i := 79) (by decide +kernel))) rfl
theorem k2_82 : (Jvm.Cond.fieldLink "ChanceArena$Program" (54 : Nat) "ChanceArena$Program" "sets" "[I") ∈ lw_R := zR (zk_2 _ (List.mem_of_getElem? (i := 82) (by decide +kernel))) rfl
theorem k2_234 : (Jvm.Cond.instantiable "ChanceArena$Natural" (2 : Nat)) ∈ lw_R := zR (zk_2 _ (List.mem_of_getElem? (i := 234) (by decide +kernel))) rfl
theorem k2_236 : (Jvm.Cond.instanceMethod ({ cls := "ChanceArena$Natural", name := "<init>", desc := "()V" } : Jvm.MethodName)) ∈ lw_R := zR (zk_2 _ (List.mem_of_getElem? (i := 236) (by decide +kernel))) rfl
theorem k2_237 : (Jvm.Cond.code ({ cls := "ChanceArena$Natural", name := "<init>", desc := "()V" } : Jvm.MethodName) prog_6_method_1_code (1 : Nat) (Option.none : Option Jvm.ClassFile.FieldType)) ∈ lw_R := zR (zk_2 _ (List.mem_of_getElem? (i := 237) (by decide +kernel))) rfl
theorem k2_238 : (Jvm.Cond.methodLink "ChanceArena$Natural" (3 : Nat) ({ cls := "java/lang/Object", name := "<init>", desc := "()V" } : Jvm.MethodName)) ∈ lw_R := zR (zk_2 _ (List.mem_of_getElem? (i := 238) (by decide +kernel))) rfl
theorem k2_239 : (Jvm.Cond.fieldLink "ChanceArena$Natural" (9 : Nat) "ChanceArena$Natural" "limbs" "[I") ∈ lw_R := zR (zk_2 _ (List.mem_of_getElem? (i := 239) (by decide +kernel))) rfl
theorem k3_1 : (Jvm.Cond.fieldLink "ChanceArena$Natural" (13 : Nat) "ChanceArena$Natural" "size" "I") ∈ lw_R := zR (zk_3 _ (List.mem_of_getElem? (i := 1) (by decide +kernel))) rfl
theorem k3_14 : (Jvm.Cond.code ({ cls := "ChanceArena$Fraction", name := "<init>", desc := "()V" } : Jvm.MethodName) prog_2_method_1_code (1 : Nat) (Option.none : Option Jvm.ClassFile.FieldType)) ∈ lw_R := zR (zk_3 _ (List.mem_of_getElem? (i := 14) (by decide +kernel))) rfl
theorem k3_15 : (Jvm.Cond.methodLink "ChanceArena$Fraction" (1 : Nat) ({ cls := "java/lang/Object", name := "<init>", desc := "()V" } : Jvm.MethodName)) ∈ lw_R := zR (zk_3 _ (List.mem_of_getElem? (i := 15) (by decide +kernel))) rfl
theorem k3_16 : (Jvm.Cond.classLink "ChanceArena$Fraction" (7 : Nat) "ChanceArena$Natural") ∈ lw_R := zR (zk_3 _ (List.mem_of_getElem? (i := 16) (by decide +kernel))) rfl
theorem k3_17 : (Jvm.Cond.methodLinkNest "ChanceArena$Fraction" (9 : Nat) ({ cls := "ChanceArena$Natural", name := "<init>", desc := "()V" } : Jvm.MethodName) "ChanceArena") ∈ lw_R := zR (zk_3 _ (List.mem_of_getElem? (i := 17) (by decide +kernel))) rfl
theorem k3_18 : (Jvm.Cond.fieldLink "ChanceArena$Fraction" (10 : Nat) "ChanceArena$Fraction" "above" "LChanceArena$Natural;") ∈ lw_R := zR (zk_3 _ (List.mem_of_getElem? (i := 18) (by decide +kernel))) rfl
theorem k3_22 : (Jvm.Cond.fieldLink "ChanceArena$Fraction" (16 : Nat) "ChanceArena$Fraction" "below" "LChanceArena$Natural;") ∈ lw_R := zR (zk_3 _ (List.mem_of_getElem? (i := 22) (by decide +kernel))) rfl
theorem k3_26 : (Jvm.Cond.fieldLink "ChanceArena$Fraction" (19 : Nat) "ChanceArena$Fraction" "times" "I") ∈ lw_R := zR (zk_3 _ (List.mem_of_getElem? (i := 26) (by decide +kernel))) rfl
theorem k3_155 : (Jvm.Cond.code ({ cls := "ChanceArena$Fractions", name := "<init>", desc := "()V" } : Jvm.MethodName) prog_3_method_1_code (1 : Nat) (Option.none : Option Jvm.ClassFile.FieldType)) ∈ lw_R := zR (zk_3 _ (List.mem_of_getElem? (i := 155) (by decide +kernel))) rfl
theorem k3_156 : (Jvm.Cond.methodLink "ChanceArena$Fractions" (3 : Nat) ({ cls := "java/lang/Object", name := "<init>", desc := "()V" } : Jvm.MethodName)) ∈ lw_R := zR (zk_3 _ (List.mem_of_getElem? (i := 156) (by decide +kernel))) rfl
theorem k3_157 : (Jvm.Cond.classLink "ChanceArena$Fractions" (9 : Nat) "ChanceArena$Fraction") ∈ lw_R := zR (zk_3 _ (List.mem_of_getElem? (i := 157) (by decide +kernel))) rfl
theorem k3_158 : (Jvm.Cond.arrayOver (Jvm.ClassFile.FieldType.object "ChanceArena$Fraction")) ∈ lw_R := zR (zk_3 _ (List.mem_of_getElem? (i := 158) (by decide +kernel))) rfl
theorem k3_159 : (Jvm.Cond.fieldLink "ChanceArena$Fractions" (11 : Nat) "ChanceArena$Fractions" "rows" "[LChanceArena$Fraction;") ∈ lw_R := zR (zk_3 _ (List.mem_of_getElem? (i := 159) (by decide +kernel))) rfl
theorem k3_163 : (Jvm.Cond.fieldLink "ChanceArena$Fractions" (17 : Nat) "ChanceArena$Fractions" "known" "Z") ∈ lw_R := zR (zk_3 _ (List.mem_of_getElem? (i := 163) (by decide +kernel))) rfl
theorem d_Na_init_0 : decode prog_6_method_1_code 0 = .ok (.aload_n 0, 1) := by decide +kernel
theorem d_Na_init_1 : decode prog_6_method_1_code 1 = .ok (.invokespecial 3, 3) := by decide +kernel
theorem d_Na_init_4 : decode prog_6_method_1_code 4 = .ok (.aload_n 0, 1) := by decide +kernel
theorem d_Na_init_5 : decode prog_6_method_1_code 5 = .ok (.iconst 4, 1) := by decide +kernel
theorem d_Na_init_6 : decode prog_6_method_1_code 6 = .ok (.newarray .int, 2) := by decide +kernel
theorem d_Na_init_8 : decode prog_6_method_1_code 8 = .ok (.putfield 9, 3) := by decide +kernel
theorem d_Na_init_11 : decode prog_6_method_1_code 11 = .ok (.aload_n 0, 1) := by decide +kernel
theorem d_Na_init_12 : decode prog_6_method_1_code 12 = .ok (.iconst 0, 1) := by decide +kernel
theorem d_Na_init_13 : decode prog_6_method_1_code 13 = .ok (.putfield 13, 3) := by decide +kernel
theorem d_Na_init_16 : decode prog_6_method_1_code 16 = .ok (.return_, 1) := by decide +kernel
theorem d_Fr_init_0 : decode prog_2_method_1_code 0 = .ok (.aload_n 0, 1) := by decide +kernel
theorem d_Fr_init_1 : decode prog_2_method_1_code 1 = .ok (.invokespecial 1, 3) := by decide +kernel
theorem d_Fr_init_4 : decode prog_2_method_1_code 4 = .ok (.aload_n 0, 1) := by decide +kernel
theorem d_Fr_init_5 : decode prog_2_method_1_code 5 = .ok (.new 7, 3) := by decide +kernel
theorem d_Fr_init_8 : decode prog_2_method_1_code 8 = .ok (.dup, 1) := by decide +kernel
theorem d_Fr_init_9 : decode prog_2_method_1_code 9 = .ok (.invokespecial 9, 3) := by decide +kernel
theorem d_Fr_init_12 : decode prog_2_method_1_code 12 = .ok (.putfield 10, 3) := by decide +kernel
theorem d_Fr_init_15 : decode prog_2_method_1_code 15 = .ok (.aload_n 0, 1) := by decide +kernel
theorem d_Fr_init_16 : decode prog_2_method_1_code 16 = .ok (.new 7, 3) := by decide +kernel
theorem d_Fr_init_19 : decode prog_2_method_1_code 19 = .ok (.dup, 1) := by decide +kernel
theorem d_Fr_init_20 : decode prog_2_method_1_code 20 = .ok (.invokespecial 9, 3) := by decide +kernel
theorem d_Fr_init_23 : decode prog_2_method_1_code 23 = .ok (.putfield 16, 3) := by decide +kernel
theorem d_Fr_init_26 : decode prog_2_method_1_code 26 = .ok (.aload_n 0, 1) := by decide +kernel
theorem d_Fr_init_27 : decode prog_2_method_1_code 27 = .ok (.iconst 1, 1) := by decide +kernel
theorem d_Fr_init_28 : decode prog_2_method_1_code 28 = .ok (.putfield 19, 3) := by decide +kernel
theorem d_Fr_init_31 : decode prog_2_method_1_code 31 = .ok (.return_, 1) := by decide +kernel
theorem d_Fs_init_0 : decode prog_3_method_1_code 0 = .ok (.aload_n 0, 1) := by decide +kernel
theorem d_Fs_init_1 : decode prog_3_method_1_code 1 = .ok (.invokespecial 3, 3) := by decide +kernel
theorem d_Fs_init_4 : decode prog_3_method_1_code 4 = .ok (.aload_n 0, 1) := by decide +kernel
theorem d_Fs_init_5 : decode prog_3_method_1_code 5 = .ok (.iconst 0, 1) := by decide +kernel
theorem d_Fs_init_6 : decode prog_3_method_1_code 6 = .ok (.anewarray 9, 3) := by decide +kernel
theorem d_Fs_init_9 : decode prog_3_method_1_code 9 = .ok (.putfield 11, 3) := by decide +kernel
theorem d_Fs_init_12 : decode prog_3_method_1_code 12 = .ok (.aload_n 0, 1) := by decide +kernel
theorem d_Fs_init_13 : decode prog_3_method_1_code 13 = .ok (.iconst 0, 1) := by decide +kernel
theorem d_Fs_init_14 : decode prog_3_method_1_code 14 = .ok (.putfield 17, 3) := by decide +kernel
theorem d_Fs_init_17 : decode prog_3_method_1_code 17 = .ok (.return_, 1) := by decide +kernel
theorem d_Wo_init_0 : decode prog_13_method_1_code 0 = .ok (.aload_n 0, 1) := by decide +kernel
theorem d_Wo_init_1 : decode prog_13_method_1_code 1 = .ok (.invokespecial 3, 3) := by decide +kernel
theorem d_Wo_init_4 : decode prog_13_method_1_code 4 = .ok (.aload_n 0, 1) := by decide +kernel
theorem d_Wo_init_5 : decode prog_13_method_1_code 5 = .ok (.iconst 0, 1) := by decide +kernel
theorem d_Wo_init_6 : decode prog_13_method_1_code 6 = .ok (.newarray .char, 2) := by decide +kernel
theorem d_Wo_init_8 : decode prog_13_method_1_code 8 = .ok (.putfield 9, 3) := by decide +kernel
theorem d_Wo_init_11 : decode prog_13_method_1_code 11 = .ok (.aload_n 0, 1) := by decide +kernel
theorem d_Wo_init_12 : decode prog_13_method_1_code 12 = .ok (.sipush 128, 3) := by decide +kernel
theorem d_Wo_init_15 : decode prog_13_method_1_code 15 = .ok (.newarray .int, 2) := by decide +kernel
theorem d_Wo_init_17 : decode prog_13_method_1_code 17 = .ok (.putfield 15, 3) := by decide +kernel
theorem d_Wo_init_20 : decode prog_13_method_1_code 20 = .ok (.aload_n 0, 1) := by decide +kernel
theorem d_Wo_init_21 : decode prog_13_method_1_code 21 = .ok (.sipush 128, 3) := by decide +kernel
theorem d_Wo_init_24 : decode prog_13_method_1_code 24 = .ok (.newarray .int, 2) := by decide +kernel
theorem d_Wo_init_26 : decode prog_13_method_1_code 26 = .ok (.putfield 19, 3) := by decide +kernel
theorem d_Wo_init_29 : decode prog_13_method_1_code 29 = .ok (.aload_n 0, 1) := by decide +kernel
theorem d_Wo_init_30 : decode prog_13_method_1_code 30 = .ok (.sipush 128, 3) := by decide +kernel
theorem d_Wo_init_33 : decode prog_13_method_1_code 33 = .ok (.newarray .int, 2) := by decide +kernel
theorem d_Wo_init_35 : decode prog_13_method_1_code 35 = .ok (.putfield 22, 3) := by decide +kernel
theorem d_Wo_init_38 : decode prog_13_method_1_code 38 = .ok (.return_, 1) := by decide +kernel
theorem d_Pr_init_0 : decode prog_7_method_1_code 0 = .ok (.aload_n 0, 1) := by decide +kernel
theorem d_Pr_init_1 : decode prog_7_method_1_code 1 = .ok (.invokespecial 3, 3) := by decide +kernel
theorem d_Pr_init_4 : decode prog_7_method_1_code 4 = .ok (.aload_n 0, 1) := by decide +kernel
theorem d_Pr_init_5 : decode prog_7_method_1_code 5 = .ok (.sipush 128, 3) := by decide +kernel
theorem d_Pr_init_8 : decode prog_7_method_1_code 8 = .ok (.newarray .int, 2) := by decide +kernel
theorem d_Pr_init_10 : decode prog_7_method_1_code 10 = .ok (.putfield 9, 3) := by decide +kernel
theorem d_Pr_init_13 : decode prog_7_method_1_code 13 = .ok (.aload_n 0, 1) := by decide +kernel
theorem d_Pr_init_14 : decode prog_7_method_1_code 14 = .ok (.sipush 128, 3) := by decide +kernel
theorem d_Pr_init_17 : decode prog_7_method_1_code 17 = .ok (.newarray .int, 2) := by decide +kernel
theorem d_Pr_init_19 : decode prog_7_method_1_code 19 = .ok (.putfield 15, 3) := by decide +kernel
theorem d_Pr_init_22 : decode prog_7_method_1_code 22 = .ok (.aload_n 0, 1) := by decide +kernel
theorem d_Pr_init_23 : decode prog_7_method_1_code 23 = .ok (.bipush 12, 2) := by decide +kernel
theorem d_Pr_init_25 : decode prog_7_method_1_code 25 = .ok (.newarray .int, 2) := by decide +kernel
theorem d_Pr_init_27 : decode prog_7_method_1_code 27 = .ok (.putfield 18, 3) := by decide +kernel
theorem d_Pr_init_30 : decode prog_7_method_1_code 30 = .ok (.aload_n 0, 1) := by decide +kernel
theorem d_Pr_init_31 : decode prog_7_method_1_code 31 = .ok (.bipush 12, 2) := by decide +kernel
theorem d_Pr_init_33 : decode prog_7_method_1_code 33 = .ok (.newarray .int, 2) := by decide +kernel
theorem d_Pr_init_35 : decode prog_7_method_1_code 35 = .ok (.putfield 21, 3) := by decide +kernel
theorem d_Pr_init_38 : decode prog_7_method_1_code 38 = .ok (.aload_n 0, 1) := by decide +kernel
theorem d_Pr_init_39 : decode prog_7_method_1_code 39 = .ok (.bipush 12, 2) := by decide +kernel
theorem d_Pr_init_41 : decode prog_7_method_1_code 41 = .ok (.newarray .int, 2) := by decide +kernel
theorem d_Pr_init_43 : decode prog_7_method_1_code 43 = .ok (.putfield 24, 3) := by decide +kernel
theorem d_Pr_init_46 : decode prog_7_method_1_code 46 = .ok (.aload_n 0, 1) := by decide +kernel
theorem d_Pr_init_47 : decode prog_7_method_1_code 47 = .ok (.bipush 60, 2) := by decide +kernel
theorem d_Pr_init_49 : decode prog_7_method_1_code 49 = .ok (.newarray .int, 2) := by decide +kernel
theorem d_Pr_init_51 : decode prog_7_method_1_code 51 = .ok (.putfield 27, 3) := by decide +kernel
theorem d_Pr_init_54 : decode prog_7_method_1_code 54 = .ok (.aload_n 0, 1) := by decide +kernel
theorem d_Pr_init_55 : decode prog_7_method_1_code 55 = .ok (.bipush 60, 2) := by decide +kernel
theorem d_Pr_init_57 : decode prog_7_method_1_code 57 = .ok (.newarray .int, 2) := by decide +kernel
theorem d_Pr_init_59 : decode prog_7_method_1_code 59 = .ok (.putfield 30, 3) := by decide +kernel
theorem d_Pr_init_62 : decode prog_7_method_1_code 62 = .ok (.aload_n 0, 1) := by decide +kernel
theorem d_Pr_init_63 : decode prog_7_method_1_code 63 = .ok (.bipush 60, 2) := by decide +kernel
theorem d_Pr_init_65 : decode prog_7_method_1_code 65 = .ok (.newarray .int, 2) := by decide +kernel
theorem d_Pr_init_67 : decode prog_7_method_1_code 67 = .ok (.putfield 33, 3) := by decide +kernel
theorem d_Pr_init_70 : decode prog_7_method_1_code 70 = .ok (.aload_n 0, 1) := by decide +kernel
theorem d_Pr_init_71 : decode prog_7_method_1_code 71 = .ok (.bipush 60, 2) := by decide +kernel
theorem d_Pr_init_73 : decode prog_7_method_1_code 73 = .ok (.newarray .int, 2) := by decide +kernel
theorem d_Pr_init_75 : decode prog_7_method_1_code 75 = .ok (.putfield 36, 3) := by decide +kernel
theorem d_Pr_init_78 : decode prog_7_method_1_code 78 = .ok (.aload_n 0, 1) := by decide +kernel
theorem d_Pr_init_79 : decode prog_7_method_1_code 79 = .ok (.bipush 60, 2) := by decide +kernel
theorem d_Pr_init_81 : decode prog_7_method_1_code 81 = .ok (.newarray .int, 2) := by decide +kernel
theorem d_Pr_init_83 : decode prog_7_method_1_code 83 = .ok (.putfield 39, 3) := by decide +kernel
theorem d_Pr_init_86 : decode prog_7_method_1_code 86 = .ok (.aload_n 0, 1) := by decide +kernel
theorem d_Pr_init_87 : decode prog_7_method_1_code 87 = .ok (.bipush 60, 2) := by decide +kernel
theorem d_Pr_init_89 : decode prog_7_method_1_code 89 = .ok (.newarray .int, 2) := by decide +kernel
theorem d_Pr_init_91 : decode prog_7_method_1_code 91 = .ok (.putfield 42, 3) := by decide +kernel
theorem d_Pr_init_94 : decode prog_7_method_1_code 94 = .ok (.aload_n 0, 1) := by decide +kernel
theorem d_Pr_init_95 : decode prog_7_method_1_code 95 = .ok (.bipush 61, 2) := by decide +kernel
theorem d_Pr_init_97 : decode prog_7_method_1_code 97 = .ok (.newarray .int, 2) := by decide +kernel
theorem d_Pr_init_99 : decode prog_7_method_1_code 99 = .ok (.putfield 45, 3) := by decide +kernel
theorem d_Pr_init_102 : decode prog_7_method_1_code 102 = .ok (.aload_n 0, 1) := by decide +kernel
theorem d_Pr_init_103 : decode prog_7_method_1_code 103 = .ok (.sipush 480, 3) := by decide +kernel
theorem d_Pr_init_106 : decode prog_7_method_1_code 106 = .ok (.newarray .int, 2) := by decide +kernel
theorem d_Pr_init_108 : decode prog_7_method_1_code 108 = .ok (.putfield 48, 3) := by decide +kernel
theorem d_Pr_init_111 : decode prog_7_method_1_code 111 = .ok (.aload_n 0, 1) := by decide +kernel
theorem d_Pr_init_112 : decode prog_7_method_1_code 112 = .ok (.sipush 480, 3) := by decide +kernel
theorem d_Pr_init_115 : decode prog_7_method_1_code 115 = .ok (.newarray .int, 2) := by decide +kernel
theorem d_Pr_init_117 : decode prog_7_method_1_code 117 = .ok (.putfield 51, 3) := by decide +kernel
theorem d_Pr_init_120 : decode prog_7_method_1_code 120 = .ok (.aload_n 0, 1) := by decide +kernel
theorem d_Pr_init_121 : decode prog_7_method_1_code 121 = .ok (.sipush 480, 3) := by decide +kernel
theorem d_Pr_init_124 : decode prog_7_method_1_code 124 = .ok (.newarray .int, 2) := by decide +kernel
theorem d_Pr_init_126 : decode prog_7_method_1_code 126 = .ok (.putfield 54, 3) := by decide +kernel
theorem d_Pr_init_129 : decode prog_7_method_1_code 129 = .ok (.return_, 1) := by decide +kernel
abbrev S_Na : Type := Nat
def w_Na (tA : Nat → ClassId) (h0 : Nat) (u : S_Na) : va_W := match u with
  | q6 => (h0, .inr (9, [.ref q6, .int 0])) :: ([] ++ [(q6, .inl (tA 0, 4, .inl (fun _ => 0)))])
theorem f_Na : ∀ j, j < 2 → defaultValue (t_Na j) = vp_V [.null, .int 0] j := by decide +kernel
set_option maxHeartbeats 4000000 in
set_option maxRecDepth 100000 in
theorem c_Na_init (l : Launch) (D : va_G) (tA : Nat → ClassId) (h0 sz : Nat) : zMv l ({ cls := "ChanceArena$Natural", name := "<init>", desc := "()V" } : Jvm.MethodName) (zW (Jvm.Cond.code ({ cls := "ChanceArena$Natural", name := "<init>", desc := "()V" } : Jvm.MethodName) prog_6_method_1_code (1 : Nat) (Option.none : Option Jvm.ClassFile.FieldType))) { frames := 1, cells := 1, slots := 4, locals := 12 } [.ref h0] D tA [(h0, .inr (9, [.null, .int 0]))] sz (fun _ : S_Na => True) (w_Na tA h0) 1 4 := by
  refine zOpen (fun A => va_Qv _ (zPost D A (w_Na tA h0)) A) (lv := [(0, .ref h0)]) (by decide) rfl (Nat.le_of_ble_eq_true rfl) rfl ?_
  intro p e s m below meth c A ls hx hb hr hml hh hg hown hlocks hnm hK hA hP hD0 hAw hS hl
  have hD := zD hD0 hAw
  refine lv_aload_n hx hb d_Na_init_0 rfl (lv_at hl 0 rfl) ?_
  refine W.objInit hx hb hown (hg _ k2_238) (hg _ k1_46) (hg _ k1_47) rfl (by rw [hml]; exact hl.1) rfl d_Na_init_1 (Nat.le_of_ble_eq_true rfl) (Nat.le_of_ble_eq_true rfl) ?_
  refine lv_aload_n hx hb d_Na_init_4 rfl (lv_at hl 0 rfl) ?_
  refine lv_iconst (v := 4) hx hb d_Na_init_5 (by decide) ?_
  refine zNewa (atype := .int) (ty := .int) (a0 := (4, .inl (fun _ => 0))) (N' := 4) hx hb rfl (hg _ k1_82) hK hP hD hS hA 0 rfl (fun _ h => by cases h) (fun _ => rfl) (by decide) (by decide) (by decide) (Nat.le_of_ble_eq_true rfl) (Nat.le_of_ble_eq_true rfl) d_Na_init_6 (fun q6 H1 hP1 hD1 hS1 => ?_)
  clear hP hD hS
  refine zCons (fun T6 e6 hP2 hD2 => ?_) hP1 hD1
  clear hP1 hD1
  refine va_put (D := D) (ci := 9) (v := .ref q6) (ty := .array .int) (C := R_Na) (T := T_Na) (N := 2) hx hb hg i_Na t_Na o_Na n_Na hown hK hP2 hD2 hS1 0 rfl rfl 0 (by decide) (hg _ k2_239) (fun _ h9 => h9) rfl (by decide +kernel) rfl rfl (Nat.le_of_ble_eq_true rfl) d_Na_init_8 (fun H3 locs3 hP3 hD3 hS3 => ?_)
  clear hP2 hD2 hS1
  replace hP3 : va_P D vwCl ((h0, .inr (9, [.ref q6, .int 0])) :: T6) _ := hP3
  replace hD3 : va_D A ((h0, .inr (9, [.ref q6, .int 0])) :: T6) := hD3
  refine lv_aload_n hx hb d_Na_init_11 rfl (lv_at hl 0 rfl) ?_
  refine lv_iconst (v := 0) hx hb d_Na_init_12 (by decide) ?_
  refine va_put (D := D) (ci := 9) (v := .int 0) (ty := .int) (C := R_Na) (T := T_Na) (N := 2) hx hb hg i_Na t_Na o_Na n_Na hown hK hP3 hD3 hS3 0 rfl rfl 1 (by decide) (hg _ k3_1) (fun _ h9 => h9) rfl (by decide +kernel) rfl rfl (Nat.le_of_ble_eq_true rfl) d_Na_init_13 (fun H4 locs4 hP4 hD4 hS4 => ?_)
  clear hP3 hD3 hS3
  replace hP4 : va_P D vwCl ((h0, .inr (9, [.ref q6, .int 0])) :: T6) _ := hP4
  replace hD4 : va_D A ((h0, .inr (9, [.ref q6, .int 0])) :: T6) := hD4
  refine W.cs (cells' := 1) (slots' := 4) rfl rfl ?_
  exact zVret hx hb hr hlocks hP4 hD4 hS4 (q6) trivial (by rw [e6]; rfl) d_Na_init_16
abbrev S_Fr : Type := (Nat × S_Na) × (Nat × S_Na)
def w_Fr (tA : Nat → ClassId) (h0 : Nat) (u : S_Fr) : va_W := match u with
  | ((q5, u5), (q16, u16)) => (h0, .inr (10, [.ref q5, .ref q16, .int 1])) :: ([] ++ w_Na tA q5 u5 ++ w_Na tA q16 u16)
theorem f_Fr : ∀ j, j < 3 → defaultValue (t_Fr j) = vp_V [.null, .null, .int 0] j := by decide +kernel
set_option maxHeartbeats 4000000 in
set_option maxRecDepth 100000 in
theorem c_Fr_init (l : Launch) (D : va_G) (tA : Nat → ClassId) (h0 sz : Nat) : zMv l ({ cls := "ChanceArena$Fraction", name := "<init>", desc := "()V" } : Jvm.MethodName) (zW (Jvm.Cond.code ({ cls := "ChanceArena$Fraction", name := "<init>", desc := "()V" } : Jvm.MethodName) prog_2_method_1_code (1 : Nat) (Option.none : Option Jvm.ClassFile.FieldType))) { frames := 2, cells := 4, slots := 12, locals := 32 } [.ref h0] D tA [(h0, .inr (10, [.null, .null, .int 0]))] sz (fun _ : S_Fr => True) (w_Fr tA h0) 4 12 := by
  refine zOpen (fun A => va_Qv _ (zPost D A (w_Fr tA h0)) A) (lv := [(0, .ref h0)]) (by decide) rfl (Nat.le_of_ble_eq_true rfl) rfl ?_
  intro p e s m below meth c A ls hx hb hr hml hh hg hown hlocks hnm hK hA hP hD0 hAw hS hl
  have hD := zD hD0 hAw
  refine lv_aload_n hx hb d_Fr_init_0 rfl (lv_at hl 0 rfl) ?_
  refine W.objInit hx hb hown (hg _ k3_15) (hg _ k1_46) (hg _ k1_47) rfl (by rw [hml]; exact hl.1) rfl d_Fr_init_1 (Nat.le_of_ble_eq_true rfl) (Nat.le_of_ble_eq_true rfl) ?_
  refine lv_aload_n hx hb d_Fr_init_4 rfl (lv_at hl 0 rfl) ?_
  refine va_new (ci := 9) (fs := [.null, .int 0]) (C := R_Na) (T := T_Na) (N := 2) hx hb hg i_Na t_Na o_Na hown (hg _ k3_16) (hg _ k2_234) (hg _ k1_10) hK hP hD hS hA rfl f_Na (Nat.le_of_ble_eq_true rfl) (Nat.le_of_ble_eq_true rfl) d_Fr_init_5 (fun q5 H1 hP1 hD1 hS1 => ?_)
  clear hP hD hS
  refine lv_dup hx hb d_Fr_init_8 rfl ?_
  refine zInit hP1 hD1 hS1 hA (va_runIN (As := []) (rest := [.ref q5, .ref h0]) ⟨hx, hb, hml, hown, hg⟩ (c_Na_init l D tA q5 H1.size) ⟨va_cnB 0 hg (zGood k2_237 rfl) rfl rfl rfl (va_Nw.of rfl (hg _ k3_17)) (hg _ k1_10) (by decide +kernel) ⟨(Nat.le_of_ble_eq_true rfl), (Nat.le_of_ble_eq_true rfl)⟩, rfl, hg _ k2_236⟩ (zPreI hh hK hP1 hD1) rfl rfl hl.1 rfl (lv_room (Nat.le_of_ble_eq_true rfl)) d_Fr_init_9 ⟨(Nat.le_of_ble_eq_true rfl), (Nat.le_of_ble_eq_true rfl)⟩) (fun u5 H2 locs2 _ hP2 hD2 hS2 => ?_)
  clear hP1 hD1 hS1
  refine zCons (fun T9 e9 hP3 hD3 => ?_) hP2 hD2
  clear hP2 hD2
  refine va_putF (D := D) (ci := 10) (v := .ref q5) (ty := .object "ChanceArena$Natural") (C := R_Fr) (T := T_Fr) (N := 3) hx hb hg i_Fr t_Fr o_Fr n_Fr hown hK hP3 hD3 hS2 0 rfl rfl 0 (by decide) (hg _ k3_18) (fun _ h9 => h9) rfl hnm rfl (by decide +kernel) rfl rfl (Nat.le_of_ble_eq_true rfl) d_Fr_init_12 (fun H4 locs4 hP4 hD4 hS4 => ?_)
  clear hP3 hD3 hS2
  replace hP4 : va_P D vwCl ((h0, .inr (10, [.ref q5, .null, .int 0])) :: T9) _ := hP4
  replace hD4 : va_D A ((h0, .inr (10, [.ref q5, .null, .int 0])) :: T9) := hD4
  refine lv_aload_n hx hb d_Fr_init_15 rfl (lv_at hl 0 rfl) ?_
  refine va_new (ci := 9) (fs := [.null, .int 0]) (C := R_Na) (T := T_Na) (N := 2) hx hb hg i_Na t_Na o_Na hown (hg _ k3_16) (hg _ k2_234) (hg _ k1_10) hK hP4 hD4 hS4 hA rfl f_Na (Nat.le_of_ble_eq_true rfl) (Nat.le_of_ble_eq_true rfl) d_Fr_init_16 (fun q16 H5 hP5 hD5 hS5 => ?_)
  clear hP4 hD4 hS4
  refine lv_dup hx hb d_Fr_init_19 rfl ?_
  refine zInit hP5 hD5 hS5 hA (va_runIN (As := []) (rest := [.ref q16, .ref h0]) ⟨hx, hb, hml, hown, hg⟩ (c_Na_init l D tA q16 H5.size) ⟨va_cnB 0 hg (zGood k2_237 rfl) rfl rfl rfl (va_Nw.of rfl (hg _ k3_17)) (hg _ k1_10) (by decide +kernel) ⟨(Nat.le_of_ble_eq_true rfl), (Nat.le_of_ble_eq_true rfl)⟩, rfl, hg _ k2_236⟩ (zPreI hh hK hP5 hD5) rfl rfl hl.1 rfl (lv_room (Nat.le_of_ble_eq_true rfl)) d_Fr_init_20 ⟨(Nat.le_of_ble_eq_true rfl), (Nat.le_of_ble_eq_true rfl)⟩) (fun u16 H6 locs6 _ hP6 hD6 hS6 => ?_)
  clear hP5 hD5 hS5
  refine zCons (fun T20 e20 hP7 hD7 => ?_) hP6 hD6
  clear hP6 hD6
  refine va_putF (D := D) (ci := 10) (v := .ref q16) (ty := .object "ChanceArena$Natural") (C := R_Fr) (T := T_Fr) (N := 3) hx hb hg i_Fr t_Fr o_Fr n_Fr hown hK hP7 hD7 hS6 0 rfl rfl 1 (by decide) (hg _ k3_22) (fun _ h9 => h9) rfl hnm rfl (by decide +kernel) rfl rfl (Nat.le_of_ble_eq_true rfl) d_Fr_init_23 (fun H8 locs8 hP8 hD8 hS8 => ?_)
  clear hP7 hD7 hS6
  replace hP8 : va_P D vwCl ((h0, .inr (10, [.ref q5, .ref q16, .int 0])) :: T20) _ := hP8
  replace hD8 : va_D A ((h0, .inr (10, [.ref q5, .ref q16, .int 0])) :: T20) := hD8
  refine lv_aload_n hx hb d_Fr_init_26 rfl (lv_at hl 0 rfl) ?_
  refine lv_iconst (v := 1) hx hb d_Fr_init_27 (by decide) ?_
  refine va_put (D := D) (ci := 10) (v := .int 1) (ty := .int) (C := R_Fr) (T := T_Fr) (N := 3) hx hb hg i_Fr t_Fr o_Fr n_Fr hown hK hP8 hD8 hS8 0 rfl rfl 2 (by decide) (hg _ k3_26) (fun _ h9 => h9) rfl (by decide +kernel) rfl rfl (Nat.le_of_ble_eq_true rfl) d_Fr_init_28 (fun H9 locs9 hP9 hD9 hS9 => ?_)
  clear hP8 hD8 hS8
  replace hP9 : va_P D vwCl ((h0, .inr (10, [.ref q5, .ref q16, .int 1])) :: T20) _ := hP9
  replace hD9 : va_D A ((h0, .inr (10, [.ref q5, .ref q16, .int 1])) :: T20) := hD9
  refine W.cs (cells' := 4) (slots' := 12) rfl rfl ?_
  exact zVret hx hb hr hlocks hP9 hD9 hS9 ((q5, u5), (q16, u16)) trivial (by rw [e20, e9]; rfl) d_Fr_init_31
abbrev S_Fs : Type := Nat
def w_Fs (tA : Nat → ClassId) (h0 : Nat) (u : S_Fs) : va_W := match u with
  | q6 => (h0, .inr (12, [.ref q6, .int 0])) :: ([] ++ [(q6, .inl (tA 5, 0, .inr (.inr (.inr (.inr (fun _ => none))))))])
theorem f_Fs : ∀ j, j < 2 → defaultValue (t_Fs j) = vp_V [.null, .int 0] j := by decide +kernel
set_option maxHeartbeats 4000000 in
set_option maxRecDepth 100000 in
theorem c_Fs_init (l : Launch) (D : va_G) (tA : Nat → ClassId) (h0 sz : Nat) : zMv l ({ cls := "ChanceArena$Fractions", name := "<init>", desc := "()V" } : Jvm.MethodName) (zW (Jvm.Cond.code ({ cls := "ChanceArena$Fractions", name := "<init>", desc := "()V" } : Jvm.MethodName) prog_3_method_1_code (1 : Nat) (Option.none : Option Jvm.ClassFile.FieldType))) { frames := 1, cells := 1, slots := 0, locals := 12 } [.ref h0] D tA [(h0, .inr (12, [.null, .int 0]))] sz (fun _ : S_Fs => True) (w_Fs tA h0) 1 0 := by
  refine zOpen (fun A => va_Qv _ (zPost D A (w_Fs tA h0)) A) (lv := [(0, .ref h0)]) (by decide) rfl (Nat.le_of_ble_eq_true rfl) rfl ?_
  intro p e s m below meth c A ls hx hb hr hml hh hg hown hlocks hnm hK hA hP hD0 hAw hS hl
  have hD := zD hD0 hAw
  refine lv_aload_n hx hb d_Fs_init_0 rfl (lv_at hl 0 rfl) ?_
  refine W.objInit hx hb hown (hg _ k3_156) (hg _ k1_46) (hg _ k1_47) rfl (by rw [hml]; exact hl.1) rfl d_Fs_init_1 (Nat.le_of_ble_eq_true rfl) (Nat.le_of_ble_eq_true rfl) ?_
  refine lv_aload_n hx hb d_Fs_init_4 rfl (lv_at hl 0 rfl) ?_
  refine lv_iconst (v := 0) hx hb d_Fs_init_5 (by decide) ?_
  refine zNewq (N' := 0) hx hb hown (hg _ k3_157) (hg _ k3_158) hK hP hD hS hA 5 rfl (by decide) (by decide) (by decide) (Nat.le_of_ble_eq_true rfl) (Nat.le_of_ble_eq_true rfl) d_Fs_init_6 (fun q6 H1 hP1 hD1 hS1 => ?_)
  clear hP hD hS
  refine zCons (fun T6 e6 hP2 hD2 => ?_) hP1 hD1
  clear hP1 hD1
  refine va_put (D := D) (ci := 12) (v := .ref q6) (ty := .array (.object "ChanceArena$Fraction")) (C := R_Fs) (T := T_Fs) (N := 2) hx hb hg i_Fs t_Fs o_Fs n_Fs hown hK hP2 hD2 hS1 0 rfl rfl 0 (by decide) (hg _ k3_159) (fun _ h9 => h9) rfl (by decide +kernel) rfl rfl (Nat.le_of_ble_eq_true rfl) d_Fs_init_9 (fun H3 locs3 hP3 hD3 hS3 => ?_)
  clear hP2 hD2 hS1
  replace hP3 : va_P D vwCl ((h0, .inr (12, [.ref q6, .int 0])) :: T6) _ := hP3
  replace hD3 : va_D A ((h0, .inr (12, [.ref q6, .int 0])) :: T6) := hD3
  refine lv_aload_n hx hb d_Fs_init_12 rfl (lv_at hl 0 rfl) ?_
  refine lv_iconst (v := 0) hx hb d_Fs_init_13 (by decide) ?_
  refine va_put (D := D) (ci := 12) (v := .int 0) (ty := .boolean) (C := R_Fs) (T := T_Fs) (N := 2) hx hb hg i_Fs t_Fs o_Fs n_Fs hown hK hP3 hD3 hS3 0 rfl rfl 1 (by decide) (hg _ k3_163) (fun _ h9 => h9) rfl (by decide +kernel) rfl rfl (Nat.le_of_ble_eq_true rfl) d_Fs_init_14 (fun H4 locs4 hP4 hD4 hS4 => ?_)
  clear hP3 hD3 hS3
  replace hP4 : va_P D vwCl ((h0, .inr (12, [.ref q6, .int 0])) :: T6) _ := hP4
  replace hD4 : va_D A ((h0, .inr (12, [.ref q6, .int 0])) :: T6) := hD4
  refine W.cs (cells' := 1) (slots' := 0) rfl rfl ?_
  exact zVret hx hb hr hlocks hP4 hD4 hS4 (q6) trivial (by rw [e6]; rfl) d_Fs_init_17
abbrev S_Wo : Type := Nat × Nat × Nat × Nat
def w_Wo (tA : Nat → ClassId) (h0 : Nat) (u : S_Wo) : va_W := match u with
  | (q6, q15, q24, q33) => (h0, .inr (1, [.ref q6, .int 0, .int 0, .ref q15, .ref q24, .ref q33])) :: ([] ++ [(q6, .inl (tA 2, 0, .inl (fun _ => 0)))] ++ [(q15, .inl (tA 0, 128, .inl (fun _ => 0)))] ++ [(q24, .inl (tA 0, 128, .inl (fun _ => 0)))] ++ [(q33, .inl (tA 0, 128, .inl (fun _ => 0)))])
theorem f_Wo : ∀ j, j < 6 → defaultValue (t_Wo j) = vp_V [.null, .int 0, .int 0, .null, .null, .null] j := by decide +kernel
set_option maxHeartbeats 4000000 in
set_option maxRecDepth 100000 in
theorem c_Wo_init (l : Launch) (D : va_G) (tA : Nat → ClassId) (h0 sz : Nat) : zMv l ({ cls := "ChanceArena$Words", name := "<init>", desc := "()V" } : Jvm.MethodName) (zW (Jvm.Cond.code ({ cls := "ChanceArena$Words", name := "<init>", desc := "()V" } : Jvm.MethodName) prog_13_method_1_code (1 : Nat) (Option.none : Option Jvm.ClassFile.FieldType))) { frames := 1, cells := 4, slots := 384, locals := 12 } [.ref h0] D tA [(h0, .inr (1, [.null, .int 0, .int 0, .null, .null, .null]))] sz (fun _ : S_Wo => True) (w_Wo tA h0) 4 384 := by
  refine zOpen (fun A => va_Qv _ (zPost D A (w_Wo tA h0)) A) (lv := [(0, .ref h0)]) (by decide) rfl (Nat.le_of_ble_eq_true rfl) rfl ?_
  intro p e s m below meth c A ls hx hb hr hml hh hg hown hlocks hnm hK hA hP hD0 hAw hS hl
  have hD := zD hD0 hAw
  refine lv_aload_n hx hb d_Wo_init_0 rfl (lv_at hl 0 rfl) ?_
  refine W.objInit hx hb hown (hg _ k1_53) (hg _ k1_46) (hg _ k1_47) rfl (by rw [hml]; exact hl.1) rfl d_Wo_init_1 (Nat.le_of_ble_eq_true rfl) (Nat.le_of_ble_eq_true rfl) ?_
  refine lv_aload_n hx hb d_Wo_init_4 rfl (lv_at hl 0 rfl) ?_
  refine lv_iconst (v := 0) hx hb d_Wo_init_5 (by decide) ?_
  refine zNewa (atype := .char) (ty := .char) (a0 := (0, .inl (fun _ => 0))) (N' := 0) hx hb rfl (hg _ k1_81) hK hP hD hS hA 2 rfl (fun _ h => by cases h) (fun _ => rfl) (by decide) (by decide) (by decide) (Nat.le_of_ble_eq_true rfl) (Nat.le_of_ble_eq_true rfl) d_Wo_init_6 (fun q6 H1 hP1 hD1 hS1 => ?_)
  clear hP hD hS
  refine zCons (fun T6 e6 hP2 hD2 => ?_) hP1 hD1
  clear hP1 hD1
  refine va_put (D := D) (ci := 1) (v := .ref q6) (ty := .array .char) (C := R_Wo) (T := T_Wo) (N := 6) hx hb hg i_Wo t_Wo o_Wo n_Wo hown hK hP2 hD2 hS1 0 rfl rfl 0 (by decide) (hg _ k1_54) (fun _ h9 => h9) rfl (by decide +kernel) rfl rfl (Nat.le_of_ble_eq_true rfl) d_Wo_init_8 (fun H3 locs3 hP3 hD3 hS3 => ?_)
  clear hP2 hD2 hS1
  replace hP3 : va_P D vwCl ((h0, .inr (1, [.ref q6, .int 0, .int 0, .null, .null, .null])) :: T6) _ := hP3
  replace hD3 : va_D A ((h0, .inr (1, [.ref q6, .int 0, .int 0, .null, .null, .null])) :: T6) := hD3
  refine lv_aload_n hx hb d_Wo_init_11 rfl (lv_at hl 0 rfl) ?_
  refine lv_sipush (v := 128) hx hb d_Wo_init_12 (by decide) ?_
  refine zNewa (atype := .int) (ty := .int) (a0 := (128, .inl (fun _ => 0))) (N' := 128) hx hb rfl (hg _ k1_82) hK hP3 hD3 hS3 hA 0 rfl (fun _ h => by cases h) (fun _ => rfl) (by decide) (by decide) (by decide) (Nat.le_of_ble_eq_true rfl) (Nat.le_of_ble_eq_true rfl) d_Wo_init_15 (fun q15 H4 hP4 hD4 hS4 => ?_)
  clear hP3 hD3 hS3
  refine zCons (fun T15 e15 hP5 hD5 => ?_) hP4 hD4
  clear hP4 hD4
  refine va_put (D := D) (ci := 1) (v := .ref q15) (ty := .array .int) (C := R_Wo) (T := T_Wo) (N := 6) hx hb hg i_Wo t_Wo o_Wo n_Wo hown hK hP5 hD5 hS4 0 rfl rfl 3 (by decide) (hg _ k1_60) (fun _ h9 => h9) rfl (by decide +kernel) rfl rfl (Nat.le_of_ble_eq_true rfl) d_Wo_init_17 (fun H6 locs6 hP6 hD6 hS6 => ?_)
  clear hP5 hD5 hS4
  replace hP6 : va_P D vwCl ((h0, .inr (1, [.ref q6, .int 0, .int 0, .ref q15, .null, .null])) :: T15) _ := hP6
  replace hD6 : va_D A ((h0, .inr (1, [.ref q6, .int 0, .int 0, .ref q15, .null, .null])) :: T15) := hD6
  refine lv_aload_n hx hb d_Wo_init_20 rfl (lv_at hl 0 rfl) ?_
  refine lv_sipush (v := 128) hx hb d_Wo_init_21 (by decide) ?_
  refine zNewa (atype := .int) (ty := .int) (a0 := (128, .inl (fun _ => 0))) (N' := 128) hx hb rfl (hg _ k1_82) hK hP6 hD6 hS6 hA 0 rfl (fun _ h => by cases h) (fun _ => rfl) (by decide) (by decide) (by decide) (Nat.le_of_ble_eq_true rfl) (Nat.le_of_ble_eq_true rfl) d_Wo_init_24 (fun q24 H7 hP7 hD7 hS7 => ?_)
  clear hP6 hD6 hS6
  refine zCons (fun T24 e24 hP8 hD8 => ?_) hP7 hD7
  clear hP7 hD7
  refine va_put (D := D) (ci := 1) (v := .ref q24) (ty := .array .int) (C := R_Wo) (T := T_Wo) (N := 6) hx hb hg i_Wo t_Wo o_Wo n_Wo hown hK hP8 hD8 hS7 0 rfl rfl 4 (by decide) (hg _ k1_63) (fun _ h9 => h9) rfl (by decide +kernel) rfl rfl (Nat.le_of_ble_eq_true rfl) d_Wo_init_26 (fun H9 locs9 hP9 hD9 hS9 => ?_)
  clear hP8 hD8 hS7
  replace hP9 : va_P D vwCl ((h0, .inr (1, [.ref q6, .int 0, .int 0, .ref q15, .ref q24, .null])) :: T24) _ := hP9
  replace hD9 : va_D A ((h0, .inr (1, [.ref q6, .int 0, .int 0, .ref q15, .ref q24, .null])) :: T24) := hD9
  refine lv_aload_n hx hb d_Wo_init_29 rfl (lv_at hl 0 rfl) ?_
  refine lv_sipush (v := 128) hx hb d_Wo_init_30 (by decide) ?_
  refine zNewa (atype := .int) (ty := .int) (a0 := (128, .inl (fun _ => 0))) (N' := 128) hx hb rfl (hg _ k1_82) hK hP9 hD9 hS9 hA 0 rfl (fun _ h => by cases h) (fun _ => rfl) (by decide) (by decide) (by decide) (Nat.le_of_ble_eq_true rfl) (Nat.le_of_ble_eq_true rfl) d_Wo_init_33 (fun q33 H10 hP10 hD10 hS10 => ?_)
  clear hP9 hD9 hS9
  refine zCons (fun T33 e33 hP11 hD11 => ?_) hP10 hD10
  clear hP10 hD10
  refine va_put (D := D) (ci := 1) (v := .ref q33) (ty := .array .int) (C := R_Wo) (T := T_Wo) (N := 6) hx hb hg i_Wo t_Wo o_Wo n_Wo hown hK hP11 hD11 hS10 0 rfl rfl 5 (by decide) (hg _ k1_66) (fun _ h9 => h9) rfl (by decide +kernel) rfl rfl (Nat.le_of_ble_eq_true rfl) d_Wo_init_35 (fun H12 locs12 hP12 hD12 hS12 => ?_)
  clear hP11 hD11 hS10
  replace hP12 : va_P D vwCl ((h0, .inr (1, [.ref q6, .int 0, .int 0, .ref q15, .ref q24, .ref q33])) :: T33) _ := hP12
  replace hD12 : va_D A ((h0, .inr (1, [.ref q6, .int 0, .int 0, .ref q15, .ref q24, .ref q33])) :: T33) := hD12
  refine W.cs (cells' := 4) (slots' := 384) rfl rfl ?_
  exact zVret hx hb hr hlocks hP12 hD12 hS12 (q6, q15, q24, q33) trivial (by rw [e33, e24, e15, e6]; rfl) d_Wo_init_38
abbrev S_Pr : Type := Nat × Nat × Nat × Nat × Nat × Nat × Nat × Nat × Nat × Nat × Nat × Nat × Nat × Nat × Nat
def w_Pr (tA : Nat → ClassId) (h0 : Nat) (u : S_Pr) : va_W := match u with
  | (q8, q17, q25, q33, q41, q49, q57, q65, q73, q81, q89, q97, q106, q115, q124) => (h0, .inr (5, [.ref q8, .ref q17, .int 0, .int 0, .ref q25, .ref q33, .ref q41, .int 0, .ref q49, .ref q57, .ref q65, .int 0, .int 0, .ref q73, .ref q81, .ref q89, .ref q97, .ref q106, .ref q115, .ref q124])) :: ([] ++ [(q8, .inl (tA 0, 128, .inl (fun _ => 0)))] ++ [(q17, .inl (tA 0, 128, .inl (fun _ => 0)))] ++ [(q25, .inl (tA 0, 12, .inl (fun _ => 0)))] ++ [(q33, .inl (tA 0, 12, .inl (fun _ => 0)))] ++ [(q41, .inl (tA 0, 12, .inl (fun _ => 0)))] ++ [(q49, .inl (tA 0, 60, .inl (fun _ => 0)))] ++ [(q57, .inl (tA 0, 60, .inl (fun _ => 0)))] ++ [(q65, .inl (tA 0, 60, .inl (fun _ => 0)))] ++ [(q73, .inl (tA 0, 60, .inl (fun _ => 0)))] ++ [(q81, .inl (tA 0, 60, .inl (fun _ => 0)))] ++ [(q89, .inl (tA 0, 60, .inl (fun _ => 0)))] ++ [(q97, .inl (tA 0, 61, .inl (fun _ => 0)))] ++ [(q106, .inl (tA 0, 480, .inl (fun _ => 0)))] ++ [(q115, .inl (tA 0, 480, .inl (fun _ => 0)))] ++ [(q124, .inl (tA 0, 480, .inl (fun _ => 0)))])
theorem f_Pr : ∀ j, j < 20 → defaultValue (t_Pr j) = vp_V [.null, .null, .int 0, .int 0, .null, .null, .null, .int 0, .null, .null, .null, .int 0, .int 0, .null, .null, .null, .null, .null, .null, .null] j := by decide +kernel
set_option maxHeartbeats 4000000 in
set_option maxRecDepth 100000 in
theorem c_Pr_init (l : Launch) (D : va_G) (tA : Nat → ClassId) (h0 sz : Nat) : zMv l ({ cls := "ChanceArena$Program", name := "<init>", desc := "()V" } : Jvm.MethodName) (zW (Jvm.Cond.code ({ cls := "ChanceArena$Program", name := "<init>", desc := "()V" } : Jvm.MethodName) prog_7_method_1_code (1 : Nat) (Option.none : Option Jvm.ClassFile.FieldType))) { frames := 1, cells := 15, slots := 2153, locals := 12 } [.ref h0] D tA [(h0, .inr (5, [.null, .null, .int 0, .int 0, .null, .null, .null, .int 0, .null, .null, .null, .int 0, .int 0, .null, .null, .null, .null, .null, .null, .null]))] sz (fun _ : S_Pr => True) (w_Pr tA h0) 15 2153 := by
  refine zOpen (fun A => va_Qv _ (zPost D A (w_Pr tA h0)) A) (lv := [(0, .ref h0)]) (by decide) rfl (Nat.le_of_ble_eq_true rfl) rfl ?_
  intro p e s m below meth c A ls hx hb hr hml hh hg hown hlocks hnm hK hA hP hD0 hAw hS hl
  have hD := zD hD0 hAw
  refine lv_aload_n hx hb d_Pr_init_0 rfl (lv_at hl 0 rfl) ?_
  refine W.objInit hx hb hown (hg _ k2_22) (hg _ k1_46) (hg _ k1_47) rfl (by rw [hml]; exact hl.1) rfl d_Pr_init_1 (Nat.le_of_ble_eq_true rfl) (Nat.le_of_ble_eq_true rfl) ?_
  refine lv_aload_n hx hb d_Pr_init_4 rfl (lv_at hl 0 rfl) ?_
  refine lv_sipush (v := 128) hx hb d_Pr_init_5 (by decide) ?_
  refine zNewa (atype := .int) (ty := .int) (a0 := (128, .inl (fun _ => 0))) (N' := 128) hx hb rfl (hg _ k1_82) hK hP hD hS hA 0 rfl (fun _ h => by cases h) (fun _ => rfl) (by decide) (by decide) (by decide) (Nat.le_of_ble_eq_true rfl) (Nat.le_of_ble_eq_true rfl) d_Pr_init_8 (fun q8 H1 hP1 hD1 hS1 => ?_)
  clear hP hD hS
  refine zCons (fun T8 e8 hP2 hD2 => ?_) hP1 hD1
  clear hP1 hD1
  refine va_put (D := D) (ci := 5) (v := .ref q8) (ty := .array .int) (C := R_Pr) (T := T_Pr) (N := 20) hx hb hg i_Pr t_Pr o_Pr n_Pr hown hK hP2 hD2 hS1 0 rfl rfl 0 (by decide) (hg _ k2_23) (fun _ h9 => h9) rfl (by decide +kernel) rfl rfl (Nat.le_of_ble_eq_true rfl) d_Pr_init_10 (fun H3 locs3 hP3 hD3 hS3 => ?_)
  clear hP2 hD2 hS1
  replace hP3 : va_P D vwCl ((h0, .inr (5, [.ref q8, .null, .int 0, .int 0, .null, .null, .null, .int 0, .null, .null, .null, .int 0, .int 0, .null, .null, .null, .null, .null, .null, .null])) :: T8) _ := hP3
  replace hD3 : va_D A ((h0, .inr (5, [.ref q8, .null, .int 0, .int 0, .null, .null, .null, .int 0, .null, .null, .null, .int 0, .int 0, .null, .null, .null, .null, .null, .null, .null])) :: T8) := hD3
  refine lv_aload_n hx hb d_Pr_init_13 rfl (lv_at hl 0 rfl) ?_
  refine lv_sipush (v := 128) hx hb d_Pr_init_14 (by decide) ?_
  refine zNewa (atype := .int) (ty := .int) (a0 := (128, .inl (fun _ => 0))) (N' := 128) hx hb rfl (hg _ k1_82) hK hP3 hD3 hS3 hA 0 rfl (fun _ h => by cases h) (fun _ => rfl) (by decide) (by decide) (by decide) (Nat.le_of_ble_eq_true rfl) (Nat.le_of_ble_eq_true rfl) d_Pr_init_17 (fun q17 H4 hP4 hD4 hS4 => ?_)
  clear hP3 hD3 hS3
  refine zCons (fun T17 e17 hP5 hD5 => ?_) hP4 hD4
  clear hP4 hD4
  refine va_put (D := D) (ci := 5) (v := .ref q17) (ty := .array .int) (C := R_Pr) (T := T_Pr) (N := 20) hx hb hg i_Pr t_Pr o_Pr n_Pr hown hK hP5 hD5 hS4 0 rfl rfl 1 (by decide) (hg _ k2_25) (fun _ h9 => h9) rfl (by decide +kernel) rfl rfl (Nat.le_of_ble_eq_true rfl) d_Pr_init_19 (fun H6 locs6 hP6 hD6 hS6 => ?_)
  clear hP5 hD5 hS4
  replace hP6 : va_P D vwCl ((h0, .inr (5, [.ref q8, .ref q17, .int 0, .int 0, .null, .null, .null, .int 0, .null, .null, .null, .int 0, .int 0, .null, .null, .null, .null, .null, .null, .null])) :: T17) _ := hP6
  replace hD6 : va_D A ((h0, .inr (5, [.ref q8, .ref q17, .int 0, .int 0, .null, .null, .null, .int 0, .null, .null, .null, .int 0, .int 0, .null, .null, .null, .null, .null, .null, .null])) :: T17) := hD6
  refine lv_aload_n hx hb d_Pr_init_22 rfl (lv_at hl 0 rfl) ?_
  refine lv_bipush (v := 12) hx hb d_Pr_init_23 (by decide) ?_
  refine zNewa (atype := .int) (ty := .int) (a0 := (12, .inl (fun _ => 0))) (N' := 12) hx hb rfl (hg _ k1_82) hK hP6 hD6 hS6 hA 0 rfl (fun _ h => by cases h) (fun _ => rfl) (by decide) (by decide) (by decide) (Nat.le_of_ble_eq_true rfl) (Nat.le_of_ble_eq_true rfl) d_Pr_init_25 (fun q25 H7 hP7 hD7 hS7 => ?_)
  clear hP6 hD6 hS6
  refine zCons (fun T25 e25 hP8 hD8 => ?_) hP7 hD7
  clear hP7 hD7
  refine va_putF (D := D) (ci := 5) (v := .ref q25) (ty := .array .int) (C := R_Pr) (T := T_Pr) (N := 20) hx hb hg i_Pr t_Pr o_Pr n_Pr hown hK hP8 hD8 hS7 0 rfl rfl 4 (by decide) (hg _ k2_36) (fun _ h9 => h9) rfl hnm rfl (by decide +kernel) rfl rfl (Nat.le_of_ble_eq_true rfl) d_Pr_init_27 (fun H9 locs9 hP9 hD9 hS9 => ?_)
  clear hP8 hD8 hS7
  replace hP9 : va_P D vwCl ((h0, .inr (5, [.ref q8, .ref q17, .int 0, .int 0, .ref q25, .null, .null, .int 0, .null, .null, .null, .int 0, .int 0, .null, .null, .null, .null, .null, .null, .null])) :: T25) _ := hP9
  replace hD9 : va_D A ((h0, .inr (5, [.ref q8, .ref q17, .int 0, .int 0, .ref q25, .null, .null, .int 0, .null, .null, .null, .int 0, .int 0, .null, .null, .null, .null, .null, .null, .null])) :: T25) := hD9
  refine lv_aload_n hx hb d_Pr_init_30 rfl (lv_at hl 0 rfl) ?_
  refine lv_bipush (v := 12) hx hb d_Pr_init_31 (by decide) ?_
  refine zNewa (atype := .int) (ty := .int) (a0 := (12, .inl (fun _ => 0))) (N' := 12) hx hb rfl (hg _ k1_82) hK hP9 hD9 hS9 hA 0 rfl (fun _ h => by cases h) (fun _ => rfl) (by decide) (by decide) (by decide) (Nat.le_of_ble_eq_true rfl) (Nat.le_of_ble_eq_true rfl) d_Pr_init_33 (fun q33 H10 hP10 hD10 hS10 => ?_)
  clear hP9 hD9 hS9
  refine zCons (fun T33 e33 hP11 hD11 => ?_) hP10 hD10
  clear hP10 hD10
  refine va_putF (D := D) (ci := 5) (v := .ref q33) (ty := .array .int) (C := R_Pr) (T := T_Pr) (N := 20) hx hb hg i_Pr t_Pr o_Pr n_Pr hown hK hP11 hD11 hS10 0 rfl rfl 5 (by decide) (hg _ k2_39) (fun _ h9 => h9) rfl hnm rfl (by decide +kernel) rfl rfl (Nat.le_of_ble_eq_true rfl) d_Pr_init_35 (fun H12 locs12 hP12 hD12 hS12 => ?_)
  clear hP11 hD11 hS10
  replace hP12 : va_P D vwCl ((h0, .inr (5, [.ref q8, .ref q17, .int 0, .int 0, .ref q25, .ref q33, .null, .int 0, .null, .null, .null, .int 0, .int 0, .null, .null, .null, .null, .null, .null, .null])) :: T33) _ := hP12
  replace hD12 : va_D A ((h0, .inr (5, [.ref q8, .ref q17, .int 0, .int 0, .ref q25, .ref q33, .null, .int 0, .null, .null, .null, .int 0, .int 0, .null, .null, .null, .null, .null, .null, .null])) :: T33) := hD12
  refine lv_aload_n hx hb d_Pr_init_38 rfl (lv_at hl 0 rfl) ?_
  refine lv_bipush (v := 12) hx hb d_Pr_init_39 (by decide) ?_
  refine zNewa (atype := .int) (ty := .int) (a0 := (12, .inl (fun _ => 0))) (N' := 12) hx hb rfl (hg _ k1_82) hK hP12 hD12 hS12 hA 0 rfl (fun _ h => by cases h) (fun _ => rfl) (by decide) (by decide) (by decide) (Nat.le_of_ble_eq_true rfl) (Nat.le_of_ble_eq_true rfl) d_Pr_init_41 (fun q41 H13 hP13 hD13 hS13 => ?_)
  clear hP12 hD12 hS12
  refine zCons (fun T41 e41 hP14 hD14 => ?_) hP13 hD13
  clear hP13 hD13
  refine va_putF (D := D) (ci := 5) (v := .ref q41) (ty := .array .int) (C := R_Pr) (T := T_Pr) (N := 20) hx hb hg i_Pr t_Pr o_Pr n_Pr hown hK hP14 hD14 hS13 0 rfl rfl 6 (by decide) (hg _ k2_42) (fun _ h9 => h9) rfl hnm rfl (by decide +kernel) rfl rfl (Nat.le_of_ble_eq_true rfl) d_Pr_init_43 (fun H15 locs15 hP15 hD15 hS15 => ?_)
  clear hP14 hD14 hS13
  replace hP15 : va_P D vwCl ((h0, .inr (5, [.ref q8, .ref q17, .int 0, .int 0, .ref q25, .ref q33, .ref q41, .int 0, .null, .null, .null, .int 0, .int 0, .null, .null, .null, .null, .null, .null, .null])) :: T41) _ := hP15
  replace hD15 : va_D A ((h0, .inr (5, [.ref q8, .ref q17, .int 0, .int 0, .ref q25, .ref q33, .ref q41, .int 0, .null, .null, .null, .int 0, .int 0, .null, .null, .null, .null, .null, .null, .null])) :: T41) := hD15
  refine lv_aload_n hx hb d_Pr_init_46 rfl (lv_at hl 0 rfl) ?_
  refine lv_bipush (v := 60) hx hb d_Pr_init_47 (by decide) ?_
  refine zNewa (atype := .int) (ty := .int) (a0 := (60, .inl (fun _ => 0))) (N' := 60) hx hb rfl (hg _ k1_82) hK hP15 hD15 hS15 hA 0 rfl (fun _ h => by cases h) (fun _ => rfl) (by decide) (by decide) (by decide) (Nat.le_of_ble_eq_true rfl) (Nat.le_of_ble_eq_true rfl) d_Pr_init_49 (fun q49 H16 hP16 hD16 hS16 => ?_)
  clear hP15 hD15 hS15
  refine zCons (fun T49 e49 hP17 hD17 => ?_) hP16 hD16
  clear hP16 hD16
  refine va_putF (D := D) (ci := 5) (v := .ref q49) (ty := .array .int) (C := R_Pr) (T := T_Pr) (N := 20) hx hb hg i_Pr t_Pr o_Pr n_Pr hown hK hP17 hD17 hS16 0 rfl rfl 8 (by decide) (hg _ k2_48) (fun _ h9 => h9) rfl hnm rfl (by decide +kernel) rfl rfl (Nat.le_of_ble_eq_true rfl) d_Pr_init_51 (fun H18 locs18 hP18 hD18 hS18 => ?_)
  clear hP17 hD17 hS16
  replace hP18 : va_P D vwCl ((h0, .inr (5, [.ref q8, .ref q17, .int 0, .int 0, .ref q25, .ref q33, .ref q41, .int 0, .ref q49, .null, .null, .int 0, .int 0, .null, .null, .null, .null, .null, .null, .null])) :: T49) _ := hP18
  replace hD18 : va_D A ((h0, .inr (5, [.ref q8, .ref q17, .int 0, .int 0, .ref q25, .ref q33, .ref q41, .int 0, .ref q49, .null, .null, .int 0, .int 0, .null, .null, .null, .null, .null, .null, .null])) :: T49) := hD18
  refine lv_aload_n hx hb d_Pr_init_54 rfl (lv_at hl 0 rfl) ?_
  refine lv_bipush (v := 60) hx hb d_Pr_init_55 (by decide) ?_
  refine zNewa (atype := .int) (ty := .int) (a0 := (60, .inl (fun _ => 0))) (N' := 60) hx hb rfl (hg _ k1_82) hK hP18 hD18 hS18 hA 0 rfl (fun _ h => by cases h) (fun _ => rfl) (by decide) (by decide) (by decide) (Nat.le_of_ble_eq_true rfl) (Nat.le_of_ble_eq_true rfl) d_Pr_init_57 (fun q57 H19 hP19 hD19 hS19 => ?_)
  clear hP18 hD18 hS18
  refine zCons (fun T57 e57 hP20 hD20 => ?_) hP19 hD19
  clear hP19 hD19
  refine va_putF (D := D) (ci := 5) (v := .ref q57) (ty := .array .int) (C := R_Pr) (T := T_Pr) (N := 20) hx hb hg i_Pr t_Pr o_Pr n_Pr hown hK hP20 hD20 hS19 0 rfl rfl 9 (by decide) (hg _ k2_51) (fun _ h9 => h9) rfl hnm rfl (by decide +kernel) rfl rfl (Nat.le_of_ble_eq_true rfl) d_Pr_init_59 (fun H21 locs21 hP21 hD21 hS21 => ?_)
  clear hP20 hD20 hS19
  replace hP21 : va_P D vwCl ((h0, .inr (5, [.ref q8, .ref q17, .int 0, .int 0, .ref q25, .ref q33, .ref q41, .int 0, .ref q49, .ref q57, .null, .int 0, .int 0, .null, .null, .null, .null, .null, .null, .null])) :: T57) _ := hP21
  replace hD21 : va_D A ((h0, .inr (5, [.ref q8, .ref q17, .int 0, .int 0, .ref q25, .ref q33, .ref q41, .int 0, .ref q49, .ref q57, .null, .int 0, .int 0, .null, .null, .null, .null, .null, .null, .null])) :: T57) := hD21
  refine lv_aload_n hx hb d_Pr_init_62 rfl (lv_at hl 0 rfl) ?_
  refine lv_bipush (v := 60) hx hb d_Pr_init_63 (by decide) ?_
  refine zNewa (atype := .int) (ty := .int) (a0 := (60, .inl (fun _ => 0))) (N' := 60) hx hb rfl (hg _ k1_82) hK hP21 hD21 hS21 hA 0 rfl (fun _ h => by cases h) (fun _ => rfl) (by decide) (by decide) (by decide) (Nat.le_of_ble_eq_true rfl) (Nat.le_of_ble_eq_true rfl) d_Pr_init_65 (fun q65 H22 hP22 hD22 hS22 => ?_)
  clear hP21 hD21 hS21
  refine zCons (fun T65 e65 hP23 hD23 => ?_) hP22 hD22
  clear hP22 hD22
  refine va_putF (D := D) (ci := 5) (v := .ref q65) (ty := .array .int) (C := R_Pr) (T := T_Pr) (N := 20) hx hb hg i_Pr t_Pr o_Pr n_Pr hown hK hP23 hD23 hS22 0 rfl rfl 10 (by decide) (hg _ k2_54) (fun _ h9 => h9) rfl hnm rfl (by decide +kernel) rfl rfl (Nat.le_of_ble_eq_true rfl) d_Pr_init_67 (fun H24 locs24 hP24 hD24 hS24 => ?_)
  clear hP23 hD23 hS22
  replace hP24 : va_P D vwCl ((h0, .inr (5, [.ref q8, .ref q17, .int 0, .int 0, .ref q25, .ref q33, .ref q41, .int 0, .ref q49, .ref q57, .ref q65, .int 0, .int 0, .null, .null, .null, .null, .null, .null, .null])) :: T65) _ := hP24
  replace hD24 : va_D A ((h0, .inr (5, [.ref q8, .ref q17, .int 0, .int 0, .ref q25, .ref q33, .ref q41, .int 0, .ref q49, .ref q57, .ref q65, .int 0, .int 0, .null, .null, .null, .null, .null, .null, .null])) :: T65) := hD24
  refine lv_aload_n hx hb d_Pr_init_70 rfl (lv_at hl 0 rfl) ?_
  refine lv_bipush (v := 60) hx hb d_Pr_init_71 (by decide) ?_
  refine zNewa (atype := .int) (ty := .int) (a0 := (60, .inl (fun _ => 0))) (N' := 60) hx hb rfl (hg _ k1_82) hK hP24 hD24 hS24 hA 0 rfl (fun _ h => by cases h) (fun _ => rfl) (by decide) (by decide) (by decide) (Nat.le_of_ble_eq_true rfl) (Nat.le_of_ble_eq_true rfl) d_Pr_init_73 (fun q73 H25 hP25 hD25 hS25 => ?_)
  clear hP24 hD24 hS24
  refine zCons (fun T73 e73 hP26 hD26 => ?_) hP25 hD25
  clear hP25 hD25
  refine va_putF (D := D) (ci := 5) (v := .ref q73) (ty := .array .int) (C := R_Pr) (T := T_Pr) (N := 20) hx hb hg i_Pr t_Pr o_Pr n_Pr hown hK hP26 hD26 hS25 0 rfl rfl 13 (by decide) (hg _ k2_64) (fun _ h9 => h9) rfl hnm rfl (by decide +kernel) rfl rfl (Nat.le_of_ble_eq_true rfl) d_Pr_init_75 (fun H27 locs27 hP27 hD27 hS27 => ?_)
  clear hP26 hD26 hS25
  replace hP27 : va_P D vwCl ((h0, .inr (5, [.ref q8, .ref q17, .int 0, .int 0, .ref q25, .ref q33, .ref q41, .int 0, .ref q49, .ref q57, .ref q65, .int 0, .int 0, .ref q73, .null, .null, .null, .null, .null, .null])) :: T73) _ := hP27
  replace hD27 : va_D A ((h0, .inr (5, [.ref q8, .ref q17, .int 0, .int 0, .ref q25, .ref q33, .ref q41, .int 0, .ref q49, .ref q57, .ref q65, .int 0, .int 0, .ref q73, .null, .null, .null, .null, .null, .null])) :: T73) := hD27
  refine lv_aload_n hx hb d_Pr_init_78 rfl (lv_at hl 0 rfl) ?_
  refine lv_bipush (v := 60) hx hb d_Pr_init_79 (by decide) ?_
  refine zNewa (atype := .int) (ty := .int) (a0 := (60, .inl (fun _ => 0))) (N' := 60) hx hb rfl (hg _ k1_82) hK hP27 hD27 hS27 hA 0 rfl (fun _ h => by cases h) (fun _ => rfl) (by decide) (by decide) (by decide) (Nat.le_of_ble_eq_true rfl) (Nat.le_of_ble_eq_true rfl) d_Pr_init_81 (fun q81 H28 hP28 hD28 hS28 => ?_)
  clear hP27 hD27 hS27
  refine zCons (fun T81 e81 hP29 hD29 => ?_) hP28 hD28
  clear hP28 hD28
  refine va_putF (D := D) (ci := 5) (v := .ref q81) (ty := .array .int) (C := R_Pr) (T := T_Pr) (N := 20) hx hb hg i_Pr t_Pr o_Pr n_Pr hown hK hP29 hD29 hS28 0 rfl rfl 14 (by decide) (hg _ k2_67) (fun _ h9 => h9) rfl hnm rfl (by decide +kernel) rfl rfl (Nat.le_of_ble_eq_true rfl) d_Pr_init_83 (fun H30 locs30 hP30 hD30 hS30 => ?_)
  clear hP29 hD29 hS28
  replace hP30 : va_P D vwCl ((h0, .inr (5, [.ref q8, .ref q17, .int 0, .int 0, .ref q25, .ref q33, .ref q41, .int 0, .ref q49, .ref q57, .ref q65, .int 0, .int 0, .ref q73, .ref q81, .null, .null, .null, .null, .null])) :: T81) _ := hP30
  replace hD30 : va_D A ((h0, .inr (5, [.ref q8, .ref q17, .int 0, .int 0, .ref q25, .ref q33, .ref q41, .int 0, .ref q49, .ref q57, .ref q65, .int 0, .int 0, .ref q73, .ref q81, .null, .null, .null, .null, .null])) :: T81) := hD30
  refine lv_aload_n hx hb d_Pr_init_86 rfl (lv_at hl 0 rfl) ?_
  refine lv_bipush (v := 60) hx hb d_Pr_init_87 (by decide) ?_
  refine zNewa (atype := .int) (ty := .int) (a0 := (60, .inl (fun _ => 0))) (N' := 60) hx hb rfl (hg _ k1_82) hK hP30 hD30 hS30 hA 0 rfl (fun _ h => by cases h) (fun _ => rfl) (by decide) (by decide) (by decide) (Nat.le_of_ble_eq_true rfl) (Nat.le_of_ble_eq_true rfl) d_Pr_init_89 (fun q89 H31 hP31 hD31 hS31 => ?_)
  clear hP30 hD30 hS30
  refine zCons (fun T89 e89 hP32 hD32 => ?_) hP31 hD31
  clear hP31 hD31
  refine va_putF (D := D) (ci := 5) (v := .ref q89) (ty := .array .int) (C := R_Pr) (T := T_Pr) (N := 20) hx hb hg i_Pr t_Pr o_Pr n_Pr hown hK hP32 hD32 hS31 0 rfl rfl 15 (by decide) (hg _ k2_70) (fun _ h9 => h9) rfl hnm rfl (by decide +kernel) rfl rfl (Nat.le_of_ble_eq_true rfl) d_Pr_init_91 (fun H33 locs33 hP33 hD33 hS33 => ?_)
  clear hP32 hD32 hS31
  replace hP33 : va_P D vwCl ((h0, .inr (5, [.ref q8, .ref q17, .int 0, .int 0, .ref q25, .ref q33, .ref q41, .int 0, .ref q49, .ref q57, .ref q65, .int 0, .int 0, .ref q73, .ref q81, .ref q89, .null, .null, .null, .null])) :: T89) _ := hP33
  replace hD33 : va_D A ((h0, .inr (5, [.ref q8, .ref q17, .int 0, .int 0, .ref q25, .ref q33, .ref q41, .int 0, .ref q49, .ref q57, .ref q65, .int 0, .int 0, .ref q73, .ref q81, .ref q89, .null, .null, .null, .null])) :: T89) := hD33
  refine lv_aload_n hx hb d_Pr_init_94 rfl (lv_at hl 0 rfl) ?_
  refine lv_bipush (v := 61) hx hb d_Pr_init_95 (by decide) ?_
  refine zNewa (atype := .int) (ty := .int) (a0 := (61, .inl (fun _ => 0))) (N' := 61) hx hb rfl (hg _ k1_82) hK hP33 hD33 hS33 hA 0 rfl (fun _ h => by cases h) (fun _ => rfl) (by decide) (by decide) (by decide) (Nat.le_of_ble_eq_true rfl) (Nat.le_of_ble_eq_true rfl) d_Pr_init_97 (fun q97 H34 hP34 hD34 hS34 => ?_)
  clear hP33 hD33 hS33
  refine zCons (fun T97 e97 hP35 hD35 => ?_) hP34 hD34
  clear hP34 hD34
  refine va_putF (D := D) (ci := 5) (v := .ref q97) (ty := .array .int) (C := R_Pr) (T := T_Pr) (N := 20) hx hb hg i_Pr t_Pr o_Pr n_Pr hown hK hP35 hD35 hS34 0 rfl rfl 16 (by decide) (hg _ k2_73) (fun _ h9 => h9) rfl hnm rfl (by decide +kernel) rfl rfl (Nat.le_of_ble_eq_true rfl) d_Pr_init_99 (fun H36 locs36 hP36 hD36 hS36 => ?_)
  clear hP35 hD35 hS34
  replace hP36 : va_P D vwCl ((h0, .inr (5, [.ref q8, .ref q17, .int 0, .int 0, .ref q25, .ref q33, .ref q41, .int 0, .ref q49, .ref q57, .ref q65, .int 0, .int 0, .ref q73, .ref q81, .ref q89, .ref q97, .null, .null, .null])) :: T97) _ := hP36
  replace hD36 : va_D A ((h0, .inr (5, [.ref q8, .ref q17, .int 0, .int 0, .ref q25, .ref q33, .ref q41, .int 0, .ref q49, .ref q57, .ref q65, .int 0, .int 0, .ref q73, .ref q81, .ref q89, .ref q97, .null, .null, .null])) :: T97) := hD36
  refine lv_aload_n hx hb d_Pr_init_102 rfl (lv_at hl 0 rfl) ?_
  refine lv_sipush (v := 480) hx hb d_Pr_init_103 (by decide) ?_
  refine zNewa (atype := .int) (ty := .int) (a0 := (480, .inl (fun _ => 0))) (N' := 480) hx hb rfl (hg _ k1_82) hK hP36 hD36 hS36 hA 0 rfl (fun _ h => by cases h) (fun _ => rfl) (by decide) (by decide) (by decide) (Nat.le_of_ble_eq_true rfl) (Nat.le_of_ble_eq_true rfl) d_Pr_init_106 (fun q106 H37 hP37 hD37 hS37 => ?_)
  clear hP36 hD36 hS36
  refine zCons (fun T106 e106 hP38 hD38 => ?_) hP37 hD37
  clear hP37 hD37
  refine va_putF (D := D) (ci := 5) (v := .ref q106) (ty := .array .int) (C := R_Pr) (T := T_Pr) (N := 20) hx hb hg i_Pr t_Pr o_Pr n_Pr hown hK hP38 hD38 hS37 0 rfl rfl 17 (by decide) (hg _ k2_76) (fun _ h9 => h9) rfl hnm rfl (by decide +kernel) rfl rfl (Nat.le_of_ble_eq_true rfl) d_Pr_init_108 (fun H39 locs39 hP39 hD39 hS39 => ?_)
  clear hP38 hD38 hS37
  replace hP39 : va_P D vwCl ((h0, .inr (5, [.ref q8, .ref q17, .int 0, .int 0, .ref q25, .ref q33, .ref q41, .int 0, .ref q49, .ref q57, .ref q65, .int 0, .int 0, .ref q73, .ref q81, .ref q89, .ref q97, .ref q106, .null, .null])) :: T106) _ := hP39
  replace hD39 : va_D A ((h0, .inr (5, [.ref q8, .ref q17, .int 0, .int 0, .ref q25, .ref q33, .ref q41, .int 0, .ref q49, .ref q57, .ref q65, .int 0, .int 0, .ref q73, .ref q81, .ref q89, .ref q97, .ref q106, .null, .null])) :: T106) := hD39
  refine lv_aload_n hx hb d_Pr_init_111 rfl (lv_at hl 0 rfl) ?_
  refine lv_sipush (v := 480) hx hb d_Pr_init_112 (by decide) ?_
  refine zNewa (atype := .int) (ty := .int) (a0 := (480, .inl (fun _ => 0))) (N' := 480) hx hb rfl (hg _ k1_82) hK hP39 hD39 hS39 hA 0 rfl (fun _ h => by cases h) (fun _ => rfl) (by decide) (by decide) (by decide) (Nat.le_of_ble_eq_true rfl) (Nat.le_of_ble_eq_true rfl) d_Pr_init_115 (fun q115 H40 hP40 hD40 hS40 => ?_)
  clear hP39 hD39 hS39
  refine zCons (fun T115 e115 hP41 hD41 => ?_) hP40 hD40
  clear hP40 hD40
  refine va_putF (D := D) (ci := 5) (v := .ref q115) (ty := .array .int) (C := R_Pr) (T := T_Pr) (N := 20) hx hb hg i_Pr t_Pr o_Pr n_Pr hown hK hP41 hD41 hS40 0 rfl rfl 18 (by decide) (hg _ k2_79) (fun _ h9 => h9) rfl hnm rfl (by decide +kernel) rfl rfl (Nat.le_of_ble_eq_true rfl) d_Pr_init_117 (fun H42 locs42 hP42 hD42 hS42 => ?_)
  clear hP41 hD41 hS40
  replace hP42 : va_P D vwCl ((h0, .inr (5, [.ref q8, .ref q17, .int 0, .int 0, .ref q25, .ref q33, .ref q41, .int 0, .ref q49, .ref q57, .ref q65, .int 0, .int 0, .ref q73, .ref q81, .ref q89, .ref q97, .ref q106, .ref q115, .null])) :: T115) _ := hP42
  replace hD42 : va_D A ((h0, .inr (5, [.ref q8, .ref q17, .int 0, .int 0, .ref q25, .ref q33, .ref q41, .int 0, .ref q49, .ref q57, .ref q65, .int 0, .int 0, .ref q73, .ref q81, .ref q89, .ref q97, .ref q106, .ref q115, .null])) :: T115) := hD42
  refine lv_aload_n hx hb d_Pr_init_120 rfl (lv_at hl 0 rfl) ?_
  refine lv_sipush (v := 480) hx hb d_Pr_init_121 (by decide) ?_
  refine zNewa (atype := .int) (ty := .int) (a0 := (480, .inl (fun _ => 0))) (N' := 480) hx hb rfl (hg _ k1_82) hK hP42 hD42 hS42 hA 0 rfl (fun _ h => by cases h) (fun _ => rfl) (by decide) (by decide) (by decide) (Nat.le_of_ble_eq_true rfl) (Nat.le_of_ble_eq_true rfl) d_Pr_init_124 (fun q124 H43 hP43 hD43 hS43 => ?_)
  clear hP42 hD42 hS42
  refine zCons (fun T124 e124 hP44 hD44 => ?_) hP43 hD43
  clear hP43 hD43
  refine va_putF (D := D) (ci := 5) (v := .ref q124) (ty := .array .int) (C := R_Pr) (T := T_Pr) (N := 20) hx hb hg i_Pr t_Pr o_Pr n_Pr hown hK hP44 hD44 hS43 0 rfl rfl 19 (by decide) (hg _ k2_82) (fun _ h9 => h9) rfl hnm rfl (by decide +kernel) rfl rfl (Nat.le_of_ble_eq_true rfl) d_Pr_init_126 (fun H45 locs45 hP45 hD45 hS45 => ?_)
  clear hP44 hD44 hS43
  replace hP45 : va_P D vwCl ((h0, .inr (5, [.ref q8, .ref q17, .int 0, .int 0, .ref q25, .ref q33, .ref q41, .int 0, .ref q49, .ref q57, .ref q65, .int 0, .int 0, .ref q73, .ref q81, .ref q89, .ref q97, .ref q106, .ref q115, .ref q124])) :: T124) _ := hP45
  replace hD45 : va_D A ((h0, .inr (5, [.ref q8, .ref q17, .int 0, .int 0, .ref q25, .ref q33, .ref q41, .int 0, .ref q49, .ref q57, .ref q65, .int 0, .int 0, .ref q73, .ref q81, .ref q89, .ref q97, .ref q106, .ref q115, .ref q124])) :: T124) := hD45
  refine W.cs (cells' := 15) (slots' := 2153) rfl rfl ?_
  exact zVret hx hb hr hlocks hP45 hD45 hS45 (q8, q17, q25, q33, q41, q49, q57, q65, q73, q81, q89, q97, q106, q115, q124) trivial (by rw [e124, e115, e106, e97, e89, e81, e73, e65, e57, e49, e41, e33, e25, e17, e8]; rfl) d_Pr_init_129
end
section
theorem k1_93 : (Jvm.Cond.code ({ cls := "ChanceArena$RuleReader", name := "<init>", desc := "()V" } : Jvm.MethodName) prog_9_method_1_code (1 : Nat) (Option.none : Option Jvm.ClassFile.FieldType)) ∈ lw_R := zR (zk_1 _ (List.mem_of_getElem? (i := 93) (by decide +kernel))) rfl
theorem k1_94 : (Jvm.Cond.methodLink "ChanceArena$RuleReader" (3 : Nat) ({ cls := "java/lang/Object", name := "<init>", desc := "()V" } : Jvm.MethodName)) ∈ lw_R := zR (zk_1 _ (List.mem_of_getElem? (i := 94) (by decide +kernel))) rfl
theorem k1_109 : (Jvm.Cond.fieldLink "ChanceArena$RuleReader" (11 : Nat) "ChanceArena$RuleReader" "open" "[I") ∈ lw_R := zR (zk_1 _ (List.mem_of_getElem? (i := 109) (by decide +kernel))) rfl
theorem k1_110 : (Jvm.Cond.fieldLink "ChanceArena$RuleReader" (15 : Nat) "ChanceArena$RuleReader" "openPlace" "[I") ∈ lw_R := zR (zk_1 _ (List.mem_of_getElem? (i := 110) (by decide +kernel))) rfl
theorem k1_111 : (Jvm.Cond.fieldLink "ChanceArena$RuleReader" (18 : Nat) "ChanceArena$RuleReader" "openOrder" "[I") ∈ lw_R := zR (zk_1 _ (List.mem_of_getElem? (i := 111) (by decide +kernel))) rfl
theorem k1_112 : (Jvm.Cond.fieldLink "ChanceArena$RuleReader" (21 : Nat) "ChanceArena$RuleReader" "openMarks" "[I") ∈ lw_R := zR (zk_1 _ (List.mem_of_getElem? (i := 112) (by decide +kernel))) rfl
theorem k1_114 : (Jvm.Cond.fieldLink "ChanceArena$RuleReader" (24 : Nat) "ChanceArena$RuleReader" "truths" "[Z") ∈ lw_R := zR (zk_1 _ (List.mem_of_getElem? (i := 114) (by decide +kernel))) rfl
theorem k1_116 : (Jvm.Cond.fieldLink "ChanceArena$RuleReader" (28 : Nat) "ChanceArena$RuleReader" "nameWord" "[I") ∈ lw_R := zR (zk_1 _ (List.mem_of_getElem? (i := 116) (by decide +kernel))) rfl
theorem k1_117 : (Jvm.Cond.fieldLink "ChanceArena$RuleReader" (31 : Nat) "ChanceArena$RuleReader" "nameSort" "[I") ∈ lw_R := zR (zk_1 _ (List.mem_of_getElem? (i := 117) (by decide +kernel))) rfl
theorem k1_118 : (Jvm.Cond.fieldLink "ChanceArena$RuleReader" (34 : Nat) "ChanceArena$RuleReader" "nameIndex" "[I") ∈ lw_R := zR (zk_1 _ (List.mem_of_getElem? (i := 118) (by decide +kernel))) rfl
theorem k1_119 : (Jvm.Cond.fieldLink "ChanceArena$RuleReader" (37 : Nat) "ChanceArena$RuleReader" "nameTruth" "[Z") ∈ lw_R := zR (zk_1 _ (List.mem_of_getElem? (i := 119) (by decide +kernel))) rfl
theorem k1_162 : (Jvm.Cond.arrayClass Jvm.ClassFile.FieldType.boolean) ∈ lw_R := zR (zk_1 _ (List.mem_of_getElem? (i := 162) (by decide +kernel))) rfl
theorem k1_167 : (Jvm.Cond.code ({ cls := "ChanceArena$Machine", name := "<init>", desc := "()V" } : Jvm.MethodName) prog_5_method_1_code (1 : Nat) (Option.none : Option Jvm.ClassFile.FieldType)) ∈ lw_R := zR (zk_1 _ (List.mem_of_getElem? (i := 167) (by decide +kernel))) rfl
theorem k1_168 : (Jvm.Cond.methodLink "ChanceArena$Machine" (3 : Nat) ({ cls := "java/lang/Object", name := "<init>", desc := "()V" } : Jvm.MethodName)) ∈ lw_R := zR (zk_1 _ (List.mem_of_getElem? (i := 168) (by decide +kernel))) rfl
theorem k1_178 : (Jvm.Cond.fieldLink "ChanceArena$Machine" (9 : Nat) "ChanceArena$Machine" "numbers" "[I") ∈ lw_R := zR (zk_1 _ (List.mem_of_getElem? (i := 178) (by decide +kernel))) rfl
theorem k1_180 : (Jvm.Cond.fieldLink "ChanceArena$Machine" (15 : Nat) "ChanceArena$Machine" "next" "[I") ∈ lw_R := zR (zk_1 _ (List.mem_of_getElem? (i := 180) (by decide +kernel))) rfl
theorem k1_182 : (Jvm.Cond.fieldLink "ChanceArena$Machine" (18 : Nat) "ChanceArena$Machine" "above" "[I") ∈ lw_R := zR (zk_1 _ (List.mem_of_getElem? (i := 182) (by decide +kernel))) rfl
theorem k1_185 : (Jvm.Cond.fieldLink "ChanceArena$Machine" (21 : Nat) "ChanceArena$Machine" "below" "[I") ∈ lw_R := zR (zk_1 _ (List.mem_of_getElem? (i := 185) (by decide +kernel))) rfl
theorem k1_189 : (Jvm.Cond.fieldLink "ChanceArena$Machine" (24 : Nat) "ChanceArena$Machine" "stamp" "I") ∈ lw_R := zR (zk_1 _ (List.mem_of_getElem? (i := 189) (by decide +kernel))) rfl
theorem k1_190 : (Jvm.Cond.fieldLink "ChanceArena$Machine" (28 : Nat) "ChanceArena$Machine" "stamps" "[I") ∈ lw_R := zR (zk_1 _ (List.mem_of_getElem? (i := 190) (by decide +kernel))) rfl
theorem k1_191 : (Jvm.Cond.fieldLink "ChanceArena$Machine" (31 : Nat) "ChanceArena$Machine" "metAbove" "[I") ∈ lw_R := zR (zk_1 _ (List.mem_of_getElem? (i := 191) (by decide +kernel))) rfl
theorem k1_192 : (Jvm.Cond.fieldLink "ChanceArena$Machine" (34 : Nat) "ChanceArena$Machine" "metBelow" "[I") ∈ lw_R := zR (zk_1 _ (List.mem_of_getElem? (i := 192) (by decide +kernel))) rfl
theorem k1_193 : (Jvm.Cond.fieldLink "ChanceArena$Machine" (37 : Nat) "ChanceArena$Machine" "called" "[I") ∈ lw_R := zR (zk_1 _ (List.mem_of_getElem? (i := 193) (by decide +kernel))) rfl
theorem k1_194 : (Jvm.Cond.fieldLink "ChanceArena$Machine" (40 : Nat) "ChanceArena$Machine" "back" "[I") ∈ lw_R := zR (zk_1 _ (List.mem_of_getElem? (i := 194) (by decide +kernel))) rfl
theorem d_Ma_init_0 : decode prog_5_method_1_code 0 = .ok (.aload_n 0, 1) := by decide +kernel
theorem d_Ma_init_1 : decode prog_5_method_1_code 1 = .ok (.invokespecial 3, 3) := by decide +kernel
theorem d_Ma_init_4 : decode prog_5_method_1_code 4 = .ok (.aload_n 0, 1) := by decide +kernel
theorem d_Ma_init_5 : decode prog_5_method_1_code 5 = .ok (.bipush 12, 2) := by decide +kernel
theorem d_Ma_init_7 : decode prog_5_method_1_code 7 = .ok (.newarray .int, 2) := by decide +kernel
theorem d_Ma_init_9 : decode prog_5_method_1_code 9 = .ok (.putfield 9, 3) := by decide +kernel
theorem d_Ma_init_12 : decode prog_5_method_1_code 12 = .ok (.aload_n 0, 1) := by decide +kernel
theorem d_Ma_init_13 : decode prog_5_method_1_code 13 = .ok (.bipush 12, 2) := by decide +kernel
theorem d_Ma_init_15 : decode prog_5_method_1_code 15 = .ok (.newarray .int, 2) := by decide +kernel
theorem d_Ma_init_17 : decode prog_5_method_1_code 17 = .ok (.putfield 15, 3) := by decide +kernel
theorem d_Ma_init_20 : decode prog_5_method_1_code 20 = .ok (.aload_n 0, 1) := by decide +kernel
theorem d_Ma_init_21 : decode prog_5_method_1_code 21 = .ok (.bipush 64, 2) := by decide +kernel
theorem d_Ma_init_23 : decode prog_5_method_1_code 23 = .ok (.newarray .int, 2) := by decide +kernel
theorem d_Ma_init_25 : decode prog_5_method_1_code 25 = .ok (.putfield 18, 3) := by decide +kernel
theorem d_Ma_init_28 : decode prog_5_method_1_code 28 = .ok (.aload_n 0, 1) := by decide +kernel
theorem d_Ma_init_29 : decode prog_5_method_1_code 29 = .ok (.bipush 64, 2) := by decide +kernel
theorem d_Ma_init_31 : decode prog_5_method_1_code 31 = .ok (.newarray .int, 2) := by decide +kernel
theorem d_Ma_init_33 : decode prog_5_method_1_code 33 = .ok (.putfield 21, 3) := by decide +kernel
theorem d_Ma_init_36 : decode prog_5_method_1_code 36 = .ok (.aload_n 0, 1) := by decide +kernel
theorem d_Ma_init_37 : decode prog_5_method_1_code 37 = .ok (.iconst 0, 1) := by decide +kernel
theorem d_Ma_init_38 : decode prog_5_method_1_code 38 = .ok (.putfield 24, 3) := by decide +kernel
theorem d_Ma_init_41 : decode prog_5_method_1_code 41 = .ok (.aload_n 0, 1) := by decide +kernel
theorem d_Ma_init_42 : decode prog_5_method_1_code 42 = .ok (.bipush 60, 2) := by decide +kernel
theorem d_Ma_init_44 : decode prog_5_method_1_code 44 = .ok (.newarray .int, 2) := by decide +kernel
theorem d_Ma_init_46 : decode prog_5_method_1_code 46 = .ok (.putfield 28, 3) := by decide +kernel
theorem d_Ma_init_49 : decode prog_5_method_1_code 49 = .ok (.aload_n 0, 1) := by decide +kernel
theorem d_Ma_init_50 : decode prog_5_method_1_code 50 = .ok (.bipush 60, 2) := by decide +kernel
theorem d_Ma_init_52 : decode prog_5_method_1_code 52 = .ok (.newarray .int, 2) := by decide +kernel
theorem d_Ma_init_54 : decode prog_5_method_1_code 54 = .ok (.putfield 31, 3) := by decide +kernel
theorem d_Ma_init_57 : decode prog_5_method_1_code 57 = .ok (.aload_n 0, 1) := by decide +kernel
theorem d_Ma_init_58 : decode prog_5_method_1_code 58 = .ok (.bipush 60, 2) := by decide +kernel
theorem d_Ma_init_60 : decode prog_5_method_1_code 60 = .ok (.newarray .int, 2) := by decide +kernel
theorem d_Ma_init_62 : decode prog_5_method_1_code 62 = .ok (.putfield 34, 3) := by decide +kernel
theorem d_Ma_init_65 : decode prog_5_method_1_code 65 = .ok (.aload_n 0, 1) := by decide +kernel
theorem d_Ma_init_66 : decode prog_5_method_1_code 66 = .ok (.bipush 61, 2) := by decide +kernel
theorem d_Ma_init_68 : decode prog_5_method_1_code 68 = .ok (.newarray .int, 2) := by decide +kernel
theorem d_Ma_init_70 : decode prog_5_method_1_code 70 = .ok (.putfield 37, 3) := by decide +kernel
theorem d_Ma_init_73 : decode prog_5_method_1_code 73 = .ok (.aload_n 0, 1) := by decide +kernel
theorem d_Ma_init_74 : decode prog_5_method_1_code 74 = .ok (.bipush 61, 2) := by decide +kernel
theorem d_Ma_init_76 : decode prog_5_method_1_code 76 = .ok (.newarray .int, 2) := by decide +kernel
theorem d_Ma_init_78 : decode prog_5_method_1_code 78 = .ok (.putfield 40, 3) := by decide +kernel
theorem d_Ma_init_81 : decode prog_5_method_1_code 81 = .ok (.return_, 1) := by decide +kernel
theorem d_RR_init_0 : decode prog_9_method_1_code 0 = .ok (.aload_n 0, 1) := by decide +kernel
theorem d_RR_init_1 : decode prog_9_method_1_code 1 = .ok (.invokespecial 3, 3) := by decide +kernel
theorem d_RR_init_4 : decode prog_9_method_1_code 4 = .ok (.aload_n 0, 1) := by decide +kernel
theorem d_RR_init_5 : decode prog_9_method_1_code 5 = .ok (.sipush 336, 3) := by decide +kernel
theorem d_RR_init_8 : decode prog_9_method_1_code 8 = .ok (.newarray .int, 2) := by decide +kernel
theorem d_RR_init_10 : decode prog_9_method_1_code 10 = .ok (.putfield 11, 3) := by decide +kernel
theorem d_RR_init_13 : decode prog_9_method_1_code 13 = .ok (.aload_n 0, 1) := by decide +kernel
theorem d_RR_init_14 : decode prog_9_method_1_code 14 = .ok (.sipush 336, 3) := by decide +kernel
theorem d_RR_init_17 : decode prog_9_method_1_code 17 = .ok (.newarray .int, 2) := by decide +kernel
theorem d_RR_init_19 : decode prog_9_method_1_code 19 = .ok (.putfield 15, 3) := by decide +kernel
theorem d_RR_init_22 : decode prog_9_method_1_code 22 = .ok (.aload_n 0, 1) := by decide +kernel
theorem d_RR_init_23 : decode prog_9_method_1_code 23 = .ok (.sipush 336, 3) := by decide +kernel
theorem d_RR_init_26 : decode prog_9_method_1_code 26 = .ok (.newarray .int, 2) := by decide +kernel
theorem d_RR_init_28 : decode prog_9_method_1_code 28 = .ok (.putfield 18, 3) := by decide +kernel
theorem d_RR_init_31 : decode prog_9_method_1_code 31 = .ok (.aload_n 0, 1) := by decide +kernel
theorem d_RR_init_32 : decode prog_9_method_1_code 32 = .ok (.sipush 336, 3) := by decide +kernel
theorem d_RR_init_35 : decode prog_9_method_1_code 35 = .ok (.newarray .int, 2) := by decide +kernel
theorem d_RR_init_37 : decode prog_9_method_1_code 37 = .ok (.putfield 21, 3) := by decide +kernel
theorem d_RR_init_40 : decode prog_9_method_1_code 40 = .ok (.aload_n 0, 1) := by decide +kernel
theorem d_RR_init_41 : decode prog_9_method_1_code 41 = .ok (.sipush 336, 3) := by decide +kernel
theorem d_RR_init_44 : decode prog_9_method_1_code 44 = .ok (.newarray .boolean, 2) := by decide +kernel
theorem d_RR_init_46 : decode prog_9_method_1_code 46 = .ok (.putfield 24, 3) := by decide +kernel
theorem d_RR_init_49 : decode prog_9_method_1_code 49 = .ok (.aload_n 0, 1) := by decide +kernel
theorem d_RR_init_50 : decode prog_9_method_1_code 50 = .ok (.bipush 72, 2) := by decide +kernel
theorem d_RR_init_52 : decode prog_9_method_1_code 52 = .ok (.newarray .int, 2) := by decide +kernel
theorem d_RR_init_54 : decode prog_9_method_1_code 54 = .ok (.putfield 28, 3) := by decide +kernel
theorem d_RR_init_57 : decode prog_9_method_1_code 57 = .ok (.aload_n 0, 1) := by decide +kernel
theorem d_RR_init_58 : decode prog_9_method_1_code 58 = .ok (.bipush 72, 2) := by decide +kernel
theorem d_RR_init_60 : decode prog_9_method_1_code 60 = .ok (.newarray .int, 2) := by decide +kernel
theorem d_RR_init_62 : decode prog_9_method_1_code 62 = .ok (.putfield 31, 3) := by decide +kernel
theorem d_RR_init_65 : decode prog_9_method_1_code 65 = .ok (.aload_n 0, 1) := by decide +kernel
theorem d_RR_init_66 : decode prog_9_method_1_code 66 = .ok (.bipush 72, 2) := by decide +kernel
theorem d_RR_init_68 : decode prog_9_method_1_code 68 = .ok (.newarray .int, 2) := by decide +kernel
theorem d_RR_init_70 : decode prog_9_method_1_code 70 = .ok (.putfield 34, 3) := by decide +kernel
theorem d_RR_init_73 : decode prog_9_method_1_code 73 = .ok (.aload_n 0, 1) := by decide +kernel
theorem d_RR_init_74 : decode prog_9_method_1_code 74 = .ok (.bipush 72, 2) := by decide +kernel
theorem d_RR_init_76 : decode prog_9_method_1_code 76 = .ok (.newarray .boolean, 2) := by decide +kernel
theorem d_RR_init_78 : decode prog_9_method_1_code 78 = .ok (.putfield 37, 3) := by decide +kernel
theorem d_RR_init_81 : decode prog_9_method_1_code 81 = .ok (.return_, 1) := by decide +kernel
abbrev S_Ma : Type := Nat × Nat × Nat × Nat × Nat × Nat × Nat × Nat × Nat
def w_Ma (tA : Nat → ClassId) (h0 : Nat) (u : S_Ma) : va_W := match u with
  | (q7, q15, q23, q31, q44, q52, q60, q68, q76) => (h0, .inr (4, [.null, .int 0, .int 0, .ref q7, .int 0, .ref q15, .ref q23, .ref q31, .int 0, .int 0, .ref q44, .ref q52, .ref q60, .ref q68, .ref q76, .int 0])) :: ([] ++ [(q7, .inl (tA 0, 12, .inl (fun _ => 0)))] ++ [(q15, .inl (tA 0, 12, .inl (fun _ => 0)))] ++ [(q23, .inl (tA 0, 64, .inl (fun _ => 0)))] ++ [(q31, .inl (tA 0, 64, .inl (fun _ => 0)))] ++ [(q44, .inl (tA 0, 60, .inl (fun _ => 0)))] ++ [(q52, .inl (tA 0, 60, .inl (fun _ => 0)))] ++ [(q60, .inl (tA 0, 60, .inl (fun _ => 0)))] ++ [(q68, .inl (tA 0, 61, .inl (fun _ => 0)))] ++ [(q76, .inl (tA 0, 61, .inl (fun _ => 0)))])
theorem f_Ma : ∀ j, j < 16 → defaultValue (t_Ma j) = vp_V [.null, .int 0, .int 0, .null, .int 0, .null, .null, .null, .int 0, .int 0, .null, .null, .null, .null, .null, .int 0] j := by decide +kernel
set_option maxHeartbeats 4000000 in
set_option maxRecDepth 100000 in
theorem c_Ma_init (l : Launch) (D : va_G) (tA : Nat → ClassId) (h0 sz : Nat) : zMv l ({ cls := "ChanceArena$Machine", name := "<init>", desc := "()V" } : Jvm.MethodName) (zW (Jvm.Cond.code ({ cls := "ChanceArena$Machine", name := "<init>", desc := "()V" } : Jvm.MethodName) prog_5_method_1_code (1 : Nat) (Option.none : Option Jvm.ClassFile.FieldType))) { frames := 1, cells := 9, slots := 454, locals := 12 } [.ref h0] D tA [(h0, .inr (4, [.null, .int 0, .int 0, .null, .int 0, .null, .null, .null, .int 0, .int 0, .null, .null, .null, .null, .null, .int 0]))] sz (fun _ : S_Ma => True) (w_Ma tA h0) 9 454 := by
  refine zOpen (fun A => va_Qv _ (zPost D A (w_Ma tA h0)) A) (lv := [(0, .ref h0)]) (by decide) rfl (Nat.le_of_ble_eq_true rfl) rfl ?_
  intro p e s m below meth c A ls hx hb hr hml hh hg hown hlocks hnm hK hA hP hD0 hAw hS hl
  have hD := zD hD0 hAw
  refine lv_aload_n hx hb d_Ma_init_0 rfl (lv_at hl 0 rfl) ?_
  refine W.objInit hx hb hown (hg _ k1_168) (hg _ k1_46) (hg _ k1_47) rfl (by rw [hml]; exact hl.1) rfl d_Ma_init_1 (Nat.le_of_ble_eq_true rfl) (Nat.le_of_ble_eq_true rfl) ?_
  refine lv_aload_n hx hb d_Ma_init_4 rfl (lv_at hl 0 rfl) ?_
  refine lv_bipush (v := 12) hx hb d_Ma_init_5 (by decide) ?_
  refine zNewa (atype := .int) (ty := .int) (a0 := (12, .inl (fun _ => 0))) (N' := 12) hx hb rfl (hg _ k1_82) hK hP hD hS hA 0 rfl (fun _ h => by cases h) (fun _ => rfl) (by decide) (by decide) (by decide) (Nat.le_of_ble_eq_true rfl) (Nat.le_of_ble_eq_true rfl) d_Ma_init_7 (fun q7 H1 hP1 hD1 hS1 => ?_)
  clear hP hD hS
  refine zCons (fun T7 e7 hP2 hD2 => ?_) hP1 hD1
  clear hP1 hD1
  refine va_put (D := D) (ci := 4) (v := .ref q7) (ty := .array .int) (C := R_Ma) (T := T_Ma) (N := 16) hx hb hg i_Ma t_Ma o_Ma n_Ma hown hK hP2 hD2 hS1 0 rfl rfl 3 (by decide) (hg _ k1_178) (fun _ h9 => h9) rfl (by decide +kernel) rfl rfl (Nat.le_of_ble_eq_true rfl) d_Ma_init_9 (fun H3 locs3 hP3 hD3 hS3 => ?_)
  clear hP2 hD2 hS1
  replace hP3 : va_P D vwCl ((h0, .inr (4, [.null, .int 0, .int 0, .ref q7, .int 0, .null, .null, .null, .int 0, .int 0, .null, .null, .null, .null, .null, .int 0])) :: T7) _ := hP3
  replace hD3 : va_D A ((h0, .inr (4, [.null, .int 0, .int 0, .ref q7, .int 0, .null, .null, .null, .int 0, .int 0, .null, .null, .null, .null, .null, .int 0])) :: T7) := hD3
  refine lv_aload_n hx hb d_Ma_init_12 rfl (lv_at hl 0 rfl) ?_
  refine lv_bipush (v := 12) hx hb d_Ma_init_13 (by decide) ?_
  refine zNewa (atype := .int) (ty := .int) (a0 := (12, .inl (fun _ => 0))) (N' := 12) hx hb rfl (hg _ k1_82) hK hP3 hD3 hS3 hA 0 rfl (fun _ h => by cases h) (fun _ => rfl) (by decide) (by decide) (by decide) (Nat.le_of_ble_eq_true rfl) (Nat.le_of_ble_eq_true rfl) d_Ma_init_15 (fun q15 H4 hP4 hD4 hS4 => ?_)
  clear hP3 hD3 hS3
  refine zCons (fun T15 e15 hP5 hD5 => ?_) hP4 hD4
  clear hP4 hD4
  refine va_putF (D := D) (ci := 4) (v := .ref q15) (ty := .array .int) (C := R_Ma) (T := T_Ma) (N := 16) hx hb hg i_Ma t_Ma o_Ma n_Ma hown hK hP5 hD5 hS4 0 rfl rfl 5 (by decide) (hg _ k1_180) (fun _ h9 => h9) rfl hnm rfl (by decide +kernel) rfl rfl (Nat.le_of_ble_eq_true rfl) d_Ma_init_17 (fun H6 locs6 hP6 hD6 hS6 => ?_)
  clear hP5 hD5 hS4
  replace hP6 : va_P D vwCl ((h0, .inr (4, [.null, .int 0, .int 0, .ref q7, .int 0, .ref q15, .null, .null, .int 0, .int 0, .null, .null, .null, .null, .null, .int 0])) :: T15) _ := hP6
  replace hD6 : va_D A ((h0, .inr (4, [.null, .int 0, .int 0, .ref q7, .int 0, .ref q15, .null, .null, .int 0, .int 0, .null, .null, .null, .null, .null, .int 0])) :: T15) := hD6
  refine lv_aload_n hx hb d_Ma_init_20 rfl (lv_at hl 0 rfl) ?_
  refine lv_bipush (v := 64) hx hb d_Ma_init_21 (by decide) ?_
  refine zNewa (atype := .int) (ty := .int) (a0 := (64, .inl (fun _ => 0))) (N' := 64) hx hb rfl (hg _ k1_82) hK hP6 hD6 hS6 hA 0 rfl (fun _ h => by cases h) (fun _ => rfl) (by decide) (by decide) (by decide) (Nat.le_of_ble_eq_true rfl) (Nat.le_of_ble_eq_true rfl) d_Ma_init_23 (fun q23 H7 hP7 hD7 hS7 => ?_)
  clear hP6 hD6 hS6
  refine zCons (fun T23 e23 hP8 hD8 => ?_) hP7 hD7
  clear hP7 hD7
  refine va_put (D := D) (ci := 4) (v := .ref q23) (ty := .array .int) (C := R_Ma) (T := T_Ma) (N := 16) hx hb hg i_Ma t_Ma o_Ma n_Ma hown hK hP8 hD8 hS7 0 rfl rfl 6 (by decide) (hg _ k1_182) (fun _ h9 => h9) rfl (by decide +kernel) rfl rfl (Nat.le_of_ble_eq_true rfl) d_Ma_init_25 (fun H9 locs9 hP9 hD9 hS9 => ?_)
  clear hP8 hD8 hS7
  replace hP9 : va_P D vwCl ((h0, .inr (4, [.null, .int 0, .int 0, .ref q7, .int 0, .ref q15, .ref q23, .null, .int 0, .int 0, .null, .null, .null, .null, .null, .int 0])) :: T23) _ := hP9
  replace hD9 : va_D A ((h0, .inr (4, [.null, .int 0, .int 0, .ref q7, .int 0, .ref q15, .ref q23, .null, .int 0, .int 0, .null, .null, .null, .null, .null, .int 0])) :: T23) := hD9
  refine lv_aload_n hx hb d_Ma_init_28 rfl (lv_at hl 0 rfl) ?_
  refine lv_bipush (v := 64) hx hb d_Ma_init_29 (by decide) ?_
  refine zNewa (atype := .int) (ty := .int) (a0 := (64, .inl (fun _ => 0))) (N' := 64) hx hb rfl (hg _ k1_82) hK hP9 hD9 hS9 hA 0 rfl (fun _ h => by cases h) (fun _ => rfl) (by decide) (by decide) (by decide) (Nat.le_of_ble_eq_true rfl) (Nat.le_of_ble_eq_true rfl) d_Ma_init_31 (fun q31 H10 hP10 hD10 hS10 => ?_)
  clear hP9 hD9 hS9
  refine zCons (fun T31 e31 hP11 hD11 => ?_) hP10 hD10
  clear hP10 hD10
  refine va_put (D := D) (ci := 4) (v := .ref q31) (ty := .array .int) (C := R_Ma) (T := T_Ma) (N := 16) hx hb hg i_Ma t_Ma o_Ma n_Ma hown hK hP11 hD11 hS10 0 rfl rfl 7 (by decide) (hg _ k1_185) (fun _ h9 => h9) rfl (by decide +kernel) rfl rfl (Nat.le_of_ble_eq_true rfl) d_Ma_init_33 (fun H12 locs12 hP12 hD12 hS12 => ?_)
  clear hP11 hD11 hS10
  replace hP12 : va_P D vwCl ((h0, .inr (4, [.null, .int 0, .int 0, .ref q7, .int 0, .ref q15, .ref q23, .ref q31, .int 0, .int 0, .null, .null, .null, .null, .null, .int 0])) :: T31) _ := hP12
  replace hD12 : va_D A ((h0, .inr (4, [.null, .int 0, .int 0, .ref q7, .int 0, .ref q15, .ref q23, .ref q31, .int 0, .int 0, .null, .null, .null, .null, .null, .int 0])) :: T31) := hD12
  refine lv_aload_n hx hb d_Ma_init_36 rfl (lv_at hl 0 rfl) ?_
  refine lv_iconst (v := 0) hx hb d_Ma_init_37 (by decide) ?_
  refine va_put (D := D) (ci := 4) (v := .int 0) (ty := .int) (C := R_Ma) (T := T_Ma) (N := 16) hx hb hg i_Ma t_Ma o_Ma n_Ma hown hK hP12 hD12 hS12 0 rfl rfl 9 (by decide) (hg _ k1_189) (fun _ h9 => h9) rfl (by decide +kernel) rfl rfl (Nat.le_of_ble_eq_true rfl) d_Ma_init_38 (fun H13 locs13 hP13 hD13 hS13 => ?_)
  clear hP12 hD12 hS12
  replace hP13 : va_P D vwCl ((h0, .inr (4, [.null, .int 0, .int 0, .ref q7, .int 0, .ref q15, .ref q23, .ref q31, .int 0, .int 0, .null, .null, .null, .null, .null, .int 0])) :: T31) _ := hP13
  replace hD13 : va_D A ((h0, .inr (4, [.null, .int 0, .int 0, .ref q7, .int 0, .ref q15, .ref q23, .ref q31, .int 0, .int 0, .null, .null, .null, .null, .null, .int 0])) :: T31) := hD13
  refine lv_aload_n hx hb d_Ma_init_41 rfl (lv_at hl 0 rfl) ?_
  refine lv_bipush (v := 60) hx hb d_Ma_init_42 (by decide) ?_
  refine zNewa (atype := .int) (ty := .int) (a0 := (60, .inl (fun _ => 0))) (N' := 60) hx hb rfl (hg _ k1_82) hK hP13 hD13 hS13 hA 0 rfl (fun _ h => by cases h) (fun _ => rfl) (by decide) (by decide) (by decide) (Nat.le_of_ble_eq_true rfl) (Nat.le_of_ble_eq_true rfl) d_Ma_init_44 (fun q44 H14 hP14 hD14 hS14 => ?_)
  clear hP13 hD13 hS13
  refine zCons (fun T44 e44 hP15 hD15 => ?_) hP14 hD14
  clear hP14 hD14
  refine va_putF (D := D) (ci := 4) (v := .ref q44) (ty := .array .int) (C := R_Ma) (T := T_Ma) (N := 16) hx hb hg i_Ma t_Ma o_Ma n_Ma hown hK hP15 hD15 hS14 0 rfl rfl 10 (by decide) (hg _ k1_190) (fun _ h9 => h9) rfl hnm rfl (by decide +kernel) rfl rfl (Nat.le_of_ble_eq_true rfl) d_Ma_init_46 (fun H16 locs16 hP16 hD16 hS16 => ?_)
  clear hP15 hD15 hS14
  replace hP16 : va_P D vwCl ((h0, .inr (4, [.null, .int 0, .int 0, .ref q7, .int 0, .ref q15, .ref q23, .ref q31, .int 0, .int 0, .ref q44, .null, .null, .null, .null, .int 0])) :: T44) _ := hP16
  replace hD16 : va_D A ((h0, .inr (4, [.null, .int 0, .int 0, .ref q7, .int 0, .ref q15, .ref q23, .ref q31, .int 0, .int 0, .ref q44, .null, .null, .null, .null, .int 0])) :: T44) := hD16
  refine lv_aload_n hx hb d_Ma_init_49 rfl (lv_at hl 0 rfl) ?_
  refine lv_bipush (v := 60) hx hb d_Ma_init_50 (by decide) ?_
  refine zNewa (atype := .int) (ty := .int) (a0 := (60, .inl (fun _ => 0))) (N' := 60) hx hb rfl (hg _ k1_82) hK hP16 hD16 hS16 hA 0 rfl (fun _ h => by cases h) (fun _ => rfl) (by decide) (by decide) (by decide) (Nat.le_of_ble_eq_true rfl) (Nat.le_of_ble_eq_true rfl) d_Ma_init_52 (fun q52 H17 hP17 hD17 hS17 => ?_)
  clear hP16 hD16 hS16
  refine zCons (fun T52 e52 hP18 hD18 => ?_) hP17 hD17
  clear hP17 hD17
  refine va_putF (D := D) (ci := 4) (v := .ref q52) (ty := .array .int) (C := R_Ma) (T := T_Ma) (N := 16) hx hb hg i_Ma t_Ma o_Ma n_Ma hown hK hP18 hD18 hS17 0 rfl rfl 11 (by decide) (hg _ k1_191) (fun _ h9 => h9) rfl hnm rfl (by decide +kernel) rfl rfl (Nat.le_of_ble_eq_true rfl) d_Ma_init_54 (fun H19 locs19 hP19 hD19 hS19 => ?_)
  clear hP18 hD18 hS17
  replace hP19 : va_P D vwCl ((h0, .inr (4, [.null, .int 0, .int 0, .ref q7, .int 0, .ref q15, .ref q23, .ref q31, .int 0, .int 0, .ref q44, .ref q52, .null, .null, .null, .int 0])) :: T52) _ := hP19
  replace hD19 : va_D A ((h0, .inr (4, [.null, .int 0, .int 0, .ref q7, .int 0, .ref q15, .ref q23, .ref q31, .int 0, .int 0, .ref q44, .ref q52, .null, .null, .null, .int 0])) :: T52) := hD19
  refine lv_aload_n hx hb d_Ma_init_57 rfl (lv_at hl 0 rfl) ?_
  refine lv_bipush (v := 60) hx hb d_Ma_init_58 (by decide) ?_
  refine zNewa (atype := .int) (ty := .int) (a0 := (60, .inl (fun _ => 0))) (N' := 60) hx hb rfl (hg _ k1_82) hK hP19 hD19 hS19 hA 0 rfl (fun _ h => by cases h) (fun _ => rfl) (by decide) (by decide) (by decide) (Nat.le_of_ble_eq_true rfl) (Nat.le_of_ble_eq_true rfl) d_Ma_init_60 (fun q60 H20 hP20 hD20 hS20 => ?_)
  clear hP19 hD19 hS19
  refine zCons (fun T60 e60 hP21 hD21 => ?_) hP20 hD20
  clear hP20 hD20
  refine va_putF (D := D) (ci := 4) (v := .ref q60) (ty := .array .int) (C := R_Ma) (T := T_Ma) (N := 16) hx hb hg i_Ma t_Ma o_Ma n_Ma hown hK hP21 hD21 hS20 0 rfl rfl 12 (by decide) (hg _ k1_192) (fun _ h9 => h9) rfl hnm rfl (by decide +kernel) rfl rfl (Nat.le_of_ble_eq_true rfl) d_Ma_init_62 (fun H22 locs22 hP22 hD22 hS22 => ?_)
  clear hP21 hD21 hS20
  replace hP22 : va_P D vwCl ((h0, .inr (4, [.null, .int 0, .int 0, .ref q7, .int 0, .ref q15, .ref q23, .ref q31, .int 0, .int 0, .ref q44, .ref q52, .ref q60, .null, .null, .int 0])) :: T60) _ := hP22
  replace hD22 : va_D A ((h0, .inr (4, [.null, .int 0, .int 0, .ref q7, .int 0, .ref q15, .ref q23, .ref q31, .int 0, .int 0, .ref q44, .ref q52, .ref q60, .null, .null, .int 0])) :: T60) := hD22
  refine lv_aload_n hx hb d_Ma_init_65 rfl (lv_at hl 0 rfl) ?_
  refine lv_bipush (v := 61) hx hb d_Ma_init_66 (by decide) ?_
  refine zNewa (atype := .int) (ty := .int) (a0 := (61, .inl (fun _ => 0))) (N' := 61) hx hb rfl (hg _ k1_82) hK hP22 hD22 hS22 hA 0 rfl (fun _ h => by cases h) (fun _ => rfl) (by decide) (by decide) (by decide) (Nat.le_of_ble_eq_true rfl) (Nat.le_of_ble_eq_true rfl) d_Ma_init_68 (fun q68 H23 hP23 hD23 hS23 => ?_)
  clear hP22 hD22 hS22
  refine zCons (fun T68 e68 hP24 hD24 => ?_) hP23 hD23
  clear hP23 hD23
  refine va_putF (D := D) (ci := 4) (v := .ref q68) (ty := .array .int) (C := R_Ma) (T := T_Ma) (N := 16) hx hb hg i_Ma t_Ma o_Ma n_Ma hown hK hP24 hD24 hS23 0 rfl rfl 13 (by decide) (hg _ k1_193) (fun _ h9 => h9) rfl hnm rfl (by decide +kernel) rfl rfl (Nat.le_of_ble_eq_true rfl) d_Ma_init_70 (fun H25 locs25 hP25 hD25 hS25 => ?_)
  clear hP24 hD24 hS23
  replace hP25 : va_P D vwCl ((h0, .inr (4, [.null, .int 0, .int 0, .ref q7, .int 0, .ref q15, .ref q23, .ref q31, .int 0, .int 0, .ref q44, .ref q52, .ref q60, .ref q68, .null, .int 0])) :: T68) _ := hP25
  replace hD25 : va_D A ((h0, .inr (4, [.null, .int 0, .int 0, .ref q7, .int 0, .ref q15, .ref q23, .ref q31, .int 0, .int 0, .ref q44, .ref q52, .ref q60, .ref q68, .null, .int 0])) :: T68) := hD25
  refine lv_aload_n hx hb d_Ma_init_73 rfl (lv_at hl 0 rfl) ?_
  refine lv_bipush (v := 61) hx hb d_Ma_init_74 (by decide) ?_
  refine zNewa (atype := .int) (ty := .int) (a0 := (61, .inl (fun _ => 0))) (N' := 61) hx hb rfl (hg _ k1_82) hK hP25 hD25 hS25 hA 0 rfl (fun _ h => by cases h) (fun _ => rfl) (by decide) (by decide) (by decide) (Nat.le_of_ble_eq_true rfl) (Nat.le_of_ble_eq_true rfl) d_Ma_init_76 (fun q76 H26 hP26 hD26 hS26 => ?_)
  clear hP25 hD25 hS25
  refine zCons (fun T76 e76 hP27 hD27 => ?_) hP26 hD26
  clear hP26 hD26
  refine va_putF (D := D) (ci := 4) (v := .ref q76) (ty := .array .int) (C := R_Ma) (T := T_Ma) (N := 16) hx hb hg i_Ma t_Ma o_Ma n_Ma hown hK hP27 hD27 hS26 0 rfl rfl 14 (by decide) (hg _ k1_194) (fun _ h9 => h9) rfl hnm rfl (by decide +kernel) rfl rfl (Nat.le_of_ble_eq_true rfl) d_Ma_init_78 (fun H28 locs28 hP28 hD28 hS28 => ?_)
  clear hP27 hD27 hS26
  replace hP28 : va_P D vwCl ((h0, .inr (4, [.null, .int 0, .int 0, .ref q7, .int 0, .ref q15, .ref q23, .ref q31, .int 0, .int 0, .ref q44, .ref q52, .ref q60, .ref q68, .ref q76, .int 0])) :: T76) _ := hP28
  replace hD28 : va_D A ((h0, .inr (4, [.null, .int 0, .int 0, .ref q7, .int 0, .ref q15, .ref q23, .ref q31, .int 0, .int 0, .ref q44, .ref q52, .ref q60, .ref q68, .ref q76, .int 0])) :: T76) := hD28
  refine W.cs (cells' := 9) (slots' := 454) rfl rfl ?_
  exact zVret hx hb hr hlocks hP28 hD28 hS28 (q7, q15, q23, q31, q44, q52, q60, q68, q76) trivial (by rw [e76, e68, e60, e52, e44, e31, e23, e15, e7]; rfl) d_Ma_init_81
abbrev S_RR : Type := Nat × Nat × Nat × Nat × Nat × Nat × Nat × Nat × Nat
def w_RR (tA : Nat → ClassId) (h0 : Nat) (u : S_RR) : va_W := match u with
  | (q8, q17, q26, q35, q44, q52, q60, q68, q76) => (h0, .inr (3, [.null, .null, .int 0, .int 0, .int 0, .int 0, .int 0, .int 0, .ref q8, .ref q17, .ref q26, .ref q35, .int 0, .ref q44, .int 0, .ref q52, .ref q60, .ref q68, .ref q76, .int 0])) :: ([] ++ [(q8, .inl (tA 0, 336, .inl (fun _ => 0)))] ++ [(q17, .inl (tA 0, 336, .inl (fun _ => 0)))] ++ [(q26, .inl (tA 0, 336, .inl (fun _ => 0)))] ++ [(q35, .inl (tA 0, 336, .inl (fun _ => 0)))] ++ [(q44, .inl (tA 1, 336, .inl (fun _ => 0)))] ++ [(q52, .inl (tA 0, 72, .inl (fun _ => 0)))] ++ [(q60, .inl (tA 0, 72, .inl (fun _ => 0)))] ++ [(q68, .inl (tA 0, 72, .inl (fun _ => 0)))] ++ [(q76, .inl (tA 1, 72, .inl (fun _ => 0)))])
theorem f_RR : ∀ j, j < 20 → defaultValue (t_RR j) = vp_V [.null, .null, .int 0, .int 0, .int 0, .int 0, .int 0, .int 0, .null, .null, .null, .null, .int 0, .null, .int 0, .null, .null, .null, .null, .int 0] j := by decide +kernel
set_option maxHeartbeats 4000000 in
set_option maxRecDepth 100000 in
theorem c_RR_init (l : Launch) (D : va_G) (tA : Nat → ClassId) (h0 sz : Nat) : zMv l ({ cls := "ChanceArena$RuleReader", name := "<init>", desc := "()V" } : Jvm.MethodName) (zW (Jvm.Cond.code ({ cls := "ChanceArena$RuleReader", name := "<init>", desc := "()V" } : Jvm.MethodName) prog_9_method_1_code (1 : Nat) (Option.none : Option Jvm.ClassFile.FieldType))) { frames := 1, cells := 9, slots := 1968, locals := 12 } [.ref h0] D tA [(h0, .inr (3, [.null, .null, .int 0, .int 0, .int 0, .int 0, .int 0, .int 0, .null, .null, .null, .null, .int 0, .null, .int 0, .null, .null, .null, .null, .int 0]))] sz (fun _ : S_RR => True) (w_RR tA h0) 9 1968 := by
  refine zOpen (fun A => va_Qv _ (zPost D A (w_RR tA h0)) A) (lv := [(0, .ref h0)]) (by decide) rfl (Nat.le_of_ble_eq_true rfl) rfl ?_
  intro p e s m below meth c A ls hx hb hr hml hh hg hown hlocks hnm hK hA hP hD0 hAw hS hl
  have hD := zD hD0 hAw
  refine lv_aload_n hx hb d_RR_init_0 rfl (lv_at hl 0 rfl) ?_
  refine W.objInit hx hb hown (hg _ k1_94) (hg _ k1_46) (hg _ k1_47) rfl (by rw [hml]; exact hl.1) rfl d_RR_init_1 (Nat.le_of_ble_eq_true rfl) (Nat.le_of_ble_eq_true rfl) ?_
  refine lv_aload_n hx hb d_RR_init_4 rfl (lv_at hl 0 rfl) ?_
  refine lv_sipush (v := 336) hx hb d_RR_init_5 (by decide) ?_
  refine zNewa (atype := .int) (ty := .int) (a0 := (336, .inl (fun _ => 0))) (N' := 336) hx hb rfl (hg _ k1_82) hK hP hD hS hA 0 rfl (fun _ h => by cases h) (fun _ => rfl) (by decide) (by decide) (by decide) (Nat.le_of_ble_eq_true rfl) (Nat.le_of_ble_eq_true rfl) d_RR_init_8 (fun q8 H1 hP1 hD1 hS1 => ?_)
  clear hP hD hS
  refine zCons (fun T8 e8 hP2 hD2 => ?_) hP1 hD1
  clear hP1 hD1
  refine va_putF (D := D) (ci := 3) (v := .ref q8) (ty := .array .int) (C := R_RR) (T := T_RR) (N := 20) hx hb hg i_RR t_RR o_RR n_RR hown hK hP2 hD2 hS1 0 rfl rfl 8 (by decide) (hg _ k1_109) (fun _ h9 => h9) rfl hnm rfl (by decide +kernel) rfl rfl (Nat.le_of_ble_eq_true rfl) d_RR_init_10 (fun H3 locs3 hP3 hD3 hS3 => ?_)
  clear hP2 hD2 hS1
  replace hP3 : va_P D vwCl ((h0, .inr (3, [.null, .null, .int 0, .int 0, .int 0, .int 0, .int 0, .int 0, .ref q8, .null, .null, .null, .int 0, .null, .int 0, .null, .null, .null, .null, .int 0])) :: T8) _ := hP3
  replace hD3 : va_D A ((h0, .inr (3, [.null, .null, .int 0, .int 0, .int 0, .int 0, .int 0, .int 0, .ref q8, .null, .null, .null, .int 0, .null, .int 0, .null, .null, .null, .null, .int 0])) :: T8) := hD3
  refine lv_aload_n hx hb d_RR_init_13 rfl (lv_at hl 0 rfl) ?_
  refine lv_sipush (v := 336) hx hb d_RR_init_14 (by decide) ?_
  refine zNewa (atype := .int) (ty := .int) (a0 := (336, .inl (fun _ => 0))) (N' := 336) hx hb rfl (hg _ k1_82) hK hP3 hD3 hS3 hA 0 rfl (fun _ h => by cases h) (fun _ => rfl) (by decide) (by decide) (by decide) (Nat.le_of_ble_eq_true rfl) (Nat.le_of_ble_eq_true rfl) d_RR_init_17 (fun q17 H4 hP4 hD4 hS4 => ?_)
  clear hP3 hD3 hS3
  refine zCons (fun T17 e17 hP5 hD5 => ?_) hP4 hD4
  clear hP4 hD4
  refine va_putF (D := D) (ci := 3) (v := .ref q17) (ty := .array .int) (C := R_RR) (T := T_RR) (N := 20) hx hb hg i_RR t_RR o_RR n_RR hown hK hP5 hD5 hS4 0 rfl rfl 9 (by decide) (hg _ k1_110) (fun _ h9 => h9) rfl hnm rfl (by decide +kernel) rfl rfl (Nat.le_of_ble_eq_true rfl) d_RR_init_19 (fun H6 locs6 hP6 hD6 hS6 => ?_)
  clear hP5 hD5 hS4
  replace hP6 : va_P D vwCl ((h0, .inr (3, [.null, .null, .int 0, .int 0, .int 0, .int 0, .int 0, .int 0, .ref q8, .ref q17, .null, .null, .int 0, .null, .int 0, .null, .null, .null, .null, .int 0])) :: T17) _ := hP6
  replace hD6 : va_D A ((h0, .inr (3, [.null, .null, .int 0, .int 0, .int 0, .int 0, .int 0, .int 0, .ref q8, .ref q17, .null, .null, .int 0, .null, .int 0, .null, .null, .null, .null, .int 0])) :: T17) := hD6
  refine lv_aload_n hx hb d_RR_init_22 rfl (lv_at hl 0 rfl) ?_
  refine lv_sipush (v := 336) hx hb d_RR_init_23 (by decide) ?_
  refine zNewa (atype := .int) (ty := .int) (a0 := (336, .inl (fun _ => 0))) (N' := 336) hx hb rfl (hg _ k1_82) hK hP6 hD6 hS6 hA 0 rfl (fun _ h => by cases h) (fun _ => rfl) (by decide) (by decide) (by decide) (Nat.le_of_ble_eq_true rfl) (Nat.le_of_ble_eq_true rfl) d_RR_init_26 (fun q26 H7 hP7 hD7 hS7 => ?_)
  clear hP6 hD6 hS6
  refine zCons (fun T26 e26 hP8 hD8 => ?_) hP7 hD7
  clear hP7 hD7
  refine va_putF (D := D) (ci := 3) (v := .ref q26) (ty := .array .int) (C := R_RR) (T := T_RR) (N := 20) hx hb hg i_RR t_RR o_RR n_RR hown hK hP8 hD8 hS7 0 rfl rfl 10 (by decide) (hg _ k1_111) (fun _ h9 => h9) rfl hnm rfl (by decide +kernel) rfl rfl (Nat.le_of_ble_eq_true rfl) d_RR_init_28 (fun H9 locs9 hP9 hD9 hS9 => ?_)
  clear hP8 hD8 hS7
  replace hP9 : va_P D vwCl ((h0, .inr (3, [.null, .null, .int 0, .int 0, .int 0, .int 0, .int 0, .int 0, .ref q8, .ref q17, .ref q26, .null, .int 0, .null, .int 0, .null, .null, .null, .null, .int 0])) :: T26) _ := hP9
  replace hD9 : va_D A ((h0, .inr (3, [.null, .null, .int 0, .int 0, .int 0, .int 0, .int 0, .int 0, .ref q8, .ref q17, .ref q26, .null, .int 0, .null, .int 0, .null, .null, .null, .null, .int 0])) :: T26) := hD9
  refine lv_aload_n hx hb d_RR_init_31 rfl (lv_at hl 0 rfl) ?_
  refine lv_sipush (v := 336) hx hb d_RR_init_32 (by decide) ?_
  refine zNewa (atype := .int) (ty := .int) (a0 := (336, .inl (fun _ => 0))) (N' := 336) hx hb rfl (hg _ k1_82) hK hP9 hD9 hS9 hA 0 rfl (fun _ h => by cases h) (fun _ => rfl) (by decide) (by decide) (by decide) (Nat.le_of_ble_eq_true rfl) (Nat.le_of_ble_eq_true rfl) d_RR_init_35 (fun q35 H10 hP10 hD10 hS10 => ?_)
  clear hP9 hD9 hS9
  refine zCons (fun T35 e35 hP11 hD11 => ?_) hP10 hD10
  clear hP10 hD10
  refine va_putF (D := D) (ci := 3) (v := .ref q35) (ty := .array .int) (C := R_RR) (T := T_RR) (N := 20) hx hb hg i_RR t_RR o_RR n_RR hown hK hP11 hD11 hS10 0 rfl rfl 11 (by decide) (hg _ k1_112) (fun _ h9 => h9) rfl hnm rfl (by decide +kernel) rfl rfl (Nat.le_of_ble_eq_true rfl) d_RR_init_37 (fun H12 locs12 hP12 hD12 hS12 => ?_)
  clear hP11 hD11 hS10
  replace hP12 : va_P D vwCl ((h0, .inr (3, [.null, .null, .int 0, .int 0, .int 0, .int 0, .int 0, .int 0, .ref q8, .ref q17, .ref q26, .ref q35, .int 0, .null, .int 0, .null, .null, .null, .null, .int 0])) :: T35) _ := hP12
  replace hD12 : va_D A ((h0, .inr (3, [.null, .null, .int 0, .int 0, .int 0, .int 0, .int 0, .int 0, .ref q8, .ref q17, .ref q26, .ref q35, .int 0, .null, .int 0, .null, .null, .null, .null, .int 0])) :: T35) := hD12
  refine lv_aload_n hx hb d_RR_init_40 rfl (lv_at hl 0 rfl) ?_
  refine lv_sipush (v := 336) hx hb d_RR_init_41 (by decide) ?_
  refine zNewa (atype := .boolean) (ty := .boolean) (a0 := (336, .inl (fun _ => 0))) (N' := 336) hx hb rfl (hg _ k1_162) hK hP12 hD12 hS12 hA 1 rfl (fun _ h => by cases h) (fun _ => rfl) (by decide) (by decide) (by decide) (Nat.le_of_ble_eq_true rfl) (Nat.le_of_ble_eq_true rfl) d_RR_init_44 (fun q44 H13 hP13 hD13 hS13 => ?_)
  clear hP12 hD12 hS12
  refine zCons (fun T44 e44 hP14 hD14 => ?_) hP13 hD13
  clear hP13 hD13
  refine va_putF (D := D) (ci := 3) (v := .ref q44) (ty := .array .boolean) (C := R_RR) (T := T_RR) (N := 20) hx hb hg i_RR t_RR o_RR n_RR hown hK hP14 hD14 hS13 0 rfl rfl 13 (by decide) (hg _ k1_114) (fun _ h9 => h9) rfl hnm rfl (by decide +kernel) rfl rfl (Nat.le_of_ble_eq_true rfl) d_RR_init_46 (fun H15 locs15 hP15 hD15 hS15 => ?_)
  clear hP14 hD14 hS13
  replace hP15 : va_P D vwCl ((h0, .inr (3, [.null, .null, .int 0, .int 0, .int 0, .int 0, .int 0, .int 0, .ref q8, .ref q17, .ref q26, .ref q35, .int 0, .ref q44, .int 0, .null, .null, .null, .null, .int 0])) :: T44) _ := hP15
  replace hD15 : va_D A ((h0, .inr (3, [.null, .null, .int 0, .int 0, .int 0, .int 0, .int 0, .int 0, .ref q8, .ref q17, .ref q26, .ref q35, .int 0, .ref q44, .int 0, .null, .null, .null, .null, .int 0])) :: T44) := hD15
  refine lv_aload_n hx hb d_RR_init_49 rfl (lv_at hl 0 rfl) ?_
  refine lv_bipush (v := 72) hx hb d_RR_init_50 (by decide) ?_
  refine zNewa (atype := .int) (ty := .int) (a0 := (72, .inl (fun _ => 0))) (N' := 72) hx hb rfl (hg _ k1_82) hK hP15 hD15 hS15 hA 0 rfl (fun _ h => by cases h) (fun _ => rfl) (by decide) (by decide) (by decide) (Nat.le_of_ble_eq_true rfl) (Nat.le_of_ble_eq_true rfl) d_RR_init_52 (fun q52 H16 hP16 hD16 hS16 => ?_)
  clear hP15 hD15 hS15
  refine zCons (fun T52 e52 hP17 hD17 => ?_) hP16 hD16
  clear hP16 hD16
  refine va_putF (D := D) (ci := 3) (v := .ref q52) (ty := .array .int) (C := R_RR) (T := T_RR) (N := 20) hx hb hg i_RR t_RR o_RR n_RR hown hK hP17 hD17 hS16 0 rfl rfl 15 (by decide) (hg _ k1_116) (fun _ h9 => h9) rfl hnm rfl (by decide +kernel) rfl rfl (Nat.le_of_ble_eq_true rfl) d_RR_init_54 (fun H18 locs18 hP18 hD18 hS18 => ?_)
  clear hP17 hD17 hS16
  replace hP18 : va_P D vwCl ((h0, .inr (3, [.null, .null, .int 0, .int 0, .int 0, .int 0, .int 0, .int 0, .ref q8, .ref q17, .ref q26, .ref q35, .int 0, .ref q44, .int 0, .ref q52, .null, .null, .null, .int 0])) :: T52) _ := hP18
  replace hD18 : va_D A ((h0, .inr (3, [.null, .null, .int 0, .int 0, .int 0, .int 0, .int 0, .int 0, .ref q8, .ref q17, .ref q26, .ref q35, .int 0, .ref q44, .int 0, .ref q52, .null, .null, .null, .int 0])) :: T52) := hD18
  refine lv_aload_n hx hb d_RR_init_57 rfl (lv_at hl 0 rfl) ?_
  refine lv_bipush (v := 72) hx hb d_RR_init_58 (by decide) ?_
  refine zNewa (atype := .int) (ty := .int) (a0 := (72, .inl (fun _ => 0))) (N' := 72) hx hb rfl (hg _ k1_82) hK hP18 hD18 hS18 hA 0 rfl (fun _ h => by cases h) (fun _ => rfl) (by decide) (by decide) (by decide) (Nat.le_of_ble_eq_true rfl) (Nat.le_of_ble_eq_true rfl) d_RR_init_60 (fun q60 H19 hP19 hD19 hS19 => ?_)
  clear hP18 hD18 hS18
  refine zCons (fun T60 e60 hP20 hD20 => ?_) hP19 hD19
  clear hP19 hD19
  refine va_putF (D := D) (ci := 3) (v := .ref q60) (ty := .array .int) (C := R_RR) (T := T_RR) (N := 20) hx hb hg i_RR t_RR o_RR n_RR hown hK hP20 hD20 hS19 0 rfl rfl 16 (by decide) (hg _ k1_117) (fun _ h9 => h9) rfl hnm rfl (by decide +kernel) rfl rfl (Nat.le_of_ble_eq_true rfl) d_RR_init_62 (fun H21 locs21 hP21 hD21 hS21 => ?_)
  clear hP20 hD20 hS19
  replace hP21 : va_P D vwCl ((h0, .inr (3, [.null, .null, .int 0, .int 0, .int 0, .int 0, .int 0, .int 0, .ref q8, .ref q17, .ref q26, .ref q35, .int 0, .ref q44, .int 0, .ref q52, .ref q60, .null, .null, .int 0])) :: T60) _ := hP21
  replace hD21 : va_D A ((h0, .inr (3, [.null, .null, .int 0, .int 0, .int 0, .int 0, .int 0, .int 0, .ref q8, .ref q17, .ref q26, .ref q35, .int 0, .ref q44, .int 0, .ref q52, .ref q60, .null, .null, .int 0])) :: T60) := hD21
  refine lv_aload_n hx hb d_RR_init_65 rfl (lv_at hl 0 rfl) ?_
  refine lv_bipush (v := 72) hx hb d_RR_init_66 (by decide) ?_
  refine zNewa (atype := .int) (ty := .int) (a0 := (72, .inl (fun _ => 0))) (N' := 72) hx hb rfl (hg _ k1_82) hK hP21 hD21 hS21 hA 0 rfl (fun _ h => by cases h) (fun _ => rfl) (by decide) (by decide) (by decide) (Nat.le_of_ble_eq_true rfl) (Nat.le_of_ble_eq_true rfl) d_RR_init_68 (fun q68 H22 hP22 hD22 hS22 => ?_)
  clear hP21 hD21 hS21
  refine zCons (fun T68 e68 hP23 hD23 => ?_) hP22 hD22
  clear hP22 hD22
  refine va_putF (D := D) (ci := 3) (v := .ref q68) (ty := .array .int) (C := R_RR) (T := T_RR) (N := 20) hx hb hg i_RR t_RR o_RR n_RR hown hK hP23 hD23 hS22 0 rfl rfl 17 (by decide) (hg _ k1_118) (fun _ h9 => h9) rfl hnm rfl (by decide +kernel) rfl rfl (Nat.le_of_ble_eq_true rfl) d_RR_init_70 (fun H24 locs24 hP24 hD24 hS24 => ?_)
  clear hP23 hD23 hS22
  replace hP24 : va_P D vwCl ((h0, .inr (3, [.null, .null, .int 0, .int 0, .int 0, .int 0, .int 0, .int 0, .ref q8, .ref q17, .ref q26, .ref q35, .int 0, .ref q44, .int 0, .ref q52, .ref q60, .ref q68, .null, .int 0])) :: T68) _ := hP24
  replace hD24 : va_D A ((h0, .inr (3, [.null, .null, .int 0, .int 0, .int 0, .int 0, .int 0, .int 0, .ref q8, .ref q17, .ref q26, .ref q35, .int 0, .ref q44, .int 0, .ref q52, .ref q60, .ref q68, .null, .int 0])) :: T68) := hD24
  refine lv_aload_n hx hb d_RR_init_73 rfl (lv_at hl 0 rfl) ?_
  refine lv_bipush (v := 72) hx hb d_RR_init_74 (by decide) ?_
  refine zNewa (atype := .boolean) (ty := .boolean) (a0 := (72, .inl (fun _ => 0))) (N' := 72) hx hb rfl (hg _ k1_162) hK hP24 hD24 hS24 hA 1 rfl (fun _ h => by cases h) (fun _ => rfl) (by decide) (by decide) (by decide) (Nat.le_of_ble_eq_true rfl) (Nat.le_of_ble_eq_true rfl) d_RR_init_76 (fun q76 H25 hP25 hD25 hS25 => ?_)
  clear hP24 hD24 hS24
  refine zCons (fun T76 e76 hP26 hD26 => ?_) hP25 hD25
  clear hP25 hD25
  refine va_putF (D := D) (ci := 3) (v := .ref q76) (ty := .array .boolean) (C := R_RR) (T := T_RR) (N := 20) hx hb hg i_RR t_RR o_RR n_RR hown hK hP26 hD26 hS25 0 rfl rfl 18 (by decide) (hg _ k1_119) (fun _ h9 => h9) rfl hnm rfl (by decide +kernel) rfl rfl (Nat.le_of_ble_eq_true rfl) d_RR_init_78 (fun H27 locs27 hP27 hD27 hS27 => ?_)
  clear hP26 hD26 hS25
  replace hP27 : va_P D vwCl ((h0, .inr (3, [.null, .null, .int 0, .int 0, .int 0, .int 0, .int 0, .int 0, .ref q8, .ref q17, .ref q26, .ref q35, .int 0, .ref q44, .int 0, .ref q52, .ref q60, .ref q68, .ref q76, .int 0])) :: T76) _ := hP27
  replace hD27 : va_D A ((h0, .inr (3, [.null, .null, .int 0, .int 0, .int 0, .int 0, .int 0, .int 0, .ref q8, .ref q17, .ref q26, .ref q35, .int 0, .ref q44, .int 0, .ref q52, .ref q60, .ref q68, .ref q76, .int 0])) :: T76) := hD27
  refine W.cs (cells' := 9) (slots' := 1968) rfl rfl ?_
  exact zVret hx hb hr hlocks hP27 hD27 hS27 (q8, q17, q26, q35, q44, q52, q60, q68, q76) trivial (by rw [e76, e68, e60, e52, e44, e35, e26, e17, e8]; rfl) d_RR_init_81
end
section
theorem k1_4 : (Jvm.Cond.initialized "ChanceArena$RuleReader") ∈ lw_R := zR (zk_1 _ (List.mem_of_getElem? (i := 4) (by decide +kernel))) rfl
theorem k1_5 : (Jvm.Cond.initialized "ChanceArena$Machine") ∈ lw_R := zR (zk_1 _ (List.mem_of_getElem? (i := 5) (by decide +kernel))) rfl
theorem k1_87 : (Jvm.Cond.code ({ cls := "ChanceArena$TextReader", name := "<init>", desc := "()V" } : Jvm.MethodName) prog_12_method_1_code (1 : Nat) (Option.none : Option Jvm.ClassFile.FieldType)) ∈ lw_R := zR (zk_1 _ (List.mem_of_getElem? (i := 87) (by decide +kernel))) rfl
theorem k1_88 : (Jvm.Cond.methodLink "ChanceArena$TextReader" (3 : Nat) ({ cls := "java/lang/Object", name := "<init>", desc := "()V" } : Jvm.MethodName)) ∈ lw_R := zR (zk_1 _ (List.mem_of_getElem? (i := 88) (by decide +kernel))) rfl
theorem k1_89 : (Jvm.Cond.classLink "ChanceArena$TextReader" (9 : Nat) "ChanceArena$RuleReader") ∈ lw_R := zR (zk_1 _ (List.mem_of_getElem? (i := 89) (by decide +kernel))) rfl
theorem k1_90 : (Jvm.Cond.instantiable "ChanceArena$RuleReader" (20 : Nat)) ∈ lw_R := zR (zk_1 _ (List.mem_of_getElem? (i := 90) (by decide +kernel))) rfl
theorem k1_91 : (Jvm.Cond.methodLinkNest "ChanceArena$TextReader" (11 : Nat) ({ cls := "ChanceArena$RuleReader", name := "<init>", desc := "()V" } : Jvm.MethodName) "ChanceArena") ∈ lw_R := zR (zk_1 _ (List.mem_of_getElem? (i := 91) (by decide +kernel))) rfl
theorem k1_92 : (Jvm.Cond.instanceMethod ({ cls := "ChanceArena$RuleReader", name := "<init>", desc := "()V" } : Jvm.MethodName)) ∈ lw_R := zR (zk_1 _ (List.mem_of_getElem? (i := 92) (by decide +kernel))) rfl
theorem k1_163 : (Jvm.Cond.classLink "ChanceArena$TextReader" (18 : Nat) "ChanceArena$Machine") ∈ lw_R := zR (zk_1 _ (List.mem_of_getElem? (i := 163) (by decide +kernel))) rfl
theorem k1_164 : (Jvm.Cond.instantiable "ChanceArena$Machine" (16 : Nat)) ∈ lw_R := zR (zk_1 _ (List.mem_of_getElem? (i := 164) (by decide +kernel))) rfl
theorem k1_165 : (Jvm.Cond.methodLinkNest "ChanceArena$TextReader" (20 : Nat) ({ cls := "ChanceArena$Machine", name := "<init>", desc := "()V" } : Jvm.MethodName) "ChanceArena") ∈ lw_R := zR (zk_1 _ (List.mem_of_getElem? (i := 165) (by decide +kernel))) rfl
theorem k1_166 : (Jvm.Cond.instanceMethod ({ cls := "ChanceArena$Machine", name := "<init>", desc := "()V" } : Jvm.MethodName)) ∈ lw_R := zR (zk_1 _ (List.mem_of_getElem? (i := 166) (by decide +kernel))) rfl
theorem k1_229 : (Jvm.Cond.fieldLink "ChanceArena$TextReader" (12 : Nat) "ChanceArena$TextReader" "rules" "LChanceArena$RuleReader;") ∈ lw_R := zR (zk_1 _ (List.mem_of_getElem? (i := 229) (by decide +kernel))) rfl
theorem k1_230 : (Jvm.Cond.fieldLink "ChanceArena$TextReader" (21 : Nat) "ChanceArena$TextReader" "machine" "LChanceArena$Machine;") ∈ lw_R := zR (zk_1 _ (List.mem_of_getElem? (i := 230) (by decide +kernel))) rfl
theorem k1_234 : (Jvm.Cond.fieldLink "ChanceArena$TextReader" (25 : Nat) "ChanceArena$TextReader" "ruleStart" "[I") ∈ lw_R := zR (zk_1 _ (List.mem_of_getElem? (i := 234) (by decide +kernel))) rfl
theorem k1_235 : (Jvm.Cond.fieldLink "ChanceArena$TextReader" (29 : Nat) "ChanceArena$TextReader" "rulePlace" "[I") ∈ lw_R := zR (zk_1 _ (List.mem_of_getElem? (i := 235) (by decide +kernel))) rfl
theorem k2_130 : (Jvm.Cond.code ({ cls := "ChanceArena$Game", name := "<init>", desc := "()V" } : Jvm.MethodName) prog_4_method_1_code (1 : Nat) (Option.none : Option Jvm.ClassFile.FieldType)) ∈ lw_R := zR (zk_2 _ (List.mem_of_getElem? (i := 130) (by decide +kernel))) rfl
theorem k2_131 : (Jvm.Cond.methodLink "ChanceArena$Game" (3 : Nat) ({ cls := "java/lang/Object", name := "<init>", desc := "()V" } : Jvm.MethodName)) ∈ lw_R := zR (zk_2 _ (List.mem_of_getElem? (i := 131) (by decide +kernel))) rfl
theorem k2_132 : (Jvm.Cond.classLink "ChanceArena$Game" (39 : Nat) "ChanceArena$Machine") ∈ lw_R := zR (zk_2 _ (List.mem_of_getElem? (i := 132) (by decide +kernel))) rfl
theorem k2_133 : (Jvm.Cond.methodLinkNest "ChanceArena$Game" (41 : Nat) ({ cls := "ChanceArena$Machine", name := "<init>", desc := "()V" } : Jvm.MethodName) "ChanceArena") ∈ lw_R := zR (zk_2 _ (List.mem_of_getElem? (i := 133) (by decide +kernel))) rfl
theorem k2_139 : (Jvm.Cond.fieldLink "ChanceArena$Game" (9 : Nat) "ChanceArena$Game" "numbers" "[I") ∈ lw_R := zR (zk_2 _ (List.mem_of_getElem? (i := 139) (by decide +kernel))) rfl
theorem k2_141 : (Jvm.Cond.fieldLink "ChanceArena$Game" (15 : Nat) "ChanceArena$Game" "sorts" "[I") ∈ lw_R := zR (zk_2 _ (List.mem_of_getElem? (i := 141) (by decide +kernel))) rfl
theorem k2_146 : (Jvm.Cond.fieldLink "ChanceArena$Game" (18 : Nat) "ChanceArena$Game" "told" "[I") ∈ lw_R := zR (zk_2 _ (List.mem_of_getElem? (i := 146) (by decide +kernel))) rfl
theorem k2_149 : (Jvm.Cond.fieldLink "ChanceArena$Game" (21 : Nat) "ChanceArena$Game" "firstCommand" "[I") ∈ lw_R := zR (zk_2 _ (List.mem_of_getElem? (i := 149) (by decide +kernel))) rfl
theorem k2_153 : (Jvm.Cond.fieldLink "ChanceArena$Game" (24 : Nat) "ChanceArena$Game" "textCommand" "[I") ∈ lw_R := zR (zk_2 _ (List.mem_of_getElem? (i := 153) (by decide +kernel))) rfl
theorem k2_155 : (Jvm.Cond.fieldLink "ChanceArena$Game" (27 : Nat) "ChanceArena$Game" "multiple" "[I") ∈ lw_R := zR (zk_2 _ (List.mem_of_getElem? (i := 155) (by decide +kernel))) rfl
theorem k2_159 : (Jvm.Cond.fieldLink "ChanceArena$Game" (30 : Nat) "ChanceArena$Game" "firstBranch" "[I") ∈ lw_R := zR (zk_2 _ (List.mem_of_getElem? (i := 159) (by decide +kernel))) rfl
theorem k2_163 : (Jvm.Cond.fieldLink "ChanceArena$Game" (33 : Nat) "ChanceArena$Game" "goal" "[I") ∈ lw_R := zR (zk_2 _ (List.mem_of_getElem? (i := 163) (by decide +kernel))) rfl
theorem k2_167 : (Jvm.Cond.fieldLink "ChanceArena$Game" (36 : Nat) "ChanceArena$Game" "weight" "[I") ∈ lw_R := zR (zk_2 _ (List.mem_of_getElem? (i := 167) (by decide +kernel))) rfl
theorem k2_178 : (Jvm.Cond.fieldLink "ChanceArena$Game" (42 : Nat) "ChanceArena$Game" "machine" "LChanceArena$Machine;") ∈ lw_R := zR (zk_2 _ (List.mem_of_getElem? (i := 178) (by decide +kernel))) rfl
theorem k2_179 : (Jvm.Cond.fieldLink "ChanceArena$Game" (46 : Nat) "ChanceArena$Game" "slots" "[I") ∈ lw_R := zR (zk_2 _ (List.mem_of_getElem? (i := 179) (by decide +kernel))) rfl
theorem k2_180 : (Jvm.Cond.fieldLink "ChanceArena$Game" (49 : Nat) "ChanceArena$Game" "chanceAbove" "[I") ∈ lw_R := zR (zk_2 _ (List.mem_of_getElem? (i := 180) (by decide +kernel))) rfl
theorem k2_181 : (Jvm.Cond.fieldLink "ChanceArena$Game" (52 : Nat) "ChanceArena$Game" "chanceBelow" "[I") ∈ lw_R := zR (zk_2 _ (List.mem_of_getElem? (i := 181) (by decide +kernel))) rfl
theorem d_TR_init_0 : decode prog_12_method_1_code 0 = .ok (.aload_n 0, 1) := by decide +kernel
theorem d_TR_init_1 : decode prog_12_method_1_code 1 = .ok (.invokespecial 3, 3) := by decide +kernel
theorem d_TR_init_4 : decode prog_12_method_1_code 4 = .ok (.aload_n 0, 1) := by decide +kernel
theorem d_TR_init_5 : decode prog_12_method_1_code 5 = .ok (.new 9, 3) := by decide +kernel
theorem d_TR_init_8 : decode prog_12_method_1_code 8 = .ok (.dup, 1) := by decide +kernel
theorem d_TR_init_9 : decode prog_12_method_1_code 9 = .ok (.invokespecial 11, 3) := by decide +kernel
theorem d_TR_init_12 : decode prog_12_method_1_code 12 = .ok (.putfield 12, 3) := by decide +kernel
theorem d_TR_init_15 : decode prog_12_method_1_code 15 = .ok (.aload_n 0, 1) := by decide +kernel
theorem d_TR_init_16 : decode prog_12_method_1_code 16 = .ok (.new 18, 3) := by decide +kernel
theorem d_TR_init_19 : decode prog_12_method_1_code 19 = .ok (.dup, 1) := by decide +kernel
theorem d_TR_init_20 : decode prog_12_method_1_code 20 = .ok (.invokespecial 20, 3) := by decide +kernel
theorem d_TR_init_23 : decode prog_12_method_1_code 23 = .ok (.putfield 21, 3) := by decide +kernel
theorem d_TR_init_26 : decode prog_12_method_1_code 26 = .ok (.aload_n 0, 1) := by decide +kernel
theorem d_TR_init_27 : decode prog_12_method_1_code 27 = .ok (.iconst 3, 1) := by decide +kernel
theorem d_TR_init_28 : decode prog_12_method_1_code 28 = .ok (.newarray .int, 2) := by decide +kernel
theorem d_TR_init_30 : decode prog_12_method_1_code 30 = .ok (.putfield 25, 3) := by decide +kernel
theorem d_TR_init_33 : decode prog_12_method_1_code 33 = .ok (.aload_n 0, 1) := by decide +kernel
theorem d_TR_init_34 : decode prog_12_method_1_code 34 = .ok (.iconst 3, 1) := by decide +kernel
theorem d_TR_init_35 : decode prog_12_method_1_code 35 = .ok (.newarray .int, 2) := by decide +kernel
theorem d_TR_init_37 : decode prog_12_method_1_code 37 = .ok (.putfield 29, 3) := by decide +kernel
theorem d_TR_init_40 : decode prog_12_method_1_code 40 = .ok (.return_, 1) := by decide +kernel
theorem d_Ga_init_0 : decode prog_4_method_1_code 0 = .ok (.aload_n 0, 1) := by decide +kernel
theorem d_Ga_init_1 : decode prog_4_method_1_code 1 = .ok (.invokespecial 3, 3) := by decide +kernel
theorem d_Ga_init_4 : decode prog_4_method_1_code 4 = .ok (.aload_n 0, 1) := by decide +kernel
theorem d_Ga_init_5 : decode prog_4_method_1_code 5 = .ok (.sipush 6144, 3) := by decide +kernel
theorem d_Ga_init_8 : decode prog_4_method_1_code 8 = .ok (.newarray .int, 2) := by decide +kernel
theorem d_Ga_init_10 : decode prog_4_method_1_code 10 = .ok (.putfield 9, 3) := by decide +kernel
theorem d_Ga_init_13 : decode prog_4_method_1_code 13 = .ok (.aload_n 0, 1) := by decide +kernel
theorem d_Ga_init_14 : decode prog_4_method_1_code 14 = .ok (.sipush 512, 3) := by decide +kernel
theorem d_Ga_init_17 : decode prog_4_method_1_code 17 = .ok (.newarray .int, 2) := by decide +kernel
theorem d_Ga_init_19 : decode prog_4_method_1_code 19 = .ok (.putfield 15, 3) := by decide +kernel
theorem d_Ga_init_22 : decode prog_4_method_1_code 22 = .ok (.aload_n 0, 1) := by decide +kernel
theorem d_Ga_init_23 : decode prog_4_method_1_code 23 = .ok (.sipush 512, 3) := by decide +kernel
theorem d_Ga_init_26 : decode prog_4_method_1_code 26 = .ok (.newarray .int, 2) := by decide +kernel
theorem d_Ga_init_28 : decode prog_4_method_1_code 28 = .ok (.putfield 18, 3) := by decide +kernel
theorem d_Ga_init_31 : decode prog_4_method_1_code 31 = .ok (.aload_n 0, 1) := by decide +kernel
theorem d_Ga_init_32 : decode prog_4_method_1_code 32 = .ok (.sipush 513, 3) := by decide +kernel
theorem d_Ga_init_35 : decode prog_4_method_1_code 35 = .ok (.newarray .int, 2) := by decide +kernel
theorem d_Ga_init_37 : decode prog_4_method_1_code 37 = .ok (.putfield 21, 3) := by decide +kernel
theorem d_Ga_init_40 : decode prog_4_method_1_code 40 = .ok (.aload_n 0, 1) := by decide +kernel
theorem d_Ga_init_41 : decode prog_4_method_1_code 41 = .ok (.sipush 4097, 3) := by decide +kernel
theorem d_Ga_init_44 : decode prog_4_method_1_code 44 = .ok (.newarray .int, 2) := by decide +kernel
theorem d_Ga_init_46 : decode prog_4_method_1_code 46 = .ok (.putfield 24, 3) := by decide +kernel
theorem d_Ga_init_49 : decode prog_4_method_1_code 49 = .ok (.aload_n 0, 1) := by decide +kernel
theorem d_Ga_init_50 : decode prog_4_method_1_code 50 = .ok (.sipush 4097, 3) := by decide +kernel
theorem d_Ga_init_53 : decode prog_4_method_1_code 53 = .ok (.newarray .int, 2) := by decide +kernel
theorem d_Ga_init_55 : decode prog_4_method_1_code 55 = .ok (.putfield 27, 3) := by decide +kernel
theorem d_Ga_init_58 : decode prog_4_method_1_code 58 = .ok (.aload_n 0, 1) := by decide +kernel
theorem d_Ga_init_59 : decode prog_4_method_1_code 59 = .ok (.sipush 4098, 3) := by decide +kernel
theorem d_Ga_init_62 : decode prog_4_method_1_code 62 = .ok (.newarray .int, 2) := by decide +kernel
theorem d_Ga_init_64 : decode prog_4_method_1_code 64 = .ok (.putfield 30, 3) := by decide +kernel
theorem d_Ga_init_67 : decode prog_4_method_1_code 67 = .ok (.aload_n 0, 1) := by decide +kernel
theorem d_Ga_init_68 : decode prog_4_method_1_code 68 = .ok (.sipush 4096, 3) := by decide +kernel
theorem d_Ga_init_71 : decode prog_4_method_1_code 71 = .ok (.newarray .int, 2) := by decide +kernel
theorem d_Ga_init_73 : decode prog_4_method_1_code 73 = .ok (.putfield 33, 3) := by decide +kernel
theorem d_Ga_init_76 : decode prog_4_method_1_code 76 = .ok (.aload_n 0, 1) := by decide +kernel
theorem d_Ga_init_77 : decode prog_4_method_1_code 77 = .ok (.sipush 4096, 3) := by decide +kernel
theorem d_Ga_init_80 : decode prog_4_method_1_code 80 = .ok (.newarray .int, 2) := by decide +kernel
theorem d_Ga_init_82 : decode prog_4_method_1_code 82 = .ok (.putfield 36, 3) := by decide +kernel
theorem d_Ga_init_85 : decode prog_4_method_1_code 85 = .ok (.aload_n 0, 1) := by decide +kernel
theorem d_Ga_init_86 : decode prog_4_method_1_code 86 = .ok (.new 39, 3) := by decide +kernel
theorem d_Ga_init_89 : decode prog_4_method_1_code 89 = .ok (.dup, 1) := by decide +kernel
theorem d_Ga_init_90 : decode prog_4_method_1_code 90 = .ok (.invokespecial 41, 3) := by decide +kernel
theorem d_Ga_init_93 : decode prog_4_method_1_code 93 = .ok (.putfield 42, 3) := by decide +kernel
theorem d_Ga_init_96 : decode prog_4_method_1_code 96 = .ok (.aload_n 0, 1) := by decide +kernel
theorem d_Ga_init_97 : decode prog_4_method_1_code 97 = .ok (.sipush 1024, 3) := by decide +kernel
theorem d_Ga_init_100 : decode prog_4_method_1_code 100 = .ok (.newarray .int, 2) := by decide +kernel
theorem d_Ga_init_102 : decode prog_4_method_1_code 102 = .ok (.putfield 46, 3) := by decide +kernel
theorem d_Ga_init_105 : decode prog_4_method_1_code 105 = .ok (.aload_n 0, 1) := by decide +kernel
theorem d_Ga_init_106 : decode prog_4_method_1_code 106 = .ok (.bipush 8, 2) := by decide +kernel
theorem d_Ga_init_108 : decode prog_4_method_1_code 108 = .ok (.newarray .int, 2) := by decide +kernel
theorem d_Ga_init_110 : decode prog_4_method_1_code 110 = .ok (.putfield 49, 3) := by decide +kernel
theorem d_Ga_init_113 : decode prog_4_method_1_code 113 = .ok (.aload_n 0, 1) := by decide +kernel
theorem d_Ga_init_114 : decode prog_4_method_1_code 114 = .ok (.bipush 8, 2) := by decide +kernel
theorem d_Ga_init_116 : decode prog_4_method_1_code 116 = .ok (.newarray .int, 2) := by decide +kernel
theorem d_Ga_init_118 : decode prog_4_method_1_code 118 = .ok (.putfield 52, 3) := by decide +kernel
theorem d_Ga_init_121 : decode prog_4_method_1_code 121 = .ok (.return_, 1) := by decide +kernel
abbrev S_TR : Type := (Nat × S_RR) × (Nat × S_Ma) × Nat × Nat
def w_TR (tA : Nat → ClassId) (h0 : Nat) (u : S_TR) : va_W := match u with
  | ((q5, u5), (q16, u16), q28, q35) => (h0, .inr (2, [.ref q5, .ref q16, .null, .int 0, .int 0, .ref q28, .ref q35, .int 0, .int 0])) :: ([] ++ w_RR tA q5 u5 ++ w_Ma tA q16 u16 ++ [(q28, .inl (tA 0, 3, .inl (fun _ => 0)))] ++ [(q35, .inl (tA 0, 3, .inl (fun _ => 0)))])
theorem f_TR : ∀ j, j < 9 → defaultValue (t_TR j) = vp_V [.null, .null, .null, .int 0, .int 0, .null, .null, .int 0, .int 0] j := by decide +kernel
set_option maxHeartbeats 4000000 in
set_option maxRecDepth 100000 in
theorem c_TR_init (l : Launch) (D : va_G) (tA : Nat → ClassId) (h0 sz : Nat) : zMv l ({ cls := "ChanceArena$TextReader", name := "<init>", desc := "()V" } : Jvm.MethodName) (zW (Jvm.Cond.code ({ cls := "ChanceArena$TextReader", name := "<init>", desc := "()V" } : Jvm.MethodName) prog_12_method_1_code (1 : Nat) (Option.none : Option Jvm.ClassFile.FieldType))) { frames := 2, cells := 22, slots := 2464, locals := 32 } [.ref h0] D tA [(h0, .inr (2, [.null, .null, .null, .int 0, .int 0, .null, .null, .int 0, .int 0]))] sz (fun _ : S_TR => True) (w_TR tA h0) 22 2464 := by
  refine zOpen (fun A => va_Qv _ (zPost D A (w_TR tA h0)) A) (lv := [(0, .ref h0)]) (by decide) rfl (Nat.le_of_ble_eq_true rfl) rfl ?_
  intro p e s m below meth c A ls hx hb hr hml hh hg hown hlocks hnm hK hA hP hD0 hAw hS hl
  have hD := zD hD0 hAw
  refine lv_aload_n hx hb d_TR_init_0 rfl (lv_at hl 0 rfl) ?_
  refine W.objInit hx hb hown (hg _ k1_88) (hg _ k1_46) (hg _ k1_47) rfl (by rw [hml]; exact hl.1) rfl d_TR_init_1 (Nat.le_of_ble_eq_true rfl) (Nat.le_of_ble_eq_true rfl) ?_
  refine lv_aload_n hx hb d_TR_init_4 rfl (lv_at hl 0 rfl) ?_
  refine va_new (ci := 3) (fs := [.null, .null, .int 0, .int 0, .int 0, .int 0, .int 0, .int 0, .null, .null, .null, .null, .int 0, .null, .int 0, .null, .null, .null, .null, .int 0]) (C := R_RR) (T := T_RR) (N := 20) hx hb hg i_RR t_RR o_RR hown (hg _ k1_89) (hg _ k1_90) (hg _ k1_4) hK hP hD hS hA rfl f_RR (Nat.le_of_ble_eq_true rfl) (Nat.le_of_ble_eq_true rfl) d_TR_init_5 (fun q5 H1 hP1 hD1 hS1 => ?_)
  clear hP hD hS
  refine lv_dup hx hb d_TR_init_8 rfl ?_
  refine zInit hP1 hD1 hS1 hA (va_runIN (As := []) (rest := [.ref q5, .ref h0]) ⟨hx, hb, hml, hown, hg⟩ (c_RR_init l D tA q5 H1.size) ⟨va_cnB 0 hg (zGood k1_93 rfl) rfl rfl rfl (va_Nw.of rfl (hg _ k1_91)) (hg _ k1_4) (by decide +kernel) ⟨(Nat.le_of_ble_eq_true rfl), (Nat.le_of_ble_eq_true rfl)⟩, rfl, hg _ k1_92⟩ (zPreI hh hK hP1 hD1) rfl rfl hl.1 rfl (lv_room (Nat.le_of_ble_eq_true rfl)) d_TR_init_9 ⟨(Nat.le_of_ble_eq_true rfl), (Nat.le_of_ble_eq_true rfl)⟩) (fun u5 H2 locs2 _ hP2 hD2 hS2 => ?_)
  clear hP1 hD1 hS1
  refine zCons (fun T9 e9 hP3 hD3 => ?_) hP2 hD2
  clear hP2 hD2
  refine va_putF (D := D) (ci := 2) (v := .ref q5) (ty := .object "ChanceArena$RuleReader") (C := R_TR) (T := T_TR) (N := 9) hx hb hg i_TR t_TR o_TR n_TR hown hK hP3 hD3 hS2 0 rfl rfl 0 (by decide) (hg _ k1_229) (fun _ h9 => h9) rfl hnm rfl (by decide +kernel) rfl rfl (Nat.le_of_ble_eq_true rfl) d_TR_init_12 (fun H4 locs4 hP4 hD4 hS4 => ?_)
  clear hP3 hD3 hS2
  replace hP4 : va_P D vwCl ((h0, .inr (2, [.ref q5, .null, .null, .int 0, .int 0, .null, .null, .int 0, .int 0])) :: T9) _ := hP4
  replace hD4 : va_D A ((h0, .inr (2, [.ref q5, .null, .null, .int 0, .int 0, .null, .null, .int 0, .int 0])) :: T9) := hD4
  refine lv_aload_n hx hb d_TR_init_15 rfl (lv_at hl 0 rfl) ?_
  refine va_new (ci := 4) (fs := [.null, .int 0, .int 0, .null, .int 0, .null, .null, .null, .int 0, .int 0, .null, .null, .null, .null, .null, .int 0]) (C := R_Ma) (T := T_Ma) (N := 16) hx hb hg i_Ma t_Ma o_Ma hown (hg _ k1_163) (hg _ k1_164) (hg _ k1_5) hK hP4 hD4 hS4 hA rfl f_Ma (Nat.le_of_ble_eq_true rfl) (Nat.le_of_ble_eq_true rfl) d_TR_init_16 (fun q16 H5 hP5 hD5 hS5 => ?_)
  clear hP4 hD4 hS4
  refine lv_dup hx hb d_TR_init_19 rfl ?_
  refine zInit hP5 hD5 hS5 hA (va_runIN (As := []) (rest := [.ref q16, .ref h0]) ⟨hx, hb, hml, hown, hg⟩ (c_Ma_init l D tA q16 H5.size) ⟨va_cnB 0 hg (zGood k1_167 rfl) rfl rfl rfl (va_Nw.of rfl (hg _ k1_165)) (hg _ k1_5) (by decide +kernel) ⟨(Nat.le_of_ble_eq_true rfl), (Nat.le_of_ble_eq_true rfl)⟩, rfl, hg _ k1_166⟩ (zPreI hh hK hP5 hD5) rfl rfl hl.1 rfl (lv_room (Nat.le_of_ble_eq_true rfl)) d_TR_init_20 ⟨(Nat.le_of_ble_eq_true rfl), (Nat.le_of_ble_eq_true rfl)⟩) (fun u16 H6 locs6 _ hP6 hD6 hS6 => ?_)
  clear hP5 hD5 hS5
  refine zCons (fun T20 e20 hP7 hD7 => ?_) hP6 hD6
  clear hP6 hD6
  refine va_putF (D := D) (ci := 2) (v := .ref q16) (ty := .object "ChanceArena$Machine") (C := R_TR) (T := T_TR) (N := 9) hx hb hg i_TR t_TR o_TR n_TR hown hK hP7 hD7 hS6 0 rfl rfl 1 (by decide) (hg _ k1_230) (fun _ h9 => h9) rfl hnm rfl (by decide +kernel) rfl rfl (Nat.le_of_ble_eq_true rfl) d_TR_init_23 (fun H8 locs8 hP8 hD8 hS8 => ?_)
  clear hP7 hD7 hS6
  replace hP8 : va_P D vwCl ((h0, .inr (2, [.ref q5, .ref q16, .null, .int 0, .int 0, .null, .null, .int 0, .int 0])) :: T20) _ := hP8
  replace hD8 : va_D A ((h0, .inr (2, [.ref q5, .ref q16, .null, .int 0, .int 0, .null, .null, .int 0, .int 0])) :: T20) := hD8
  refine lv_aload_n hx hb d_TR_init_26 rfl (lv_at hl 0 rfl) ?_
  refine lv_iconst (v := 3) hx hb d_TR_init_27 (by decide) ?_
  refine zNewa (atype := .int) (ty := .int) (a0 := (3, .inl (fun _ => 0))) (N' := 3) hx hb rfl (hg _ k1_82) hK hP8 hD8 hS8 hA 0 rfl (fun _ h => by cases h) (fun _ => rfl) (by decide) (by decide) (by decide) (Nat.le_of_ble_eq_true rfl) (Nat.le_of_ble_eq_true rfl) d_TR_init_28 (fun q28 H9 hP9 hD9 hS9 => ?_)
  clear hP8 hD8 hS8
  refine zCons (fun T28 e28 hP10 hD10 => ?_) hP9 hD9
  clear hP9 hD9
  refine va_putF (D := D) (ci := 2) (v := .ref q28) (ty := .array .int) (C := R_TR) (T := T_TR) (N := 9) hx hb hg i_TR t_TR o_TR n_TR hown hK hP10 hD10 hS9 0 rfl rfl 5 (by decide) (hg _ k1_234) (fun _ h9 => h9) rfl hnm rfl (by decide +kernel) rfl rfl (Nat.le_of_ble_eq_true rfl) d_TR_init_30 (fun H11 locs11 hP11 hD11 hS11 => ?_)
  clear hP10 hD10 hS9
  replace hP11 : va_P D vwCl ((h0, .inr (2, [.ref q5, .ref q16, .null, .int 0, .int 0, .ref q28, .null, .int 0, .int 0])) :: T28) _ := hP11
  replace hD11 : va_D A ((h0, .inr (2, [.ref q5, .ref q16, .null, .int 0, .int 0, .ref q28, .null, .int 0, .int 0])) :: T28) := hD11
  refine lv_aload_n hx hb d_TR_init_33 rfl (lv_at hl 0 rfl) ?_
  refine lv_iconst (v := 3) hx hb d_TR_init_34 (by decide) ?_
  refine zNewa (atype := .int) (ty := .int) (a0 := (3, .inl (fun _ => 0))) (N' := 3) hx hb rfl (hg _ k1_82) hK hP11 hD11 hS11 hA 0 rfl (fun _ h => by cases h) (fun _ => rfl) (by decide) (by decide) (by decide) (Nat.le_of_ble_eq_true rfl) (Nat.le_of_ble_eq_true rfl) d_TR_init_35 (fun q35 H12 hP12 hD12 hS12 => ?_)
  clear hP11 hD11 hS11
  refine zCons (fun T35 e35 hP13 hD13 => ?_) hP12 hD12
  clear hP12 hD12
  refine va_putF (D := D) (ci := 2) (v := .ref q35) (ty := .array .int) (C := R_TR) (T := T_TR) (N := 9) hx hb hg i_TR t_TR o_TR n_TR hown hK hP13 hD13 hS12 0 rfl rfl 6 (by decide) (hg _ k1_235) (fun _ h9 => h9) rfl hnm rfl (by decide +kernel) rfl rfl (Nat.le_of_ble_eq_true rfl) d_TR_init_37 (fun H14 locs14 hP14 hD14 hS14 => ?_)
  clear hP13 hD13 hS12
  replace hP14 : va_P D vwCl ((h0, .inr (2, [.ref q5, .ref q16, .null, .int 0, .int 0, .ref q28, .ref q35, .int 0, .int 0])) :: T35) _ := hP14
  replace hD14 : va_D A ((h0, .inr (2, [.ref q5, .ref q16, .null, .int 0, .int 0, .ref q28, .ref q35, .int 0, .int 0])) :: T35) := hD14
  refine W.cs (cells' := 22) (slots' := 2464) rfl rfl ?_
  exact zVret hx hb hr hlocks hP14 hD14 hS14 ((q5, u5), (q16, u16), q28, q35) trivial (by rw [e35, e28, e20, e9]; rfl) d_TR_init_40
abbrev S_Ga : Type := Nat × Nat × Nat × Nat × Nat × Nat × Nat × Nat × Nat × (Nat × S_Ma) × Nat × Nat × Nat
def w_Ga (tA : Nat → ClassId) (h0 : Nat) (u : S_Ga) : va_W := match u with
  | (q8, q17, q26, q35, q44, q53, q62, q71, q80, (q86, u86), q100, q108, q116) => (h0, .inr (6, [.int 0, .ref q8, .ref q17, .ref q26, .ref q35, .ref q44, .ref q53, .ref q62, .ref q71, .ref q80, .int 0, .int 0, .int 0, .int 0, .null, .ref q86, .ref q100, .ref q108, .ref q116])) :: ([] ++ [(q8, .inl (tA 0, 6144, .inl (fun _ => 0)))] ++ [(q17, .inl (tA 0, 512, .inl (fun _ => 0)))] ++ [(q26, .inl (tA 0, 512, .inl (fun _ => 0)))] ++ [(q35, .inl (tA 0, 513, .inl (fun _ => 0)))] ++ [(q44, .inl (tA 0, 4097, .inl (fun _ => 0)))] ++ [(q53, .inl (tA 0, 4097, .inl (fun _ => 0)))] ++ [(q62, .inl (tA 0, 4098, .inl (fun _ => 0)))] ++ [(q71, .inl (tA 0, 4096, .inl (fun _ => 0)))] ++ [(q80, .inl (tA 0, 4096, .inl (fun _ => 0)))] ++ w_Ma tA q86 u86 ++ [(q100, .inl (tA 0, 1024, .inl (fun _ => 0)))] ++ [(q108, .inl (tA 0, 8, .inl (fun _ => 0)))] ++ [(q116, .inl (tA 0, 8, .inl (fun _ => 0)))])
theorem f_Ga : ∀ j, j < 19 → defaultValue (t_Ga j) = vp_V [.int 0, .null, .null, .null, .null, .null, .null, .null, .null, .null, .int 0, .int 0, .int 0, .int 0, .null, .null, .null, .null, .null] j := by decide +kernel
set_option maxHeartbeats 4000000 in
set_option maxRecDepth 100000 in
theorem c_Ga_init (l : Launch) (D : va_G) (tA : Nat → ClassId) (h0 sz : Nat) : zMv l ({ cls := "ChanceArena$Game", name := "<init>", desc := "()V" } : Jvm.MethodName) (zW (Jvm.Cond.code ({ cls := "ChanceArena$Game", name := "<init>", desc := "()V" } : Jvm.MethodName) prog_4_method_1_code (1 : Nat) (Option.none : Option Jvm.ClassFile.FieldType))) { frames := 2, cells := 22, slots := 29675, locals := 32 } [.ref h0] D tA [(h0, .inr (6, [.int 0, .null, .null, .null, .null, .null, .null, .null, .null, .null, .int 0, .int 0, .int 0, .int 0, .null, .null, .null, .null, .null]))] sz (fun _ : S_Ga => True) (w_Ga tA h0) 22 29675 := by
  refine zOpen (fun A => va_Qv _ (zPost D A (w_Ga tA h0)) A) (lv := [(0, .ref h0)]) (by decide) rfl (Nat.le_of_ble_eq_true rfl) rfl ?_
  intro p e s m below meth c A ls hx hb hr hml hh hg hown hlocks hnm hK hA hP hD0 hAw hS hl
  have hD := zD hD0 hAw
  refine lv_aload_n hx hb d_Ga_init_0 rfl (lv_at hl 0 rfl) ?_
  refine W.objInit hx hb hown (hg _ k2_131) (hg _ k1_46) (hg _ k1_47) rfl (by rw [hml]; exact hl.1) rfl d_Ga_init_1 (Nat.le_of_ble_eq_true rfl) (Nat.le_of_ble_eq_true rfl) ?_
  refine lv_aload_n hx hb d_Ga_init_4 rfl (lv_at hl 0 rfl) ?_
  refine lv_sipush (v := 6144) hx hb d_Ga_init_5 (by decide) ?_
  refine zNewa (atype := .int) (ty := .int) (a0 := (6144, .inl (fun _ => 0))) (N' := 6144) hx hb rfl (hg _ k1_82) hK hP hD hS hA 0 rfl (fun _ h => by cases h) (fun _ => rfl) (by decide) (by decide) (by decide) (Nat.le_of_ble_eq_true rfl) (Nat.le_of_ble_eq_true rfl) d_Ga_init_8 (fun q8 H1 hP1 hD1 hS1 => ?_)
  clear hP hD hS
  refine zCons (fun T8 e8 hP2 hD2 => ?_) hP1 hD1
  clear hP1 hD1
  refine va_putF (D := D) (ci := 6) (v := .ref q8) (ty := .array .int) (C := R_Ga) (T := T_Ga) (N := 19) hx hb hg i_Ga t_Ga o_Ga n_Ga hown hK hP2 hD2 hS1 0 rfl rfl 1 (by decide) (hg _ k2_139) (fun _ h9 => h9) rfl hnm rfl (by decide +kernel) rfl rfl (Nat.le_of_ble_eq_true rfl) d_Ga_init_10 (fun H3 locs3 hP3 hD3 hS3 => ?_)
  clear hP2 hD2 hS1
  replace hP3 : va_P D vwCl ((h0, .inr (6, [.int 0, .ref q8, .null, .null, .null, .null, .null, .null, .null, .null, .int 0, .int 0, .int 0, .int 0, .null, .null, .null, .null, .null])) :: T8) _ := hP3
  replace hD3 : va_D A ((h0, .inr (6, [.int 0, .ref q8, .null, .null, .null, .null, .null, .null, .null, .null, .int 0, .int 0, .int 0, .int 0, .null, .null, .null, .null, .null])) :: T8) := hD3
  refine lv_aload_n hx hb d_Ga_init_13 rfl (lv_at hl 0 rfl) ?_
  refine lv_sipush (v := 512) hx hb d_Ga_init_14 (by decide) ?_
  refine zNewa (atype := .int) (ty := .int) (a0 := (512, .inl (fun _ => 0))) (N' := 512) hx hb rfl (hg _ k1_82) hK hP3 hD3 hS3 hA 0 rfl (fun _ h => by cases h) (fun _ => rfl) (by decide) (by decide) (by decide) (Nat.le_of_ble_eq_true rfl) (Nat.le_of_ble_eq_true rfl) d_Ga_init_17 (fun q17 H4 hP4 hD4 hS4 => ?_)
  clear hP3 hD3 hS3
  refine zCons (fun T17 e17 hP5 hD5 => ?_) hP4 hD4
  clear hP4 hD4
  refine va_putF (D := D) (ci := 6) (v := .ref q17) (ty := .array .int) (C := R_Ga) (T := T_Ga) (N := 19) hx hb hg i_Ga t_Ga o_Ga n_Ga hown hK hP5 hD5 hS4 0 rfl rfl 2 (by decide) (hg _ k2_141) (fun _ h9 => h9) rfl hnm rfl (by decide +kernel) rfl rfl (Nat.le_of_ble_eq_true rfl) d_Ga_init_19 (fun H6 locs6 hP6 hD6 hS6 => ?_)
  clear hP5 hD5 hS4
  replace hP6 : va_P D vwCl ((h0, .inr (6, [.int 0, .ref q8, .ref q17, .null, .null, .null, .null, .null, .null, .null, .int 0, .int 0, .int 0, .int 0, .null, .null, .null, .null, .null])) :: T17) _ := hP6
  replace hD6 : va_D A ((h0, .inr (6, [.int 0, .ref q8, .ref q17, .null, .null, .null, .null, .null, .null, .null, .int 0, .int 0, .int 0, .int 0, .null, .null, .null, .null, .null])) :: T17) := hD6
  refine lv_aload_n hx hb d_Ga_init_22 rfl (lv_at hl 0 rfl) ?_
  refine lv_sipush (v := 512) hx hb d_Ga_init_23 (by decide) ?_
  refine zNewa (atype := .int) (ty := .int) (a0 := (512, .inl (fun _ => 0))) (N' := 512) hx hb rfl (hg _ k1_82) hK hP6 hD6 hS6 hA 0 rfl (fun _ h => by cases h) (fun _ => rfl) (by decide) (by decide) (by decide) (Nat.le_of_ble_eq_true rfl) (Nat.le_of_ble_eq_true rfl) d_Ga_init_26 (fun q26 H7 hP7 hD7 hS7 => ?_)
  clear hP6 hD6 hS6
  refine zCons (fun T26 e26 hP8 hD8 => ?_) hP7 hD7
  clear hP7 hD7
  refine va_putF (D := D) (ci := 6) (v := .ref q26) (ty := .array .int) (C := R_Ga) (T := T_Ga) (N := 19) hx hb hg i_Ga t_Ga o_Ga n_Ga hown hK hP8 hD8 hS7 0 rfl rfl 3 (by decide) (hg _ k2_146) (fun _ h9 => h9) rfl hnm rfl (by decide +kernel) rfl rfl (Nat.le_of_ble_eq_true rfl) d_Ga_init_28 (fun H9 locs9 hP9 hD9 hS9 => ?_)
  clear hP8 hD8 hS7
  replace hP9 : va_P D vwCl ((h0, .inr (6, [.int 0, .ref q8, .ref q17, .ref q26, .null, .null, .null, .null, .null, .null, .int 0, .int 0, .int 0, .int 0, .null, .null, .null, .null, .null])) :: T26) _ := hP9
  replace hD9 : va_D A ((h0, .inr (6, [.int 0, .ref q8, .ref q17, .ref q26, .null, .null, .null, .null, .null, .null, .int 0, .int 0, .int 0, .int 0, .null, .null, .null, .null, .null])) :: T26) := hD9
  refine lv_aload_n hx hb d_Ga_init_31 rfl (lv_at hl 0 rfl) ?_
  refine lv_sipush (v := 513) hx hb d_Ga_init_32 (by decide) ?_
  refine zNewa (atype := .int) (ty := .int) (a0 := (513, .inl (fun _ => 0))) (N' := 513) hx hb rfl (hg _ k1_82) hK hP9 hD9 hS9 hA 0 rfl (fun _ h => by cases h) (fun _ => rfl) (by decide) (by decide) (by decide) (Nat.le_of_ble_eq_true rfl) (Nat.le_of_ble_eq_true rfl) d_Ga_init_35 (fun q35 H10 hP10 hD10 hS10 => ?_)
  clear hP9 hD9 hS9
  refine zCons (fun T35 e35 hP11 hD11 => ?_) hP10 hD10
  clear hP10 hD10
  refine va_putF (D := D) (ci := 6) (v := .ref q35) (ty := .array .int) (C := R_Ga) (T := T_Ga) (N := 19) hx hb hg i_Ga t_Ga o_Ga n_Ga hown hK hP11 hD11 hS10 0 rfl rfl 4 (by decide) (hg _ k2_149) (fun _ h9 => h9) rfl hnm rfl (by decide +kernel) rfl rfl (Nat.le_of_ble_eq_true rfl) d_Ga_init_37 (fun H12 locs12 hP12 hD12 hS12 => ?_)
  clear hP11 hD11 hS10
  replace hP12 : va_P D vwCl ((h0, .inr (6, [.int 0, .ref q8, .ref q17, .ref q26, .ref q35, .null, .null, .null, .null, .null, .int 0, .int 0, .int 0, .int 0, .null, .null, .null, .null, .null])) :: T35) _ := hP12
  replace hD12 : va_D A ((h0, .inr (6, [.int 0, .ref q8, .ref q17, .ref q26, .ref q35, .null, .null, .null, .null, .null, .int 0, .int 0, .int 0, .int 0, .null, .null, .null, .null, .null])) :: T35) := hD12
  refine lv_aload_n hx hb d_Ga_init_40 rfl (lv_at hl 0 rfl) ?_
  refine lv_sipush (v := 4097) hx hb d_Ga_init_41 (by decide) ?_
  refine zNewa (atype := .int) (ty := .int) (a0 := (4097, .inl (fun _ => 0))) (N' := 4097) hx hb rfl (hg _ k1_82) hK hP12 hD12 hS12 hA 0 rfl (fun _ h => by cases h) (fun _ => rfl) (by decide) (by decide) (by decide) (Nat.le_of_ble_eq_true rfl) (Nat.le_of_ble_eq_true rfl) d_Ga_init_44 (fun q44 H13 hP13 hD13 hS13 => ?_)
  clear hP12 hD12 hS12
  refine zCons (fun T44 e44 hP14 hD14 => ?_) hP13 hD13
  clear hP13 hD13
  refine va_putF (D := D) (ci := 6) (v := .ref q44) (ty := .array .int) (C := R_Ga) (T := T_Ga) (N := 19) hx hb hg i_Ga t_Ga o_Ga n_Ga hown hK hP14 hD14 hS13 0 rfl rfl 5 (by decide) (hg _ k2_153) (fun _ h9 => h9) rfl hnm rfl (by decide +kernel) rfl rfl (Nat.le_of_ble_eq_true rfl) d_Ga_init_46 (fun H15 locs15 hP15 hD15 hS15 => ?_)
  clear hP14 hD14 hS13
  replace hP15 : va_P D vwCl ((h0, .inr (6, [.int 0, .ref q8, .ref q17, .ref q26, .ref q35, .ref q44, .null, .null, .null, .null, .int 0, .int 0, .int 0, .int 0, .null, .null, .null, .null, .null])) :: T44) _ := hP15
  replace hD15 : va_D A ((h0, .inr (6, [.int 0, .ref q8, .ref q17, .ref q26, .ref q35, .ref q44, .null, .null, .null, .null, .int 0, .int 0, .int 0, .int 0, .null, .null, .null, .null, .null])) :: T44) := hD15
  refine lv_aload_n hx hb d_Ga_init_49 rfl (lv_at hl 0 rfl) ?_
  refine lv_sipush (v := 4097) hx hb d_Ga_init_50 (by decide) ?_
  refine zNewa (atype := .int) (ty := .int) (a0 := (4097, .inl (fun _ => 0))) (N' := 4097) hx hb rfl (hg _ k1_82) hK hP15 hD15 hS15 hA 0 rfl (fun _ h => by cases h) (fun _ => rfl) (by decide) (by decide) (by decide) (Nat.le_of_ble_eq_true rfl) (Nat.le_of_ble_eq_true rfl) d_Ga_init_53 (fun q53 H16 hP16 hD16 hS16 => ?_)
  clear hP15 hD15 hS15
  refine zCons (fun T53 e53 hP17 hD17 => ?_) hP16 hD16
  clear hP16 hD16
  refine va_putF (D := D) (ci := 6) (v := .ref q53) (ty := .array .int) (C := R_Ga) (T := T_Ga) (N := 19) hx hb hg i_Ga t_Ga o_Ga n_Ga hown hK hP17 hD17 hS16 0 rfl rfl 6 (by decide) (hg _ k2_155) (fun _ h9 => h9) rfl hnm rfl (by decide +kernel) rfl rfl (Nat.le_of_ble_eq_true rfl) d_Ga_init_55 (fun H18 locs18 hP18 hD18 hS18 => ?_)
  clear hP17 hD17 hS16
  replace hP18 : va_P D vwCl ((h0, .inr (6, [.int 0, .ref q8, .ref q17, .ref q26, .ref q35, .ref q44, .ref q53, .null, .null, .null, .int 0, .int 0, .int 0, .int 0, .null, .null, .null, .null, .null])) :: T53) _ := hP18
  replace hD18 : va_D A ((h0, .inr (6, [.int 0, .ref q8, .ref q17, .ref q26, .ref q35, .ref q44, .ref q53, .null, .null, .null, .int 0, .int 0, .int 0, .int 0, .null, .null, .null, .null, .null])) :: T53) := hD18
  refine lv_aload_n hx hb d_Ga_init_58 rfl (lv_at hl 0 rfl) ?_
  refine lv_sipush (v := 4098) hx hb d_Ga_init_59 (by decide) ?_
  refine zNewa (atype := .int) (ty := .int) (a0 := (4098, .inl (fun _ => 0))) (N' := 4098) hx hb rfl (hg _ k1_82) hK hP18 hD18 hS18 hA 0 rfl (fun _ h => by cases h) (fun _ => rfl) (by decide) (by decide) (by decide) (Nat.le_of_ble_eq_true rfl) (Nat.le_of_ble_eq_true rfl) d_Ga_init_62 (fun q62 H19 hP19 hD19 hS19 => ?_)
  clear hP18 hD18 hS18
  refine zCons (fun T62 e62 hP20 hD20 => ?_) hP19 hD19
  clear hP19 hD19
  refine va_putF (D := D) (ci := 6) (v := .ref q62) (ty := .array .int) (C := R_Ga) (T := T_Ga) (N := 19) hx hb hg i_Ga t_Ga o_Ga n_Ga hown hK hP20 hD20 hS19 0 rfl rfl 7 (by decide) (hg _ k2_159) (fun _ h9 => h9) rfl hnm rfl (by decide +kernel) rfl rfl (Nat.le_of_ble_eq_true rfl) d_Ga_init_64 (fun H21 locs21 hP21 hD21 hS21 => ?_)
  clear hP20 hD20 hS19
  replace hP21 : va_P D vwCl ((h0, .inr (6, [.int 0, .ref q8, .ref q17, .ref q26, .ref q35, .ref q44, .ref q53, .ref q62, .null, .null, .int 0, .int 0, .int 0, .int 0, .null, .null, .null, .null, .null])) :: T62) _ := hP21
  replace hD21 : va_D A ((h0, .inr (6, [.int 0, .ref q8, .ref q17, .ref q26, .ref q35, .ref q44, .ref q53, .ref q62, .null, .null, .int 0, .int 0, .int 0, .int 0, .null, .null, .null, .null, .null])) :: T62) := hD21
  refine lv_aload_n hx hb d_Ga_init_67 rfl (lv_at hl 0 rfl) ?_
  refine lv_sipush (v := 4096) hx hb d_Ga_init_68 (by decide) ?_
  refine zNewa (atype := .int) (ty := .int) (a0 := (4096, .inl (fun _ => 0))) (N' := 4096) hx hb rfl (hg _ k1_82) hK hP21 hD21 hS21 hA 0 rfl (fun _ h => by cases h) (fun _ => rfl) (by decide) (by decide) (by decide) (Nat.le_of_ble_eq_true rfl) (Nat.le_of_ble_eq_true rfl) d_Ga_init_71 (fun q71 H22 hP22 hD22 hS22 => ?_)
  clear hP21 hD21 hS21
  refine zCons (fun T71 e71 hP23 hD23 => ?_) hP22 hD22
  clear hP22 hD22
  refine va_putF (D := D) (ci := 6) (v := .ref q71) (ty := .array .int) (C := R_Ga) (T := T_Ga) (N := 19) hx hb hg i_Ga t_Ga o_Ga n_Ga hown hK hP23 hD23 hS22 0 rfl rfl 8 (by decide) (hg _ k2_163) (fun _ h9 => h9) rfl hnm rfl (by decide +kernel) rfl rfl (Nat.le_of_ble_eq_true rfl) d_Ga_init_73 (fun H24 locs24 hP24 hD24 hS24 => ?_)
  clear hP23 hD23 hS22
  replace hP24 : va_P D vwCl ((h0, .inr (6, [.int 0, .ref q8, .ref q17, .ref q26, .ref q35, .ref q44, .ref q53, .ref q62, .ref q71, .null, .int 0, .int 0, .int 0, .int 0, .null, .null, .null, .null, .null])) :: T71) _ := hP24
  replace hD24 : va_D A ((h0, .inr (6, [.int 0, .ref q8, .ref q17, .ref q26, .ref q35, .ref q44, .ref q53, .ref q62, .ref q71, .null, .int 0, .int 0, .int 0, .int 0, .null, .null, .null, .null, .null])) :: T71) := hD24
  refine lv_aload_n hx hb d_Ga_init_76 rfl (lv_at hl 0 rfl) ?_
  refine lv_sipush (v := 4096) hx hb d_Ga_init_77 (by decide) ?_
  refine zNewa (atype := .int) (ty := .int) (a0 := (4096, .inl (fun _ => 0))) (N' := 4096) hx hb rfl (hg _ k1_82) hK hP24 hD24 hS24 hA 0 rfl (fun _ h => by cases h) (fun _ => rfl) (by decide) (by decide) (by decide) (Nat.le_of_ble_eq_true rfl) (Nat.le_of_ble_eq_true rfl) d_Ga_init_80 (fun q80 H25 hP25 hD25 hS25 => ?_)
  clear hP24 hD24 hS24
  refine zCons (fun T80 e80 hP26 hD26 => ?_) hP25 hD25
  clear hP25 hD25
  refine va_putF (D := D) (ci := 6) (v := .ref q80) (ty := .array .int) (C := R_Ga) (T := T_Ga) (N := 19) hx hb hg i_Ga t_Ga o_Ga n_Ga hown hK hP26 hD26 hS25 0 rfl rfl 9 (by decide) (hg _ k2_167) (fun _ h9 => h9) rfl hnm rfl (by decide +kernel) rfl rfl (Nat.le_of_ble_eq_true rfl) d_Ga_init_82 (fun H27 locs27 hP27 hD27 hS27 => ?_)
  clear hP26 hD26 hS25
  replace hP27 : va_P D vwCl ((h0, .inr (6, [.int 0, .ref q8, .ref q17, .ref q26, .ref q35, .ref q44, .ref q53, .ref q62, .ref q71, .ref q80, .int 0, .int 0, .int 0, .int 0, .null, .null, .null, .null, .null])) :: T80) _ := hP27
  replace hD27 : va_D A ((h0, .inr (6, [.int 0, .ref q8, .ref q17, .ref q26, .ref q35, .ref q44, .ref q53, .ref q62, .ref q71, .ref q80, .int 0, .int 0, .int 0, .int 0, .null, .null, .null, .null, .null])) :: T80) := hD27
  refine lv_aload_n hx hb d_Ga_init_85 rfl (lv_at hl 0 rfl) ?_
  refine va_new (ci := 4) (fs := [.null, .int 0, .int 0, .null, .int 0, .null, .null, .null, .int 0, .int 0, .null, .null, .null, .null, .null, .int 0]) (C := R_Ma) (T := T_Ma) (N := 16) hx hb hg i_Ma t_Ma o_Ma hown (hg _ k2_132) (hg _ k1_164) (hg _ k1_5) hK hP27 hD27 hS27 hA rfl f_Ma (Nat.le_of_ble_eq_true rfl) (Nat.le_of_ble_eq_true rfl) d_Ga_init_86 (fun q86 H28 hP28 hD28 hS28 => ?_)
  clear hP27 hD27 hS27
  refine lv_dup hx hb d_Ga_init_89 rfl ?_
  refine zInit hP28 hD28 hS28 hA (va_runIN (As := []) (rest := [.ref q86, .ref h0]) ⟨hx, hb, hml, hown, hg⟩ (c_Ma_init l D tA q86 H28.size) ⟨va_cnB 0 hg (zGood k1_167 rfl) rfl rfl rfl (va_Nw.of rfl (hg _ k2_133)) (hg _ k1_5) (by decide +kernel) ⟨(Nat.le_of_ble_eq_true rfl), (Nat.le_of_ble_eq_true rfl)⟩, rfl, hg _ k1_166⟩ (zPreI hh hK hP28 hD28) rfl rfl hl.1 rfl (lv_room (Nat.le_of_ble_eq_true rfl)) d_Ga_init_90 ⟨(Nat.le_of_ble_eq_true rfl), (Nat.le_of_ble_eq_true rfl)⟩) (fun u86 H29 locs29 _ hP29 hD29 hS29 => ?_)
  clear hP28 hD28 hS28
  refine zCons (fun T90 e90 hP30 hD30 => ?_) hP29 hD29
  clear hP29 hD29
  refine va_putF (D := D) (ci := 6) (v := .ref q86) (ty := .object "ChanceArena$Machine") (C := R_Ga) (T := T_Ga) (N := 19) hx hb hg i_Ga t_Ga o_Ga n_Ga hown hK hP30 hD30 hS29 0 rfl rfl 15 (by decide) (hg _ k2_178) (fun _ h9 => h9) rfl hnm rfl (by decide +kernel) rfl rfl (Nat.le_of_ble_eq_true rfl) d_Ga_init_93 (fun H31 locs31 hP31 hD31 hS31 => ?_)
  clear hP30 hD30 hS29
  replace hP31 : va_P D vwCl ((h0, .inr (6, [.int 0, .ref q8, .ref q17, .ref q26, .ref q35, .ref q44, .ref q53, .ref q62, .ref q71, .ref q80, .int 0, .int 0, .int 0, .int 0, .null, .ref q86, .null, .null, .null])) :: T90) _ := hP31
  replace hD31 : va_D A ((h0, .inr (6, [.int 0, .ref q8, .ref q17, .ref q26, .ref q35, .ref q44, .ref q53, .ref q62, .ref q71, .ref q80, .int 0, .int 0, .int 0, .int 0, .null, .ref q86, .null, .null, .null])) :: T90) := hD31
  refine lv_aload_n hx hb d_Ga_init_96 rfl (lv_at hl 0 rfl) ?_
  refine lv_sipush (v := 1024) hx hb d_Ga_init_97 (by decide) ?_
  refine zNewa (atype := .int) (ty := .int) (a0 := (1024, .inl (fun _ => 0))) (N' := 1024) hx hb rfl (hg _ k1_82) hK hP31 hD31 hS31 hA 0 rfl (fun _ h => by cases h) (fun _ => rfl) (by decide) (by decide) (by decide) (Nat.le_of_ble_eq_true rfl) (Nat.le_of_ble_eq_true rfl) d_Ga_init_100 (fun q100 H32 hP32 hD32 hS32 => ?_)
  clear hP31 hD31 hS31
  refine zCons (fun T100 e100 hP33 hD33 => ?_) hP32 hD32
  clear hP32 hD32
  refine va_putF (D := D) (ci := 6) (v := .ref q100) (ty := .array .int) (C := R_Ga) (T := T_Ga) (N := 19) hx hb hg i_Ga t_Ga o_Ga n_Ga hown hK hP33 hD33 hS32 0 rfl rfl 16 (by decide) (hg _ k2_179) (fun _ h9 => h9) rfl hnm rfl (by decide +kernel) rfl rfl (Nat.le_of_ble_eq_true rfl) d_Ga_init_102 (fun H34 locs34 hP34 hD34 hS34 => ?_)
  clear hP33 hD33 hS32
  replace hP34 : va_P D vwCl ((h0, .inr (6, [.int 0, .ref q8, .ref q17, .ref q26, .ref q35, .ref q44, .ref q53, .ref q62, .ref q71, .ref q80, .int 0, .int 0, .int 0, .int 0, .null, .ref q86, .ref q100, .null, .null])) :: T100) _ := hP34
  replace hD34 : va_D A ((h0, .inr (6, [.int 0, .ref q8, .ref q17, .ref q26, .ref q35, .ref q44, .ref q53, .ref q62, .ref q71, .ref q80, .int 0, .int 0, .int 0, .int 0, .null, .ref q86, .ref q100, .null, .null])) :: T100) := hD34
  refine lv_aload_n hx hb d_Ga_init_105 rfl (lv_at hl 0 rfl) ?_
  refine lv_bipush (v := 8) hx hb d_Ga_init_106 (by decide) ?_
  refine zNewa (atype := .int) (ty := .int) (a0 := (8, .inl (fun _ => 0))) (N' := 8) hx hb rfl (hg _ k1_82) hK hP34 hD34 hS34 hA 0 rfl (fun _ h => by cases h) (fun _ => rfl) (by decide) (by decide) (by decide) (Nat.le_of_ble_eq_true rfl) (Nat.le_of_ble_eq_true rfl) d_Ga_init_108 (fun q108 H35 hP35 hD35 hS35 => ?_)
  clear hP34 hD34 hS34
  refine zCons (fun T108 e108 hP36 hD36 => ?_) hP35 hD35
  clear hP35 hD35
  refine va_putF (D := D) (ci := 6) (v := .ref q108) (ty := .array .int) (C := R_Ga) (T := T_Ga) (N := 19) hx hb hg i_Ga t_Ga o_Ga n_Ga hown hK hP36 hD36 hS35 0 rfl rfl 17 (by decide) (hg _ k2_180) (fun _ h9 => h9) rfl hnm rfl (by decide +kernel) rfl rfl (Nat.le_of_ble_eq_true rfl) d_Ga_init_110 (fun H37 locs37 hP37 hD37 hS37 => ?_)
  clear hP36 hD36 hS35
  replace hP37 : va_P D vwCl ((h0, .inr (6, [.int 0, .ref q8, .ref q17, .ref q26, .ref q35, .ref q44, .ref q53, .ref q62, .ref q71, .ref q80, .int 0, .int 0, .int 0, .int 0, .null, .ref q86, .ref q100, .ref q108, .null])) :: T108) _ := hP37
  replace hD37 : va_D A ((h0, .inr (6, [.int 0, .ref q8, .ref q17, .ref q26, .ref q35, .ref q44, .ref q53, .ref q62, .ref q71, .ref q80, .int 0, .int 0, .int 0, .int 0, .null, .ref q86, .ref q100, .ref q108, .null])) :: T108) := hD37
  refine lv_aload_n hx hb d_Ga_init_113 rfl (lv_at hl 0 rfl) ?_
  refine lv_bipush (v := 8) hx hb d_Ga_init_114 (by decide) ?_
  refine zNewa (atype := .int) (ty := .int) (a0 := (8, .inl (fun _ => 0))) (N' := 8) hx hb rfl (hg _ k1_82) hK hP37 hD37 hS37 hA 0 rfl (fun _ h => by cases h) (fun _ => rfl) (by decide) (by decide) (by decide) (Nat.le_of_ble_eq_true rfl) (Nat.le_of_ble_eq_true rfl) d_Ga_init_116 (fun q116 H38 hP38 hD38 hS38 => ?_)
  clear hP37 hD37 hS37
  refine zCons (fun T116 e116 hP39 hD39 => ?_) hP38 hD38
  clear hP38 hD38
  refine va_putF (D := D) (ci := 6) (v := .ref q116) (ty := .array .int) (C := R_Ga) (T := T_Ga) (N := 19) hx hb hg i_Ga t_Ga o_Ga n_Ga hown hK hP39 hD39 hS38 0 rfl rfl 18 (by decide) (hg _ k2_181) (fun _ h9 => h9) rfl hnm rfl (by decide +kernel) rfl rfl (Nat.le_of_ble_eq_true rfl) d_Ga_init_118 (fun H40 locs40 hP40 hD40 hS40 => ?_)
  clear hP39 hD39 hS38
  replace hP40 : va_P D vwCl ((h0, .inr (6, [.int 0, .ref q8, .ref q17, .ref q26, .ref q35, .ref q44, .ref q53, .ref q62, .ref q71, .ref q80, .int 0, .int 0, .int 0, .int 0, .null, .ref q86, .ref q100, .ref q108, .ref q116])) :: T116) _ := hP40
  replace hD40 : va_D A ((h0, .inr (6, [.int 0, .ref q8, .ref q17, .ref q26, .ref q35, .ref q44, .ref q53, .ref q62, .ref q71, .ref q80, .int 0, .int 0, .int 0, .int 0, .null, .ref q86, .ref q100, .ref q108, .ref q116])) :: T116) := hD40
  refine W.cs (cells' := 22) (slots' := 29675) rfl rfl ?_
  exact zVret hx hb hr hlocks hP40 hD40 hS40 (q8, q17, q26, q35, q44, q53, q62, q71, q80, (q86, u86), q100, q108, q116) trivial (by rw [e116, e108, e100, e90, e80, e71, e62, e53, e44, e35, e26, e17, e8]; rfl) d_Ga_init_121
end
section
theorem k1_11 : (Jvm.Cond.initialized "ChanceArena$Fraction") ∈ lw_R := zR (zk_1 _ (List.mem_of_getElem? (i := 11) (by decide +kernel))) rfl
theorem k2_231 : (Jvm.Cond.code ({ cls := "ChanceArena$Scales", name := "<init>", desc := "()V" } : Jvm.MethodName) prog_10_method_1_code (1 : Nat) (Option.none : Option Jvm.ClassFile.FieldType)) ∈ lw_R := zR (zk_2 _ (List.mem_of_getElem? (i := 231) (by decide +kernel))) rfl
theorem k2_232 : (Jvm.Cond.methodLink "ChanceArena$Scales" (3 : Nat) ({ cls := "java/lang/Object", name := "<init>", desc := "()V" } : Jvm.MethodName)) ∈ lw_R := zR (zk_2 _ (List.mem_of_getElem? (i := 232) (by decide +kernel))) rfl
theorem k2_233 : (Jvm.Cond.classLink "ChanceArena$Scales" (9 : Nat) "ChanceArena$Natural") ∈ lw_R := zR (zk_2 _ (List.mem_of_getElem? (i := 233) (by decide +kernel))) rfl
theorem k2_235 : (Jvm.Cond.methodLinkNest "ChanceArena$Scales" (11 : Nat) ({ cls := "ChanceArena$Natural", name := "<init>", desc := "()V" } : Jvm.MethodName) "ChanceArena") ∈ lw_R := zR (zk_2 _ (List.mem_of_getElem? (i := 235) (by decide +kernel))) rfl
theorem k3_10 : (Jvm.Cond.classLink "ChanceArena$Scales" (43 : Nat) "ChanceArena$Fraction") ∈ lw_R := zR (zk_3 _ (List.mem_of_getElem? (i := 10) (by decide +kernel))) rfl
theorem k3_11 : (Jvm.Cond.instantiable "ChanceArena$Fraction" (3 : Nat)) ∈ lw_R := zR (zk_3 _ (List.mem_of_getElem? (i := 11) (by decide +kernel))) rfl
theorem k3_12 : (Jvm.Cond.methodLinkNest "ChanceArena$Scales" (45 : Nat) ({ cls := "ChanceArena$Fraction", name := "<init>", desc := "()V" } : Jvm.MethodName) "ChanceArena") ∈ lw_R := zR (zk_3 _ (List.mem_of_getElem? (i := 12) (by decide +kernel))) rfl
theorem k3_13 : (Jvm.Cond.instanceMethod ({ cls := "ChanceArena$Fraction", name := "<init>", desc := "()V" } : Jvm.MethodName)) ∈ lw_R := zR (zk_3 _ (List.mem_of_getElem? (i := 13) (by decide +kernel))) rfl
theorem k3_35 : (Jvm.Cond.arrayClass Jvm.ClassFile.FieldType.long) ∈ lw_R := zR (zk_3 _ (List.mem_of_getElem? (i := 35) (by decide +kernel))) rfl
theorem k3_36 : (Jvm.Cond.fieldLink "ChanceArena$Scales" (12 : Nat) "ChanceArena$Scales" "left" "LChanceArena$Natural;") ∈ lw_R := zR (zk_3 _ (List.mem_of_getElem? (i := 36) (by decide +kernel))) rfl
theorem k3_37 : (Jvm.Cond.fieldLink "ChanceArena$Scales" (18 : Nat) "ChanceArena$Scales" "right" "LChanceArena$Natural;") ∈ lw_R := zR (zk_3 _ (List.mem_of_getElem? (i := 37) (by decide +kernel))) rfl
theorem k3_38 : (Jvm.Cond.fieldLink "ChanceArena$Scales" (21 : Nat) "ChanceArena$Scales" "quotient" "LChanceArena$Natural;") ∈ lw_R := zR (zk_3 _ (List.mem_of_getElem? (i := 38) (by decide +kernel))) rfl
theorem k3_39 : (Jvm.Cond.fieldLink "ChanceArena$Scales" (24 : Nat) "ChanceArena$Scales" "scaled" "LChanceArena$Natural;") ∈ lw_R := zR (zk_3 _ (List.mem_of_getElem? (i := 39) (by decide +kernel))) rfl
theorem k3_40 : (Jvm.Cond.fieldLink "ChanceArena$Scales" (27 : Nat) "ChanceArena$Scales" "part" "LChanceArena$Natural;") ∈ lw_R := zR (zk_3 _ (List.mem_of_getElem? (i := 40) (by decide +kernel))) rfl
theorem k3_41 : (Jvm.Cond.fieldLink "ChanceArena$Scales" (30 : Nat) "ChanceArena$Scales" "product" "LChanceArena$Natural;") ∈ lw_R := zR (zk_3 _ (List.mem_of_getElem? (i := 41) (by decide +kernel))) rfl
theorem k3_42 : (Jvm.Cond.fieldLink "ChanceArena$Scales" (33 : Nat) "ChanceArena$Scales" "factors" "[J") ∈ lw_R := zR (zk_3 _ (List.mem_of_getElem? (i := 42) (by decide +kernel))) rfl
theorem k3_43 : (Jvm.Cond.fieldLink "ChanceArena$Scales" (37 : Nat) "ChanceArena$Scales" "sumPart" "LChanceArena$Natural;") ∈ lw_R := zR (zk_3 _ (List.mem_of_getElem? (i := 43) (by decide +kernel))) rfl
theorem k3_44 : (Jvm.Cond.fieldLink "ChanceArena$Scales" (40 : Nat) "ChanceArena$Scales" "termPart" "LChanceArena$Natural;") ∈ lw_R := zR (zk_3 _ (List.mem_of_getElem? (i := 44) (by decide +kernel))) rfl
theorem k3_45 : (Jvm.Cond.fieldLink "ChanceArena$Scales" (46 : Nat) "ChanceArena$Scales" "best" "LChanceArena$Fraction;") ∈ lw_R := zR (zk_3 _ (List.mem_of_getElem? (i := 45) (by decide +kernel))) rfl
theorem k3_46 : (Jvm.Cond.fieldLink "ChanceArena$Scales" (50 : Nat) "ChanceArena$Scales" "trial" "LChanceArena$Fraction;") ∈ lw_R := zR (zk_3 _ (List.mem_of_getElem? (i := 46) (by decide +kernel))) rfl
theorem d_Sc_init_0 : decode prog_10_method_1_code 0 = .ok (.aload_n 0, 1) := by decide +kernel
theorem d_Sc_init_1 : decode prog_10_method_1_code 1 = .ok (.invokespecial 3, 3) := by decide +kernel
theorem d_Sc_init_4 : decode prog_10_method_1_code 4 = .ok (.aload_n 0, 1) := by decide +kernel
theorem d_Sc_init_5 : decode prog_10_method_1_code 5 = .ok (.new 9, 3) := by decide +kernel
theorem d_Sc_init_8 : decode prog_10_method_1_code 8 = .ok (.dup, 1) := by decide +kernel
theorem d_Sc_init_9 : decode prog_10_method_1_code 9 = .ok (.invokespecial 11, 3) := by decide +kernel
theorem d_Sc_init_12 : decode prog_10_method_1_code 12 = .ok (.putfield 12, 3) := by decide +kernel
theorem d_Sc_init_15 : decode prog_10_method_1_code 15 = .ok (.aload_n 0, 1) := by decide +kernel
theorem d_Sc_init_16 : decode prog_10_method_1_code 16 = .ok (.new 9, 3) := by decide +kernel
theorem d_Sc_init_19 : decode prog_10_method_1_code 19 = .ok (.dup, 1) := by decide +kernel
theorem d_Sc_init_20 : decode prog_10_method_1_code 20 = .ok (.invokespecial 11, 3) := by decide +kernel
theorem d_Sc_init_23 : decode prog_10_method_1_code 23 = .ok (.putfield 18, 3) := by decide +kernel
theorem d_Sc_init_26 : decode prog_10_method_1_code 26 = .ok (.aload_n 0, 1) := by decide +kernel
theorem d_Sc_init_27 : decode prog_10_method_1_code 27 = .ok (.new 9, 3) := by decide +kernel
theorem d_Sc_init_30 : decode prog_10_method_1_code 30 = .ok (.dup, 1) := by decide +kernel
theorem d_Sc_init_31 : decode prog_10_method_1_code 31 = .ok (.invokespecial 11, 3) := by decide +kernel
theorem d_Sc_init_34 : decode prog_10_method_1_code 34 = .ok (.putfield 21, 3) := by decide +kernel
theorem d_Sc_init_37 : decode prog_10_method_1_code 37 = .ok (.aload_n 0, 1) := by decide +kernel
theorem d_Sc_init_38 : decode prog_10_method_1_code 38 = .ok (.new 9, 3) := by decide +kernel
theorem d_Sc_init_41 : decode prog_10_method_1_code 41 = .ok (.dup, 1) := by decide +kernel
theorem d_Sc_init_42 : decode prog_10_method_1_code 42 = .ok (.invokespecial 11, 3) := by decide +kernel
theorem d_Sc_init_45 : decode prog_10_method_1_code 45 = .ok (.putfield 24, 3) := by decide +kernel
theorem d_Sc_init_48 : decode prog_10_method_1_code 48 = .ok (.aload_n 0, 1) := by decide +kernel
theorem d_Sc_init_49 : decode prog_10_method_1_code 49 = .ok (.new 9, 3) := by decide +kernel
theorem d_Sc_init_52 : decode prog_10_method_1_code 52 = .ok (.dup, 1) := by decide +kernel
theorem d_Sc_init_53 : decode prog_10_method_1_code 53 = .ok (.invokespecial 11, 3) := by decide +kernel
theorem d_Sc_init_56 : decode prog_10_method_1_code 56 = .ok (.putfield 27, 3) := by decide +kernel
theorem d_Sc_init_59 : decode prog_10_method_1_code 59 = .ok (.aload_n 0, 1) := by decide +kernel
theorem d_Sc_init_60 : decode prog_10_method_1_code 60 = .ok (.new 9, 3) := by decide +kernel
theorem d_Sc_init_63 : decode prog_10_method_1_code 63 = .ok (.dup, 1) := by decide +kernel
theorem d_Sc_init_64 : decode prog_10_method_1_code 64 = .ok (.invokespecial 11, 3) := by decide +kernel
theorem d_Sc_init_67 : decode prog_10_method_1_code 67 = .ok (.putfield 30, 3) := by decide +kernel
theorem d_Sc_init_70 : decode prog_10_method_1_code 70 = .ok (.aload_n 0, 1) := by decide +kernel
theorem d_Sc_init_71 : decode prog_10_method_1_code 71 = .ok (.iconst 4, 1) := by decide +kernel
theorem d_Sc_init_72 : decode prog_10_method_1_code 72 = .ok (.newarray .long, 2) := by decide +kernel
theorem d_Sc_init_74 : decode prog_10_method_1_code 74 = .ok (.putfield 33, 3) := by decide +kernel
theorem d_Sc_init_77 : decode prog_10_method_1_code 77 = .ok (.aload_n 0, 1) := by decide +kernel
theorem d_Sc_init_78 : decode prog_10_method_1_code 78 = .ok (.new 9, 3) := by decide +kernel
theorem d_Sc_init_81 : decode prog_10_method_1_code 81 = .ok (.dup, 1) := by decide +kernel
theorem d_Sc_init_82 : decode prog_10_method_1_code 82 = .ok (.invokespecial 11, 3) := by decide +kernel
theorem d_Sc_init_85 : decode prog_10_method_1_code 85 = .ok (.putfield 37, 3) := by decide +kernel
theorem d_Sc_init_88 : decode prog_10_method_1_code 88 = .ok (.aload_n 0, 1) := by decide +kernel
theorem d_Sc_init_89 : decode prog_10_method_1_code 89 = .ok (.new 9, 3) := by decide +kernel
theorem d_Sc_init_92 : decode prog_10_method_1_code 92 = .ok (.dup, 1) := by decide +kernel
theorem d_Sc_init_93 : decode prog_10_method_1_code 93 = .ok (.invokespecial 11, 3) := by decide +kernel
theorem d_Sc_init_96 : decode prog_10_method_1_code 96 = .ok (.putfield 40, 3) := by decide +kernel
theorem d_Sc_init_99 : decode prog_10_method_1_code 99 = .ok (.aload_n 0, 1) := by decide +kernel
theorem d_Sc_init_100 : decode prog_10_method_1_code 100 = .ok (.new 43, 3) := by decide +kernel
theorem d_Sc_init_103 : decode prog_10_method_1_code 103 = .ok (.dup, 1) := by decide +kernel
theorem d_Sc_init_104 : decode prog_10_method_1_code 104 = .ok (.invokespecial 45, 3) := by decide +kernel
theorem d_Sc_init_107 : decode prog_10_method_1_code 107 = .ok (.putfield 46, 3) := by decide +kernel
theorem d_Sc_init_110 : decode prog_10_method_1_code 110 = .ok (.aload_n 0, 1) := by decide +kernel
theorem d_Sc_init_111 : decode prog_10_method_1_code 111 = .ok (.new 43, 3) := by decide +kernel
theorem d_Sc_init_114 : decode prog_10_method_1_code 114 = .ok (.dup, 1) := by decide +kernel
theorem d_Sc_init_115 : decode prog_10_method_1_code 115 = .ok (.invokespecial 45, 3) := by decide +kernel
theorem d_Sc_init_118 : decode prog_10_method_1_code 118 = .ok (.putfield 50, 3) := by decide +kernel
theorem d_Sc_init_121 : decode prog_10_method_1_code 121 = .ok (.return_, 1) := by decide +kernel
abbrev S_Sc : Type := (Nat × S_Na) × (Nat × S_Na) × (Nat × S_Na) × (Nat × S_Na) × (Nat × S_Na) × (Nat × S_Na) × Nat × (Nat × S_Na) × (Nat × S_Na) × (Nat × S_Fr) × (Nat × S_Fr)
def w_Sc (tA : Nat → ClassId) (h0 : Nat) (u : S_Sc) : va_W := match u with
  | ((q5, u5), (q16, u16), (q27, u27), (q38, u38), (q49, u49), (q60, u60), q72, (q78, u78), (q89, u89), (q100, u100), (q111, u111)) => (h0, .inr (8, [.ref q5, .ref q16, .ref q27, .ref q38, .ref q49, .ref q60, .ref q72, .ref q78, .ref q89, .ref q100, .ref q111])) :: ([] ++ w_Na tA q5 u5 ++ w_Na tA q16 u16 ++ w_Na tA q27 u27 ++ w_Na tA q38 u38 ++ w_Na tA q49 u49 ++ w_Na tA q60 u60 ++ [(q72, .inl (tA 3, 4, .inr (.inl (fun _ => 0))))] ++ w_Na tA q78 u78 ++ w_Na tA q89 u89 ++ w_Fr tA q100 u100 ++ w_Fr tA q111 u111)
theorem f_Sc : ∀ j, j < 11 → defaultValue (t_Sc j) = vp_V [.null, .null, .null, .null, .null, .null, .null, .null, .null, .null, .null] j := by decide +kernel
set_option maxHeartbeats 4000000 in
set_option maxRecDepth 100000 in
theorem c_Sc_init (l : Launch) (D : va_G) (tA : Nat → ClassId) (h0 sz : Nat) : zMv l ({ cls := "ChanceArena$Scales", name := "<init>", desc := "()V" } : Jvm.MethodName) (zW (Jvm.Cond.code ({ cls := "ChanceArena$Scales", name := "<init>", desc := "()V" } : Jvm.MethodName) prog_10_method_1_code (1 : Nat) (Option.none : Option Jvm.ClassFile.FieldType))) { frames := 3, cells := 27, slots := 82, locals := 52 } [.ref h0] D tA [(h0, .inr (8, [.null, .null, .null, .null, .null, .null, .null, .null, .null, .null, .null]))] sz (fun _ : S_Sc => True) (w_Sc tA h0) 27 82 := by
  refine zOpen (fun A => va_Qv _ (zPost D A (w_Sc tA h0)) A) (lv := [(0, .ref h0)]) (by decide) rfl (Nat.le_of_ble_eq_true rfl) rfl ?_
  intro p e s m below meth c A ls hx hb hr hml hh hg hown hlocks hnm hK hA hP hD0 hAw hS hl
  have hD := zD hD0 hAw
  refine lv_aload_n hx hb d_Sc_init_0 rfl (lv_at hl 0 rfl) ?_
  refine W.objInit hx hb hown (hg _ k2_232) (hg _ k1_46) (hg _ k1_47) rfl (by rw [hml]; exact hl.1) rfl d_Sc_init_1 (Nat.le_of_ble_eq_true rfl) (Nat.le_of_ble_eq_true rfl) ?_
  refine lv_aload_n hx hb d_Sc_init_4 rfl (lv_at hl 0 rfl) ?_
  refine va_new (ci := 9) (fs := [.null, .int 0]) (C := R_Na) (T := T_Na) (N := 2) hx hb hg i_Na t_Na o_Na hown (hg _ k2_233) (hg _ k2_234) (hg _ k1_10) hK hP hD hS hA rfl f_Na (Nat.le_of_ble_eq_true rfl) (Nat.le_of_ble_eq_true rfl) d_Sc_init_5 (fun q5 H1 hP1 hD1 hS1 => ?_)
  clear hP hD hS
  refine lv_dup hx hb d_Sc_init_8 rfl ?_
  refine zInit hP1 hD1 hS1 hA (va_runIN (As := []) (rest := [.ref q5, .ref h0]) ⟨hx, hb, hml, hown, hg⟩ (c_Na_init l D tA q5 H1.size) ⟨va_cnB 0 hg (zGood k2_237 rfl) rfl rfl rfl (va_Nw.of rfl (hg _ k2_235)) (hg _ k1_10) (by decide +kernel) ⟨(Nat.le_of_ble_eq_true rfl), (Nat.le_of_ble_eq_true rfl)⟩, rfl, hg _ k2_236⟩ (zPreI hh hK hP1 hD1) rfl rfl hl.1 rfl (lv_room (Nat.le_of_ble_eq_true rfl)) d_Sc_init_9 ⟨(Nat.le_of_ble_eq_true rfl), (Nat.le_of_ble_eq_true rfl)⟩) (fun u5 H2 locs2 _ hP2 hD2 hS2 => ?_)
  clear hP1 hD1 hS1
  refine zCons (fun T9 e9 hP3 hD3 => ?_) hP2 hD2
  clear hP2 hD2
  refine va_putF (D := D) (ci := 8) (v := .ref q5) (ty := .object "ChanceArena$Natural") (C := R_Sc) (T := T_Sc) (N := 11) hx hb hg i_Sc t_Sc o_Sc n_Sc hown hK hP3 hD3 hS2 0 rfl rfl 0 (by decide) (hg _ k3_36) (fun _ h9 => h9) rfl hnm rfl (by decide +kernel) rfl rfl (Nat.le_of_ble_eq_true rfl) d_Sc_init_12 (fun H4 locs4 hP4 hD4 hS4 => ?_)
  clear hP3 hD3 hS2
  replace hP4 : va_P D vwCl ((h0, .inr (8, [.ref q5, .null, .null, .null, .null, .null, .null, .null, .null, .null, .null])) :: T9) _ := hP4
  replace hD4 : va_D A ((h0, .inr (8, [.ref q5, .null, .null, .null, .null, .null, .null, .null, .null, .null, .null])) :: T9) := hD4
  refine lv_aload_n hx hb d_Sc_init_15 rfl (lv_at hl 0 rfl) ?_
  refine va_new (ci := 9) (fs := [.null, .int 0]) (C := R_Na) (T := T_Na) (N := 2) hx hb hg i_Na t_Na o_Na hown (hg _ k2_233) (hg _ k2_234) (hg _ k1_10) hK hP4 hD4 hS4 hA rfl f_Na (Nat.le_of_ble_eq_true rfl) (Nat.le_of_ble_eq_true rfl) d_Sc_init_16 (fun q16 H5 hP5 hD5 hS5 => ?_)
  clear hP4 hD4 hS4
  refine lv_dup hx hb d_Sc_init_19 rfl ?_
  refine zInit hP5 hD5 hS5 hA (va_runIN (As := []) (rest := [.ref q16, .ref h0]) ⟨hx, hb, hml, hown, hg⟩ (c_Na_init l D tA q16 H5.size) ⟨va_cnB 0 hg (zGood k2_237 rfl) rfl rfl rfl (va_Nw.of rfl (hg _ k2_235)) (hg _ k1_10) (by decide +kernel) ⟨(Nat.le_of_ble_eq_true rfl), (Nat.le_of_ble_eq_true rfl)⟩, rfl, hg _ k2_236⟩ (zPreI hh hK hP5 hD5) rfl rfl hl.1 rfl (lv_room (Nat.le_of_ble_eq_true rfl)) d_Sc_init_20 ⟨(Nat.le_of_ble_eq_true rfl), (Nat.le_of_ble_eq_true rfl)⟩) (fun u16 H6 locs6 _ hP6 hD6 hS6 => ?_)
  clear hP5 hD5 hS5
  refine zCons (fun T20 e20 hP7 hD7 => ?_) hP6 hD6
  clear hP6 hD6
  refine va_putF (D := D) (ci := 8) (v := .ref q16) (ty := .object "ChanceArena$Natural") (C := R_Sc) (T := T_Sc) (N := 11) hx hb hg i_Sc t_Sc o_Sc n_Sc hown hK hP7 hD7 hS6 0 rfl rfl 1 (by decide) (hg _ k3_37) (fun _ h9 => h9) rfl hnm rfl (by decide +kernel) rfl rfl (Nat.le_of_ble_eq_true rfl) d_Sc_init_23 (fun H8 locs8 hP8 hD8 hS8 => ?_)
  clear hP7 hD7 hS6
  replace hP8 : va_P D vwCl ((h0, .inr (8, [.ref q5, .ref q16, .null, .null, .null, .null, .null, .null, .null, .null, .null])) :: T20) _ := hP8
  replace hD8 : va_D A ((h0, .inr (8, [.ref q5, .ref q16, .null, .null, .null, .null, .null, .null, .null, .null, .null])) :: T20) := hD8
  refine lv_aload_n hx hb d_Sc_init_26 rfl (lv_at hl 0 rfl) ?_
  refine va_new (ci := 9) (fs := [.null, .int 0]) (C := R_Na) (T := T_Na) (N := 2) hx hb hg i_Na t_Na o_Na hown (hg _ k2_233) (hg _ k2_234) (hg _ k1_10) hK hP8 hD8 hS8 hA rfl f_Na (Nat.le_of_ble_eq_true rfl) (Nat.le_of_ble_eq_true rfl) d_Sc_init_27 (fun q27 H9 hP9 hD9 hS9 => ?_)
  clear hP8 hD8 hS8
  refine lv_dup hx hb d_Sc_init_30 rfl ?_
  refine zInit hP9 hD9 hS9 hA (va_runIN (As := []) (rest := [.ref q27, .ref h0]) ⟨hx, hb, hml, hown, hg⟩ (c_Na_init l D tA q27 H9.size) ⟨va_cnB 0 hg (zGood k2_237 rfl) rfl rfl rfl (va_Nw.of rfl (hg _ k2_235)) (hg _ k1_10) (by decide +kernel) ⟨(Nat.le_of_ble_eq_true rfl), (Nat.le_of_ble_eq_true rfl)⟩, rfl, hg _ k2_236⟩ (zPreI hh hK hP9 hD9) rfl rfl hl.1 rfl (lv_room (Nat.le_of_ble_eq_true rfl)) d_Sc_init_31 ⟨(Nat.le_of_ble_eq_true rfl), (Nat.le_of_ble_eq_true rfl)⟩) (fun u27 H10 locs10 _ hP10 hD10 hS10 => ?_)
  clear hP9 hD9 hS9
  refine zCons (fun T31 e31 hP11 hD11 => ?_) hP10 hD10
  clear hP10 hD10
  refine va_putF (D := D) (ci := 8) (v := .ref q27) (ty := .object "ChanceArena$Natural") (C := R_Sc) (T := T_Sc) (N := 11) hx hb hg i_Sc t_Sc o_Sc n_Sc hown hK hP11 hD11 hS10 0 rfl rfl 2 (by decide) (hg _ k3_38) (fun _ h9 => h9) rfl hnm rfl (by decide +kernel) rfl rfl (Nat.le_of_ble_eq_true rfl) d_Sc_init_34 (fun H12 locs12 hP12 hD12 hS12 => ?_)
  clear hP11 hD11 hS10
  replace hP12 : va_P D vwCl ((h0, .inr (8, [.ref q5, .ref q16, .ref q27, .null, .null, .null, .null, .null, .null, .null, .null])) :: T31) _ := hP12
  replace hD12 : va_D A ((h0, .inr (8, [.ref q5, .ref q16, .ref q27, .null, .null, .null, .null, .null, .null, .null, .null])) :: T31) := hD12
  refine lv_aload_n hx hb d_Sc_init_37 rfl (lv_at hl 0 rfl) ?_
  refine va_new (ci := 9) (fs := [.null, .int 0]) (C := R_Na) (T := T_Na) (N := 2) hx hb hg i_Na t_Na o_Na hown (hg _ k2_233) (hg _ k2_234) (hg _ k1_10) hK hP12 hD12 hS12 hA rfl f_Na (Nat.le_of_ble_eq_true rfl) (Nat.le_of_ble_eq_true rfl) d_Sc_init_38 (fun q38 H13 hP13 hD13 hS13 => ?_)
  clear hP12 hD12 hS12
  refine lv_dup hx hb d_Sc_init_41 rfl ?_
  refine zInit hP13 hD13 hS13 hA (va_runIN (As := []) (rest := [.ref q38, .ref h0]) ⟨hx, hb, hml, hown, hg⟩ (c_Na_init l D tA q38 H13.size) ⟨va_cnB 0 hg (zGood k2_237 rfl) rfl rfl rfl (va_Nw.of rfl (hg _ k2_235)) (hg _ k1_10) (by decide +kernel) ⟨(Nat.le_of_ble_eq_true rfl), (Nat.le_of_ble_eq_true rfl)⟩, rfl, hg _ k2_236⟩ (zPreI hh hK hP13 hD13) rfl rfl hl.1 rfl (lv_room (Nat.le_of_ble_eq_true rfl)) d_Sc_init_42 ⟨(Nat.le_of_ble_eq_true rfl), (Nat.le_of_ble_eq_true rfl)⟩) (fun u38 H14 locs14 _ hP14 hD14 hS14 => ?_)
  clear hP13 hD13 hS13
  refine zCons (fun T42 e42 hP15 hD15 => ?_) hP14 hD14
  clear hP14 hD14
  refine va_putF (D := D) (ci := 8) (v := .ref q38) (ty := .object "ChanceArena$Natural") (C := R_Sc) (T := T_Sc) (N := 11) hx hb hg i_Sc t_Sc o_Sc n_Sc hown hK hP15 hD15 hS14 0 rfl rfl 3 (by decide) (hg _ k3_39) (fun _ h9 => h9) rfl hnm rfl (by decide +kernel) rfl rfl (Nat.le_of_ble_eq_true rfl) d_Sc_init_45 (fun H16 locs16 hP16 hD16 hS16 => ?_)
  clear hP15 hD15 hS14
  replace hP16 : va_P D vwCl ((h0, .inr (8, [.ref q5, .ref q16, .ref q27, .ref q38, .null, .null, .null, .null, .null, .null, .null])) :: T42) _ := hP16
  replace hD16 : va_D A ((h0, .inr (8, [.ref q5, .ref q16, .ref q27, .ref q38, .null, .null, .null, .null, .null, .null, .null])) :: T42) := hD16
  refine lv_aload_n hx hb d_Sc_init_48 rfl (lv_at hl 0 rfl) ?_
  refine va_new (ci := 9) (fs := [.null, .int 0]) (C := R_Na) (T := T_Na) (N := 2) hx hb hg i_Na t_Na o_Na hown (hg _ k2_233) (hg _ k2_234) (hg _ k1_10) hK hP16 hD16 hS16 hA rfl f_Na (Nat.le_of_ble_eq_true rfl) (Nat.le_of_ble_eq_true rfl) d_Sc_init_49 (fun q49 H17 hP17 hD17 hS17 => ?_)
  clear hP16 hD16 hS16
  refine lv_dup hx hb d_Sc_init_52 rfl ?_
  refine zInit hP17 hD17 hS17 hA (va_runIN (As := []) (rest := [.ref q49, .ref h0]) ⟨hx, hb, hml, hown, hg⟩ (c_Na_init l D tA q49 H17.size) ⟨va_cnB 0 hg (zGood k2_237 rfl) rfl rfl rfl (va_Nw.of rfl (hg _ k2_235)) (hg _ k1_10) (by decide +kernel) ⟨(Nat.le_of_ble_eq_true rfl), (Nat.le_of_ble_eq_true rfl)⟩, rfl, hg _ k2_236⟩ (zPreI hh hK hP17 hD17) rfl rfl hl.1 rfl (lv_room (Nat.le_of_ble_eq_true rfl)) d_Sc_init_53 ⟨(Nat.le_of_ble_eq_true rfl), (Nat.le_of_ble_eq_true rfl)⟩) (fun u49 H18 locs18 _ hP18 hD18 hS18 => ?_)
  clear hP17 hD17 hS17
  refine zCons (fun T53 e53 hP19 hD19 => ?_) hP18 hD18
  clear hP18 hD18
  refine va_putF (D := D) (ci := 8) (v := .ref q49) (ty := .object "ChanceArena$Natural") (C := R_Sc) (T := T_Sc) (N := 11) hx hb hg i_Sc t_Sc o_Sc n_Sc hown hK hP19 hD19 hS18 0 rfl rfl 4 (by decide) (hg _ k3_40) (fun _ h9 => h9) rfl hnm rfl (by decide +kernel) rfl rfl (Nat.le_of_ble_eq_true rfl) d_Sc_init_56 (fun H20 locs20 hP20 hD20 hS20 => ?_)
  clear hP19 hD19 hS18
  replace hP20 : va_P D vwCl ((h0, .inr (8, [.ref q5, .ref q16, .ref q27, .ref q38, .ref q49, .null, .null, .null, .null, .null, .null])) :: T53) _ := hP20
  replace hD20 : va_D A ((h0, .inr (8, [.ref q5, .ref q16, .ref q27, .ref q38, .ref q49, .null, .null, .null, .null, .null, .null])) :: T53) := hD20
  refine lv_aload_n hx hb d_Sc_init_59 rfl (lv_at hl 0 rfl) ?_
  refine va_new (ci := 9) (fs := [.null, .int 0]) (C := R_Na) (T := T_Na) (N := 2) hx hb hg i_Na t_Na o_Na hown (hg _ k2_233) (hg _ k2_234) (hg _ k1_10) hK hP20 hD20 hS20 hA rfl f_Na (Nat.le_of_ble_eq_true rfl) (Nat.le_of_ble_eq_true rfl) d_Sc_init_60 (fun q60 H21 hP21 hD21 hS21 => ?_)
  clear hP20 hD20 hS20
  refine lv_dup hx hb d_Sc_init_63 rfl ?_
  refine zInit hP21 hD21 hS21 hA (va_runIN (As := []) (rest := [.ref q60, .ref h0]) ⟨hx, hb, hml, hown, hg⟩ (c_Na_init l D tA q60 H21.size) ⟨va_cnB 0 hg (zGood k2_237 rfl) rfl rfl rfl (va_Nw.of rfl (hg _ k2_235)) (hg _ k1_10) (by decide +kernel) ⟨(Nat.le_of_ble_eq_true rfl), (Nat.le_of_ble_eq_true rfl)⟩, rfl, hg _ k2_236⟩ (zPreI hh hK hP21 hD21) rfl rfl hl.1 rfl (lv_room (Nat.le_of_ble_eq_true rfl)) d_Sc_init_64 ⟨(Nat.le_of_ble_eq_true rfl), (Nat.le_of_ble_eq_true rfl)⟩) (fun u60 H22 locs22 _ hP22 hD22 hS22 => ?_)
  clear hP21 hD21 hS21
  refine zCons (fun T64 e64 hP23 hD23 => ?_) hP22 hD22
  clear hP22 hD22
  refine va_putF (D := D) (ci := 8) (v := .ref q60) (ty := .object "ChanceArena$Natural") (C := R_Sc) (T := T_Sc) (N := 11) hx hb hg i_Sc t_Sc o_Sc n_Sc hown hK hP23 hD23 hS22 0 rfl rfl 5 (by decide) (hg _ k3_41) (fun _ h9 => h9) rfl hnm rfl (by decide +kernel) rfl rfl (Nat.le_of_ble_eq_true rfl) d_Sc_init_67 (fun H24 locs24 hP24 hD24 hS24 => ?_)
  clear hP23 hD23 hS22
  replace hP24 : va_P D vwCl ((h0, .inr (8, [.ref q5, .ref q16, .ref q27, .ref q38, .ref q49, .ref q60, .null, .null, .null, .null, .null])) :: T64) _ := hP24
  replace hD24 : va_D A ((h0, .inr (8, [.ref q5, .ref q16, .ref q27, .ref q38, .ref q49, .ref q60, .null, .null, .null, .null, .null])) :: T64) := hD24
  refine lv_aload_n hx hb d_Sc_init_70 rfl (lv_at hl 0 rfl) ?_
  refine lv_iconst (v := 4) hx hb d_Sc_init_71 (by decide) ?_
  refine zNewa (atype := .long) (ty := .long) (a0 := (4, .inr (.inl (fun _ => 0)))) (N' := 4) hx hb rfl (hg _ k3_35) hK hP24 hD24 hS24 hA 3 rfl (fun _ h => by cases h) (fun _ => rfl) (by decide) (by decide) (by decide) (Nat.le_of_ble_eq_true rfl) (Nat.le_of_ble_eq_true rfl) d_Sc_init_72 (fun q72 H25 hP25 hD25 hS25 => ?_)
  clear hP24 hD24 hS24
  refine zCons (fun T72 e72 hP26 hD26 => ?_) hP25 hD25
  clear hP25 hD25
  refine va_putF (D := D) (ci := 8) (v := .ref q72) (ty := .array .long) (C := R_Sc) (T := T_Sc) (N := 11) hx hb hg i_Sc t_Sc o_Sc n_Sc hown hK hP26 hD26 hS25 0 rfl rfl 6 (by decide) (hg _ k3_42) (fun _ h9 => h9) rfl hnm rfl (by decide +kernel) rfl rfl (Nat.le_of_ble_eq_true rfl) d_Sc_init_74 (fun H27 locs27 hP27 hD27 hS27 => ?_)
  clear hP26 hD26 hS25
  replace hP27 : va_P D vwCl ((h0, .inr (8, [.ref q5, .ref q16, .ref q27, .ref q38, .ref q49, .ref q60, .ref q72, .null, .null, .null, .null])) :: T72) _ := hP27
  replace hD27 : va_D A ((h0, .inr (8, [.ref q5, .ref q16, .ref q27, .ref q38, .ref q49, .ref q60, .ref q72, .null, .null, .null, .null])) :: T72) := hD27
  refine lv_aload_n hx hb d_Sc_init_77 rfl (lv_at hl 0 rfl) ?_
  refine va_new (ci := 9) (fs := [.null, .int 0]) (C := R_Na) (T := T_Na) (N := 2) hx hb hg i_Na t_Na o_Na hown (hg _ k2_233) (hg _ k2_234) (hg _ k1_10) hK hP27 hD27 hS27 hA rfl f_Na (Nat.le_of_ble_eq_true rfl) (Nat.le_of_ble_eq_true rfl) d_Sc_init_78 (fun q78 H28 hP28 hD28 hS28 => ?_)
  clear hP27 hD27 hS27
  refine lv_dup hx hb d_Sc_init_81 rfl ?_
  refine zInit hP28 hD28 hS28 hA (va_runIN (As := []) (rest := [.ref q78, .ref h0]) ⟨hx, hb, hml, hown, hg⟩ (c_Na_init l D tA q78 H28.size) ⟨va_cnB 0 hg (zGood k2_237 rfl) rfl rfl rfl (va_Nw.of rfl (hg _ k2_235)) (hg _ k1_10) (by decide +kernel) ⟨(Nat.le_of_ble_eq_true rfl), (Nat.le_of_ble_eq_true rfl)⟩, rfl, hg _ k2_236⟩ (zPreI hh hK hP28 hD28) rfl rfl hl.1 rfl (lv_room (Nat.le_of_ble_eq_true rfl)) d_Sc_init_82 ⟨(Nat.le_of_ble_eq_true rfl), (Nat.le_of_ble_eq_true rfl)⟩) (fun u78 H29 locs29 _ hP29 hD29 hS29 => ?_)
  clear hP28 hD28 hS28
  refine zCons (fun T82 e82 hP30 hD30 => ?_) hP29 hD29
  clear hP29 hD29
  refine va_putF (D := D) (ci := 8) (v := .ref q78) (ty := .object "ChanceArena$Natural") (C := R_Sc) (T := T_Sc) (N := 11) hx hb hg i_Sc t_Sc o_Sc n_Sc hown hK hP30 hD30 hS29 0 rfl rfl 7 (by decide) (hg _ k3_43) (fun _ h9 => h9) rfl hnm rfl (by decide +kernel) rfl rfl (Nat.le_of_ble_eq_true rfl) d_Sc_init_85 (fun H31 locs31 hP31 hD31 hS31 => ?_)
  clear hP30 hD30 hS29
  replace hP31 : va_P D vwCl ((h0, .inr (8, [.ref q5, .ref q16, .ref q27, .ref q38, .ref q49, .ref q60, .ref q72, .ref q78, .null, .null, .null])) :: T82) _ := hP31
  replace hD31 : va_D A ((h0, .inr (8, [.ref q5, .ref q16, .ref q27, .ref q38, .ref q49, .ref q60, .ref q72, .ref q78, .null, .null, .null])) :: T82) := hD31
  refine lv_aload_n hx hb d_Sc_init_88 rfl (lv_at hl 0 rfl) ?_
  refine va_new (ci := 9) (fs := [.null, .int 0]) (C := R_Na) (T := T_Na) (N := 2) hx hb hg i_Na t_Na o_Na hown (hg _ k2_233) (hg _ k2_234) (hg _ k1_10) hK hP31 hD31 hS31 hA rfl f_Na (Nat.le_of_ble_eq_true rfl) (Nat.le_of_ble_eq_true rfl) d_Sc_init_89 (fun q89 H32 hP32 hD32 hS32 => ?_)
  clear hP31 hD31 hS31
  refine lv_dup hx hb d_Sc_init_92 rfl ?_
  refine zInit hP32 hD32 hS32 hA (va_runIN (As := []) (rest := [.ref q89, .ref h0]) ⟨hx, hb, hml, hown, hg⟩ (c_Na_init l D tA q89 H32.size) ⟨va_cnB 0 hg (zGood k2_237 rfl) rfl rfl rfl (va_Nw.of rfl (hg _ k2_235)) (hg _ k1_10) (by decide +kernel) ⟨(Nat.le_of_ble_eq_true rfl), (Nat.le_of_ble_eq_true rfl)⟩, rfl, hg _ k2_236⟩ (zPreI hh hK hP32 hD32) rfl rfl hl.1 rfl (lv_room (Nat.le_of_ble_eq_true rfl)) d_Sc_init_93 ⟨(Nat.le_of_ble_eq_true rfl), (Nat.le_of_ble_eq_true rfl)⟩) (fun u89 H33 locs33 _ hP33 hD33 hS33 => ?_)
  clear hP32 hD32 hS32
  refine zCons (fun T93 e93 hP34 hD34 => ?_) hP33 hD33
  clear hP33 hD33
  refine va_putF (D := D) (ci := 8) (v := .ref q89) (ty := .object "ChanceArena$Natural") (C := R_Sc) (T := T_Sc) (N := 11) hx hb hg i_Sc t_Sc o_Sc n_Sc hown hK hP34 hD34 hS33 0 rfl rfl 8 (by decide) (hg _ k3_44) (fun _ h9 => h9) rfl hnm rfl (by decide +kernel) rfl rfl (Nat.le_of_ble_eq_true rfl) d_Sc_init_96 (fun H35 locs35 hP35 hD35 hS35 => ?_)
  clear hP34 hD34 hS33
  replace hP35 : va_P D vwCl ((h0, .inr (8, [.ref q5, .ref q16, .ref q27, .ref q38, .ref q49, .ref q60, .ref q72, .ref q78, .ref q89, .null, .null])) :: T93) _ := hP35
  replace hD35 : va_D A ((h0, .inr (8, [.ref q5, .ref q16, .ref q27, .ref q38, .ref q49, .ref q60, .ref q72, .ref q78, .ref q89, .null, .null])) :: T93) := hD35
  refine lv_aload_n hx hb d_Sc_init_99 rfl (lv_at hl 0 rfl) ?_
  refine va_new (ci := 10) (fs := [.null, .null, .int 0]) (C := R_Fr) (T := T_Fr) (N := 3) hx hb hg i_Fr t_Fr o_Fr hown (hg _ k3_10) (hg _ k3_11) (hg _ k1_11) hK hP35 hD35 hS35 hA rfl f_Fr (Nat.le_of_ble_eq_true rfl) (Nat.le_of_ble_eq_true rfl) d_Sc_init_100 (fun q100 H36 hP36 hD36 hS36 => ?_)
  clear hP35 hD35 hS35
  refine lv_dup hx hb d_Sc_init_103 rfl ?_
  refine zInit hP36 hD36 hS36 hA (va_runIN (As := []) (rest := [.ref q100, .ref h0]) ⟨hx, hb, hml, hown, hg⟩ (c_Fr_init l D tA q100 H36.size) ⟨va_cnB 0 hg (zGood k3_14 rfl) rfl rfl rfl (va_Nw.of rfl (hg _ k3_12)) (hg _ k1_11) (by decide +kernel) ⟨(Nat.le_of_ble_eq_true rfl), (Nat.le_of_ble_eq_true rfl)⟩, rfl, hg _ k3_13⟩ (zPreI hh hK hP36 hD36) rfl rfl hl.1 rfl (lv_room (Nat.le_of_ble_eq_true rfl)) d_Sc_init_104 ⟨(Nat.le_of_ble_eq_true rfl), (Nat.le_of_ble_eq_true rfl)⟩) (fun u100 H37 locs37 _ hP37 hD37 hS37 => ?_)
  clear hP36 hD36 hS36
  refine zCons (fun T104 e104 hP38 hD38 => ?_) hP37 hD37
  clear hP37 hD37
  refine va_put (D := D) (ci := 8) (v := .ref q100) (ty := .object "ChanceArena$Fraction") (C := R_Sc) (T := T_Sc) (N := 11) hx hb hg i_Sc t_Sc o_Sc n_Sc hown hK hP38 hD38 hS37 0 rfl rfl 9 (by decide) (hg _ k3_45) (fun _ h9 => h9) rfl (by decide +kernel) rfl rfl (Nat.le_of_ble_eq_true rfl) d_Sc_init_107 (fun H39 locs39 hP39 hD39 hS39 => ?_)
  clear hP38 hD38 hS37
  replace hP39 : va_P D vwCl ((h0, .inr (8, [.ref q5, .ref q16, .ref q27, .ref q38, .ref q49, .ref q60, .ref q72, .ref q78, .ref q89, .ref q100, .null])) :: T104) _ := hP39
  replace hD39 : va_D A ((h0, .inr (8, [.ref q5, .ref q16, .ref q27, .ref q38, .ref q49, .ref q60, .ref q72, .ref q78, .ref q89, .ref q100, .null])) :: T104) := hD39
  refine lv_aload_n hx hb d_Sc_init_110 rfl (lv_at hl 0 rfl) ?_
  refine va_new (ci := 10) (fs := [.null, .null, .int 0]) (C := R_Fr) (T := T_Fr) (N := 3) hx hb hg i_Fr t_Fr o_Fr hown (hg _ k3_10) (hg _ k3_11) (hg _ k1_11) hK hP39 hD39 hS39 hA rfl f_Fr (Nat.le_of_ble_eq_true rfl) (Nat.le_of_ble_eq_true rfl) d_Sc_init_111 (fun q111 H40 hP40 hD40 hS40 => ?_)
  clear hP39 hD39 hS39
  refine lv_dup hx hb d_Sc_init_114 rfl ?_
  refine zInit hP40 hD40 hS40 hA (va_runIN (As := []) (rest := [.ref q111, .ref h0]) ⟨hx, hb, hml, hown, hg⟩ (c_Fr_init l D tA q111 H40.size) ⟨va_cnB 0 hg (zGood k3_14 rfl) rfl rfl rfl (va_Nw.of rfl (hg _ k3_12)) (hg _ k1_11) (by decide +kernel) ⟨(Nat.le_of_ble_eq_true rfl), (Nat.le_of_ble_eq_true rfl)⟩, rfl, hg _ k3_13⟩ (zPreI hh hK hP40 hD40) rfl rfl hl.1 rfl (lv_room (Nat.le_of_ble_eq_true rfl)) d_Sc_init_115 ⟨(Nat.le_of_ble_eq_true rfl), (Nat.le_of_ble_eq_true rfl)⟩) (fun u111 H41 locs41 _ hP41 hD41 hS41 => ?_)
  clear hP40 hD40 hS40
  refine zCons (fun T115 e115 hP42 hD42 => ?_) hP41 hD41
  clear hP41 hD41
  refine va_put (D := D) (ci := 8) (v := .ref q111) (ty := .object "ChanceArena$Fraction") (C := R_Sc) (T := T_Sc) (N := 11) hx hb hg i_Sc t_Sc o_Sc n_Sc hown hK hP42 hD42 hS41 0 rfl rfl 10 (by decide) (hg _ k3_46) (fun _ h9 => h9) rfl (by decide +kernel) rfl rfl (Nat.le_of_ble_eq_true rfl) d_Sc_init_118 (fun H43 locs43 hP43 hD43 hS43 => ?_)
  clear hP42 hD42 hS41
  replace hP43 : va_P D vwCl ((h0, .inr (8, [.ref q5, .ref q16, .ref q27, .ref q38, .ref q49, .ref q60, .ref q72, .ref q78, .ref q89, .ref q100, .ref q111])) :: T115) _ := hP43
  replace hD43 : va_D A ((h0, .inr (8, [.ref q5, .ref q16, .ref q27, .ref q38, .ref q49, .ref q60, .ref q72, .ref q78, .ref q89, .ref q100, .ref q111])) :: T115) := hD43
  refine W.cs (cells' := 27) (slots' := 82) rfl rfl ?_
  exact zVret hx hb hr hlocks hP43 hD43 hS43 ((q5, u5), (q16, u16), (q27, u27), (q38, u38), (q49, u49), (q60, u60), q72, (q78, u78), (q89, u89), (q100, u100), (q111, u111)) trivial (by rw [e115, e104, e93, e82, e72, e64, e53, e42, e31, e20, e9]; rfl) d_Sc_init_121
end
section
theorem k1_15 : (Jvm.Cond.initialized "ChanceArenaModel$Numbers") ∈ lw_R := zR (zk_1 _ (List.mem_of_getElem? (i := 15) (by decide +kernel))) rfl
theorem k8_206 : (Jvm.Cond.instantiable "ChanceArenaModel$Numbers" (2 : Nat)) ∈ lw_R := zR (zk_8 _ (List.mem_of_getElem? (i := 206) (by decide +kernel))) rfl
theorem k8_208 : (Jvm.Cond.instanceMethod ({ cls := "ChanceArenaModel$Numbers", name := "<init>", desc := "()V" } : Jvm.MethodName)) ∈ lw_R := zR (zk_8 _ (List.mem_of_getElem? (i := 208) (by decide +kernel))) rfl
theorem k8_209 : (Jvm.Cond.code ({ cls := "ChanceArenaModel$Numbers", name := "<init>", desc := "()V" } : Jvm.MethodName) prog_18_method_1_code (1 : Nat) (Option.none : Option Jvm.ClassFile.FieldType)) ∈ lw_R := zR (zk_8 _ (List.mem_of_getElem? (i := 209) (by decide +kernel))) rfl
theorem k8_210 : (Jvm.Cond.methodLink "ChanceArenaModel$Numbers" (1 : Nat) ({ cls := "java/lang/Object", name := "<init>", desc := "()V" } : Jvm.MethodName)) ∈ lw_R := zR (zk_8 _ (List.mem_of_getElem? (i := 210) (by decide +kernel))) rfl
theorem k8_211 : (Jvm.Cond.fieldLink "ChanceArenaModel$Numbers" (7 : Nat) "ChanceArenaModel$Numbers" "all" "[I") ∈ lw_R := zR (zk_8 _ (List.mem_of_getElem? (i := 211) (by decide +kernel))) rfl
theorem k8_225 : (Jvm.Cond.code ({ cls := "ChanceArenaModel$Game", name := "<init>", desc := "()V" } : Jvm.MethodName) prog_17_method_1_code (1 : Nat) (Option.none : Option Jvm.ClassFile.FieldType)) ∈ lw_R := zR (zk_8 _ (List.mem_of_getElem? (i := 225) (by decide +kernel))) rfl
theorem k8_226 : (Jvm.Cond.methodLink "ChanceArenaModel$Game" (3 : Nat) ({ cls := "java/lang/Object", name := "<init>", desc := "()V" } : Jvm.MethodName)) ∈ lw_R := zR (zk_8 _ (List.mem_of_getElem? (i := 226) (by decide +kernel))) rfl
theorem k8_227 : (Jvm.Cond.classLink "ChanceArenaModel$Game" (9 : Nat) "ChanceArenaModel$Numbers") ∈ lw_R := zR (zk_8 _ (List.mem_of_getElem? (i := 227) (by decide +kernel))) rfl
theorem k8_228 : (Jvm.Cond.methodLinkNest "ChanceArenaModel$Game" (11 : Nat) ({ cls := "ChanceArenaModel$Numbers", name := "<init>", desc := "()V" } : Jvm.MethodName) "ChanceArenaModel") ∈ lw_R := zR (zk_8 _ (List.mem_of_getElem? (i := 228) (by decide +kernel))) rfl
theorem k8_229 : (Jvm.Cond.fieldLink "ChanceArenaModel$Game" (12 : Nat) "ChanceArenaModel$Game" "sort" "LChanceArenaModel$Numbers;") ∈ lw_R := zR (zk_8 _ (List.mem_of_getElem? (i := 229) (by decide +kernel))) rfl
theorem k8_231 : (Jvm.Cond.fieldLink "ChanceArenaModel$Game" (18 : Nat) "ChanceArenaModel$Game" "place" "LChanceArenaModel$Numbers;") ∈ lw_R := zR (zk_8 _ (List.mem_of_getElem? (i := 231) (by decide +kernel))) rfl
theorem k8_233 : (Jvm.Cond.fieldLink "ChanceArenaModel$Game" (21 : Nat) "ChanceArenaModel$Game" "from" "LChanceArenaModel$Numbers;") ∈ lw_R := zR (zk_8 _ (List.mem_of_getElem? (i := 233) (by decide +kernel))) rfl
theorem k8_235 : (Jvm.Cond.fieldLink "ChanceArenaModel$Game" (24 : Nat) "ChanceArenaModel$Game" "value" "LChanceArenaModel$Numbers;") ∈ lw_R := zR (zk_8 _ (List.mem_of_getElem? (i := 235) (by decide +kernel))) rfl
theorem k8_237 : (Jvm.Cond.fieldLink "ChanceArenaModel$Game" (27 : Nat) "ChanceArenaModel$Game" "firstPart" "LChanceArenaModel$Numbers;") ∈ lw_R := zR (zk_8 _ (List.mem_of_getElem? (i := 237) (by decide +kernel))) rfl
theorem k8_239 : (Jvm.Cond.fieldLink "ChanceArenaModel$Game" (30 : Nat) "ChanceArenaModel$Game" "nextPart" "LChanceArenaModel$Numbers;") ∈ lw_R := zR (zk_8 _ (List.mem_of_getElem? (i := 239) (by decide +kernel))) rfl
theorem k9_3 : (Jvm.Cond.fieldLink "ChanceArenaModel$Game" (33 : Nat) "ChanceArenaModel$Game" "isFormula" "[Z") ∈ lw_R := zR (zk_9 _ (List.mem_of_getElem? (i := 3) (by decide +kernel))) rfl
theorem k9_5 : (Jvm.Cond.fieldLink "ChanceArenaModel$Game" (37 : Nat) "ChanceArenaModel$Game" "isTruth" "[Z") ∈ lw_R := zR (zk_9 _ (List.mem_of_getElem? (i := 5) (by decide +kernel))) rfl
theorem k9_7 : (Jvm.Cond.fieldLink "ChanceArenaModel$Game" (40 : Nat) "ChanceArenaModel$Game" "rootOf" "[I") ∈ lw_R := zR (zk_9 _ (List.mem_of_getElem? (i := 7) (by decide +kernel))) rfl
theorem k9_9 : (Jvm.Cond.fieldLink "ChanceArenaModel$Game" (44 : Nat) "ChanceArenaModel$Game" "above" "[J") ∈ lw_R := zR (zk_9 _ (List.mem_of_getElem? (i := 9) (by decide +kernel))) rfl
theorem k9_11 : (Jvm.Cond.fieldLink "ChanceArenaModel$Game" (48 : Nat) "ChanceArenaModel$Game" "below" "[J") ∈ lw_R := zR (zk_9 _ (List.mem_of_getElem? (i := 11) (by decide +kernel))) rfl
theorem k9_15 : (Jvm.Cond.fieldLink "ChanceArenaModel$Game" (51 : Nat) "ChanceArenaModel$Game" "isBool" "[Z") ∈ lw_R := zR (zk_9 _ (List.mem_of_getElem? (i := 15) (by decide +kernel))) rfl
theorem k9_17 : (Jvm.Cond.fieldLink "ChanceArenaModel$Game" (54 : Nat) "ChanceArenaModel$Game" "least" "[I") ∈ lw_R := zR (zk_9 _ (List.mem_of_getElem? (i := 17) (by decide +kernel))) rfl
theorem k9_19 : (Jvm.Cond.fieldLink "ChanceArenaModel$Game" (57 : Nat) "ChanceArenaModel$Game" "greatest" "[I") ∈ lw_R := zR (zk_9 _ (List.mem_of_getElem? (i := 19) (by decide +kernel))) rfl
theorem k9_21 : (Jvm.Cond.fieldLink "ChanceArenaModel$Game" (60 : Nat) "ChanceArenaModel$Game" "begin" "[I") ∈ lw_R := zR (zk_9 _ (List.mem_of_getElem? (i := 21) (by decide +kernel))) rfl
theorem k9_27 : (Jvm.Cond.fieldLink "ChanceArenaModel$Game" (63 : Nat) "ChanceArenaModel$Game" "isMin" "[Z") ∈ lw_R := zR (zk_9 _ (List.mem_of_getElem? (i := 27) (by decide +kernel))) rfl
theorem k9_29 : (Jvm.Cond.fieldLink "ChanceArenaModel$Game" (66 : Nat) "ChanceArenaModel$Game" "commandPlace" "[I") ∈ lw_R := zR (zk_9 _ (List.mem_of_getElem? (i := 29) (by decide +kernel))) rfl
theorem k9_31 : (Jvm.Cond.fieldLink "ChanceArenaModel$Game" (69 : Nat) "ChanceArenaModel$Game" "guard" "[I") ∈ lw_R := zR (zk_9 _ (List.mem_of_getElem? (i := 31) (by decide +kernel))) rfl
theorem k9_33 : (Jvm.Cond.fieldLink "ChanceArenaModel$Game" (72 : Nat) "ChanceArenaModel$Game" "branches" "[I") ∈ lw_R := zR (zk_9 _ (List.mem_of_getElem? (i := 33) (by decide +kernel))) rfl
theorem k9_35 : (Jvm.Cond.fieldLink "ChanceArenaModel$Game" (75 : Nat) "ChanceArenaModel$Game" "chance" "[I") ∈ lw_R := zR (zk_9 _ (List.mem_of_getElem? (i := 35) (by decide +kernel))) rfl
theorem k9_37 : (Jvm.Cond.fieldLink "ChanceArenaModel$Game" (78 : Nat) "ChanceArenaModel$Game" "branchPlace" "[I") ∈ lw_R := zR (zk_9 _ (List.mem_of_getElem? (i := 37) (by decide +kernel))) rfl
theorem k9_39 : (Jvm.Cond.fieldLink "ChanceArenaModel$Game" (81 : Nat) "ChanceArenaModel$Game" "firstSet" "[I") ∈ lw_R := zR (zk_9 _ (List.mem_of_getElem? (i := 39) (by decide +kernel))) rfl
theorem k9_41 : (Jvm.Cond.fieldLink "ChanceArenaModel$Game" (84 : Nat) "ChanceArenaModel$Game" "manySets" "[I") ∈ lw_R := zR (zk_9 _ (List.mem_of_getElem? (i := 41) (by decide +kernel))) rfl
theorem k9_43 : (Jvm.Cond.fieldLink "ChanceArenaModel$Game" (87 : Nat) "ChanceArenaModel$Game" "setVar" "LChanceArenaModel$Numbers;") ∈ lw_R := zR (zk_9 _ (List.mem_of_getElem? (i := 43) (by decide +kernel))) rfl
theorem k9_45 : (Jvm.Cond.fieldLink "ChanceArenaModel$Game" (90 : Nat) "ChanceArenaModel$Game" "setPlace" "LChanceArenaModel$Numbers;") ∈ lw_R := zR (zk_9 _ (List.mem_of_getElem? (i := 45) (by decide +kernel))) rfl
theorem k9_47 : (Jvm.Cond.fieldLink "ChanceArenaModel$Game" (93 : Nat) "ChanceArenaModel$Game" "setRule" "LChanceArenaModel$Numbers;") ∈ lw_R := zR (zk_9 _ (List.mem_of_getElem? (i := 47) (by decide +kernel))) rfl
theorem d_MN_init_0 : decode prog_18_method_1_code 0 = .ok (.aload_n 0, 1) := by decide +kernel
theorem d_MN_init_1 : decode prog_18_method_1_code 1 = .ok (.invokespecial 1, 3) := by decide +kernel
theorem d_MN_init_4 : decode prog_18_method_1_code 4 = .ok (.aload_n 0, 1) := by decide +kernel
theorem d_MN_init_5 : decode prog_18_method_1_code 5 = .ok (.bipush 16, 2) := by decide +kernel
theorem d_MN_init_7 : decode prog_18_method_1_code 7 = .ok (.newarray .int, 2) := by decide +kernel
theorem d_MN_init_9 : decode prog_18_method_1_code 9 = .ok (.putfield 7, 3) := by decide +kernel
theorem d_MN_init_12 : decode prog_18_method_1_code 12 = .ok (.return_, 1) := by decide +kernel
theorem d_MG_init_0 : decode prog_17_method_1_code 0 = .ok (.aload_n 0, 1) := by decide +kernel
theorem d_MG_init_1 : decode prog_17_method_1_code 1 = .ok (.invokespecial 3, 3) := by decide +kernel
theorem d_MG_init_4 : decode prog_17_method_1_code 4 = .ok (.aload_n 0, 1) := by decide +kernel
theorem d_MG_init_5 : decode prog_17_method_1_code 5 = .ok (.new 9, 3) := by decide +kernel
theorem d_MG_init_8 : decode prog_17_method_1_code 8 = .ok (.dup, 1) := by decide +kernel
theorem d_MG_init_9 : decode prog_17_method_1_code 9 = .ok (.invokespecial 11, 3) := by decide +kernel
theorem d_MG_init_12 : decode prog_17_method_1_code 12 = .ok (.putfield 12, 3) := by decide +kernel
theorem d_MG_init_15 : decode prog_17_method_1_code 15 = .ok (.aload_n 0, 1) := by decide +kernel
theorem d_MG_init_16 : decode prog_17_method_1_code 16 = .ok (.new 9, 3) := by decide +kernel
theorem d_MG_init_19 : decode prog_17_method_1_code 19 = .ok (.dup, 1) := by decide +kernel
theorem d_MG_init_20 : decode prog_17_method_1_code 20 = .ok (.invokespecial 11, 3) := by decide +kernel
theorem d_MG_init_23 : decode prog_17_method_1_code 23 = .ok (.putfield 18, 3) := by decide +kernel
theorem d_MG_init_26 : decode prog_17_method_1_code 26 = .ok (.aload_n 0, 1) := by decide +kernel
theorem d_MG_init_27 : decode prog_17_method_1_code 27 = .ok (.new 9, 3) := by decide +kernel
theorem d_MG_init_30 : decode prog_17_method_1_code 30 = .ok (.dup, 1) := by decide +kernel
theorem d_MG_init_31 : decode prog_17_method_1_code 31 = .ok (.invokespecial 11, 3) := by decide +kernel
theorem d_MG_init_34 : decode prog_17_method_1_code 34 = .ok (.putfield 21, 3) := by decide +kernel
theorem d_MG_init_37 : decode prog_17_method_1_code 37 = .ok (.aload_n 0, 1) := by decide +kernel
theorem d_MG_init_38 : decode prog_17_method_1_code 38 = .ok (.new 9, 3) := by decide +kernel
theorem d_MG_init_41 : decode prog_17_method_1_code 41 = .ok (.dup, 1) := by decide +kernel
theorem d_MG_init_42 : decode prog_17_method_1_code 42 = .ok (.invokespecial 11, 3) := by decide +kernel
theorem d_MG_init_45 : decode prog_17_method_1_code 45 = .ok (.putfield 24, 3) := by decide +kernel
theorem d_MG_init_48 : decode prog_17_method_1_code 48 = .ok (.aload_n 0, 1) := by decide +kernel
theorem d_MG_init_49 : decode prog_17_method_1_code 49 = .ok (.new 9, 3) := by decide +kernel
theorem d_MG_init_52 : decode prog_17_method_1_code 52 = .ok (.dup, 1) := by decide +kernel
theorem d_MG_init_53 : decode prog_17_method_1_code 53 = .ok (.invokespecial 11, 3) := by decide +kernel
theorem d_MG_init_56 : decode prog_17_method_1_code 56 = .ok (.putfield 27, 3) := by decide +kernel
theorem d_MG_init_59 : decode prog_17_method_1_code 59 = .ok (.aload_n 0, 1) := by decide +kernel
theorem d_MG_init_60 : decode prog_17_method_1_code 60 = .ok (.new 9, 3) := by decide +kernel
theorem d_MG_init_63 : decode prog_17_method_1_code 63 = .ok (.dup, 1) := by decide +kernel
theorem d_MG_init_64 : decode prog_17_method_1_code 64 = .ok (.invokespecial 11, 3) := by decide +kernel
theorem d_MG_init_67 : decode prog_17_method_1_code 67 = .ok (.putfield 30, 3) := by decide +kernel
theorem d_MG_init_70 : decode prog_17_method_1_code 70 = .ok (.aload_n 0, 1) := by decide +kernel
theorem d_MG_init_71 : decode prog_17_method_1_code 71 = .ok (.bipush 60, 2) := by decide +kernel
theorem d_MG_init_73 : decode prog_17_method_1_code 73 = .ok (.newarray .boolean, 2) := by decide +kernel
theorem d_MG_init_75 : decode prog_17_method_1_code 75 = .ok (.putfield 33, 3) := by decide +kernel
theorem d_MG_init_78 : decode prog_17_method_1_code 78 = .ok (.aload_n 0, 1) := by decide +kernel
theorem d_MG_init_79 : decode prog_17_method_1_code 79 = .ok (.bipush 60, 2) := by decide +kernel
theorem d_MG_init_81 : decode prog_17_method_1_code 81 = .ok (.newarray .boolean, 2) := by decide +kernel
theorem d_MG_init_83 : decode prog_17_method_1_code 83 = .ok (.putfield 37, 3) := by decide +kernel
theorem d_MG_init_86 : decode prog_17_method_1_code 86 = .ok (.aload_n 0, 1) := by decide +kernel
theorem d_MG_init_87 : decode prog_17_method_1_code 87 = .ok (.bipush 60, 2) := by decide +kernel
theorem d_MG_init_89 : decode prog_17_method_1_code 89 = .ok (.newarray .int, 2) := by decide +kernel
theorem d_MG_init_91 : decode prog_17_method_1_code 91 = .ok (.putfield 40, 3) := by decide +kernel
theorem d_MG_init_94 : decode prog_17_method_1_code 94 = .ok (.aload_n 0, 1) := by decide +kernel
theorem d_MG_init_95 : decode prog_17_method_1_code 95 = .ok (.bipush 60, 2) := by decide +kernel
theorem d_MG_init_97 : decode prog_17_method_1_code 97 = .ok (.newarray .long, 2) := by decide +kernel
theorem d_MG_init_99 : decode prog_17_method_1_code 99 = .ok (.putfield 44, 3) := by decide +kernel
theorem d_MG_init_102 : decode prog_17_method_1_code 102 = .ok (.aload_n 0, 1) := by decide +kernel
theorem d_MG_init_103 : decode prog_17_method_1_code 103 = .ok (.bipush 60, 2) := by decide +kernel
theorem d_MG_init_105 : decode prog_17_method_1_code 105 = .ok (.newarray .long, 2) := by decide +kernel
theorem d_MG_init_107 : decode prog_17_method_1_code 107 = .ok (.putfield 48, 3) := by decide +kernel
theorem d_MG_init_110 : decode prog_17_method_1_code 110 = .ok (.aload_n 0, 1) := by decide +kernel
theorem d_MG_init_111 : decode prog_17_method_1_code 111 = .ok (.bipush 12, 2) := by decide +kernel
theorem d_MG_init_113 : decode prog_17_method_1_code 113 = .ok (.newarray .boolean, 2) := by decide +kernel
theorem d_MG_init_115 : decode prog_17_method_1_code 115 = .ok (.putfield 51, 3) := by decide +kernel
theorem d_MG_init_118 : decode prog_17_method_1_code 118 = .ok (.aload_n 0, 1) := by decide +kernel
theorem d_MG_init_119 : decode prog_17_method_1_code 119 = .ok (.bipush 12, 2) := by decide +kernel
theorem d_MG_init_121 : decode prog_17_method_1_code 121 = .ok (.newarray .int, 2) := by decide +kernel
theorem d_MG_init_123 : decode prog_17_method_1_code 123 = .ok (.putfield 54, 3) := by decide +kernel
theorem d_MG_init_126 : decode prog_17_method_1_code 126 = .ok (.aload_n 0, 1) := by decide +kernel
theorem d_MG_init_127 : decode prog_17_method_1_code 127 = .ok (.bipush 12, 2) := by decide +kernel
theorem d_MG_init_129 : decode prog_17_method_1_code 129 = .ok (.newarray .int, 2) := by decide +kernel
theorem d_MG_init_131 : decode prog_17_method_1_code 131 = .ok (.putfield 57, 3) := by decide +kernel
theorem d_MG_init_134 : decode prog_17_method_1_code 134 = .ok (.aload_n 0, 1) := by decide +kernel
theorem d_MG_init_135 : decode prog_17_method_1_code 135 = .ok (.bipush 12, 2) := by decide +kernel
theorem d_MG_init_137 : decode prog_17_method_1_code 137 = .ok (.newarray .int, 2) := by decide +kernel
theorem d_MG_init_139 : decode prog_17_method_1_code 139 = .ok (.putfield 60, 3) := by decide +kernel
theorem d_MG_init_142 : decode prog_17_method_1_code 142 = .ok (.aload_n 0, 1) := by decide +kernel
theorem d_MG_init_143 : decode prog_17_method_1_code 143 = .ok (.bipush 60, 2) := by decide +kernel
theorem d_MG_init_145 : decode prog_17_method_1_code 145 = .ok (.newarray .boolean, 2) := by decide +kernel
theorem d_MG_init_147 : decode prog_17_method_1_code 147 = .ok (.putfield 63, 3) := by decide +kernel
theorem d_MG_init_150 : decode prog_17_method_1_code 150 = .ok (.aload_n 0, 1) := by decide +kernel
theorem d_MG_init_151 : decode prog_17_method_1_code 151 = .ok (.bipush 60, 2) := by decide +kernel
theorem d_MG_init_153 : decode prog_17_method_1_code 153 = .ok (.newarray .int, 2) := by decide +kernel
theorem d_MG_init_155 : decode prog_17_method_1_code 155 = .ok (.putfield 66, 3) := by decide +kernel
theorem d_MG_init_158 : decode prog_17_method_1_code 158 = .ok (.aload_n 0, 1) := by decide +kernel
theorem d_MG_init_159 : decode prog_17_method_1_code 159 = .ok (.bipush 60, 2) := by decide +kernel
theorem d_MG_init_161 : decode prog_17_method_1_code 161 = .ok (.newarray .int, 2) := by decide +kernel
theorem d_MG_init_163 : decode prog_17_method_1_code 163 = .ok (.putfield 69, 3) := by decide +kernel
theorem d_MG_init_166 : decode prog_17_method_1_code 166 = .ok (.aload_n 0, 1) := by decide +kernel
theorem d_MG_init_167 : decode prog_17_method_1_code 167 = .ok (.bipush 60, 2) := by decide +kernel
theorem d_MG_init_169 : decode prog_17_method_1_code 169 = .ok (.newarray .int, 2) := by decide +kernel
theorem d_MG_init_171 : decode prog_17_method_1_code 171 = .ok (.putfield 72, 3) := by decide +kernel
theorem d_MG_init_174 : decode prog_17_method_1_code 174 = .ok (.aload_n 0, 1) := by decide +kernel
theorem d_MG_init_175 : decode prog_17_method_1_code 175 = .ok (.sipush 480, 3) := by decide +kernel
theorem d_MG_init_178 : decode prog_17_method_1_code 178 = .ok (.newarray .int, 2) := by decide +kernel
theorem d_MG_init_180 : decode prog_17_method_1_code 180 = .ok (.putfield 75, 3) := by decide +kernel
theorem d_MG_init_183 : decode prog_17_method_1_code 183 = .ok (.aload_n 0, 1) := by decide +kernel
theorem d_MG_init_184 : decode prog_17_method_1_code 184 = .ok (.sipush 480, 3) := by decide +kernel
theorem d_MG_init_187 : decode prog_17_method_1_code 187 = .ok (.newarray .int, 2) := by decide +kernel
theorem d_MG_init_189 : decode prog_17_method_1_code 189 = .ok (.putfield 78, 3) := by decide +kernel
theorem d_MG_init_192 : decode prog_17_method_1_code 192 = .ok (.aload_n 0, 1) := by decide +kernel
theorem d_MG_init_193 : decode prog_17_method_1_code 193 = .ok (.sipush 480, 3) := by decide +kernel
theorem d_MG_init_196 : decode prog_17_method_1_code 196 = .ok (.newarray .int, 2) := by decide +kernel
theorem d_MG_init_198 : decode prog_17_method_1_code 198 = .ok (.putfield 81, 3) := by decide +kernel
theorem d_MG_init_201 : decode prog_17_method_1_code 201 = .ok (.aload_n 0, 1) := by decide +kernel
theorem d_MG_init_202 : decode prog_17_method_1_code 202 = .ok (.sipush 480, 3) := by decide +kernel
theorem d_MG_init_205 : decode prog_17_method_1_code 205 = .ok (.newarray .int, 2) := by decide +kernel
theorem d_MG_init_207 : decode prog_17_method_1_code 207 = .ok (.putfield 84, 3) := by decide +kernel
theorem d_MG_init_210 : decode prog_17_method_1_code 210 = .ok (.aload_n 0, 1) := by decide +kernel
theorem d_MG_init_211 : decode prog_17_method_1_code 211 = .ok (.new 9, 3) := by decide +kernel
theorem d_MG_init_214 : decode prog_17_method_1_code 214 = .ok (.dup, 1) := by decide +kernel
theorem d_MG_init_215 : decode prog_17_method_1_code 215 = .ok (.invokespecial 11, 3) := by decide +kernel
theorem d_MG_init_218 : decode prog_17_method_1_code 218 = .ok (.putfield 87, 3) := by decide +kernel
theorem d_MG_init_221 : decode prog_17_method_1_code 221 = .ok (.aload_n 0, 1) := by decide +kernel
theorem d_MG_init_222 : decode prog_17_method_1_code 222 = .ok (.new 9, 3) := by decide +kernel
theorem d_MG_init_225 : decode prog_17_method_1_code 225 = .ok (.dup, 1) := by decide +kernel
theorem d_MG_init_226 : decode prog_17_method_1_code 226 = .ok (.invokespecial 11, 3) := by decide +kernel
theorem d_MG_init_229 : decode prog_17_method_1_code 229 = .ok (.putfield 90, 3) := by decide +kernel
theorem d_MG_init_232 : decode prog_17_method_1_code 232 = .ok (.aload_n 0, 1) := by decide +kernel
theorem d_MG_init_233 : decode prog_17_method_1_code 233 = .ok (.new 9, 3) := by decide +kernel
theorem d_MG_init_236 : decode prog_17_method_1_code 236 = .ok (.dup, 1) := by decide +kernel
theorem d_MG_init_237 : decode prog_17_method_1_code 237 = .ok (.invokespecial 11, 3) := by decide +kernel
theorem d_MG_init_240 : decode prog_17_method_1_code 240 = .ok (.putfield 93, 3) := by decide +kernel
theorem d_MG_init_243 : decode prog_17_method_1_code 243 = .ok (.return_, 1) := by decide +kernel
abbrev S_MN : Type := Nat
def w_MN (tA : Nat → ClassId) (h0 : Nat) (u : S_MN) : va_W := match u with
  | q7 => (h0, .inr (14, [.ref q7, .int 0])) :: ([] ++ [(q7, .inl (tA 0, 16, .inl (fun _ => 0)))])
theorem f_MN : ∀ j, j < 2 → defaultValue (t_MN j) = vp_V [.null, .int 0] j := by decide +kernel
set_option maxHeartbeats 4000000 in
set_option maxRecDepth 100000 in
theorem c_MN_init (l : Launch) (D : va_G) (tA : Nat → ClassId) (h0 sz : Nat) : zMv l ({ cls := "ChanceArenaModel$Numbers", name := "<init>", desc := "()V" } : Jvm.MethodName) (zW (Jvm.Cond.code ({ cls := "ChanceArenaModel$Numbers", name := "<init>", desc := "()V" } : Jvm.MethodName) prog_18_method_1_code (1 : Nat) (Option.none : Option Jvm.ClassFile.FieldType))) { frames := 1, cells := 1, slots := 16, locals := 12 } [.ref h0] D tA [(h0, .inr (14, [.null, .int 0]))] sz (fun _ : S_MN => True) (w_MN tA h0) 1 16 := by
  refine zOpen (fun A => va_Qv _ (zPost D A (w_MN tA h0)) A) (lv := [(0, .ref h0)]) (by decide) rfl (Nat.le_of_ble_eq_true rfl) rfl ?_
  intro p e s m below meth c A ls hx hb hr hml hh hg hown hlocks hnm hK hA hP hD0 hAw hS hl
  have hD := zD hD0 hAw
  refine lv_aload_n hx hb d_MN_init_0 rfl (lv_at hl 0 rfl) ?_
  refine W.objInit hx hb hown (hg _ k8_210) (hg _ k1_46) (hg _ k1_47) rfl (by rw [hml]; exact hl.1) rfl d_MN_init_1 (Nat.le_of_ble_eq_true rfl) (Nat.le_of_ble_eq_true rfl) ?_
  refine lv_aload_n hx hb d_MN_init_4 rfl (lv_at hl 0 rfl) ?_
  refine lv_bipush (v := 16) hx hb d_MN_init_5 (by decide) ?_
  refine zNewa (atype := .int) (ty := .int) (a0 := (16, .inl (fun _ => 0))) (N' := 16) hx hb rfl (hg _ k1_82) hK hP hD hS hA 0 rfl (fun _ h => by cases h) (fun _ => rfl) (by decide) (by decide) (by decide) (Nat.le_of_ble_eq_true rfl) (Nat.le_of_ble_eq_true rfl) d_MN_init_7 (fun q7 H1 hP1 hD1 hS1 => ?_)
  clear hP hD hS
  refine zCons (fun T7 e7 hP2 hD2 => ?_) hP1 hD1
  clear hP1 hD1
  refine va_put (D := D) (ci := 14) (v := .ref q7) (ty := .array .int) (C := R_MN) (T := T_MN) (N := 2) hx hb hg i_MN t_MN o_MN n_MN hown hK hP2 hD2 hS1 0 rfl rfl 0 (by decide) (hg _ k8_211) (fun _ h9 => h9) rfl (by decide +kernel) rfl rfl (Nat.le_of_ble_eq_true rfl) d_MN_init_9 (fun H3 locs3 hP3 hD3 hS3 => ?_)
  clear hP2 hD2 hS1
  replace hP3 : va_P D vwCl ((h0, .inr (14, [.ref q7, .int 0])) :: T7) _ := hP3
  replace hD3 : va_D A ((h0, .inr (14, [.ref q7, .int 0])) :: T7) := hD3
  refine W.cs (cells' := 1) (slots' := 16) rfl rfl ?_
  exact zVret hx hb hr hlocks hP3 hD3 hS3 (q7) trivial (by rw [e7]; rfl) d_MN_init_12
abbrev S_MG : Type := (Nat × S_MN) × (Nat × S_MN) × (Nat × S_MN) × (Nat × S_MN) × (Nat × S_MN) × (Nat × S_MN) × Nat × Nat × Nat × Nat × Nat × Nat × Nat × Nat × Nat × Nat × Nat × Nat × Nat × Nat × Nat × Nat × Nat × (Nat × S_MN) × (Nat × S_MN) × (Nat × S_MN)
def w_MG (tA : Nat → ClassId) (h0 : Nat) (u : S_MG) : va_W := match u with
  | ((q5, u5), (q16, u16), (q27, u27), (q38, u38), (q49, u49), (q60, u60), q73, q81, q89, q97, q105, q113, q121, q129, q137, q145, q153, q161, q169, q178, q187, q196, q205, (q211, u211), (q222, u222), (q233, u233)) => (h0, .inr (15, [.ref q5, .ref q16, .ref q27, .ref q38, .ref q49, .ref q60, .int 0, .ref q73, .ref q81, .ref q89, .ref q97, .ref q105, .int 0, .ref q113, .ref q121, .ref q129, .ref q137, .int 0, .int 0, .ref q145, .ref q153, .ref q161, .ref q169, .ref q178, .ref q187, .ref q196, .ref q205, .ref q211, .ref q222, .ref q233])) :: ([] ++ w_MN tA q5 u5 ++ w_MN tA q16 u16 ++ w_MN tA q27 u27 ++ w_MN tA q38 u38 ++ w_MN tA q49 u49 ++ w_MN tA q60 u60 ++ [(q73, .inl (tA 1, 60, .inl (fun _ => 0)))] ++ [(q81, .inl (tA 1, 60, .inl (fun _ => 0)))] ++ [(q89, .inl (tA 0, 60, .inl (fun _ => 0)))] ++ [(q97, .inl (tA 3, 60, .inr (.inl (fun _ => 0))))] ++ [(q105, .inl (tA 3, 60, .inr (.inl (fun _ => 0))))] ++ [(q113, .inl (tA 1, 12, .inl (fun _ => 0)))] ++ [(q121, .inl (tA 0, 12, .inl (fun _ => 0)))] ++ [(q129, .inl (tA 0, 12, .inl (fun _ => 0)))] ++ [(q137, .inl (tA 0, 12, .inl (fun _ => 0)))] ++ [(q145, .inl (tA 1, 60, .inl (fun _ => 0)))] ++ [(q153, .inl (tA 0, 60, .inl (fun _ => 0)))] ++ [(q161, .inl (tA 0, 60, .inl (fun _ => 0)))] ++ [(q169, .inl (tA 0, 60, .inl (fun _ => 0)))] ++ [(q178, .inl (tA 0, 480, .inl (fun _ => 0)))] ++ [(q187, .inl (tA 0, 480, .inl (fun _ => 0)))] ++ [(q196, .inl (tA 0, 480, .inl (fun _ => 0)))] ++ [(q205, .inl (tA 0, 480, .inl (fun _ => 0)))] ++ w_MN tA q211 u211 ++ w_MN tA q222 u222 ++ w_MN tA q233 u233)
theorem f_MG : ∀ j, j < 30 → defaultValue (t_MG j) = vp_V [.null, .null, .null, .null, .null, .null, .int 0, .null, .null, .null, .null, .null, .int 0, .null, .null, .null, .null, .int 0, .int 0, .null, .null, .null, .null, .null, .null, .null, .null, .null, .null, .null] j := by decide +kernel
set_option maxHeartbeats 4000000 in
set_option maxRecDepth 100000 in
theorem c_MG_init (l : Launch) (D : va_G) (tA : Nat → ClassId) (h0 sz : Nat) : zMv l ({ cls := "ChanceArenaModel$Game", name := "<init>", desc := "()V" } : Jvm.MethodName) (zW (Jvm.Cond.code ({ cls := "ChanceArenaModel$Game", name := "<init>", desc := "()V" } : Jvm.MethodName) prog_17_method_1_code (1 : Nat) (Option.none : Option Jvm.ClassFile.FieldType))) { frames := 2, cells := 35, slots := 2670, locals := 32 } [.ref h0] D tA [(h0, .inr (15, [.null, .null, .null, .null, .null, .null, .int 0, .null, .null, .null, .null, .null, .int 0, .null, .null, .null, .null, .int 0, .int 0, .null, .null, .null, .null, .null, .null, .null, .null, .null, .null, .null]))] sz (fun _ : S_MG => True) (w_MG tA h0) 35 2670 := by
  refine zOpen (fun A => va_Qv _ (zPost D A (w_MG tA h0)) A) (lv := [(0, .ref h0)]) (by decide) rfl (Nat.le_of_ble_eq_true rfl) rfl ?_
  intro p e s m below meth c A ls hx hb hr hml hh hg hown hlocks hnm hK hA hP hD0 hAw hS hl
  have hD := zD hD0 hAw
  refine lv_aload_n hx hb d_MG_init_0 rfl (lv_at hl 0 rfl) ?_
  refine W.objInit hx hb hown (hg _ k8_226) (hg _ k1_46) (hg _ k1_47) rfl (by rw [hml]; exact hl.1) rfl d_MG_init_1 (Nat.le_of_ble_eq_true rfl) (Nat.le_of_ble_eq_true rfl) ?_
  refine lv_aload_n hx hb d_MG_init_4 rfl (lv_at hl 0 rfl) ?_
  refine va_new (ci := 14) (fs := [.null, .int 0]) (C := R_MN) (T := T_MN) (N := 2) hx hb hg i_MN t_MN o_MN hown (hg _ k8_227) (hg _ k8_206) (hg _ k1_15) hK hP hD hS hA rfl f_MN (Nat.le_of_ble_eq_true rfl) (Nat.le_of_ble_eq_true rfl) d_MG_init_5 (fun q5 H1 hP1 hD1 hS1 => ?_)
  clear hP hD hS
  refine lv_dup hx hb d_MG_init_8 rfl ?_
  refine zInit hP1 hD1 hS1 hA (va_runIN (As := []) (rest := [.ref q5, .ref h0]) ⟨hx, hb, hml, hown, hg⟩ (c_MN_init l D tA q5 H1.size) ⟨va_cnB 0 hg (zGood k8_209 rfl) rfl rfl rfl (va_Nw.of rfl (hg _ k8_228)) (hg _ k1_15) (by decide +kernel) ⟨(Nat.le_of_ble_eq_true rfl), (Nat.le_of_ble_eq_true rfl)⟩, rfl, hg _ k8_208⟩ (zPreI hh hK hP1 hD1) rfl rfl hl.1 rfl (lv_room (Nat.le_of_ble_eq_true rfl)) d_MG_init_9 ⟨(Nat.le_of_ble_eq_true rfl), (Nat.le_of_ble_eq_true rfl)⟩) (fun u5 H2 locs2 _ hP2 hD2 hS2 => ?_)
  clear hP1 hD1 hS1
  refine zCons (fun T9 e9 hP3 hD3 => ?_) hP2 hD2
  clear hP2 hD2
  refine va_putF (D := D) (ci := 15) (v := .ref q5) (ty := .object "ChanceArenaModel$Numbers") (C := R_MG) (T := T_MG) (N := 30) hx hb hg i_MG t_MG o_MG n_MG hown hK hP3 hD3 hS2 0 rfl rfl 0 (by decide) (hg _ k8_229) (fun _ h9 => h9) rfl hnm rfl (by decide +kernel) rfl rfl (Nat.le_of_ble_eq_true rfl) d_MG_init_12 (fun H4 locs4 hP4 hD4 hS4 => ?_)
  clear hP3 hD3 hS2
  replace hP4 : va_P D vwCl ((h0, .inr (15, [.ref q5, .null, .null, .null, .null, .null, .int 0, .null, .null, .null, .null, .null, .int 0, .null, .null, .null, .null, .int 0, .int 0, .null, .null, .null, .null, .null, .null, .null, .null, .null, .null, .null])) :: T9) _ := hP4
  replace hD4 : va_D A ((h0, .inr (15, [.ref q5, .null, .null, .null, .null, .null, .int 0, .null, .null, .null, .null, .null, .int 0, .null, .null, .null, .null, .int 0, .int 0, .null, .null, .null, .null, .null, .null, .null, .null, .null, .null, .null])) :: T9) := hD4
  refine lv_aload_n hx hb d_MG_init_15 rfl (lv_at hl 0 rfl) ?_
  refine va_new (ci := 14) (fs := [.null, .int 0]) (C := R_MN) (T := T_MN) (N := 2) hx hb hg i_MN t_MN o_MN hown (hg _ k8_227) (hg _ k8_206) (hg _ k1_15) hK hP4 hD4 hS4 hA rfl f_MN (Nat.le_of_ble_eq_true rfl) (Nat.le_of_ble_eq_true rfl) d_MG_init_16 (fun q16 H5 hP5 hD5 hS5 => ?_)
  clear hP4 hD4 hS4
  refine lv_dup hx hb d_MG_init_19 rfl ?_
  refine zInit hP5 hD5 hS5 hA (va_runIN (As := []) (rest := [.ref q16, .ref h0]) ⟨hx, hb, hml, hown, hg⟩ (c_MN_init l D tA q16 H5.size) ⟨va_cnB 0 hg (zGood k8_209 rfl) rfl rfl rfl (va_Nw.of rfl (hg _ k8_228)) (hg _ k1_15) (by decide +kernel) ⟨(Nat.le_of_ble_eq_true rfl), (Nat.le_of_ble_eq_true rfl)⟩, rfl, hg _ k8_208⟩ (zPreI hh hK hP5 hD5) rfl rfl hl.1 rfl (lv_room (Nat.le_of_ble_eq_true rfl)) d_MG_init_20 ⟨(Nat.le_of_ble_eq_true rfl), (Nat.le_of_ble_eq_true rfl)⟩) (fun u16 H6 locs6 _ hP6 hD6 hS6 => ?_)
  clear hP5 hD5 hS5
  refine zCons (fun T20 e20 hP7 hD7 => ?_) hP6 hD6
  clear hP6 hD6
  refine va_putF (D := D) (ci := 15) (v := .ref q16) (ty := .object "ChanceArenaModel$Numbers") (C := R_MG) (T := T_MG) (N := 30) hx hb hg i_MG t_MG o_MG n_MG hown hK hP7 hD7 hS6 0 rfl rfl 1 (by decide) (hg _ k8_231) (fun _ h9 => h9) rfl hnm rfl (by decide +kernel) rfl rfl (Nat.le_of_ble_eq_true rfl) d_MG_init_23 (fun H8 locs8 hP8 hD8 hS8 => ?_)
  clear hP7 hD7 hS6
  replace hP8 : va_P D vwCl ((h0, .inr (15, [.ref q5, .ref q16, .null, .null, .null, .null, .int 0, .null, .null, .null, .null, .null, .int 0, .null, .null, .null, .null, .int 0, .int 0, .null, .null, .null, .null, .null, .null, .null, .null, .null, .null, .null])) :: T20) _ := hP8
  replace hD8 : va_D A ((h0, .inr (15, [.ref q5, .ref q16, .null, .null, .null, .null, .int 0, .null, .null, .null, .null, .null, .int 0, .null, .null, .null, .null, .int 0, .int 0, .null, .null, .null, .null, .null, .null, .null, .null, .null, .null, .null])) :: T20) := hD8
  refine lv_aload_n hx hb d_MG_init_26 rfl (lv_at hl 0 rfl) ?_
  refine va_new (ci := 14) (fs := [.null, .int 0]) (C := R_MN) (T := T_MN) (N := 2) hx hb hg i_MN t_MN o_MN hown (hg _ k8_227) (hg _ k8_206) (hg _ k1_15) hK hP8 hD8 hS8 hA rfl f_MN (Nat.le_of_ble_eq_true rfl) (Nat.le_of_ble_eq_true rfl) d_MG_init_27 (fun q27 H9 hP9 hD9 hS9 => ?_)
  clear hP8 hD8 hS8
  refine lv_dup hx hb d_MG_init_30 rfl ?_
  refine zInit hP9 hD9 hS9 hA (va_runIN (As := []) (rest := [.ref q27, .ref h0]) ⟨hx, hb, hml, hown, hg⟩ (c_MN_init l D tA q27 H9.size) ⟨va_cnB 0 hg (zGood k8_209 rfl) rfl rfl rfl (va_Nw.of rfl (hg _ k8_228)) (hg _ k1_15) (by decide +kernel) ⟨(Nat.le_of_ble_eq_true rfl), (Nat.le_of_ble_eq_true rfl)⟩, rfl, hg _ k8_208⟩ (zPreI hh hK hP9 hD9) rfl rfl hl.1 rfl (lv_room (Nat.le_of_ble_eq_true rfl)) d_MG_init_31 ⟨(Nat.le_of_ble_eq_true rfl), (Nat.le_of_ble_eq_true rfl)⟩) (fun u27 H10 locs10 _ hP10 hD10 hS10 => ?_)
  clear hP9 hD9 hS9
  refine zCons (fun T31 e31 hP11 hD11 => ?_) hP10 hD10
  clear hP10 hD10
  refine va_putF (D := D) (ci := 15) (v := .ref q27) (ty := .object "ChanceArenaModel$Numbers") (C := R_MG) (T := T_MG) (N := 30) hx hb hg i_MG t_MG o_MG n_MG hown hK hP11 hD11 hS10 0 rfl rfl 2 (by decide) (hg _ k8_233) (fun _ h9 => h9) rfl hnm rfl (by decide +kernel) rfl rfl (Nat.le_of_ble_eq_true rfl) d_MG_init_34 (fun H12 locs12 hP12 hD12 hS12 => ?_)
  clear hP11 hD11 hS10
  replace hP12 : va_P D vwCl ((h0, .inr (15, [.ref q5, .ref q16, .ref q27, .null, .null, .null, .int 0, .null, .null, .null, .null, .null, .int 0, .null, .null, .null, .null, .int 0, .int 0, .null, .null, .null, .null, .null, .null, .null, .null, .null, .null, .null])) :: T31) _ := hP12
  replace hD12 : va_D A ((h0, .inr (15, [.ref q5, .ref q16, .ref q27, .null, .null, .null, .int 0, .null, .null, .null, .null, .null, .int 0, .null, .null, .null, .null, .int 0, .int 0, .null, .null, .null, .null, .null, .null, .null, .null, .null, .null, .null])) :: T31) := hD12
  refine lv_aload_n hx hb d_MG_init_37 rfl (lv_at hl 0 rfl) ?_
  refine va_new (ci := 14) (fs := [.null, .int 0]) (C := R_MN) (T := T_MN) (N := 2) hx hb hg i_MN t_MN o_MN hown (hg _ k8_227) (hg _ k8_206) (hg _ k1_15) hK hP12 hD12 hS12 hA rfl f_MN (Nat.le_of_ble_eq_true rfl) (Nat.le_of_ble_eq_true rfl) d_MG_init_38 (fun q38 H13 hP13 hD13 hS13 => ?_)
  clear hP12 hD12 hS12
  refine lv_dup hx hb d_MG_init_41 rfl ?_
  refine zInit hP13 hD13 hS13 hA (va_runIN (As := []) (rest := [.ref q38, .ref h0]) ⟨hx, hb, hml, hown, hg⟩ (c_MN_init l D tA q38 H13.size) ⟨va_cnB 0 hg (zGood k8_209 rfl) rfl rfl rfl (va_Nw.of rfl (hg _ k8_228)) (hg _ k1_15) (by decide +kernel) ⟨(Nat.le_of_ble_eq_true rfl), (Nat.le_of_ble_eq_true rfl)⟩, rfl, hg _ k8_208⟩ (zPreI hh hK hP13 hD13) rfl rfl hl.1 rfl (lv_room (Nat.le_of_ble_eq_true rfl)) d_MG_init_42 ⟨(Nat.le_of_ble_eq_true rfl), (Nat.le_of_ble_eq_true rfl)⟩) (fun u38 H14 locs14 _ hP14 hD14 hS14 => ?_)
  clear hP13 hD13 hS13
  refine zCons (fun T42 e42 hP15 hD15 => ?_) hP14 hD14
  clear hP14 hD14
  refine va_putF (D := D) (ci := 15) (v := .ref q38) (ty := .object "ChanceArenaModel$Numbers") (C := R_MG) (T := T_MG) (N := 30) hx hb hg i_MG t_MG o_MG n_MG hown hK hP15 hD15 hS14 0 rfl rfl 3 (by decide) (hg _ k8_235) (fun _ h9 => h9) rfl hnm rfl (by decide +kernel) rfl rfl (Nat.le_of_ble_eq_true rfl) d_MG_init_45 (fun H16 locs16 hP16 hD16 hS16 => ?_)
  clear hP15 hD15 hS14
  replace hP16 : va_P D vwCl ((h0, .inr (15, [.ref q5, .ref q16, .ref q27, .ref q38, .null, .null, .int 0, .null, .null, .null, .null, .null, .int 0, .null, .null, .null, .null, .int 0, .int 0, .null, .null, .null, .null, .null, .null, .null, .null, .null, .null, .null])) :: T42) _ := hP16
  replace hD16 : va_D A ((h0, .inr (15, [.ref q5, .ref q16, .ref q27, .ref q38, .null, .null, .int 0, .null, .null, .null, .null, .null, .int 0, .null, .null, .null, .null, .int 0, .int 0, .null, .null, .null, .null, .null, .null, .null, .null, .null, .null, .null])) :: T42) := hD16
  refine lv_aload_n hx hb d_MG_init_48 rfl (lv_at hl 0 rfl) ?_
  refine va_new (ci := 14) (fs := [.null, .int 0]) (C := R_MN) (T := T_MN) (N := 2) hx hb hg i_MN t_MN o_MN hown (hg _ k8_227) (hg _ k8_206) (hg _ k1_15) hK hP16 hD16 hS16 hA rfl f_MN (Nat.le_of_ble_eq_true rfl) (Nat.le_of_ble_eq_true rfl) d_MG_init_49 (fun q49 H17 hP17 hD17 hS17 => ?_)
  clear hP16 hD16 hS16
  refine lv_dup hx hb d_MG_init_52 rfl ?_
  refine zInit hP17 hD17 hS17 hA (va_runIN (As := []) (rest := [.ref q49, .ref h0]) ⟨hx, hb, hml, hown, hg⟩ (c_MN_init l D tA q49 H17.size) ⟨va_cnB 0 hg (zGood k8_209 rfl) rfl rfl rfl (va_Nw.of rfl (hg _ k8_228)) (hg _ k1_15) (by decide +kernel) ⟨(Nat.le_of_ble_eq_true rfl), (Nat.le_of_ble_eq_true rfl)⟩, rfl, hg _ k8_208⟩ (zPreI hh hK hP17 hD17) rfl rfl hl.1 rfl (lv_room (Nat.le_of_ble_eq_true rfl)) d_MG_init_53 ⟨(Nat.le_of_ble_eq_true rfl), (Nat.le_of_ble_eq_true rfl)⟩) (fun u49 H18 locs18 _ hP18 hD18 hS18 => ?_)
  clear hP17 hD17 hS17
  refine zCons (fun T53 e53 hP19 hD19 => ?_) hP18 hD18
  clear hP18 hD18
  refine va_putF (D := D) (ci := 15) (v := .ref q49) (ty := .object "ChanceArenaModel$Numbers") (C := R_MG) (T := T_MG) (N := 30) hx hb hg i_MG t_MG o_MG n_MG hown hK hP19 hD19 hS18 0 rfl rfl 4 (by decide) (hg _ k8_237) (fun _ h9 => h9) rfl hnm rfl (by decide +kernel) rfl rfl (Nat.le_of_ble_eq_true rfl) d_MG_init_56 (fun H20 locs20 hP20 hD20 hS20 => ?_)
  clear hP19 hD19 hS18
  replace hP20 : va_P D vwCl ((h0, .inr (15, [.ref q5, .ref q16, .ref q27, .ref q38, .ref q49, .null, .int 0, .null, .null, .null, .null, .null, .int 0, .null, .null, .null, .null, .int 0, .int 0, .null, .null, .null, .null, .null, .null, .null, .null, .null, .null, .null])) :: T53) _ := hP20
  replace hD20 : va_D A ((h0, .inr (15, [.ref q5, .ref q16, .ref q27, .ref q38, .ref q49, .null, .int 0, .null, .null, .null, .null, .null, .int 0, .null, .null, .null, .null, .int 0, .int 0, .null, .null, .null, .null, .null, .null, .null, .null, .null, .null, .null])) :: T53) := hD20
  refine lv_aload_n hx hb d_MG_init_59 rfl (lv_at hl 0 rfl) ?_
  refine va_new (ci := 14) (fs := [.null, .int 0]) (C := R_MN) (T := T_MN) (N := 2) hx hb hg i_MN t_MN o_MN hown (hg _ k8_227) (hg _ k8_206) (hg _ k1_15) hK hP20 hD20 hS20 hA rfl f_MN (Nat.le_of_ble_eq_true rfl) (Nat.le_of_ble_eq_true rfl) d_MG_init_60 (fun q60 H21 hP21 hD21 hS21 => ?_)
  clear hP20 hD20 hS20
  refine lv_dup hx hb d_MG_init_63 rfl ?_
  refine zInit hP21 hD21 hS21 hA (va_runIN (As := []) (rest := [.ref q60, .ref h0]) ⟨hx, hb, hml, hown, hg⟩ (c_MN_init l D tA q60 H21.size) ⟨va_cnB 0 hg (zGood k8_209 rfl) rfl rfl rfl (va_Nw.of rfl (hg _ k8_228)) (hg _ k1_15) (by decide +kernel) ⟨(Nat.le_of_ble_eq_true rfl), (Nat.le_of_ble_eq_true rfl)⟩, rfl, hg _ k8_208⟩ (zPreI hh hK hP21 hD21) rfl rfl hl.1 rfl (lv_room (Nat.le_of_ble_eq_true rfl)) d_MG_init_64 ⟨(Nat.le_of_ble_eq_true rfl), (Nat.le_of_ble_eq_true rfl)⟩) (fun u60 H22 locs22 _ hP22 hD22 hS22 => ?_)
  clear hP21 hD21 hS21
  refine zCons (fun T64 e64 hP23 hD23 => ?_) hP22 hD22
  clear hP22 hD22
  refine va_putF (D := D) (ci := 15) (v := .ref q60) (ty := .object "ChanceArenaModel$Numbers") (C := R_MG) (T := T_MG) (N := 30) hx hb hg i_MG t_MG o_MG n_MG hown hK hP23 hD23 hS22 0 rfl rfl 5 (by decide) (hg _ k8_239) (fun _ h9 => h9) rfl hnm rfl (by decide +kernel) rfl rfl (Nat.le_of_ble_eq_true rfl) d_MG_init_67 (fun H24 locs24 hP24 hD24 hS24 => ?_)
  clear hP23 hD23 hS22
  replace hP24 : va_P D vwCl ((h0, .inr (15, [.ref q5, .ref q16, .ref q27, .ref q38, .ref q49, .ref q60, .int 0, .null, .null, .null, .null, .null, .int 0, .null, .null, .null, .null, .int 0, .int 0, .null, .null, .null, .null, .null, .null, .null, .null, .null, .null, .null])) :: T64) _ := hP24
  replace hD24 : va_D A ((h0, .inr (15, [.ref q5, .ref q16, .ref q27, .ref q38, .ref q49, .ref q60, .int 0, .null, .null, .null, .null, .null, .int 0, .null, .null, .null, .null, .int 0, .int 0, .null, .null, .null, .null, .null, .null, .null, .null, .null, .null, .null])) :: T64) := hD24
  refine lv_aload_n hx hb d_MG_init_70 rfl (lv_at hl 0 rfl) ?_
  refine lv_bipush (v := 60) hx hb d_MG_init_71 (by decide) ?_
  refine zNewa (atype := .boolean) (ty := .boolean) (a0 := (60, .inl (fun _ => 0))) (N' := 60) hx hb rfl (hg _ k1_162) hK hP24 hD24 hS24 hA 1 rfl (fun _ h => by cases h) (fun _ => rfl) (by decide) (by decide) (by decide) (Nat.le_of_ble_eq_true rfl) (Nat.le_of_ble_eq_true rfl) d_MG_init_73 (fun q73 H25 hP25 hD25 hS25 => ?_)
  clear hP24 hD24 hS24
  refine zCons (fun T73 e73 hP26 hD26 => ?_) hP25 hD25
  clear hP25 hD25
  refine va_putF (D := D) (ci := 15) (v := .ref q73) (ty := .array .boolean) (C := R_MG) (T := T_MG) (N := 30) hx hb hg i_MG t_MG o_MG n_MG hown hK hP26 hD26 hS25 0 rfl rfl 7 (by decide) (hg _ k9_3) (fun _ h9 => h9) rfl hnm rfl (by decide +kernel) rfl rfl (Nat.le_of_ble_eq_true rfl) d_MG_init_75 (fun H27 locs27 hP27 hD27 hS27 => ?_)
  clear hP26 hD26 hS25
  replace hP27 : va_P D vwCl ((h0, .inr (15, [.ref q5, .ref q16, .ref q27, .ref q38, .ref q49, .ref q60, .int 0, .ref q73, .null, .null, .null, .null, .int 0, .null, .null, .null, .null, .int 0, .int 0, .null, .null, .null, .null, .null, .null, .null, .null, .null, .null, .null])) :: T73) _ := hP27
  replace hD27 : va_D A ((h0, .inr (15, [.ref q5, .ref q16, .ref q27, .ref q38, .ref q49, .ref q60, .int 0, .ref q73, .null, .null, .null, .null, .int 0, .null, .null, .null, .null, .int 0, .int 0, .null, .null, .null, .null, .null, .null, .null, .null, .null, .null, .null])) :: T73) := hD27
  refine lv_aload_n hx hb d_MG_init_78 rfl (lv_at hl 0 rfl) ?_
  refine lv_bipush (v := 60) hx hb d_MG_init_79 (by decide) ?_
  refine zNewa (atype := .boolean) (ty := .boolean) (a0 := (60, .inl (fun _ => 0))) (N' := 60) hx hb rfl (hg _ k1_162) hK hP27 hD27 hS27 hA 1 rfl (fun _ h => by cases h) (fun _ => rfl) (by decide) (by decide) (by decide) (Nat.le_of_ble_eq_true rfl) (Nat.le_of_ble_eq_true rfl) d_MG_init_81 (fun q81 H28 hP28 hD28 hS28 => ?_)
  clear hP27 hD27 hS27
  refine zCons (fun T81 e81 hP29 hD29 => ?_) hP28 hD28
  clear hP28 hD28
  refine va_putF (D := D) (ci := 15) (v := .ref q81) (ty := .array .boolean) (C := R_MG) (T := T_MG) (N := 30) hx hb hg i_MG t_MG o_MG n_MG hown hK hP29 hD29 hS28 0 rfl rfl 8 (by decide) (hg _ k9_5) (fun _ h9 => h9) rfl hnm rfl (by decide +kernel) rfl rfl (Nat.le_of_ble_eq_true rfl) d_MG_init_83 (fun H30 locs30 hP30 hD30 hS30 => ?_)
  clear hP29 hD29 hS28
  replace hP30 : va_P D vwCl ((h0, .inr (15, [.ref q5, .ref q16, .ref q27, .ref q38, .ref q49, .ref q60, .int 0, .ref q73, .ref q81, .null, .null, .null, .int 0, .null, .null, .null, .null, .int 0, .int 0, .null, .null, .null, .null, .null, .null, .null, .null, .null, .null, .null])) :: T81) _ := hP30
  replace hD30 : va_D A ((h0, .inr (15, [.ref q5, .ref q16, .ref q27, .ref q38, .ref q49, .ref q60, .int 0, .ref q73, .ref q81, .null, .null, .null, .int 0, .null, .null, .null, .null, .int 0, .int 0, .null, .null, .null, .null, .null, .null, .null, .null, .null, .null, .null])) :: T81) := hD30
  refine lv_aload_n hx hb d_MG_init_86 rfl (lv_at hl 0 rfl) ?_
  refine lv_bipush (v := 60) hx hb d_MG_init_87 (by decide) ?_
  refine zNewa (atype := .int) (ty := .int) (a0 := (60, .inl (fun _ => 0))) (N' := 60) hx hb rfl (hg _ k1_82) hK hP30 hD30 hS30 hA 0 rfl (fun _ h => by cases h) (fun _ => rfl) (by decide) (by decide) (by decide) (Nat.le_of_ble_eq_true rfl) (Nat.le_of_ble_eq_true rfl) d_MG_init_89 (fun q89 H31 hP31 hD31 hS31 => ?_)
  clear hP30 hD30 hS30
  refine zCons (fun T89 e89 hP32 hD32 => ?_) hP31 hD31
  clear hP31 hD31
  refine va_putF (D := D) (ci := 15) (v := .ref q89) (ty := .array .int) (C := R_MG) (T := T_MG) (N := 30) hx hb hg i_MG t_MG o_MG n_MG hown hK hP32 hD32 hS31 0 rfl rfl 9 (by decide) (hg _ k9_7) (fun _ h9 => h9) rfl hnm rfl (by decide +kernel) rfl rfl (Nat.le_of_ble_eq_true rfl) d_MG_init_91 (fun H33 locs33 hP33 hD33 hS33 => ?_)
  clear hP32 hD32 hS31
  replace hP33 : va_P D vwCl ((h0, .inr (15, [.ref q5, .ref q16, .ref q27, .ref q38, .ref q49, .ref q60, .int 0, .ref q73, .ref q81, .ref q89, .null, .null, .int 0, .null, .null, .null, .null, .int 0, .int 0, .null, .null, .null, .null, .null, .null, .null, .null, .null, .null, .null])) :: T89) _ := hP33
  replace hD33 : va_D A ((h0, .inr (15, [.ref q5, .ref q16, .ref q27, .ref q38, .ref q49, .ref q60, .int 0, .ref q73, .ref q81, .ref q89, .null, .null, .int 0, .null, .null, .null, .null, .int 0, .int 0, .null, .null, .null, .null, .null, .null, .null, .null, .null, .null, .null])) :: T89) := hD33
  refine lv_aload_n hx hb d_MG_init_94 rfl (lv_at hl 0 rfl) ?_
  refine lv_bipush (v := 60) hx hb d_MG_init_95 (by decide) ?_
  refine zNewa (atype := .long) (ty := .long) (a0 := (60, .inr (.inl (fun _ => 0)))) (N' := 60) hx hb rfl (hg _ k3_35) hK hP33 hD33 hS33 hA 3 rfl (fun _ h => by cases h) (fun _ => rfl) (by decide) (by decide) (by decide) (Nat.le_of_ble_eq_true rfl) (Nat.le_of_ble_eq_true rfl) d_MG_init_97 (fun q97 H34 hP34 hD34 hS34 => ?_)
  clear hP33 hD33 hS33
  refine zCons (fun T97 e97 hP35 hD35 => ?_) hP34 hD34
  clear hP34 hD34
  refine va_putF (D := D) (ci := 15) (v := .ref q97) (ty := .array .long) (C := R_MG) (T := T_MG) (N := 30) hx hb hg i_MG t_MG o_MG n_MG hown hK hP35 hD35 hS34 0 rfl rfl 10 (by decide) (hg _ k9_9) (fun _ h9 => h9) rfl hnm rfl (by decide +kernel) rfl rfl (Nat.le_of_ble_eq_true rfl) d_MG_init_99 (fun H36 locs36 hP36 hD36 hS36 => ?_)
  clear hP35 hD35 hS34
  replace hP36 : va_P D vwCl ((h0, .inr (15, [.ref q5, .ref q16, .ref q27, .ref q38, .ref q49, .ref q60, .int 0, .ref q73, .ref q81, .ref q89, .ref q97, .null, .int 0, .null, .null, .null, .null, .int 0, .int 0, .null, .null, .null, .null, .null, .null, .null, .null, .null, .null, .null])) :: T97) _ := hP36
  replace hD36 : va_D A ((h0, .inr (15, [.ref q5, .ref q16, .ref q27, .ref q38, .ref q49, .ref q60, .int 0, .ref q73, .ref q81, .ref q89, .ref q97, .null, .int 0, .null, .null, .null, .null, .int 0, .int 0, .null, .null, .null, .null, .null, .null, .null, .null, .null, .null, .null])) :: T97) := hD36
  refine lv_aload_n hx hb d_MG_init_102 rfl (lv_at hl 0 rfl) ?_
  refine lv_bipush (v := 60) hx hb d_MG_init_103 (by decide) ?_
  refine zNewa (atype := .long) (ty := .long) (a0 := (60, .inr (.inl (fun _ => 0)))) (N' := 60) hx hb rfl (hg _ k3_35) hK hP36 hD36 hS36 hA 3 rfl (fun _ h => by cases h) (fun _ => rfl) (by decide) (by decide) (by decide) (Nat.le_of_ble_eq_true rfl) (Nat.le_of_ble_eq_true rfl) d_MG_init_105 (fun q105 H37 hP37 hD37 hS37 => ?_)
  clear hP36 hD36 hS36
  refine zCons (fun T105 e105 hP38 hD38 => ?_) hP37 hD37
  clear hP37 hD37
  refine va_putF (D := D) (ci := 15) (v := .ref q105) (ty := .array .long) (C := R_MG) (T := T_MG) (N := 30) hx hb hg i_MG t_MG o_MG n_MG hown hK hP38 hD38 hS37 0 rfl rfl 11 (by decide) (hg _ k9_11) (fun _ h9 => h9) rfl hnm rfl (by decide +kernel) rfl rfl (Nat.le_of_ble_eq_true rfl) d_MG_init_107 (fun H39 locs39 hP39 hD39 hS39 => ?_)
  clear hP38 hD38 hS37
  replace hP39 : va_P D vwCl ((h0, .inr (15, [.ref q5, .ref q16, .ref q27, .ref q38, .ref q49, .ref q60, .int 0, .ref q73, .ref q81, .ref q89, .ref q97, .ref q105, .int 0, .null, .null, .null, .null, .int 0, .int 0, .null, .null, .null, .null, .null, .null, .null, .null, .null, .null, .null])) :: T105) _ := hP39
  replace hD39 : va_D A ((h0, .inr (15, [.ref q5, .ref q16, .ref q27, .ref q38, .ref q49, .ref q60, .int 0, .ref q73, .ref q81, .ref q89, .ref q97, .ref q105, .int 0, .null, .null, .null, .null, .int 0, .int 0, .null, .null, .null, .null, .null, .null, .null, .null, .null, .null, .null])) :: T105) := hD39
  refine lv_aload_n hx hb d_MG_init_110 rfl (lv_at hl 0 rfl) ?_
  refine lv_bipush (v := 12) hx hb d_MG_init_111 (by decide) ?_
  refine zNewa (atype := .boolean) (ty := .boolean) (a0 := (12, .inl (fun _ => 0))) (N' := 12) hx hb rfl (hg _ k1_162) hK hP39 hD39 hS39 hA 1 rfl (fun _ h => by cases h) (fun _ => rfl) (by decide) (by decide) (by decide) (Nat.le_of_ble_eq_true rfl) (Nat.le_of_ble_eq_true rfl) d_MG_init_113 (fun q113 H40 hP40 hD40 hS40 => ?_)
  clear hP39 hD39 hS39
  refine zCons (fun T113 e113 hP41 hD41 => ?_) hP40 hD40
  clear hP40 hD40
  refine va_putF (D := D) (ci := 15) (v := .ref q113) (ty := .array .boolean) (C := R_MG) (T := T_MG) (N := 30) hx hb hg i_MG t_MG o_MG n_MG hown hK hP41 hD41 hS40 0 rfl rfl 13 (by decide) (hg _ k9_15) (fun _ h9 => h9) rfl hnm rfl (by decide +kernel) rfl rfl (Nat.le_of_ble_eq_true rfl) d_MG_init_115 (fun H42 locs42 hP42 hD42 hS42 => ?_)
  clear hP41 hD41 hS40
  replace hP42 : va_P D vwCl ((h0, .inr (15, [.ref q5, .ref q16, .ref q27, .ref q38, .ref q49, .ref q60, .int 0, .ref q73, .ref q81, .ref q89, .ref q97, .ref q105, .int 0, .ref q113, .null, .null, .null, .int 0, .int 0, .null, .null, .null, .null, .null, .null, .null, .null, .null, .null, .null])) :: T113) _ := hP42
  replace hD42 : va_D A ((h0, .inr (15, [.ref q5, .ref q16, .ref q27, .ref q38, .ref q49, .ref q60, .int 0, .ref q73, .ref q81, .ref q89, .ref q97, .ref q105, .int 0, .ref q113, .null, .null, .null, .int 0, .int 0, .null, .null, .null, .null, .null, .null, .null, .null, .null, .null, .null])) :: T113) := hD42
  refine lv_aload_n hx hb d_MG_init_118 rfl (lv_at hl 0 rfl) ?_
  refine lv_bipush (v := 12) hx hb d_MG_init_119 (by decide) ?_
  refine zNewa (atype := .int) (ty := .int) (a0 := (12, .inl (fun _ => 0))) (N' := 12) hx hb rfl (hg _ k1_82) hK hP42 hD42 hS42 hA 0 rfl (fun _ h => by cases h) (fun _ => rfl) (by decide) (by decide) (by decide) (Nat.le_of_ble_eq_true rfl) (Nat.le_of_ble_eq_true rfl) d_MG_init_121 (fun q121 H43 hP43 hD43 hS43 => ?_)
  clear hP42 hD42 hS42
  refine zCons (fun T121 e121 hP44 hD44 => ?_) hP43 hD43
  clear hP43 hD43
  refine va_putF (D := D) (ci := 15) (v := .ref q121) (ty := .array .int) (C := R_MG) (T := T_MG) (N := 30) hx hb hg i_MG t_MG o_MG n_MG hown hK hP44 hD44 hS43 0 rfl rfl 14 (by decide) (hg _ k9_17) (fun _ h9 => h9) rfl hnm rfl (by decide +kernel) rfl rfl (Nat.le_of_ble_eq_true rfl) d_MG_init_123 (fun H45 locs45 hP45 hD45 hS45 => ?_)
  clear hP44 hD44 hS43
  replace hP45 : va_P D vwCl ((h0, .inr (15, [.ref q5, .ref q16, .ref q27, .ref q38, .ref q49, .ref q60, .int 0, .ref q73, .ref q81, .ref q89, .ref q97, .ref q105, .int 0, .ref q113, .ref q121, .null, .null, .int 0, .int 0, .null, .null, .null, .null, .null, .null, .null, .null, .null, .null, .null])) :: T121) _ := hP45
  replace hD45 : va_D A ((h0, .inr (15, [.ref q5, .ref q16, .ref q27, .ref q38, .ref q49, .ref q60, .int 0, .ref q73, .ref q81, .ref q89, .ref q97, .ref q105, .int 0, .ref q113, .ref q121, .null, .null, .int 0, .int 0, .null, .null, .null, .null, .null, .null, .null, .null, .null, .null, .null])) :: T121) := hD45
  refine lv_aload_n hx hb d_MG_init_126 rfl (lv_at hl 0 rfl) ?_
  refine lv_bipush (v := 12) hx hb d_MG_init_127 (by decide) ?_
  refine zNewa (atype := .int) (ty := .int) (a0 := (12, .inl (fun _ => 0))) (N' := 12) hx hb rfl (hg _ k1_82) hK hP45 hD45 hS45 hA 0 rfl (fun _ h => by cases h) (fun _ => rfl) (by decide) (by decide) (by decide) (Nat.le_of_ble_eq_true rfl) (Nat.le_of_ble_eq_true rfl) d_MG_init_129 (fun q129 H46 hP46 hD46 hS46 => ?_)
  clear hP45 hD45 hS45
  refine zCons (fun T129 e129 hP47 hD47 => ?_) hP46 hD46
  clear hP46 hD46
  refine va_putF (D := D) (ci := 15) (v := .ref q129) (ty := .array .int) (C := R_MG) (T := T_MG) (N := 30) hx hb hg i_MG t_MG o_MG n_MG hown hK hP47 hD47 hS46 0 rfl rfl 15 (by decide) (hg _ k9_19) (fun _ h9 => h9) rfl hnm rfl (by decide +kernel) rfl rfl (Nat.le_of_ble_eq_true rfl) d_MG_init_131 (fun H48 locs48 hP48 hD48 hS48 => ?_)
  clear hP47 hD47 hS46
  replace hP48 : va_P D vwCl ((h0, .inr (15, [.ref q5, .ref q16, .ref q27, .ref q38, .ref q49, .ref q60, .int 0, .ref q73, .ref q81, .ref q89, .ref q97, .ref q105, .int 0, .ref q113, .ref q121, .ref q129, .null, .int 0, .int 0, .null, .null, .null, .null, .null, .null, .null, .null, .null, .null, .null])) :: T129) _ := hP48
  replace hD48 : va_D A ((h0, .inr (15, [.ref q5, .ref q16, .ref q27, .ref q38, .ref q49, .ref q60, .int 0, .ref q73, .ref q81, .ref q89, .ref q97, .ref q105, .int 0, .ref q113, .ref q121, .ref q129, .null, .int 0, .int 0, .null, .null, .null, .null, .null, .null, .null, .null, .null, .null, .null])) :: T129) := hD48
  refine lv_aload_n hx hb d_MG_init_134 rfl (lv_at hl 0 rfl) ?_
  refine lv_bipush (v := 12) hx hb d_MG_init_135 (by decide) ?_
  refine zNewa (atype := .int) (ty := .int) (a0 := (12, .inl (fun _ => 0))) (N' := 12) hx hb rfl (hg _ k1_82) hK hP48 hD48 hS48 hA 0 rfl (fun _ h => by cases h) (fun _ => rfl) (by decide) (by decide) (by decide) (Nat.le_of_ble_eq_true rfl) (Nat.le_of_ble_eq_true rfl) d_MG_init_137 (fun q137 H49 hP49 hD49 hS49 => ?_)
  clear hP48 hD48 hS48
  refine zCons (fun T137 e137 hP50 hD50 => ?_) hP49 hD49
  clear hP49 hD49
  refine va_putF (D := D) (ci := 15) (v := .ref q137) (ty := .array .int) (C := R_MG) (T := T_MG) (N := 30) hx hb hg i_MG t_MG o_MG n_MG hown hK hP50 hD50 hS49 0 rfl rfl 16 (by decide) (hg _ k9_21) (fun _ h9 => h9) rfl hnm rfl (by decide +kernel) rfl rfl (Nat.le_of_ble_eq_true rfl) d_MG_init_139 (fun H51 locs51 hP51 hD51 hS51 => ?_)
  clear hP50 hD50 hS49
  replace hP51 : va_P D vwCl ((h0, .inr (15, [.ref q5, .ref q16, .ref q27, .ref q38, .ref q49, .ref q60, .int 0, .ref q73, .ref q81, .ref q89, .ref q97, .ref q105, .int 0, .ref q113, .ref q121, .ref q129, .ref q137, .int 0, .int 0, .null, .null, .null, .null, .null, .null, .null, .null, .null, .null, .null])) :: T137) _ := hP51
  replace hD51 : va_D A ((h0, .inr (15, [.ref q5, .ref q16, .ref q27, .ref q38, .ref q49, .ref q60, .int 0, .ref q73, .ref q81, .ref q89, .ref q97, .ref q105, .int 0, .ref q113, .ref q121, .ref q129, .ref q137, .int 0, .int 0, .null, .null, .null, .null, .null, .null, .null, .null, .null, .null, .null])) :: T137) := hD51
  refine lv_aload_n hx hb d_MG_init_142 rfl (lv_at hl 0 rfl) ?_
  refine lv_bipush (v := 60) hx hb d_MG_init_143 (by decide) ?_
  refine zNewa (atype := .boolean) (ty := .boolean) (a0 := (60, .inl (fun _ => 0))) (N' := 60) hx hb rfl (hg _ k1_162) hK hP51 hD51 hS51 hA 1 rfl (fun _ h => by cases h) (fun _ => rfl) (by decide) (by decide) (by decide) (Nat.le_of_ble_eq_true rfl) (Nat.le_of_ble_eq_true rfl) d_MG_init_145 (fun q145 H52 hP52 hD52 hS52 => ?_)
  clear hP51 hD51 hS51
  refine zCons (fun T145 e145 hP53 hD53 => ?_) hP52 hD52
  clear hP52 hD52
  refine va_putF (D := D) (ci := 15) (v := .ref q145) (ty := .array .boolean) (C := R_MG) (T := T_MG) (N := 30) hx hb hg i_MG t_MG o_MG n_MG hown hK hP53 hD53 hS52 0 rfl rfl 19 (by decide) (hg _ k9_27) (fun _ h9 => h9) rfl hnm rfl (by decide +kernel) rfl rfl (Nat.le_of_ble_eq_true rfl) d_MG_init_147 (fun H54 locs54 hP54 hD54 hS54 => ?_)
  clear hP53 hD53 hS52
  replace hP54 : va_P D vwCl ((h0, .inr (15, [.ref q5, .ref q16, .ref q27, .ref q38, .ref q49, .ref q60, .int 0, .ref q73, .ref q81, .ref q89, .ref q97, .ref q105, .int 0, .ref q113, .ref q121, .ref q129, .ref q137, .int 0, .int 0, .ref q145, .null, .null, .null, .null, .null, .null, .null, .null, .null, .null])) :: T145) _ := hP54
  replace hD54 : va_D A ((h0, .inr (15, [.ref q5, .ref q16, .ref q27, .ref q38, .ref q49, .ref q60, .int 0, .ref q73, .ref q81, .ref q89, .ref q97, .ref q105, .int 0, .ref q113, .ref q121, .ref q129, .ref q137, .int 0, .int 0, .ref q145, .null, .null, .null, .null, .null, .null, .null, .null, .null, .null])) :: T145) := hD54
  refine lv_aload_n hx hb d_MG_init_150 rfl (lv_at hl 0 rfl) ?_
  refine lv_bipush (v := 60) hx hb d_MG_init_151 (by decide) ?_
  refine zNewa (atype := .int) (ty := .int) (a0 := (60, .inl (fun _ => 0))) (N' := 60) hx hb rfl (hg _ k1_82) hK hP54 hD54 hS54 hA 0 rfl (fun _ h => by cases h) (fun _ => rfl) (by decide) (by decide) (by decide) (Nat.le_of_ble_eq_true rfl) (Nat.le_of_ble_eq_true rfl) d_MG_init_153 (fun q153 H55 hP55 hD55 hS55 => ?_)
  clear hP54 hD54 hS54
  refine zCons (fun T153 e153 hP56 hD56 => ?_) hP55 hD55
  clear hP55 hD55
  refine va_putF (D := D) (ci := 15) (v := .ref q153) (ty := .array .int) (C := R_MG) (T := T_MG) (N := 30) hx hb hg i_MG t_MG o_MG n_MG hown hK hP56 hD56 hS55 0 rfl rfl 20 (by decide) (hg _ k9_29) (fun _ h9 => h9) rfl hnm rfl (by decide +kernel) rfl rfl (Nat.le_of_ble_eq_true rfl) d_MG_init_155 (fun H57 locs57 hP57 hD57 hS57 => ?_)
  clear hP56 hD56 hS55
  replace hP57 : va_P D vwCl ((h0, .inr (15, [.ref q5, .ref q16, .ref q27, .ref q38, .ref q49, .ref q60, .int 0, .ref q73, .ref q81, .ref q89, .ref q97, .ref q105, .int 0, .ref q113, .ref q121, .ref q129, .ref q137, .int 0, .int 0, .ref q145, .ref q153, .null, .null, .null, .null, .null, .null, .null, .null, .null])) :: T153) _ := hP57
  replace hD57 : va_D A ((h0, .inr (15, [.ref q5, .ref q16, .ref q27, .ref q38, .ref q49, .ref q60, .int 0, .ref q73, .ref q81, .ref q89, .ref q97, .ref q105, .int 0, .ref q113, .ref q121, .ref q129, .ref q137, .int 0, .int 0, .ref q145, .ref q153, .null, .null, .null, .null, .null, .null, .null, .null, .null])) :: T153) := hD57
  refine lv_aload_n hx hb d_MG_init_158 rfl (lv_at hl 0 rfl) ?_
  refine lv_bipush (v := 60) hx hb d_MG_init_159 (by decide) ?_
  refine zNewa (atype := .int) (ty := .int) (a0 := (60, .inl (fun _ => 0))) (N' := 60) hx hb rfl (hg _ k1_82) hK hP57 hD57 hS57 hA 0 rfl (fun _ h => by cases h) (fun _ => rfl) (by decide) (by decide) (by decide) (Nat.le_of_ble_eq_true rfl) (Nat.le_of_ble_eq_true rfl) d_MG_init_161 (fun q161 H58 hP58 hD58 hS58 => ?_)
  clear hP57 hD57 hS57
  refine zCons (fun T161 e161 hP59 hD59 => ?_) hP58 hD58
  clear hP58 hD58
  refine va_putF (D := D) (ci := 15) (v := .ref q161) (ty := .array .int) (C := R_MG) (T := T_MG) (N := 30) hx hb hg i_MG t_MG o_MG n_MG hown hK hP59 hD59 hS58 0 rfl rfl 21 (by decide) (hg _ k9_31) (fun _ h9 => h9) rfl hnm rfl (by decide +kernel) rfl rfl (Nat.le_of_ble_eq_true rfl) d_MG_init_163 (fun H60 locs60 hP60 hD60 hS60 => ?_)
  clear hP59 hD59 hS58
  replace hP60 : va_P D vwCl ((h0, .inr (15, [.ref q5, .ref q16, .ref q27, .ref q38, .ref q49, .ref q60, .int 0, .ref q73, .ref q81, .ref q89, .ref q97, .ref q105, .int 0, .ref q113, .ref q121, .ref q129, .ref q137, .int 0, .int 0, .ref q145, .ref q153, .ref q161, .null, .null, .null, .null, .null, .null, .null, .null])) :: T161) _ := hP60
  replace hD60 : va_D A ((h0, .inr (15, [.ref q5, .ref q16, .ref q27, .ref q38, .ref q49, .ref q60, .int 0, .ref q73, .ref q81, .ref q89, .ref q97, .ref q105, .int 0, .ref q113, .ref q121, .ref q129, .ref q137, .int 0, .int 0, .ref q145, .ref q153, .ref q161, .null, .null, .null, .null, .null, .null, .null, .null])) :: T161) := hD60
  refine lv_aload_n hx hb d_MG_init_166 rfl (lv_at hl 0 rfl) ?_
  refine lv_bipush (v := 60) hx hb d_MG_init_167 (by decide) ?_
  refine zNewa (atype := .int) (ty := .int) (a0 := (60, .inl (fun _ => 0))) (N' := 60) hx hb rfl (hg _ k1_82) hK hP60 hD60 hS60 hA 0 rfl (fun _ h => by cases h) (fun _ => rfl) (by decide) (by decide) (by decide) (Nat.le_of_ble_eq_true rfl) (Nat.le_of_ble_eq_true rfl) d_MG_init_169 (fun q169 H61 hP61 hD61 hS61 => ?_)
  clear hP60 hD60 hS60
  refine zCons (fun T169 e169 hP62 hD62 => ?_) hP61 hD61
  clear hP61 hD61
  refine va_putF (D := D) (ci := 15) (v := .ref q169) (ty := .array .int) (C := R_MG) (T := T_MG) (N := 30) hx hb hg i_MG t_MG o_MG n_MG hown hK hP62 hD62 hS61 0 rfl rfl 22 (by decide) (hg _ k9_33) (fun _ h9 => h9) rfl hnm rfl (by decide +kernel) rfl rfl (Nat.le_of_ble_eq_true rfl) d_MG_init_171 (fun H63 locs63 hP63 hD63 hS63 => ?_)
  clear hP62 hD62 hS61
  replace hP63 : va_P D vwCl ((h0, .inr (15, [.ref q5, .ref q16, .ref q27, .ref q38, .ref q49, .ref q60, .int 0, .ref q73, .ref q81, .ref q89, .ref q97, .ref q105, .int 0, .ref q113, .ref q121, .ref q129, .ref q137, .int 0, .int 0, .ref q145, .ref q153, .ref q161, .ref q169, .null, .null, .null, .null, .null, .null, .null])) :: T169) _ := hP63
  replace hD63 : va_D A ((h0, .inr (15, [.ref q5, .ref q16, .ref q27, .ref q38, .ref q49, .ref q60, .int 0, .ref q73, .ref q81, .ref q89, .ref q97, .ref q105, .int 0, .ref q113, .ref q121, .ref q129, .ref q137, .int 0, .int 0, .ref q145, .ref q153, .ref q161, .ref q169, .null, .null, .null, .null, .null, .null, .null])) :: T169) := hD63
  refine lv_aload_n hx hb d_MG_init_174 rfl (lv_at hl 0 rfl) ?_
  refine lv_sipush (v := 480) hx hb d_MG_init_175 (by decide) ?_
  refine zNewa (atype := .int) (ty := .int) (a0 := (480, .inl (fun _ => 0))) (N' := 480) hx hb rfl (hg _ k1_82) hK hP63 hD63 hS63 hA 0 rfl (fun _ h => by cases h) (fun _ => rfl) (by decide) (by decide) (by decide) (Nat.le_of_ble_eq_true rfl) (Nat.le_of_ble_eq_true rfl) d_MG_init_178 (fun q178 H64 hP64 hD64 hS64 => ?_)
  clear hP63 hD63 hS63
  refine zCons (fun T178 e178 hP65 hD65 => ?_) hP64 hD64
  clear hP64 hD64
  refine va_putF (D := D) (ci := 15) (v := .ref q178) (ty := .array .int) (C := R_MG) (T := T_MG) (N := 30) hx hb hg i_MG t_MG o_MG n_MG hown hK hP65 hD65 hS64 0 rfl rfl 23 (by decide) (hg _ k9_35) (fun _ h9 => h9) rfl hnm rfl (by decide +kernel) rfl rfl (Nat.le_of_ble_eq_true rfl) d_MG_init_180 (fun H66 locs66 hP66 hD66 hS66 => ?_)
  clear hP65 hD65 hS64
  replace hP66 : va_P D vwCl ((h0, .inr (15, [.ref q5, .ref q16, .ref q27, .ref q38, .ref q49, .ref q60, .int 0, .ref q73, .ref q81, .ref q89, .ref q97, .ref q105, .int 0, .ref q113, .ref q121, .ref q129, .ref q137, .int 0, .int 0, .ref q145, .ref q153, .ref q161, .ref q169, .ref q178, .null, .null, .null, .null, .null, .null])) :: T178) _ := hP66
  replace hD66 : va_D A ((h0, .inr (15, [.ref q5, .ref q16, .ref q27, .ref q38, .ref q49, .ref q60, .int 0, .ref q73, .ref q81, .ref q89, .ref q97, .ref q105, .int 0, .ref q113, .ref q121, .ref q129, .ref q137, .int 0, .int 0, .ref q145, .ref q153, .ref q161, .ref q169, .ref q178, .null, .null, .null, .null, .null, .null])) :: T178) := hD66
  refine lv_aload_n hx hb d_MG_init_183 rfl (lv_at hl 0 rfl) ?_
  refine lv_sipush (v := 480) hx hb d_MG_init_184 (by decide) ?_
  refine zNewa (atype := .int) (ty := .int) (a0 := (480, .inl (fun _ => 0))) (N' := 480) hx hb rfl (hg _ k1_82) hK hP66 hD66 hS66 hA 0 rfl (fun _ h => by cases h) (fun _ => rfl) (by decide) (by decide) (by decide) (Nat.le_of_ble_eq_true rfl) (Nat.le_of_ble_eq_true rfl) d_MG_init_187 (fun q187 H67 hP67 hD67 hS67 => ?_)
  clear hP66 hD66 hS66
  refine zCons (fun T187 e187 hP68 hD68 => ?_) hP67 hD67
  clear hP67 hD67
  refine va_putF (D := D) (ci := 15) (v := .ref q187) (ty := .array .int) (C := R_MG) (T := T_MG) (N := 30) hx hb hg i_MG t_MG o_MG n_MG hown hK hP68 hD68 hS67 0 rfl rfl 24 (by decide) (hg _ k9_37) (fun _ h9 => h9) rfl hnm rfl (by decide +kernel) rfl rfl (Nat.le_of_ble_eq_true rfl) d_MG_init_189 (fun H69 locs69 hP69 hD69 hS69 => ?_)
  clear hP68 hD68 hS67
  replace hP69 : va_P D vwCl ((h0, .inr (15, [.ref q5, .ref q16, .ref q27, .ref q38, .ref q49, .ref q60, .int 0, .ref q73, .ref q81, .ref q89, .ref q97, .ref q105, .int 0, .ref q113, .ref q121, .ref q129, .ref q137, .int 0, .int 0, .ref q145, .ref q153, .ref q161, .ref q169, .ref q178, .ref q187, .null, .null, .null, .null, .null])) :: T187) _ := hP69
  replace hD69 : va_D A ((h0, .inr (15, [.ref q5, .ref q16, .ref q27, .ref q38, .ref q49, .ref q60, .int 0, .ref q73, .ref q81, .ref q89, .ref q97, .ref q105, .int 0, .ref q113, .ref q121, .ref q129, .ref q137, .int 0, .int 0, .ref q145, .ref q153, .ref q161, .ref q169, .ref q178, .ref q187, .null, .null, .null, .null, .null])) :: T187) := hD69
  refine lv_aload_n hx hb d_MG_init_192 rfl (lv_at hl 0 rfl) ?_
  refine lv_sipush (v := 480) hx hb d_MG_init_193 (by decide) ?_
  refine zNewa (atype := .int) (ty := .int) (a0 := (480, .inl (fun _ => 0))) (N' := 480) hx hb rfl (hg _ k1_82) hK hP69 hD69 hS69 hA 0 rfl (fun _ h => by cases h) (fun _ => rfl) (by decide) (by decide) (by decide) (Nat.le_of_ble_eq_true rfl) (Nat.le_of_ble_eq_true rfl) d_MG_init_196 (fun q196 H70 hP70 hD70 hS70 => ?_)
  clear hP69 hD69 hS69
  refine zCons (fun T196 e196 hP71 hD71 => ?_) hP70 hD70
  clear hP70 hD70
  refine va_putF (D := D) (ci := 15) (v := .ref q196) (ty := .array .int) (C := R_MG) (T := T_MG) (N := 30) hx hb hg i_MG t_MG o_MG n_MG hown hK hP71 hD71 hS70 0 rfl rfl 25 (by decide) (hg _ k9_39) (fun _ h9 => h9) rfl hnm rfl (by decide +kernel) rfl rfl (Nat.le_of_ble_eq_true rfl) d_MG_init_198 (fun H72 locs72 hP72 hD72 hS72 => ?_)
  clear hP71 hD71 hS70
  replace hP72 : va_P D vwCl ((h0, .inr (15, [.ref q5, .ref q16, .ref q27, .ref q38, .ref q49, .ref q60, .int 0, .ref q73, .ref q81, .ref q89, .ref q97, .ref q105, .int 0, .ref q113, .ref q121, .ref q129, .ref q137, .int 0, .int 0, .ref q145, .ref q153, .ref q161, .ref q169, .ref q178, .ref q187, .ref q196, .null, .null, .null, .null])) :: T196) _ := hP72
  replace hD72 : va_D A ((h0, .inr (15, [.ref q5, .ref q16, .ref q27, .ref q38, .ref q49, .ref q60, .int 0, .ref q73, .ref q81, .ref q89, .ref q97, .ref q105, .int 0, .ref q113, .ref q121, .ref q129, .ref q137, .int 0, .int 0, .ref q145, .ref q153, .ref q161, .ref q169, .ref q178, .ref q187, .ref q196, .null, .null, .null, .null])) :: T196) := hD72
  refine lv_aload_n hx hb d_MG_init_201 rfl (lv_at hl 0 rfl) ?_
  refine lv_sipush (v := 480) hx hb d_MG_init_202 (by decide) ?_
  refine zNewa (atype := .int) (ty := .int) (a0 := (480, .inl (fun _ => 0))) (N' := 480) hx hb rfl (hg _ k1_82) hK hP72 hD72 hS72 hA 0 rfl (fun _ h => by cases h) (fun _ => rfl) (by decide) (by decide) (by decide) (Nat.le_of_ble_eq_true rfl) (Nat.le_of_ble_eq_true rfl) d_MG_init_205 (fun q205 H73 hP73 hD73 hS73 => ?_)
  clear hP72 hD72 hS72
  refine zCons (fun T205 e205 hP74 hD74 => ?_) hP73 hD73
  clear hP73 hD73
  refine va_putF (D := D) (ci := 15) (v := .ref q205) (ty := .array .int) (C := R_MG) (T := T_MG) (N := 30) hx hb hg i_MG t_MG o_MG n_MG hown hK hP74 hD74 hS73 0 rfl rfl 26 (by decide) (hg _ k9_41) (fun _ h9 => h9) rfl hnm rfl (by decide +kernel) rfl rfl (Nat.le_of_ble_eq_true rfl) d_MG_init_207 (fun H75 locs75 hP75 hD75 hS75 => ?_)
  clear hP74 hD74 hS73
  replace hP75 : va_P D vwCl ((h0, .inr (15, [.ref q5, .ref q16, .ref q27, .ref q38, .ref q49, .ref q60, .int 0, .ref q73, .ref q81, .ref q89, .ref q97, .ref q105, .int 0, .ref q113, .ref q121, .ref q129, .ref q137, .int 0, .int 0, .ref q145, .ref q153, .ref q161, .ref q169, .ref q178, .ref q187, .ref q196, .ref q205, .null, .null, .null])) :: T205) _ := hP75
  replace hD75 : va_D A ((h0, .inr (15, [.ref q5, .ref q16, .ref q27, .ref q38, .ref q49, .ref q60, .int 0, .ref q73, .ref q81, .ref q89, .ref q97, .ref q105, .int 0, .ref q113, .ref q121, .ref q129, .ref q137, .int 0, .int 0, .ref q145, .ref q153, .ref q161, .ref q169, .ref q178, .ref q187, .ref q196, .ref q205, .null, .null, .null])) :: T205) := hD75
  refine lv_aload_n hx hb d_MG_init_210 rfl (lv_at hl 0 rfl) ?_
  refine va_new (ci := 14) (fs := [.null, .int 0]) (C := R_MN) (T := T_MN) (N := 2) hx hb hg i_MN t_MN o_MN hown (hg _ k8_227) (hg _ k8_206) (hg _ k1_15) hK hP75 hD75 hS75 hA rfl f_MN (Nat.le_of_ble_eq_true rfl) (Nat.le_of_ble_eq_true rfl) d_MG_init_211 (fun q211 H76 hP76 hD76 hS76 => ?_)
  clear hP75 hD75 hS75
  refine lv_dup hx hb d_MG_init_214 rfl ?_
  refine zInit hP76 hD76 hS76 hA (va_runIN (As := []) (rest := [.ref q211, .ref h0]) ⟨hx, hb, hml, hown, hg⟩ (c_MN_init l D tA q211 H76.size) ⟨va_cnB 0 hg (zGood k8_209 rfl) rfl rfl rfl (va_Nw.of rfl (hg _ k8_228)) (hg _ k1_15) (by decide +kernel) ⟨(Nat.le_of_ble_eq_true rfl), (Nat.le_of_ble_eq_true rfl)⟩, rfl, hg _ k8_208⟩ (zPreI hh hK hP76 hD76) rfl rfl hl.1 rfl (lv_room (Nat.le_of_ble_eq_true rfl)) d_MG_init_215 ⟨(Nat.le_of_ble_eq_true rfl), (Nat.le_of_ble_eq_true rfl)⟩) (fun u211 H77 locs77 _ hP77 hD77 hS77 => ?_)
  clear hP76 hD76 hS76
  refine zCons (fun T215 e215 hP78 hD78 => ?_) hP77 hD77
  clear hP77 hD77
  refine va_putF (D := D) (ci := 15) (v := .ref q211) (ty := .object "ChanceArenaModel$Numbers") (C := R_MG) (T := T_MG) (N := 30) hx hb hg i_MG t_MG o_MG n_MG hown hK hP78 hD78 hS77 0 rfl rfl 27 (by decide) (hg _ k9_43) (fun _ h9 => h9) rfl hnm rfl (by decide +kernel) rfl rfl (Nat.le_of_ble_eq_true rfl) d_MG_init_218 (fun H79 locs79 hP79 hD79 hS79 => ?_)
  clear hP78 hD78 hS77
  replace hP79 : va_P D vwCl ((h0, .inr (15, [.ref q5, .ref q16, .ref q27, .ref q38, .ref q49, .ref q60, .int 0, .ref q73, .ref q81, .ref q89, .ref q97, .ref q105, .int 0, .ref q113, .ref q121, .ref q129, .ref q137, .int 0, .int 0, .ref q145, .ref q153, .ref q161, .ref q169, .ref q178, .ref q187, .ref q196, .ref q205, .ref q211, .null, .null])) :: T215) _ := hP79
  replace hD79 : va_D A ((h0, .inr (15, [.ref q5, .ref q16, .ref q27, .ref q38, .ref q49, .ref q60, .int 0, .ref q73, .ref q81, .ref q89, .ref q97, .ref q105, .int 0, .ref q113, .ref q121, .ref q129, .ref q137, .int 0, .int 0, .ref q145, .ref q153, .ref q161, .ref q169, .ref q178, .ref q187, .ref q196, .ref q205, .ref q211, .null, .null])) :: T215) := hD79
  refine lv_aload_n hx hb d_MG_init_221 rfl (lv_at hl 0 rfl) ?_
  refine va_new (ci := 14) (fs := [.null, .int 0]) (C := R_MN) (T := T_MN) (N := 2) hx hb hg i_MN t_MN o_MN hown (hg _ k8_227) (hg _ k8_206) (hg _ k1_15) hK hP79 hD79 hS79 hA rfl f_MN (Nat.le_of_ble_eq_true rfl) (Nat.le_of_ble_eq_true rfl) d_MG_init_222 (fun q222 H80 hP80 hD80 hS80 => ?_)
  clear hP79 hD79 hS79
  refine lv_dup hx hb d_MG_init_225 rfl ?_
  refine zInit hP80 hD80 hS80 hA (va_runIN (As := []) (rest := [.ref q222, .ref h0]) ⟨hx, hb, hml, hown, hg⟩ (c_MN_init l D tA q222 H80.size) ⟨va_cnB 0 hg (zGood k8_209 rfl) rfl rfl rfl (va_Nw.of rfl (hg _ k8_228)) (hg _ k1_15) (by decide +kernel) ⟨(Nat.le_of_ble_eq_true rfl), (Nat.le_of_ble_eq_true rfl)⟩, rfl, hg _ k8_208⟩ (zPreI hh hK hP80 hD80) rfl rfl hl.1 rfl (lv_room (Nat.le_of_ble_eq_true rfl)) d_MG_init_226 ⟨(Nat.le_of_ble_eq_true rfl), (Nat.le_of_ble_eq_true rfl)⟩) (fun u222 H81 locs81 _ hP81 hD81 hS81 => ?_)
  clear hP80 hD80 hS80
  refine zCons (fun T226 e226 hP82 hD82 => ?_) hP81 hD81
  clear hP81 hD81
  refine va_putF (D := D) (ci := 15) (v := .ref q222) (ty := .object "ChanceArenaModel$Numbers") (C := R_MG) (T := T_MG) (N := 30) hx hb hg i_MG t_MG o_MG n_MG hown hK hP82 hD82 hS81 0 rfl rfl 28 (by decide) (hg _ k9_45) (fun _ h9 => h9) rfl hnm rfl (by decide +kernel) rfl rfl (Nat.le_of_ble_eq_true rfl) d_MG_init_229 (fun H83 locs83 hP83 hD83 hS83 => ?_)
  clear hP82 hD82 hS81
  replace hP83 : va_P D vwCl ((h0, .inr (15, [.ref q5, .ref q16, .ref q27, .ref q38, .ref q49, .ref q60, .int 0, .ref q73, .ref q81, .ref q89, .ref q97, .ref q105, .int 0, .ref q113, .ref q121, .ref q129, .ref q137, .int 0, .int 0, .ref q145, .ref q153, .ref q161, .ref q169, .ref q178, .ref q187, .ref q196, .ref q205, .ref q211, .ref q222, .null])) :: T226) _ := hP83
  replace hD83 : va_D A ((h0, .inr (15, [.ref q5, .ref q16, .ref q27, .ref q38, .ref q49, .ref q60, .int 0, .ref q73, .ref q81, .ref q89, .ref q97, .ref q105, .int 0, .ref q113, .ref q121, .ref q129, .ref q137, .int 0, .int 0, .ref q145, .ref q153, .ref q161, .ref q169, .ref q178, .ref q187, .ref q196, .ref q205, .ref q211, .ref q222, .null])) :: T226) := hD83
  refine lv_aload_n hx hb d_MG_init_232 rfl (lv_at hl 0 rfl) ?_
  refine va_new (ci := 14) (fs := [.null, .int 0]) (C := R_MN) (T := T_MN) (N := 2) hx hb hg i_MN t_MN o_MN hown (hg _ k8_227) (hg _ k8_206) (hg _ k1_15) hK hP83 hD83 hS83 hA rfl f_MN (Nat.le_of_ble_eq_true rfl) (Nat.le_of_ble_eq_true rfl) d_MG_init_233 (fun q233 H84 hP84 hD84 hS84 => ?_)
  clear hP83 hD83 hS83
  refine lv_dup hx hb d_MG_init_236 rfl ?_
  refine zInit hP84 hD84 hS84 hA (va_runIN (As := []) (rest := [.ref q233, .ref h0]) ⟨hx, hb, hml, hown, hg⟩ (c_MN_init l D tA q233 H84.size) ⟨va_cnB 0 hg (zGood k8_209 rfl) rfl rfl rfl (va_Nw.of rfl (hg _ k8_228)) (hg _ k1_15) (by decide +kernel) ⟨(Nat.le_of_ble_eq_true rfl), (Nat.le_of_ble_eq_true rfl)⟩, rfl, hg _ k8_208⟩ (zPreI hh hK hP84 hD84) rfl rfl hl.1 rfl (lv_room (Nat.le_of_ble_eq_true rfl)) d_MG_init_237 ⟨(Nat.le_of_ble_eq_true rfl), (Nat.le_of_ble_eq_true rfl)⟩) (fun u233 H85 locs85 _ hP85 hD85 hS85 => ?_)
  clear hP84 hD84 hS84
  refine zCons (fun T237 e237 hP86 hD86 => ?_) hP85 hD85
  clear hP85 hD85
  refine va_putF (D := D) (ci := 15) (v := .ref q233) (ty := .object "ChanceArenaModel$Numbers") (C := R_MG) (T := T_MG) (N := 30) hx hb hg i_MG t_MG o_MG n_MG hown hK hP86 hD86 hS85 0 rfl rfl 29 (by decide) (hg _ k9_47) (fun _ h9 => h9) rfl hnm rfl (by decide +kernel) rfl rfl (Nat.le_of_ble_eq_true rfl) d_MG_init_240 (fun H87 locs87 hP87 hD87 hS87 => ?_)
  clear hP86 hD86 hS85
  replace hP87 : va_P D vwCl ((h0, .inr (15, [.ref q5, .ref q16, .ref q27, .ref q38, .ref q49, .ref q60, .int 0, .ref q73, .ref q81, .ref q89, .ref q97, .ref q105, .int 0, .ref q113, .ref q121, .ref q129, .ref q137, .int 0, .int 0, .ref q145, .ref q153, .ref q161, .ref q169, .ref q178, .ref q187, .ref q196, .ref q205, .ref q211, .ref q222, .ref q233])) :: T237) _ := hP87
  replace hD87 : va_D A ((h0, .inr (15, [.ref q5, .ref q16, .ref q27, .ref q38, .ref q49, .ref q60, .int 0, .ref q73, .ref q81, .ref q89, .ref q97, .ref q105, .int 0, .ref q113, .ref q121, .ref q129, .ref q137, .int 0, .int 0, .ref q145, .ref q153, .ref q161, .ref q169, .ref q178, .ref q187, .ref q196, .ref q205, .ref q211, .ref q222, .ref q233])) :: T237) := hD87
  refine W.cs (cells' := 35) (slots' := 2670) rfl rfl ?_
  exact zVret hx hb hr hlocks hP87 hD87 hS87 ((q5, u5), (q16, u16), (q27, u27), (q38, u38), (q49, u49), (q60, u60), q73, q81, q89, q97, q105, q113, q121, q129, q137, q145, q153, q161, q169, q178, q187, q196, q205, (q211, u211), (q222, u222), (q233, u233)) trivial (by rw [e237, e226, e215, e205, e196, e187, e178, e169, e161, e153, e145, e137, e129, e121, e113, e105, e97, e89, e81, e73, e64, e53, e42, e31, e20, e9]; rfl) d_MG_init_243
end
section
theorem k3_74 : (Jvm.Cond.code ({ cls := "ChanceArena$Residues", name := "<init>", desc := "()V" } : Jvm.MethodName) prog_8_method_1_code (2 : Nat) (Option.none : Option Jvm.ClassFile.FieldType)) ∈ lw_R := zR (zk_3 _ (List.mem_of_getElem? (i := 74) (by decide +kernel))) rfl
theorem k3_75 : (Jvm.Cond.methodLink "ChanceArena$Residues" (3 : Nat) ({ cls := "java/lang/Object", name := "<init>", desc := "()V" } : Jvm.MethodName)) ∈ lw_R := zR (zk_3 _ (List.mem_of_getElem? (i := 75) (by decide +kernel))) rfl
theorem k3_76 : (Jvm.Cond.classLink "ChanceArena$Residues" (15 : Nat) "ChanceArena$Natural") ∈ lw_R := zR (zk_3 _ (List.mem_of_getElem? (i := 76) (by decide +kernel))) rfl
theorem k3_77 : (Jvm.Cond.arrayOver (Jvm.ClassFile.FieldType.object "ChanceArena$Natural")) ∈ lw_R := zR (zk_3 _ (List.mem_of_getElem? (i := 77) (by decide +kernel))) rfl
theorem k3_78 : (Jvm.Cond.methodLinkNest "ChanceArena$Residues" (33 : Nat) ({ cls := "ChanceArena$Natural", name := "<init>", desc := "()V" } : Jvm.MethodName) "ChanceArena") ∈ lw_R := zR (zk_3 _ (List.mem_of_getElem? (i := 78) (by decide +kernel))) rfl
theorem k3_79 : (Jvm.Cond.fieldLink "ChanceArena$Residues" (11 : Nat) "ChanceArena$Residues" "entries" "[I") ∈ lw_R := zR (zk_3 _ (List.mem_of_getElem? (i := 79) (by decide +kernel))) rfl
theorem k3_81 : (Jvm.Cond.fieldLink "ChanceArena$Residues" (17 : Nat) "ChanceArena$Residues" "results" "[LChanceArena$Natural;") ∈ lw_R := zR (zk_3 _ (List.mem_of_getElem? (i := 81) (by decide +kernel))) rfl
theorem k3_83 : (Jvm.Cond.fieldLink "ChanceArena$Residues" (21 : Nat) "ChanceArena$Residues" "work" "[I") ∈ lw_R := zR (zk_3 _ (List.mem_of_getElem? (i := 83) (by decide +kernel))) rfl
theorem k3_84 : (Jvm.Cond.fieldLink "ChanceArena$Residues" (24 : Nat) "ChanceArena$Residues" "inverses" "[I") ∈ lw_R := zR (zk_3 _ (List.mem_of_getElem? (i := 84) (by decide +kernel))) rfl
theorem k3_85 : (Jvm.Cond.fieldLink "ChanceArena$Residues" (27 : Nat) "ChanceArena$Residues" "columns" "[I") ∈ lw_R := zR (zk_3 _ (List.mem_of_getElem? (i := 85) (by decide +kernel))) rfl
theorem k3_86 : (Jvm.Cond.fieldLink "ChanceArena$Residues" (30 : Nat) "ChanceArena$Residues" "residues" "[I") ∈ lw_R := zR (zk_3 _ (List.mem_of_getElem? (i := 86) (by decide +kernel))) rfl
theorem k3_87 : (Jvm.Cond.fieldLink "ChanceArena$Residues" (34 : Nat) "ChanceArena$Residues" "modulus" "LChanceArena$Natural;") ∈ lw_R := zR (zk_3 _ (List.mem_of_getElem? (i := 87) (by decide +kernel))) rfl
theorem d_Re_init_68 : decode prog_8_method_1_code 68 = .ok (.iload_n 1, 1) := by decide +kernel
theorem d_Re_init_69 : decode prog_8_method_1_code 69 = .ok (.bipush 41, 2) := by decide +kernel
theorem d_Re_init_71 : decode prog_8_method_1_code 71 = .ok (.if_icmp .ge 22, 3) := by decide +kernel
theorem d_Re_init_74 : decode prog_8_method_1_code 74 = .ok (.aload_n 0, 1) := by decide +kernel
theorem d_Re_init_75 : decode prog_8_method_1_code 75 = .ok (.getfield 17, 3) := by decide +kernel
theorem d_Re_init_78 : decode prog_8_method_1_code 78 = .ok (.iload_n 1, 1) := by decide +kernel
theorem d_Re_init_79 : decode prog_8_method_1_code 79 = .ok (.new 15, 3) := by decide +kernel
theorem d_Re_init_82 : decode prog_8_method_1_code 82 = .ok (.dup, 1) := by decide +kernel
theorem d_Re_init_83 : decode prog_8_method_1_code 83 = .ok (.invokespecial 33, 3) := by decide +kernel
theorem d_Re_init_86 : decode prog_8_method_1_code 86 = .ok (.aastore, 1) := by decide +kernel
theorem d_Re_init_87 : decode prog_8_method_1_code 87 = .ok (.iinc 1 1, 3) := by decide +kernel
theorem d_Re_init_90 : decode prog_8_method_1_code 90 = .ok (.goto (-22), 3) := by decide +kernel
theorem d_Re_init_0 : decode prog_8_method_1_code 0 = .ok (.aload_n 0, 1) := by decide +kernel
theorem d_Re_init_1 : decode prog_8_method_1_code 1 = .ok (.invokespecial 3, 3) := by decide +kernel
theorem d_Re_init_4 : decode prog_8_method_1_code 4 = .ok (.aload_n 0, 1) := by decide +kernel
theorem d_Re_init_5 : decode prog_8_method_1_code 5 = .ok (.sipush 1640, 3) := by decide +kernel
theorem d_Re_init_8 : decode prog_8_method_1_code 8 = .ok (.newarray .int, 2) := by decide +kernel
theorem d_Re_init_10 : decode prog_8_method_1_code 10 = .ok (.putfield 11, 3) := by decide +kernel
theorem d_Re_init_13 : decode prog_8_method_1_code 13 = .ok (.aload_n 0, 1) := by decide +kernel
theorem d_Re_init_14 : decode prog_8_method_1_code 14 = .ok (.bipush 41, 2) := by decide +kernel
theorem d_Re_init_16 : decode prog_8_method_1_code 16 = .ok (.anewarray 15, 3) := by decide +kernel
theorem d_Re_init_19 : decode prog_8_method_1_code 19 = .ok (.putfield 17, 3) := by decide +kernel
theorem d_Re_init_22 : decode prog_8_method_1_code 22 = .ok (.aload_n 0, 1) := by decide +kernel
theorem d_Re_init_23 : decode prog_8_method_1_code 23 = .ok (.sipush 1640, 3) := by decide +kernel
theorem d_Re_init_26 : decode prog_8_method_1_code 26 = .ok (.newarray .int, 2) := by decide +kernel
theorem d_Re_init_28 : decode prog_8_method_1_code 28 = .ok (.putfield 21, 3) := by decide +kernel
theorem d_Re_init_31 : decode prog_8_method_1_code 31 = .ok (.aload_n 0, 1) := by decide +kernel
theorem d_Re_init_32 : decode prog_8_method_1_code 32 = .ok (.bipush 40, 2) := by decide +kernel
theorem d_Re_init_34 : decode prog_8_method_1_code 34 = .ok (.newarray .int, 2) := by decide +kernel
theorem d_Re_init_36 : decode prog_8_method_1_code 36 = .ok (.putfield 24, 3) := by decide +kernel
theorem d_Re_init_39 : decode prog_8_method_1_code 39 = .ok (.aload_n 0, 1) := by decide +kernel
theorem d_Re_init_40 : decode prog_8_method_1_code 40 = .ok (.bipush 41, 2) := by decide +kernel
theorem d_Re_init_42 : decode prog_8_method_1_code 42 = .ok (.newarray .int, 2) := by decide +kernel
theorem d_Re_init_44 : decode prog_8_method_1_code 44 = .ok (.putfield 27, 3) := by decide +kernel
theorem d_Re_init_47 : decode prog_8_method_1_code 47 = .ok (.aload_n 0, 1) := by decide +kernel
theorem d_Re_init_48 : decode prog_8_method_1_code 48 = .ok (.bipush 41, 2) := by decide +kernel
theorem d_Re_init_50 : decode prog_8_method_1_code 50 = .ok (.newarray .int, 2) := by decide +kernel
theorem d_Re_init_52 : decode prog_8_method_1_code 52 = .ok (.putfield 30, 3) := by decide +kernel
theorem d_Re_init_55 : decode prog_8_method_1_code 55 = .ok (.aload_n 0, 1) := by decide +kernel
theorem d_Re_init_56 : decode prog_8_method_1_code 56 = .ok (.new 15, 3) := by decide +kernel
theorem d_Re_init_59 : decode prog_8_method_1_code 59 = .ok (.dup, 1) := by decide +kernel
theorem d_Re_init_60 : decode prog_8_method_1_code 60 = .ok (.invokespecial 33, 3) := by decide +kernel
theorem d_Re_init_63 : decode prog_8_method_1_code 63 = .ok (.putfield 34, 3) := by decide +kernel
theorem d_Re_init_66 : decode prog_8_method_1_code 66 = .ok (.iconst 0, 1) := by decide +kernel
theorem d_Re_init_67 : decode prog_8_method_1_code 67 = .ok (.istore_n 1, 1) := by decide +kernel
theorem d_Re_init_93 : decode prog_8_method_1_code 93 = .ok (.return_, 1) := by decide +kernel
/-- naturals in a row -/
def n_pool (tA : Nat → ClassId) (r : Nat → Nat × S_Na) : Nat → va_W
  | 0 => []
  | k + 1 => n_pool tA r k ++ w_Na tA (r k).1 (r k).2
theorem n_pool_le {tA : Nat → ClassId} {r : Nat → Nat × S_Na} {j : Nat} {v : Nat × S_Na} : ∀ k, k ≤ j → n_pool tA (va_up r j v) k = n_pool tA r k
  | 0, _ => rfl
  | k + 1, h => by
    show n_pool tA (va_up r j v) k ++ w_Na tA (va_up r j v k).1 (va_up r j v k).2 = n_pool tA r k ++ w_Na tA (r k).1 (r k).2
    have e9 : va_up r j v k = r k := by unfold va_up; rw [if_neg (by omega)]
    rw [n_pool_le k (by omega), e9]
theorem n_pool_up {tA : Nat → ClassId} {r : Nat → Nat × S_Na} {k : Nat} {v : Nat × S_Na} : n_pool tA (va_up r k v) (k + 1) = n_pool tA r k ++ w_Na tA v.1 v.2 := by
  show n_pool tA (va_up r k v) k ++ w_Na tA (va_up r k v k).1 (va_up r k v k).2 = _
  have e9 : va_up r k v k = v := by unfold va_up; rw [if_pos rfl]
  rw [n_pool_le k (Nat.le_refl k), e9]
theorem zAt {ws t : va_W} {y : Nat × va_E} : (ws ++ (y :: t))[ws.length]? = some y := by simp
theorem n_row {r : Nat → Nat × S_Na} {k : Nat} {q : Nat} {u : S_Na} : va_up (fun i => if i < k then some (r i).1 else none) k (some q) = fun i => if i < k + 1 then some ((va_up r k (q, u)) i).1 else none := by
  funext i
  simp only [va_up]
  by_cases h : i = k
  · subst h; simp
  · have h2 : (i < k + 1) = (i < k) := by apply propext; omega
    simp [h, h2]
set_option maxHeartbeats 4000000 in
set_option maxRecDepth 100000 in
theorem Re_loop {p : Program} {l : Launch} {e : Env} {s : State} {m : MethodId} {below : List Frame} {meth : Method} {c : Code} {D : va_G} {tA : Nat → ClassId} {A : Nat → Prop} {h0 ra : Nat} {fs : List Value} {T0 : va_W} {Q : State → Prop} (hx : p.tables.exec = Jvm.exec) (hb : c.code = prog_8_method_1_code) (hml : c.maxLocals = 2) (hh : zH s) (hg : ∀ w ∈ lw_R, w.before #[Value.ref h0] s = true) (hown : s.vm.findClass "ChanceArena$Residues" = some m.cls) (hK : va_K D vwCl (zT tA) s) (hA : ∀ q, s.heap.size ≤ q → A q) (hf1 : fs[1]? = some (.ref ra))
    (kend : ∀ (r : Nat → Nat × S_Na) (H : Heap) (locs : List Loc) (ls : Array Slot), va_P D vwCl ((h0, .inr (11, fs)) :: (ra, .inl (tA 4, 41, .inr (.inr (.inr (.inr (fun i => if i < 41 then some (r i).1 else none)))))) :: (T0 ++ n_pool tA r 41)) H → va_D A ((h0, .inr (11, fs)) :: (ra, .inl (tA 4, 41, .inr (.inr (.inr (.inr (fun i => if i < 41 then some (r i).1 else none)))))) :: (T0 ++ n_pool tA r 41)) → va_S A s.heap H locs → lv_has ls 2 [(1, .int (nI 41)), (0, .ref h0)] → W p l e { frames := 2, cells := 90, slots := 3695, locals := 32 } s m #[Value.ref h0] below meth c H locs (8 + 2 * 41) (3449 + 6 * 41) Q (F0 m 93 ls [])) :
    ∀ (n k : Nat), k + n = 41 → ∀ (r : Nat → Nat × S_Na) (H : Heap) (locs : List Loc) (ls : Array Slot), va_P D vwCl ((h0, .inr (11, fs)) :: (ra, .inl (tA 4, 41, .inr (.inr (.inr (.inr (fun i => if i < k then some (r i).1 else none)))))) :: (T0 ++ n_pool tA r k)) H → va_D A ((h0, .inr (11, fs)) :: (ra, .inl (tA 4, 41, .inr (.inr (.inr (.inr (fun i => if i < k then some (r i).1 else none)))))) :: (T0 ++ n_pool tA r k)) → va_S A s.heap H locs → lv_has ls 2 [(1, .int (nI k)), (0, .ref h0)] → W p l e { frames := 2, cells := 90, slots := 3695, locals := 32 } s m #[Value.ref h0] below meth c H locs (8 + 2 * k) (3449 + 6 * k) Q (F0 m 68 ls []) := by
  intro n
  induction n with
  | zero =>
    intro k hk r H locs ls hP hD hS hl
    have hk : k = 41 := hk
    subst hk
    refine lv_iload_n hx hb d_Re_init_68 rfl (lv_at hl 0 rfl) ?_
    refine lv_bipush (v := 41) hx hb d_Re_init_69 (by decide) ?_
    refine lv_icmp_ge (tgt := 93) hx hb d_Re_init_71 (by decide) (fun c9 => ?_) (fun c9 => ?_)
    · exact kend r H locs ls hP hD hS hl
    · exact absurd (by decide) c9
  | succ n ih =>
    intro k hk r H locs ls hP hD hS hl
    refine lv_iload_n hx hb d_Re_init_68 rfl (lv_at hl 0 rfl) ?_
    refine lv_bipush (v := 41) hx hb d_Re_init_69 (by decide) ?_
    refine lv_icmp_ge (tgt := 93) hx hb d_Re_init_71 (by decide) (fun c9 => absurd c9 (nI_ge (a := k) (b := 41) (by omega) (by decide))) (fun c9 => ?_)
    refine lv_aload_n hx hb d_Re_init_74 rfl (lv_at hl 1 rfl) ?_
    refine va_get (D := D) (ci := 11) (v := .ref ra) (C := R_Re) (T := T_Re) (N := 7) hx hb hg i_Re hown hK hP 0 rfl rfl 1 (by decide) (hg _ k3_81) (fun _ h9 => h9) hf1 d_Re_init_75 ?_
    refine lv_iload_n hx hb d_Re_init_78 rfl (lv_at hl 0 rfl) ?_
    refine va_new (ci := 9) (fs := [.null, .int 0]) (C := R_Na) (T := T_Na) (N := 2) hx hb hg i_Na t_Na o_Na hown (hg _ k3_76) (hg _ k2_234) (hg _ k1_10) hK hP hD hS hA rfl f_Na (by show _ ≤ 90; omega) (by show _ ≤ 3695; omega) d_Re_init_79 (fun q H1 hP1 hD1 hS1 => ?_)
    clear hP hD hS
    refine lv_dup hx hb d_Re_init_82 rfl ?_
    refine zInit hP1 hD1 hS1 hA (va_runIN (As := []) (rest := [.ref q, .int (nI k), .ref ra]) ⟨hx, hb, hml, hown, hg⟩ (c_Na_init l D tA q H1.size) ⟨va_cnB 0 hg (zGood k2_237 rfl) rfl rfl rfl (va_Nw.of rfl (hg _ k3_78)) (hg _ k1_10) (by decide +kernel) ⟨(Nat.le_of_ble_eq_true rfl), (Nat.le_of_ble_eq_true rfl)⟩, rfl, hg _ k2_236⟩ (zPreI hh hK hP1 hD1) rfl rfl hl.1 rfl (lv_room (Nat.le_of_ble_eq_true rfl)) d_Re_init_83 ⟨by show _ ≤ 90; omega, by show _ ≤ 3695; omega⟩) (fun u H2 locs2 _ hP2 hD2 hS2 => ?_)
    clear hP1 hD1 hS1
    refine va_astq hx hb hK hP2 hD2 hS2 1 4 _ 9 rfl rfl zAt rfl (vp_in_nI (by omega) (by decide)) d_Re_init_86 (fun H3 locs3 hP3 hD3 hS3 => ?_)
    clear hP2 hD2 hS2
    rw [nI_clamp (by omega)] at hP3 hD3
    replace hP3 : va_P D vwCl ((h0, .inr (11, fs)) :: (ra, .inl (tA 4, 41, .inr (.inr (.inr (.inr (va_up (fun i => if i < k then some (r i).1 else none) k (some q))))))) :: ((T0 ++ n_pool tA r k) ++ w_Na tA q u)) _ := hP3
    replace hD3 : va_D A ((h0, .inr (11, fs)) :: (ra, .inl (tA 4, 41, .inr (.inr (.inr (.inr (va_up (fun i => if i < k then some (r i).1 else none) k (some q))))))) :: ((T0 ++ n_pool tA r k) ++ w_Na tA q u)) := hD3
    rw [n_row (u := u), List.append_assoc, ← n_pool_up (v := (q, u))] at hP3 hD3
    refine lv_iinc (v := nI (k + 1)) (lv' := [(1, .int (nI (k + 1))), (0, .ref h0)]) hx hb d_Re_init_87 hl (k := 0) rfl (show nI k + Int32.ofInt 1 = _ from nI_1 k) (by decide) rfl (fun ls hl => ?_)
    refine lv_goto (tgt := 68) hx hb d_Re_init_90 (by decide) ?_
    refine W.cs (cells' := 8 + 2 * (k + 1)) (slots' := 3449 + 6 * (k + 1)) (by omega) (by omega) ?_
    exact ih (k + 1) (by omega) _ H3 locs3 ls hP3 hD3 hS3 hl
abbrev S_Re : Type := Nat × Nat × Nat × Nat × Nat × Nat × (Nat × S_Na) × (Nat → Nat × S_Na)
def w_Re (tA : Nat → ClassId) (h0 : Nat) (u : S_Re) : va_W := match u with
  | (q8, q16, q26, q34, q42, q50, (q56, u56), r) => (h0, .inr (11, [.ref q8, .ref q16, .ref q26, .ref q34, .ref q42, .ref q50, .ref q56])) :: (q16, .inl (tA 4, 41, .inr (.inr (.inr (.inr (fun i => if i < 41 then some (r i).1 else none)))))) :: (([(q8, .inl (tA 0, 1640, .inl (fun _ => 0))), (q26, .inl (tA 0, 1640, .inl (fun _ => 0))), (q34, .inl (tA 0, 40, .inl (fun _ => 0))), (q42, .inl (tA 0, 41, .inl (fun _ => 0))), (q50, .inl (tA 0, 41, .inl (fun _ => 0)))] ++ w_Na tA q56 u56) ++ n_pool tA r 41)
theorem f_Re : ∀ j, j < 7 → defaultValue (t_Re j) = vp_V [.null, .null, .null, .null, .null, .null, .null] j := by decide +kernel
set_option maxHeartbeats 4000000 in
set_option maxRecDepth 100000 in
theorem c_Re_init (l : Launch) (D : va_G) (tA : Nat → ClassId) (h0 sz : Nat) : zMv l ({ cls := "ChanceArena$Residues", name := "<init>", desc := "()V" } : Jvm.MethodName) (zW (Jvm.Cond.code ({ cls := "ChanceArena$Residues", name := "<init>", desc := "()V" } : Jvm.MethodName) prog_8_method_1_code (2 : Nat) (Option.none : Option Jvm.ClassFile.FieldType))) { frames := 2, cells := 90, slots := 3695, locals := 32 } [.ref h0] D tA [(h0, .inr (11, [.null, .null, .null, .null, .null, .null, .null]))] sz (fun _ : S_Re => True) (w_Re tA h0) 90 3695 := by
  refine zOpen (fun A => va_Qv _ (zPost D A (w_Re tA h0)) A) (lv := [(0, .ref h0)]) (by decide) rfl (Nat.le_of_ble_eq_true rfl) rfl ?_
  intro p e s m below meth c A ls hx hb hr hml hh hg hown hlocks hnm hK hA hP hD0 hAw hS hl
  have hD := zD hD0 hAw
  refine lv_aload_n hx hb d_Re_init_0 rfl (lv_at hl 0 rfl) ?_
  refine W.objInit hx hb hown (hg _ k3_75) (hg _ k1_46) (hg _ k1_47) rfl (by rw [hml]; exact hl.1) rfl d_Re_init_1 (Nat.le_of_ble_eq_true rfl) (Nat.le_of_ble_eq_true rfl) ?_
  refine lv_aload_n hx hb d_Re_init_4 rfl (lv_at hl 0 rfl) ?_
  refine lv_sipush (v := 1640) hx hb d_Re_init_5 (by decide) ?_
  refine zNewa (atype := .int) (ty := .int) (a0 := (1640, .inl (fun _ => 0))) (N' := 1640) hx hb rfl (hg _ k1_82) hK hP hD hS hA 0 rfl (fun _ h => by cases h) (fun _ => rfl) (by decide) (by decide) (by decide) (Nat.le_of_ble_eq_true rfl) (Nat.le_of_ble_eq_true rfl) d_Re_init_8 (fun q8 H1 hP1 hD1 hS1 => ?_)
  clear hP hD hS
  refine zCons (fun T8 e8 hP2 hD2 => ?_) hP1 hD1
  clear hP1 hD1
  refine va_putF (D := D) (ci := 11) (v := .ref q8) (ty := .array .int) (C := R_Re) (T := T_Re) (N := 7) hx hb hg i_Re t_Re o_Re n_Re hown hK hP2 hD2 hS1 0 rfl rfl 0 (by decide) (hg _ k3_79) (fun _ h9 => h9) rfl hnm rfl (by decide +kernel) rfl rfl (Nat.le_of_ble_eq_true rfl) d_Re_init_10 (fun H3 locs3 hP3 hD3 hS3 => ?_)
  clear hP2 hD2 hS1
  replace hP3 : va_P D vwCl ((h0, .inr (11, [.ref q8, .null, .null, .null, .null, .null, .null])) :: T8) _ := hP3
  replace hD3 : va_D A ((h0, .inr (11, [.ref q8, .null, .null, .null, .null, .null, .null])) :: T8) := hD3
  refine lv_aload_n hx hb d_Re_init_13 rfl (lv_at hl 0 rfl) ?_
  refine lv_bipush (v := 41) hx hb d_Re_init_14 (by decide) ?_
  refine zNewq (N' := 41) hx hb hown (hg _ k3_76) (hg _ k3_77) hK hP3 hD3 hS3 hA 4 rfl (by decide) (by decide) (by decide) (Nat.le_of_ble_eq_true rfl) (Nat.le_of_ble_eq_true rfl) d_Re_init_16 (fun q16 H4 hP4 hD4 hS4 => ?_)
  clear hP3 hD3 hS3
  refine zCons (fun T16 e16 hP5 hD5 => ?_) hP4 hD4
  clear hP4 hD4
  refine va_putF (D := D) (ci := 11) (v := .ref q16) (ty := .array (.object "ChanceArena$Natural")) (C := R_Re) (T := T_Re) (N := 7) hx hb hg i_Re t_Re o_Re n_Re hown hK hP5 hD5 hS4 0 rfl rfl 1 (by decide) (hg _ k3_81) (fun _ h9 => h9) rfl hnm rfl (by decide +kernel) rfl rfl (Nat.le_of_ble_eq_true rfl) d_Re_init_19 (fun H6 locs6 hP6 hD6 hS6 => ?_)
  clear hP5 hD5 hS4
  replace hP6 : va_P D vwCl ((h0, .inr (11, [.ref q8, .ref q16, .null, .null, .null, .null, .null])) :: T16) _ := hP6
  replace hD6 : va_D A ((h0, .inr (11, [.ref q8, .ref q16, .null, .null, .null, .null, .null])) :: T16) := hD6
  refine lv_aload_n hx hb d_Re_init_22 rfl (lv_at hl 0 rfl) ?_
  refine lv_sipush (v := 1640) hx hb d_Re_init_23 (by decide) ?_
  refine zNewa (atype := .int) (ty := .int) (a0 := (1640, .inl (fun _ => 0))) (N' := 1640) hx hb rfl (hg _ k1_82) hK hP6 hD6 hS6 hA 0 rfl (fun _ h => by cases h) (fun _ => rfl) (by decide) (by decide) (by decide) (Nat.le_of_ble_eq_true rfl) (Nat.le_of_ble_eq_true rfl) d_Re_init_26 (fun q26 H7 hP7 hD7 hS7 => ?_)
  clear hP6 hD6 hS6
  refine zCons (fun T26 e26 hP8 hD8 => ?_) hP7 hD7
  clear hP7 hD7
  refine va_putF (D := D) (ci := 11) (v := .ref q26) (ty := .array .int) (C := R_Re) (T := T_Re) (N := 7) hx hb hg i_Re t_Re o_Re n_Re hown hK hP8 hD8 hS7 0 rfl rfl 2 (by decide) (hg _ k3_83) (fun _ h9 => h9) rfl hnm rfl (by decide +kernel) rfl rfl (Nat.le_of_ble_eq_true rfl) d_Re_init_28 (fun H9 locs9 hP9 hD9 hS9 => ?_)
  clear hP8 hD8 hS7
  replace hP9 : va_P D vwCl ((h0, .inr (11, [.ref q8, .ref q16, .ref q26, .null, .null, .null, .null])) :: T26) _ := hP9
  replace hD9 : va_D A ((h0, .inr (11, [.ref q8, .ref q16, .ref q26, .null, .null, .null, .null])) :: T26) := hD9
  refine lv_aload_n hx hb d_Re_init_31 rfl (lv_at hl 0 rfl) ?_
  refine lv_bipush (v := 40) hx hb d_Re_init_32 (by decide) ?_
  refine zNewa (atype := .int) (ty := .int) (a0 := (40, .inl (fun _ => 0))) (N' := 40) hx hb rfl (hg _ k1_82) hK hP9 hD9 hS9 hA 0 rfl (fun _ h => by cases h) (fun _ => rfl) (by decide) (by decide) (by decide) (Nat.le_of_ble_eq_true rfl) (Nat.le_of_ble_eq_true rfl) d_Re_init_34 (fun q34 H10 hP10 hD10 hS10 => ?_)
  clear hP9 hD9 hS9
  refine zCons (fun T34 e34 hP11 hD11 => ?_) hP10 hD10
  clear hP10 hD10
  refine va_putF (D := D) (ci := 11) (v := .ref q34) (ty := .array .int) (C := R_Re) (T := T_Re) (N := 7) hx hb hg i_Re t_Re o_Re n_Re hown hK hP11 hD11 hS10 0 rfl rfl 3 (by decide) (hg _ k3_84) (fun _ h9 => h9) rfl hnm rfl (by decide +kernel) rfl rfl (Nat.le_of_ble_eq_true rfl) d_Re_init_36 (fun H12 locs12 hP12 hD12 hS12 => ?_)
  clear hP11 hD11 hS10
  replace hP12 : va_P D vwCl ((h0, .inr (11, [.ref q8, .ref q16, .ref q26, .ref q34, .null, .null, .null])) :: T34) _ := hP12
  replace hD12 : va_D A ((h0, .inr (11, [.ref q8, .ref q16, .ref q26, .ref q34, .null, .null, .null])) :: T34) := hD12
  refine lv_aload_n hx hb d_Re_init_39 rfl (lv_at hl 0 rfl) ?_
  refine lv_bipush (v := 41) hx hb d_Re_init_40 (by decide) ?_
  refine zNewa (atype := .int) (ty := .int) (a0 := (41, .inl (fun _ => 0))) (N' := 41) hx hb rfl (hg _ k1_82) hK hP12 hD12 hS12 hA 0 rfl (fun _ h => by cases h) (fun _ => rfl) (by decide) (by decide) (by decide) (Nat.le_of_ble_eq_true rfl) (Nat.le_of_ble_eq_true rfl) d_Re_init_42 (fun q42 H13 hP13 hD13 hS13 => ?_)
  clear hP12 hD12 hS12
  refine zCons (fun T42 e42 hP14 hD14 => ?_) hP13 hD13
  clear hP13 hD13
  refine va_putF (D := D) (ci := 11) (v := .ref q42) (ty := .array .int) (C := R_Re) (T := T_Re) (N := 7) hx hb hg i_Re t_Re o_Re n_Re hown hK hP14 hD14 hS13 0 rfl rfl 4 (by decide) (hg _ k3_85) (fun _ h9 => h9) rfl hnm rfl (by decide +kernel) rfl rfl (Nat.le_of_ble_eq_true rfl) d_Re_init_44 (fun H15 locs15 hP15 hD15 hS15 => ?_)
  clear hP14 hD14 hS13
  replace hP15 : va_P D vwCl ((h0, .inr (11, [.ref q8, .ref q16, .ref q26, .ref q34, .ref q42, .null, .null])) :: T42) _ := hP15
  replace hD15 : va_D A ((h0, .inr (11, [.ref q8, .ref q16, .ref q26, .ref q34, .ref q42, .null, .null])) :: T42) := hD15
  refine lv_aload_n hx hb d_Re_init_47 rfl (lv_at hl 0 rfl) ?_
  refine lv_bipush (v := 41) hx hb d_Re_init_48 (by decide) ?_
  refine zNewa (atype := .int) (ty := .int) (a0 := (41, .inl (fun _ => 0))) (N' := 41) hx hb rfl (hg _ k1_82) hK hP15 hD15 hS15 hA 0 rfl (fun _ h => by cases h) (fun _ => rfl) (by decide) (by decide) (by decide) (Nat.le_of_ble_eq_true rfl) (Nat.le_of_ble_eq_true rfl) d_Re_init_50 (fun q50 H16 hP16 hD16 hS16 => ?_)
  clear hP15 hD15 hS15
  refine zCons (fun T50 e50 hP17 hD17 => ?_) hP16 hD16
  clear hP16 hD16
  refine va_putF (D := D) (ci := 11) (v := .ref q50) (ty := .array .int) (C := R_Re) (T := T_Re) (N := 7) hx hb hg i_Re t_Re o_Re n_Re hown hK hP17 hD17 hS16 0 rfl rfl 5 (by decide) (hg _ k3_86) (fun _ h9 => h9) rfl hnm rfl (by decide +kernel) rfl rfl (Nat.le_of_ble_eq_true rfl) d_Re_init_52 (fun H18 locs18 hP18 hD18 hS18 => ?_)
  clear hP17 hD17 hS16
  replace hP18 : va_P D vwCl ((h0, .inr (11, [.ref q8, .ref q16, .ref q26, .ref q34, .ref q42, .ref q50, .null])) :: T50) _ := hP18
  replace hD18 : va_D A ((h0, .inr (11, [.ref q8, .ref q16, .ref q26, .ref q34, .ref q42, .ref q50, .null])) :: T50) := hD18
  refine lv_aload_n hx hb d_Re_init_55 rfl (lv_at hl 0 rfl) ?_
  refine va_new (ci := 9) (fs := [.null, .int 0]) (C := R_Na) (T := T_Na) (N := 2) hx hb hg i_Na t_Na o_Na hown (hg _ k3_76) (hg _ k2_234) (hg _ k1_10) hK hP18 hD18 hS18 hA rfl f_Na (Nat.le_of_ble_eq_true rfl) (Nat.le_of_ble_eq_true rfl) d_Re_init_56 (fun q56 H19 hP19 hD19 hS19 => ?_)
  clear hP18 hD18 hS18
  refine lv_dup hx hb d_Re_init_59 rfl ?_
  refine zInit hP19 hD19 hS19 hA (va_runIN (As := []) (rest := [.ref q56, .ref h0]) ⟨hx, hb, hml, hown, hg⟩ (c_Na_init l D tA q56 H19.size) ⟨va_cnB 0 hg (zGood k2_237 rfl) rfl rfl rfl (va_Nw.of rfl (hg _ k3_78)) (hg _ k1_10) (by decide +kernel) ⟨(Nat.le_of_ble_eq_true rfl), (Nat.le_of_ble_eq_true rfl)⟩, rfl, hg _ k2_236⟩ (zPreI hh hK hP19 hD19) rfl rfl hl.1 rfl (lv_room (Nat.le_of_ble_eq_true rfl)) d_Re_init_60 ⟨(Nat.le_of_ble_eq_true rfl), (Nat.le_of_ble_eq_true rfl)⟩) (fun u56 H20 locs20 _ hP20 hD20 hS20 => ?_)
  clear hP19 hD19 hS19
  refine zCons (fun T60 e60 hP21 hD21 => ?_) hP20 hD20
  clear hP20 hD20
  refine va_putF (D := D) (ci := 11) (v := .ref q56) (ty := .object "ChanceArena$Natural") (C := R_Re) (T := T_Re) (N := 7) hx hb hg i_Re t_Re o_Re n_Re hown hK hP21 hD21 hS20 0 rfl rfl 6 (by decide) (hg _ k3_87) (fun _ h9 => h9) rfl hnm rfl (by decide +kernel) rfl rfl (Nat.le_of_ble_eq_true rfl) d_Re_init_63 (fun H22 locs22 hP22 hD22 hS22 => ?_)
  clear hP21 hD21 hS20
  replace hP22 : va_P D vwCl ((h0, .inr (11, [.ref q8, .ref q16, .ref q26, .ref q34, .ref q42, .ref q50, .ref q56])) :: T60) _ := hP22
  replace hD22 : va_D A ((h0, .inr (11, [.ref q8, .ref q16, .ref q26, .ref q34, .ref q42, .ref q50, .ref q56])) :: T60) := hD22
  rw [e60, e50, e42, e34, e26, e16, e8] at hP22 hD22
  replace hP22 := hP22.sub (ws' := [(h0, .inr (11, [.ref q8, .ref q16, .ref q26, .ref q34, .ref q42, .ref q50, .ref q56])), (q16, .inl (tA 4, 41, .inr (.inr (.inr (.inr (fun _ => none)))))), (q8, .inl (tA 0, 1640, .inl (fun _ => 0))), (q26, .inl (tA 0, 1640, .inl (fun _ => 0))), (q34, .inl (tA 0, 40, .inl (fun _ => 0))), (q42, .inl (tA 0, 41, .inl (fun _ => 0))), (q50, .inl (tA 0, 41, .inl (fun _ => 0)))] ++ w_Na tA q56 u56) [0, 2, 1, 3, 4, 5, 6, 7, 8] rfl
  replace hD22 := hD22.sub (ws' := [(h0, .inr (11, [.ref q8, .ref q16, .ref q26, .ref q34, .ref q42, .ref q50, .ref q56])), (q16, .inl (tA 4, 41, .inr (.inr (.inr (.inr (fun _ => none)))))), (q8, .inl (tA 0, 1640, .inl (fun _ => 0))), (q26, .inl (tA 0, 1640, .inl (fun _ => 0))), (q34, .inl (tA 0, 40, .inl (fun _ => 0))), (q42, .inl (tA 0, 41, .inl (fun _ => 0))), (q50, .inl (tA 0, 41, .inl (fun _ => 0)))] ++ w_Na tA q56 u56) [0, 2, 1, 3, 4, 5, 6, 7, 8] (by decide) rfl
  refine lv_iconst (v := 0) hx hb d_Re_init_66 (by decide) ?_
  refine lv_istore_n (lv' := [(1, .int (nI 0)), (0, .ref h0)]) hx hb d_Re_init_67 rfl hl (by decide) rfl (fun ls hl => ?_)
  refine W.cs (cells' := 8 + 2 * 0) (slots' := 3449 + 6 * 0) rfl rfl ?_
  refine Re_loop (fs := [.ref q8, .ref q16, .ref q26, .ref q34, .ref q42, .ref q50, .ref q56]) (ra := q16) (T0 := [(q8, .inl (tA 0, 1640, .inl (fun _ => 0))), (q26, .inl (tA 0, 1640, .inl (fun _ => 0))), (q34, .inl (tA 0, 40, .inl (fun _ => 0))), (q42, .inl (tA 0, 41, .inl (fun _ => 0))), (q50, .inl (tA 0, 41, .inl (fun _ => 0)))] ++ w_Na tA q56 u56) hx hb hml hh hg hown hK hA rfl ?_ 41 0 rfl (fun _ => (0, 0)) _ _ _ ?_ ?_ hS22 hl
  · intro r H1 locs1 ls1 hP1 hD1 hS1 hl1
    exact zVret hx hb hr hlocks hP1 hD1 hS1 (q8, q16, q26, q34, q42, q50, (q56, u56), r) trivial rfl d_Re_init_93
  · exact hP22
  · exact hD22
end
section
theorem k1_9 : (Jvm.Cond.initialized "ChanceArena$Scales") ∈ lw_R := zR (zk_1 _ (List.mem_of_getElem? (i := 9) (by decide +kernel))) rfl
theorem k1_12 : (Jvm.Cond.initialized "ChanceArena$Residues") ∈ lw_R := zR (zk_1 _ (List.mem_of_getElem? (i := 12) (by decide +kernel))) rfl
theorem k2_225 : (Jvm.Cond.code ({ cls := "ChanceArena$Solver", name := "<init>", desc := "(LChanceArena$Game;)V" } : Jvm.MethodName) prog_11_method_1_code (2 : Nat) (Option.none : Option Jvm.ClassFile.FieldType)) ∈ lw_R := zR (zk_2 _ (List.mem_of_getElem? (i := 225) (by decide +kernel))) rfl
theorem k2_226 : (Jvm.Cond.methodLink "ChanceArena$Solver" (3 : Nat) ({ cls := "java/lang/Object", name := "<init>", desc := "()V" } : Jvm.MethodName)) ∈ lw_R := zR (zk_2 _ (List.mem_of_getElem? (i := 226) (by decide +kernel))) rfl
theorem k2_227 : (Jvm.Cond.classLink "ChanceArena$Solver" (9 : Nat) "ChanceArena$Scales") ∈ lw_R := zR (zk_2 _ (List.mem_of_getElem? (i := 227) (by decide +kernel))) rfl
theorem k2_228 : (Jvm.Cond.instantiable "ChanceArena$Scales" (11 : Nat)) ∈ lw_R := zR (zk_2 _ (List.mem_of_getElem? (i := 228) (by decide +kernel))) rfl
theorem k2_229 : (Jvm.Cond.methodLinkNest "ChanceArena$Solver" (11 : Nat) ({ cls := "ChanceArena$Scales", name := "<init>", desc := "()V" } : Jvm.MethodName) "ChanceArena") ∈ lw_R := zR (zk_2 _ (List.mem_of_getElem? (i := 229) (by decide +kernel))) rfl
theorem k2_230 : (Jvm.Cond.instanceMethod ({ cls := "ChanceArena$Scales", name := "<init>", desc := "()V" } : Jvm.MethodName)) ∈ lw_R := zR (zk_2 _ (List.mem_of_getElem? (i := 230) (by decide +kernel))) rfl
theorem k3_70 : (Jvm.Cond.classLink "ChanceArena$Solver" (25 : Nat) "ChanceArena$Residues") ∈ lw_R := zR (zk_3 _ (List.mem_of_getElem? (i := 70) (by decide +kernel))) rfl
theorem k3_71 : (Jvm.Cond.instantiable "ChanceArena$Residues" (7 : Nat)) ∈ lw_R := zR (zk_3 _ (List.mem_of_getElem? (i := 71) (by decide +kernel))) rfl
theorem k3_72 : (Jvm.Cond.methodLink "ChanceArena$Solver" (27 : Nat) ({ cls := "ChanceArena$Residues", name := "<init>", desc := "()V" } : Jvm.MethodName)) ∈ lw_R := zR (zk_3 _ (List.mem_of_getElem? (i := 72) (by decide +kernel))) rfl
theorem k3_73 : (Jvm.Cond.instanceMethod ({ cls := "ChanceArena$Residues", name := "<init>", desc := "()V" } : Jvm.MethodName)) ∈ lw_R := zR (zk_3 _ (List.mem_of_getElem? (i := 73) (by decide +kernel))) rfl
theorem k3_103 : (Jvm.Cond.classLink "ChanceArena$Solver" (54 : Nat) "ChanceArena$Fraction") ∈ lw_R := zR (zk_3 _ (List.mem_of_getElem? (i := 103) (by decide +kernel))) rfl
theorem k3_104 : (Jvm.Cond.methodLinkNest "ChanceArena$Solver" (56 : Nat) ({ cls := "ChanceArena$Fraction", name := "<init>", desc := "()V" } : Jvm.MethodName) "ChanceArena") ∈ lw_R := zR (zk_3 _ (List.mem_of_getElem? (i := 104) (by decide +kernel))) rfl
theorem k3_105 : (Jvm.Cond.fieldLink "ChanceArena$Solver" (12 : Nat) "ChanceArena$Solver" "scales" "LChanceArena$Scales;") ∈ lw_R := zR (zk_3 _ (List.mem_of_getElem? (i := 105) (by decide +kernel))) rfl
theorem k3_107 : (Jvm.Cond.fieldLink "ChanceArena$Solver" (18 : Nat) "ChanceArena$Solver" "ranks" "[I") ∈ lw_R := zR (zk_3 _ (List.mem_of_getElem? (i := 107) (by decide +kernel))) rfl
theorem k3_109 : (Jvm.Cond.fieldLink "ChanceArena$Solver" (22 : Nat) "ChanceArena$Solver" "choices" "[I") ∈ lw_R := zR (zk_3 _ (List.mem_of_getElem? (i := 109) (by decide +kernel))) rfl
theorem k3_111 : (Jvm.Cond.fieldLink "ChanceArena$Solver" (61 : Nat) "ChanceArena$Solver" "game" "LChanceArena$Game;") ∈ lw_R := zR (zk_3 _ (List.mem_of_getElem? (i := 111) (by decide +kernel))) rfl
theorem k3_112 : (Jvm.Cond.fieldLink "ChanceArena$Solver" (28 : Nat) "ChanceArena$Solver" "system" "LChanceArena$Residues;") ∈ lw_R := zR (zk_3 _ (List.mem_of_getElem? (i := 112) (by decide +kernel))) rfl
theorem k3_113 : (Jvm.Cond.fieldLink "ChanceArena$Solver" (32 : Nat) "ChanceArena$Solver" "low" "[I") ∈ lw_R := zR (zk_3 _ (List.mem_of_getElem? (i := 113) (by decide +kernel))) rfl
theorem k3_114 : (Jvm.Cond.fieldLink "ChanceArena$Solver" (35 : Nat) "ChanceArena$Solver" "high" "[I") ∈ lw_R := zR (zk_3 _ (List.mem_of_getElem? (i := 114) (by decide +kernel))) rfl
theorem k3_115 : (Jvm.Cond.fieldLink "ChanceArena$Solver" (38 : Nat) "ChanceArena$Solver" "slot" "[I") ∈ lw_R := zR (zk_3 _ (List.mem_of_getElem? (i := 115) (by decide +kernel))) rfl
theorem k3_116 : (Jvm.Cond.fieldLink "ChanceArena$Solver" (41 : Nat) "ChanceArena$Solver" "unknown" "[I") ∈ lw_R := zR (zk_3 _ (List.mem_of_getElem? (i := 116) (by decide +kernel))) rfl
theorem k3_117 : (Jvm.Cond.fieldLink "ChanceArena$Solver" (44 : Nat) "ChanceArena$Solver" "chosen" "[I") ∈ lw_R := zR (zk_3 _ (List.mem_of_getElem? (i := 117) (by decide +kernel))) rfl
theorem k3_119 : (Jvm.Cond.fieldLink "ChanceArena$Solver" (47 : Nat) "ChanceArena$Solver" "attains" "[Z") ∈ lw_R := zR (zk_3 _ (List.mem_of_getElem? (i := 119) (by decide +kernel))) rfl
theorem k3_120 : (Jvm.Cond.fieldLink "ChanceArena$Solver" (51 : Nat) "ChanceArena$Solver" "probe" "[I") ∈ lw_R := zR (zk_3 _ (List.mem_of_getElem? (i := 120) (by decide +kernel))) rfl
theorem k3_121 : (Jvm.Cond.fieldLink "ChanceArena$Solver" (57 : Nat) "ChanceArena$Solver" "worth" "LChanceArena$Fraction;") ∈ lw_R := zR (zk_3 _ (List.mem_of_getElem? (i := 121) (by decide +kernel))) rfl
theorem d_So_init_0 : decode prog_11_method_1_code 0 = .ok (.aload_n 0, 1) := by decide +kernel
theorem d_So_init_1 : decode prog_11_method_1_code 1 = .ok (.invokespecial 3, 3) := by decide +kernel
theorem d_So_init_4 : decode prog_11_method_1_code 4 = .ok (.aload_n 0, 1) := by decide +kernel
theorem d_So_init_5 : decode prog_11_method_1_code 5 = .ok (.new 9, 3) := by decide +kernel
theorem d_So_init_8 : decode prog_11_method_1_code 8 = .ok (.dup, 1) := by decide +kernel
theorem d_So_init_9 : decode prog_11_method_1_code 9 = .ok (.invokespecial 11, 3) := by decide +kernel
theorem d_So_init_12 : decode prog_11_method_1_code 12 = .ok (.putfield 12, 3) := by decide +kernel
theorem d_So_init_15 : decode prog_11_method_1_code 15 = .ok (.aload_n 0, 1) := by decide +kernel
theorem d_So_init_16 : decode prog_11_method_1_code 16 = .ok (.sipush 512, 3) := by decide +kernel
theorem d_So_init_19 : decode prog_11_method_1_code 19 = .ok (.newarray .int, 2) := by decide +kernel
theorem d_So_init_21 : decode prog_11_method_1_code 21 = .ok (.putfield 18, 3) := by decide +kernel
theorem d_So_init_24 : decode prog_11_method_1_code 24 = .ok (.aload_n 0, 1) := by decide +kernel
theorem d_So_init_25 : decode prog_11_method_1_code 25 = .ok (.sipush 512, 3) := by decide +kernel
theorem d_So_init_28 : decode prog_11_method_1_code 28 = .ok (.newarray .int, 2) := by decide +kernel
theorem d_So_init_30 : decode prog_11_method_1_code 30 = .ok (.putfield 22, 3) := by decide +kernel
theorem d_So_init_33 : decode prog_11_method_1_code 33 = .ok (.aload_n 0, 1) := by decide +kernel
theorem d_So_init_34 : decode prog_11_method_1_code 34 = .ok (.new 25, 3) := by decide +kernel
theorem d_So_init_37 : decode prog_11_method_1_code 37 = .ok (.dup, 1) := by decide +kernel
theorem d_So_init_38 : decode prog_11_method_1_code 38 = .ok (.invokespecial 27, 3) := by decide +kernel
theorem d_So_init_41 : decode prog_11_method_1_code 41 = .ok (.putfield 28, 3) := by decide +kernel
theorem d_So_init_44 : decode prog_11_method_1_code 44 = .ok (.aload_n 0, 1) := by decide +kernel
theorem d_So_init_45 : decode prog_11_method_1_code 45 = .ok (.sipush 512, 3) := by decide +kernel
theorem d_So_init_48 : decode prog_11_method_1_code 48 = .ok (.newarray .int, 2) := by decide +kernel
theorem d_So_init_50 : decode prog_11_method_1_code 50 = .ok (.putfield 32, 3) := by decide +kernel
theorem d_So_init_53 : decode prog_11_method_1_code 53 = .ok (.aload_n 0, 1) := by decide +kernel
theorem d_So_init_54 : decode prog_11_method_1_code 54 = .ok (.sipush 512, 3) := by decide +kernel
theorem d_So_init_57 : decode prog_11_method_1_code 57 = .ok (.newarray .int, 2) := by decide +kernel
theorem d_So_init_59 : decode prog_11_method_1_code 59 = .ok (.putfield 35, 3) := by decide +kernel
theorem d_So_init_62 : decode prog_11_method_1_code 62 = .ok (.aload_n 0, 1) := by decide +kernel
theorem d_So_init_63 : decode prog_11_method_1_code 63 = .ok (.sipush 512, 3) := by decide +kernel
theorem d_So_init_66 : decode prog_11_method_1_code 66 = .ok (.newarray .int, 2) := by decide +kernel
theorem d_So_init_68 : decode prog_11_method_1_code 68 = .ok (.putfield 38, 3) := by decide +kernel
theorem d_So_init_71 : decode prog_11_method_1_code 71 = .ok (.aload_n 0, 1) := by decide +kernel
theorem d_So_init_72 : decode prog_11_method_1_code 72 = .ok (.bipush 40, 2) := by decide +kernel
theorem d_So_init_74 : decode prog_11_method_1_code 74 = .ok (.newarray .int, 2) := by decide +kernel
theorem d_So_init_76 : decode prog_11_method_1_code 76 = .ok (.putfield 41, 3) := by decide +kernel
theorem d_So_init_79 : decode prog_11_method_1_code 79 = .ok (.aload_n 0, 1) := by decide +kernel
theorem d_So_init_80 : decode prog_11_method_1_code 80 = .ok (.bipush 40, 2) := by decide +kernel
theorem d_So_init_82 : decode prog_11_method_1_code 82 = .ok (.newarray .int, 2) := by decide +kernel
theorem d_So_init_84 : decode prog_11_method_1_code 84 = .ok (.putfield 44, 3) := by decide +kernel
theorem d_So_init_87 : decode prog_11_method_1_code 87 = .ok (.aload_n 0, 1) := by decide +kernel
theorem d_So_init_88 : decode prog_11_method_1_code 88 = .ok (.sipush 4097, 3) := by decide +kernel
theorem d_So_init_91 : decode prog_11_method_1_code 91 = .ok (.newarray .boolean, 2) := by decide +kernel
theorem d_So_init_93 : decode prog_11_method_1_code 93 = .ok (.putfield 47, 3) := by decide +kernel
theorem d_So_init_96 : decode prog_11_method_1_code 96 = .ok (.aload_n 0, 1) := by decide +kernel
theorem d_So_init_97 : decode prog_11_method_1_code 97 = .ok (.sipush 512, 3) := by decide +kernel
theorem d_So_init_100 : decode prog_11_method_1_code 100 = .ok (.newarray .int, 2) := by decide +kernel
theorem d_So_init_102 : decode prog_11_method_1_code 102 = .ok (.putfield 51, 3) := by decide +kernel
theorem d_So_init_105 : decode prog_11_method_1_code 105 = .ok (.aload_n 0, 1) := by decide +kernel
theorem d_So_init_106 : decode prog_11_method_1_code 106 = .ok (.new 54, 3) := by decide +kernel
theorem d_So_init_109 : decode prog_11_method_1_code 109 = .ok (.dup, 1) := by decide +kernel
theorem d_So_init_110 : decode prog_11_method_1_code 110 = .ok (.invokespecial 56, 3) := by decide +kernel
theorem d_So_init_113 : decode prog_11_method_1_code 113 = .ok (.putfield 57, 3) := by decide +kernel
theorem d_So_init_116 : decode prog_11_method_1_code 116 = .ok (.aload_n 0, 1) := by decide +kernel
theorem d_So_init_117 : decode prog_11_method_1_code 117 = .ok (.aload_n 1, 1) := by decide +kernel
theorem d_So_init_118 : decode prog_11_method_1_code 118 = .ok (.putfield 61, 3) := by decide +kernel
theorem d_So_init_121 : decode prog_11_method_1_code 121 = .ok (.return_, 1) := by decide +kernel
abbrev S_So : Type := (Nat × S_Sc) × Nat × Nat × (Nat × S_Re) × Nat × Nat × Nat × Nat × Nat × Nat × Nat × (Nat × S_Fr)
def w_So (tA : Nat → ClassId) (h0 g1 : Nat) (u : S_So) : va_W := match u with
  | ((q5, u5), q19, q28, (q34, u34), q48, q57, q66, q74, q82, q91, q100, (q106, u106)) => (h0, .inr (7, [.ref q5, .ref q19, .ref q28, .ref g1, .ref q34, .ref q48, .ref q57, .ref q66, .ref q74, .ref q82, .int 0, .ref q91, .ref q100, .ref q106])) :: ([] ++ w_Sc tA q5 u5 ++ [(q19, .inl (tA 0, 512, .inl (fun _ => 0)))] ++ [(q28, .inl (tA 0, 512, .inl (fun _ => 0)))] ++ w_Re tA q34 u34 ++ [(q48, .inl (tA 0, 512, .inl (fun _ => 0)))] ++ [(q57, .inl (tA 0, 512, .inl (fun _ => 0)))] ++ [(q66, .inl (tA 0, 512, .inl (fun _ => 0)))] ++ [(q74, .inl (tA 0, 40, .inl (fun _ => 0)))] ++ [(q82, .inl (tA 0, 40, .inl (fun _ => 0)))] ++ [(q91, .inl (tA 1, 4097, .inl (fun _ => 0)))] ++ [(q100, .inl (tA 0, 512, .inl (fun _ => 0)))] ++ w_Fr tA q106 u106)
theorem f_So : ∀ j, j < 14 → defaultValue (t_So j) = vp_V [.null, .null, .null, .null, .null, .null, .null, .null, .null, .null, .int 0, .null, .null, .null] j := by decide +kernel
set_option maxHeartbeats 4000000 in
set_option maxRecDepth 100000 in
theorem c_So_init (l : Launch) (D : va_G) (tA : Nat → ClassId) (h0 g1 sz : Nat) : zMv l ({ cls := "ChanceArena$Solver", name := "<init>", desc := "(LChanceArena$Game;)V" } : Jvm.MethodName) (zW (Jvm.Cond.code ({ cls := "ChanceArena$Solver", name := "<init>", desc := "(LChanceArena$Game;)V" } : Jvm.MethodName) prog_11_method_1_code (2 : Nat) (Option.none : Option Jvm.ClassFile.FieldType))) { frames := 4, cells := 133, slots := 11059, locals := 72 } [.ref h0, .ref g1] D tA [(h0, .inr (7, [.null, .null, .null, .null, .null, .null, .null, .null, .null, .null, .int 0, .null, .null, .null]))] sz (fun _ : S_So => True) (w_So tA h0 g1) 133 11059 := by
  refine zOpen (fun A => va_Qv _ (zPost D A (w_So tA h0 g1)) A) (lv := [(0, .ref h0), (1, .ref g1)]) (by decide) rfl (Nat.le_of_ble_eq_true rfl) rfl ?_
  intro p e s m below meth c A ls hx hb hr hml hh hg hown hlocks hnm hK hA hP hD0 hAw hS hl
  have hD := zD hD0 hAw
  refine lv_aload_n hx hb d_So_init_0 rfl (lv_at hl 0 rfl) ?_
  refine W.objInit hx hb hown (hg _ k2_226) (hg _ k1_46) (hg _ k1_47) rfl (by rw [hml]; exact hl.1) rfl d_So_init_1 (Nat.le_of_ble_eq_true rfl) (Nat.le_of_ble_eq_true rfl) ?_
  refine lv_aload_n hx hb d_So_init_4 rfl (lv_at hl 0 rfl) ?_
  refine va_new (ci := 8) (fs := [.null, .null, .null, .null, .null, .null, .null, .null, .null, .null, .null]) (C := R_Sc) (T := T_Sc) (N := 11) hx hb hg i_Sc t_Sc o_Sc hown (hg _ k2_227) (hg _ k2_228) (hg _ k1_9) hK hP hD hS hA rfl f_Sc (Nat.le_of_ble_eq_true rfl) (Nat.le_of_ble_eq_true rfl) d_So_init_5 (fun q5 H1 hP1 hD1 hS1 => ?_)
  clear hP hD hS
  refine lv_dup hx hb d_So_init_8 rfl ?_
  refine zInit hP1 hD1 hS1 hA (va_runIN (As := []) (rest := [.ref q5, .ref h0]) ⟨hx, hb, hml, hown, hg⟩ (c_Sc_init l D tA q5 H1.size) ⟨va_cnB 0 hg (zGood k2_231 rfl) rfl rfl rfl (va_Nw.of rfl (hg _ k2_229)) (hg _ k1_9) (by decide +kernel) ⟨(Nat.le_of_ble_eq_true rfl), (Nat.le_of_ble_eq_true rfl)⟩, rfl, hg _ k2_230⟩ (zPreI hh hK hP1 hD1) rfl rfl hl.1 rfl (lv_room (Nat.le_of_ble_eq_true rfl)) d_So_init_9 ⟨(Nat.le_of_ble_eq_true rfl), (Nat.le_of_ble_eq_true rfl)⟩) (fun u5 H2 locs2 _ hP2 hD2 hS2 => ?_)
  clear hP1 hD1 hS1
  refine zCons (fun T9 e9 hP3 hD3 => ?_) hP2 hD2
  clear hP2 hD2
  refine va_putF (D := D) (ci := 7) (v := .ref q5) (ty := .object "ChanceArena$Scales") (C := R_So) (T := T_So) (N := 14) hx hb hg i_So t_So o_So n_So hown hK hP3 hD3 hS2 0 rfl rfl 0 (by decide) (hg _ k3_105) (fun _ h9 => h9) rfl hnm rfl (by decide +kernel) rfl rfl (Nat.le_of_ble_eq_true rfl) d_So_init_12 (fun H4 locs4 hP4 hD4 hS4 => ?_)
  clear hP3 hD3 hS2
  replace hP4 : va_P D vwCl ((h0, .inr (7, [.ref q5, .null, .null, .null, .null, .null, .null, .null, .null, .null, .int 0, .null, .null, .null])) :: T9) _ := hP4
  replace hD4 : va_D A ((h0, .inr (7, [.ref q5, .null, .null, .null, .null, .null, .null, .null, .null, .null, .int 0, .null, .null, .null])) :: T9) := hD4
  refine lv_aload_n hx hb d_So_init_15 rfl (lv_at hl 0 rfl) ?_
  refine lv_sipush (v := 512) hx hb d_So_init_16 (by decide) ?_
  refine zNewa (atype := .int) (ty := .int) (a0 := (512, .inl (fun _ => 0))) (N' := 512) hx hb rfl (hg _ k1_82) hK hP4 hD4 hS4 hA 0 rfl (fun _ h => by cases h) (fun _ => rfl) (by decide) (by decide) (by decide) (Nat.le_of_ble_eq_true rfl) (Nat.le_of_ble_eq_true rfl) d_So_init_19 (fun q19 H5 hP5 hD5 hS5 => ?_)
  clear hP4 hD4 hS4
  refine zCons (fun T19 e19 hP6 hD6 => ?_) hP5 hD5
  clear hP5 hD5
  refine va_putF (D := D) (ci := 7) (v := .ref q19) (ty := .array .int) (C := R_So) (T := T_So) (N := 14) hx hb hg i_So t_So o_So n_So hown hK hP6 hD6 hS5 0 rfl rfl 1 (by decide) (hg _ k3_107) (fun _ h9 => h9) rfl hnm rfl (by decide +kernel) rfl rfl (Nat.le_of_ble_eq_true rfl) d_So_init_21 (fun H7 locs7 hP7 hD7 hS7 => ?_)
  clear hP6 hD6 hS5
  replace hP7 : va_P D vwCl ((h0, .inr (7, [.ref q5, .ref q19, .null, .null, .null, .null, .null, .null, .null, .null, .int 0, .null, .null, .null])) :: T19) _ := hP7
  replace hD7 : va_D A ((h0, .inr (7, [.ref q5, .ref q19, .null, .null, .null, .null, .null, .null, .null, .null, .int 0, .null, .null, .null])) :: T19) := hD7
  refine lv_aload_n hx hb d_So_init_24 rfl (lv_at hl 0 rfl) ?_
  refine lv_sipush (v := 512) hx hb d_So_init_25 (by decide) ?_
  refine zNewa (atype := .int) (ty := .int) (a0 := (512, .inl (fun _ => 0))) (N' := 512) hx hb rfl (hg _ k1_82) hK hP7 hD7 hS7 hA 0 rfl (fun _ h => by cases h) (fun _ => rfl) (by decide) (by decide) (by decide) (Nat.le_of_ble_eq_true rfl) (Nat.le_of_ble_eq_true rfl) d_So_init_28 (fun q28 H8 hP8 hD8 hS8 => ?_)
  clear hP7 hD7 hS7
  refine zCons (fun T28 e28 hP9 hD9 => ?_) hP8 hD8
  clear hP8 hD8
  refine va_putF (D := D) (ci := 7) (v := .ref q28) (ty := .array .int) (C := R_So) (T := T_So) (N := 14) hx hb hg i_So t_So o_So n_So hown hK hP9 hD9 hS8 0 rfl rfl 2 (by decide) (hg _ k3_109) (fun _ h9 => h9) rfl hnm rfl (by decide +kernel) rfl rfl (Nat.le_of_ble_eq_true rfl) d_So_init_30 (fun H10 locs10 hP10 hD10 hS10 => ?_)
  clear hP9 hD9 hS8
  replace hP10 : va_P D vwCl ((h0, .inr (7, [.ref q5, .ref q19, .ref q28, .null, .null, .null, .null, .null, .null, .null, .int 0, .null, .null, .null])) :: T28) _ := hP10
  replace hD10 : va_D A ((h0, .inr (7, [.ref q5, .ref q19, .ref q28, .null, .null, .null, .null, .null, .null, .null, .int 0, .null, .null, .null])) :: T28) := hD10
  refine lv_aload_n hx hb d_So_init_33 rfl (lv_at hl 0 rfl) ?_
  refine va_new (ci := 11) (fs := [.null, .null, .null, .null, .null, .null, .null]) (C := R_Re) (T := T_Re) (N := 7) hx hb hg i_Re t_Re o_Re hown (hg _ k3_70) (hg _ k3_71) (hg _ k1_12) hK hP10 hD10 hS10 hA rfl f_Re (Nat.le_of_ble_eq_true rfl) (Nat.le_of_ble_eq_true rfl) d_So_init_34 (fun q34 H11 hP11 hD11 hS11 => ?_)
  clear hP10 hD10 hS10
  refine lv_dup hx hb d_So_init_37 rfl ?_
  refine zInit hP11 hD11 hS11 hA (va_runI (As := []) (rest := [.ref q34, .ref h0]) ⟨hx, hb, hml, hown, hg⟩ (c_Re_init l D tA q34 H11.size) (cwI 0 hg (zGood k3_74 rfl) rfl rfl rfl (hg _ k1_12) (hg _ k3_72) (hg _ k3_73) rfl (by decide +kernel) ⟨(Nat.le_of_ble_eq_true rfl), (Nat.le_of_ble_eq_true rfl)⟩) (zPreI hh hK hP11 hD11) rfl rfl hl.1 rfl (lv_room (Nat.le_of_ble_eq_true rfl)) d_So_init_38 ⟨(Nat.le_of_ble_eq_true rfl), (Nat.le_of_ble_eq_true rfl)⟩) (fun u34 H12 locs12 _ hP12 hD12 hS12 => ?_)
  clear hP11 hD11 hS11
  refine zCons (fun T38 e38 hP13 hD13 => ?_) hP12 hD12
  clear hP12 hD12
  refine va_putF (D := D) (ci := 7) (v := .ref q34) (ty := .object "ChanceArena$Residues") (C := R_So) (T := T_So) (N := 14) hx hb hg i_So t_So o_So n_So hown hK hP13 hD13 hS12 0 rfl rfl 4 (by decide) (hg _ k3_112) (fun _ h9 => h9) rfl hnm rfl (by decide +kernel) rfl rfl (Nat.le_of_ble_eq_true rfl) d_So_init_41 (fun H14 locs14 hP14 hD14 hS14 => ?_)
  clear hP13 hD13 hS12
  replace hP14 : va_P D vwCl ((h0, .inr (7, [.ref q5, .ref q19, .ref q28, .null, .ref q34, .null, .null, .null, .null, .null, .int 0, .null, .null, .null])) :: T38) _ := hP14
  replace hD14 : va_D A ((h0, .inr (7, [.ref q5, .ref q19, .ref q28, .null, .ref q34, .null, .null, .null, .null, .null, .int 0, .null, .null, .null])) :: T38) := hD14
  refine lv_aload_n hx hb d_So_init_44 rfl (lv_at hl 0 rfl) ?_
  refine lv_sipush (v := 512) hx hb d_So_init_45 (by decide) ?_
  refine zNewa (atype := .int) (ty := .int) (a0 := (512, .inl (fun _ => 0))) (N' := 512) hx hb rfl (hg _ k1_82) hK hP14 hD14 hS14 hA 0 rfl (fun _ h => by cases h) (fun _ => rfl) (by decide) (by decide) (by decide) (Nat.le_of_ble_eq_true rfl) (Nat.le_of_ble_eq_true rfl) d_So_init_48 (fun q48 H15 hP15 hD15 hS15 => ?_)
  clear hP14 hD14 hS14
  refine zCons (fun T48 e48 hP16 hD16 => ?_) hP15 hD15
  clear hP15 hD15
  refine va_putF (D := D) (ci := 7) (v := .ref q48) (ty := .array .int) (C := R_So) (T := T_So) (N := 14) hx hb hg i_So t_So o_So n_So hown hK hP16 hD16 hS15 0 rfl rfl 5 (by decide) (hg _ k3_113) (fun _ h9 => h9) rfl hnm rfl (by decide +kernel) rfl rfl (Nat.le_of_ble_eq_true rfl) d_So_init_50 (fun H17 locs17 hP17 hD17 hS17 => ?_)
  clear hP16 hD16 hS15
  replace hP17 : va_P D vwCl ((h0, .inr (7, [.ref q5, .ref q19, .ref q28, .null, .ref q34, .ref q48, .null, .null, .null, .null, .int 0, .null, .null, .null])) :: T48) _ := hP17
  replace hD17 : va_D A ((h0, .inr (7, [.ref q5, .ref q19, .ref q28, .null, .ref q34, .ref q48, .null, .null, .null, .null, .int 0, .null, .null, .null])) :: T48) := hD17
  refine lv_aload_n hx hb d_So_init_53 rfl (lv_at hl 0 rfl) ?_
  refine lv_sipush (v := 512) hx hb d_So_init_54 (by decide) ?_
  refine zNewa (atype := .int) (ty := .int) (a0 := (512, .inl (fun _ => 0))) (N' := 512) hx hb rfl (hg _ k1_82) hK hP17 hD17 hS17 hA 0 rfl (fun _ h => by cases h) (fun _ => rfl) (by decide) (by decide) (by decide) (Nat.le_of_ble_eq_true rfl) (Nat.le_of_ble_eq_true rfl) d_So_init_57 (fun q57 H18 hP18 hD18 hS18 => ?_)
  clear hP17 hD17 hS17
  refine zCons (fun T57 e57 hP19 hD19 => ?_) hP18 hD18
  clear hP18 hD18
  refine va_putF (D := D) (ci := 7) (v := .ref q57) (ty := .array .int) (C := R_So) (T := T_So) (N := 14) hx hb hg i_So t_So o_So n_So hown hK hP19 hD19 hS18 0 rfl rfl 6 (by decide) (hg _ k3_114) (fun _ h9 => h9) rfl hnm rfl (by decide +kernel) rfl rfl (Nat.le_of_ble_eq_true rfl) d_So_init_59 (fun H20 locs20 hP20 hD20 hS20 => ?_)
  clear hP19 hD19 hS18
  replace hP20 : va_P D vwCl ((h0, .inr (7, [.ref q5, .ref q19, .ref q28, .null, .ref q34, .ref q48, .ref q57, .null, .null, .null, .int 0, .null, .null, .null])) :: T57) _ := hP20
  replace hD20 : va_D A ((h0, .inr (7, [.ref q5, .ref q19, .ref q28, .null, .ref q34, .ref q48, .ref q57, .null, .null, .null, .int 0, .null, .null, .null])) :: T57) := hD20
  refine lv_aload_n hx hb d_So_init_62 rfl (lv_at hl 0 rfl) ?_
  refine lv_sipush (v := 512) hx hb d_So_init_63 (by decide) ?_
  refine zNewa (atype := .int) (ty := .int) (a0 := (512, .inl (fun _ => 0))) (N' := 512) hx hb rfl (hg _ k1_82) hK hP20 hD20 hS20 hA 0 rfl (fun _ h => by cases h) (fun _ => rfl) (by decide) (by decide) (by decide) (Nat.le_of_ble_eq_true rfl) (Nat.le_of_ble_eq_true rfl) d_So_init_66 (fun q66 H21 hP21 hD21 hS21 => ?_)
  clear hP20 hD20 hS20
  refine zCons (fun T66 e66 hP22 hD22 => ?_) hP21 hD21
  clear hP21 hD21
  refine va_putF (D := D) (ci := 7) (v := .ref q66) (ty := .array .int) (C := R_So) (T := T_So) (N := 14) hx hb hg i_So t_So o_So n_So hown hK hP22 hD22 hS21 0 rfl rfl 7 (by decide) (hg _ k3_115) (fun _ h9 => h9) rfl hnm rfl (by decide +kernel) rfl rfl (Nat.le_of_ble_eq_true rfl) d_So_init_68 (fun H23 locs23 hP23 hD23 hS23 => ?_)
  clear hP22 hD22 hS21
  replace hP23 : va_P D vwCl ((h0, .inr (7, [.ref q5, .ref q19, .ref q28, .null, .ref q34, .ref q48, .ref q57, .ref q66, .null, .null, .int 0, .null, .null, .null])) :: T66) _ := hP23
  replace hD23 : va_D A ((h0, .inr (7, [.ref q5, .ref q19, .ref q28, .null, .ref q34, .ref q48, .ref q57, .ref q66, .null, .null, .int 0, .null, .null, .null])) :: T66) := hD23
  refine lv_aload_n hx hb d_So_init_71 rfl (lv_at hl 0 rfl) ?_
  refine lv_bipush (v := 40) hx hb d_So_init_72 (by decide) ?_
  refine zNewa (atype := .int) (ty := .int) (a0 := (40, .inl (fun _ => 0))) (N' := 40) hx hb rfl (hg _ k1_82) hK hP23 hD23 hS23 hA 0 rfl (fun _ h => by cases h) (fun _ => rfl) (by decide) (by decide) (by decide) (Nat.le_of_ble_eq_true rfl) (Nat.le_of_ble_eq_true rfl) d_So_init_74 (fun q74 H24 hP24 hD24 hS24 => ?_)
  clear hP23 hD23 hS23
  refine zCons (fun T74 e74 hP25 hD25 => ?_) hP24 hD24
  clear hP24 hD24
  refine va_putF (D := D) (ci := 7) (v := .ref q74) (ty := .array .int) (C := R_So) (T := T_So) (N := 14) hx hb hg i_So t_So o_So n_So hown hK hP25 hD25 hS24 0 rfl rfl 8 (by decide) (hg _ k3_116) (fun _ h9 => h9) rfl hnm rfl (by decide +kernel) rfl rfl (Nat.le_of_ble_eq_true rfl) d_So_init_76 (fun H26 locs26 hP26 hD26 hS26 => ?_)
  clear hP25 hD25 hS24
  replace hP26 : va_P D vwCl ((h0, .inr (7, [.ref q5, .ref q19, .ref q28, .null, .ref q34, .ref q48, .ref q57, .ref q66, .ref q74, .null, .int 0, .null, .null, .null])) :: T74) _ := hP26
  replace hD26 : va_D A ((h0, .inr (7, [.ref q5, .ref q19, .ref q28, .null, .ref q34, .ref q48, .ref q57, .ref q66, .ref q74, .null, .int 0, .null, .null, .null])) :: T74) := hD26
  refine lv_aload_n hx hb d_So_init_79 rfl (lv_at hl 0 rfl) ?_
  refine lv_bipush (v := 40) hx hb d_So_init_80 (by decide) ?_
  refine zNewa (atype := .int) (ty := .int) (a0 := (40, .inl (fun _ => 0))) (N' := 40) hx hb rfl (hg _ k1_82) hK hP26 hD26 hS26 hA 0 rfl (fun _ h => by cases h) (fun _ => rfl) (by decide) (by decide) (by decide) (Nat.le_of_ble_eq_true rfl) (Nat.le_of_ble_eq_true rfl) d_So_init_82 (fun q82 H27 hP27 hD27 hS27 => ?_)
  clear hP26 hD26 hS26
  refine zCons (fun T82 e82 hP28 hD28 => ?_) hP27 hD27
  clear hP27 hD27
  refine va_putF (D := D) (ci := 7) (v := .ref q82) (ty := .array .int) (C := R_So) (T := T_So) (N := 14) hx hb hg i_So t_So o_So n_So hown hK hP28 hD28 hS27 0 rfl rfl 9 (by decide) (hg _ k3_117) (fun _ h9 => h9) rfl hnm rfl (by decide +kernel) rfl rfl (Nat.le_of_ble_eq_true rfl) d_So_init_84 (fun H29 locs29 hP29 hD29 hS29 => ?_)
  clear hP28 hD28 hS27
  replace hP29 : va_P D vwCl ((h0, .inr (7, [.ref q5, .ref q19, .ref q28, .null, .ref q34, .ref q48, .ref q57, .ref q66, .ref q74, .ref q82, .int 0, .null, .null, .null])) :: T82) _ := hP29
  replace hD29 : va_D A ((h0, .inr (7, [.ref q5, .ref q19, .ref q28, .null, .ref q34, .ref q48, .ref q57, .ref q66, .ref q74, .ref q82, .int 0, .null, .null, .null])) :: T82) := hD29
  refine lv_aload_n hx hb d_So_init_87 rfl (lv_at hl 0 rfl) ?_
  refine lv_sipush (v := 4097) hx hb d_So_init_88 (by decide) ?_
  refine zNewa (atype := .boolean) (ty := .boolean) (a0 := (4097, .inl (fun _ => 0))) (N' := 4097) hx hb rfl (hg _ k1_162) hK hP29 hD29 hS29 hA 1 rfl (fun _ h => by cases h) (fun _ => rfl) (by decide) (by decide) (by decide) (Nat.le_of_ble_eq_true rfl) (Nat.le_of_ble_eq_true rfl) d_So_init_91 (fun q91 H30 hP30 hD30 hS30 => ?_)
  clear hP29 hD29 hS29
  refine zCons (fun T91 e91 hP31 hD31 => ?_) hP30 hD30
  clear hP30 hD30
  refine va_putF (D := D) (ci := 7) (v := .ref q91) (ty := .array .boolean) (C := R_So) (T := T_So) (N := 14) hx hb hg i_So t_So o_So n_So hown hK hP31 hD31 hS30 0 rfl rfl 11 (by decide) (hg _ k3_119) (fun _ h9 => h9) rfl hnm rfl (by decide +kernel) rfl rfl (Nat.le_of_ble_eq_true rfl) d_So_init_93 (fun H32 locs32 hP32 hD32 hS32 => ?_)
  clear hP31 hD31 hS30
  replace hP32 : va_P D vwCl ((h0, .inr (7, [.ref q5, .ref q19, .ref q28, .null, .ref q34, .ref q48, .ref q57, .ref q66, .ref q74, .ref q82, .int 0, .ref q91, .null, .null])) :: T91) _ := hP32
  replace hD32 : va_D A ((h0, .inr (7, [.ref q5, .ref q19, .ref q28, .null, .ref q34, .ref q48, .ref q57, .ref q66, .ref q74, .ref q82, .int 0, .ref q91, .null, .null])) :: T91) := hD32
  refine lv_aload_n hx hb d_So_init_96 rfl (lv_at hl 0 rfl) ?_
  refine lv_sipush (v := 512) hx hb d_So_init_97 (by decide) ?_
  refine zNewa (atype := .int) (ty := .int) (a0 := (512, .inl (fun _ => 0))) (N' := 512) hx hb rfl (hg _ k1_82) hK hP32 hD32 hS32 hA 0 rfl (fun _ h => by cases h) (fun _ => rfl) (by decide) (by decide) (by decide) (Nat.le_of_ble_eq_true rfl) (Nat.le_of_ble_eq_true rfl) d_So_init_100 (fun q100 H33 hP33 hD33 hS33 => ?_)
  clear hP32 hD32 hS32
  refine zCons (fun T100 e100 hP34 hD34 => ?_) hP33 hD33
  clear hP33 hD33
  refine va_putF (D := D) (ci := 7) (v := .ref q100) (ty := .array .int) (C := R_So) (T := T_So) (N := 14) hx hb hg i_So t_So o_So n_So hown hK hP34 hD34 hS33 0 rfl rfl 12 (by decide) (hg _ k3_120) (fun _ h9 => h9) rfl hnm rfl (by decide +kernel) rfl rfl (Nat.le_of_ble_eq_true rfl) d_So_init_102 (fun H35 locs35 hP35 hD35 hS35 => ?_)
  clear hP34 hD34 hS33
  replace hP35 : va_P D vwCl ((h0, .inr (7, [.ref q5, .ref q19, .ref q28, .null, .ref q34, .ref q48, .ref q57, .ref q66, .ref q74, .ref q82, .int 0, .ref q91, .ref q100, .null])) :: T100) _ := hP35
  replace hD35 : va_D A ((h0, .inr (7, [.ref q5, .ref q19, .ref q28, .null, .ref q34, .ref q48, .ref q57, .ref q66, .ref q74, .ref q82, .int 0, .ref q91, .ref q100, .null])) :: T100) := hD35
  refine lv_aload_n hx hb d_So_init_105 rfl (lv_at hl 0 rfl) ?_
  refine va_new (ci := 10) (fs := [.null, .null, .int 0]) (C := R_Fr) (T := T_Fr) (N := 3) hx hb hg i_Fr t_Fr o_Fr hown (hg _ k3_103) (hg _ k3_11) (hg _ k1_11) hK hP35 hD35 hS35 hA rfl f_Fr (Nat.le_of_ble_eq_true rfl) (Nat.le_of_ble_eq_true rfl) d_So_init_106 (fun q106 H36 hP36 hD36 hS36 => ?_)
  clear hP35 hD35 hS35
  refine lv_dup hx hb d_So_init_109 rfl ?_
  refine zInit hP36 hD36 hS36 hA (va_runIN (As := []) (rest := [.ref q106, .ref h0]) ⟨hx, hb, hml, hown, hg⟩ (c_Fr_init l D tA q106 H36.size) ⟨va_cnB 0 hg (zGood k3_14 rfl) rfl rfl rfl (va_Nw.of rfl (hg _ k3_104)) (hg _ k1_11) (by decide +kernel) ⟨(Nat.le_of_ble_eq_true rfl), (Nat.le_of_ble_eq_true rfl)⟩, rfl, hg _ k3_13⟩ (zPreI hh hK hP36 hD36) rfl rfl hl.1 rfl (lv_room (Nat.le_of_ble_eq_true rfl)) d_So_init_110 ⟨(Nat.le_of_ble_eq_true rfl), (Nat.le_of_ble_eq_true rfl)⟩) (fun u106 H37 locs37 _ hP37 hD37 hS37 => ?_)
  clear hP36 hD36 hS36
  refine zCons (fun T110 e110 hP38 hD38 => ?_) hP37 hD37
  clear hP37 hD37
  refine va_putF (D := D) (ci := 7) (v := .ref q106) (ty := .object "ChanceArena$Fraction") (C := R_So) (T := T_So) (N := 14) hx hb hg i_So t_So o_So n_So hown hK hP38 hD38 hS37 0 rfl rfl 13 (by decide) (hg _ k3_121) (fun _ h9 => h9) rfl hnm rfl (by decide +kernel) rfl rfl (Nat.le_of_ble_eq_true rfl) d_So_init_113 (fun H39 locs39 hP39 hD39 hS39 => ?_)
  clear hP38 hD38 hS37
  replace hP39 : va_P D vwCl ((h0, .inr (7, [.ref q5, .ref q19, .ref q28, .null, .ref q34, .ref q48, .ref q57, .ref q66, .ref q74, .ref q82, .int 0, .ref q91, .ref q100, .ref q106])) :: T110) _ := hP39
  replace hD39 : va_D A ((h0, .inr (7, [.ref q5, .ref q19, .ref q28, .null, .ref q34, .ref q48, .ref q57, .ref q66, .ref q74, .ref q82, .int 0, .ref q91, .ref q100, .ref q106])) :: T110) := hD39
  refine lv_aload_n hx hb d_So_init_116 rfl (lv_at hl 0 rfl) ?_
  refine lv_aload_n hx hb d_So_init_117 rfl (lv_at hl 1 rfl) ?_
  refine va_putF (D := D) (ci := 7) (v := .ref g1) (ty := .object "ChanceArena$Game") (C := R_So) (T := T_So) (N := 14) hx hb hg i_So t_So o_So n_So hown hK hP39 hD39 hS39 0 rfl rfl 3 (by decide) (hg _ k3_111) (fun _ h9 => h9) rfl hnm rfl (by decide +kernel) rfl rfl (Nat.le_of_ble_eq_true rfl) d_So_init_118 (fun H40 locs40 hP40 hD40 hS40 => ?_)
  clear hP39 hD39 hS39
  replace hP40 : va_P D vwCl ((h0, .inr (7, [.ref q5, .ref q19, .ref q28, .ref g1, .ref q34, .ref q48, .ref q57, .ref q66, .ref q74, .ref q82, .int 0, .ref q91, .ref q100, .ref q106])) :: T110) _ := hP40
  replace hD40 : va_D A ((h0, .inr (7, [.ref q5, .ref q19, .ref q28, .ref g1, .ref q34, .ref q48, .ref q57, .ref q66, .ref q74, .ref q82, .int 0, .ref q91, .ref q100, .ref q106])) :: T110) := hD40
  refine W.cs (cells' := 133) (slots' := 11059) rfl rfl ?_
  exact zVret hx hb hr hlocks hP40 hD40 hS40 ((q5, u5), q19, q28, (q34, u34), q48, q57, q66, q74, q82, q91, q100, (q106, u106)) trivial (by rw [e110, e100, e91, e82, e74, e66, e57, e48, e38, e28, e19, e9]; rfl) d_So_init_121
end
section
theorem k1_2 : (Jvm.Cond.initialized "ChanceArena$Words") ∈ lw_R := zR (zk_1 _ (List.mem_of_getElem? (i := 2) (by decide +kernel))) rfl
theorem k1_3 : (Jvm.Cond.initialized "ChanceArena$TextReader") ∈ lw_R := zR (zk_1 _ (List.mem_of_getElem? (i := 3) (by decide +kernel))) rfl
theorem k1_6 : (Jvm.Cond.initialized "ChanceArena$Program") ∈ lw_R := zR (zk_1 _ (List.mem_of_getElem? (i := 6) (by decide +kernel))) rfl
theorem k1_7 : (Jvm.Cond.initialized "ChanceArena$Game") ∈ lw_R := zR (zk_1 _ (List.mem_of_getElem? (i := 7) (by decide +kernel))) rfl
theorem k1_8 : (Jvm.Cond.initialized "ChanceArena$Solver") ∈ lw_R := zR (zk_1 _ (List.mem_of_getElem? (i := 8) (by decide +kernel))) rfl
theorem k1_13 : (Jvm.Cond.initialized "ChanceArena$Fractions") ∈ lw_R := zR (zk_1 _ (List.mem_of_getElem? (i := 13) (by decide +kernel))) rfl
theorem k1_44 : (Jvm.Cond.code ({ cls := "ChanceArena", name := "<init>", desc := "()V" } : Jvm.MethodName) prog_1_method_1_code (1 : Nat) (Option.none : Option Jvm.ClassFile.FieldType)) ∈ lw_R := zR (zk_1 _ (List.mem_of_getElem? (i := 44) (by decide +kernel))) rfl
theorem k1_45 : (Jvm.Cond.methodLink "ChanceArena" (1 : Nat) ({ cls := "java/lang/Object", name := "<init>", desc := "()V" } : Jvm.MethodName)) ∈ lw_R := zR (zk_1 _ (List.mem_of_getElem? (i := 45) (by decide +kernel))) rfl
theorem k1_48 : (Jvm.Cond.classLink "ChanceArena" (17 : Nat) "ChanceArena$Words") ∈ lw_R := zR (zk_1 _ (List.mem_of_getElem? (i := 48) (by decide +kernel))) rfl
theorem k1_49 : (Jvm.Cond.instantiable "ChanceArena$Words" (6 : Nat)) ∈ lw_R := zR (zk_1 _ (List.mem_of_getElem? (i := 49) (by decide +kernel))) rfl
theorem k1_50 : (Jvm.Cond.methodLinkNest "ChanceArena" (19 : Nat) ({ cls := "ChanceArena$Words", name := "<init>", desc := "()V" } : Jvm.MethodName) "ChanceArena") ∈ lw_R := zR (zk_1 _ (List.mem_of_getElem? (i := 50) (by decide +kernel))) rfl
theorem k1_51 : (Jvm.Cond.instanceMethod ({ cls := "ChanceArena$Words", name := "<init>", desc := "()V" } : Jvm.MethodName)) ∈ lw_R := zR (zk_1 _ (List.mem_of_getElem? (i := 51) (by decide +kernel))) rfl
theorem k1_83 : (Jvm.Cond.classLink "ChanceArena" (24 : Nat) "ChanceArena$TextReader") ∈ lw_R := zR (zk_1 _ (List.mem_of_getElem? (i := 83) (by decide +kernel))) rfl
theorem k1_84 : (Jvm.Cond.instantiable "ChanceArena$TextReader" (9 : Nat)) ∈ lw_R := zR (zk_1 _ (List.mem_of_getElem? (i := 84) (by decide +kernel))) rfl
theorem k1_85 : (Jvm.Cond.methodLinkNest "ChanceArena" (26 : Nat) ({ cls := "ChanceArena$TextReader", name := "<init>", desc := "()V" } : Jvm.MethodName) "ChanceArena") ∈ lw_R := zR (zk_1 _ (List.mem_of_getElem? (i := 85) (by decide +kernel))) rfl
theorem k1_86 : (Jvm.Cond.instanceMethod ({ cls := "ChanceArena$TextReader", name := "<init>", desc := "()V" } : Jvm.MethodName)) ∈ lw_R := zR (zk_1 _ (List.mem_of_getElem? (i := 86) (by decide +kernel))) rfl
theorem k2_17 : (Jvm.Cond.classLink "ChanceArena" (31 : Nat) "ChanceArena$Program") ∈ lw_R := zR (zk_2 _ (List.mem_of_getElem? (i := 17) (by decide +kernel))) rfl
theorem k2_18 : (Jvm.Cond.instantiable "ChanceArena$Program" (20 : Nat)) ∈ lw_R := zR (zk_2 _ (List.mem_of_getElem? (i := 18) (by decide +kernel))) rfl
theorem k2_19 : (Jvm.Cond.methodLinkNest "ChanceArena" (33 : Nat) ({ cls := "ChanceArena$Program", name := "<init>", desc := "()V" } : Jvm.MethodName) "ChanceArena") ∈ lw_R := zR (zk_2 _ (List.mem_of_getElem? (i := 19) (by decide +kernel))) rfl
theorem k2_20 : (Jvm.Cond.instanceMethod ({ cls := "ChanceArena$Program", name := "<init>", desc := "()V" } : Jvm.MethodName)) ∈ lw_R := zR (zk_2 _ (List.mem_of_getElem? (i := 20) (by decide +kernel))) rfl
theorem k2_126 : (Jvm.Cond.classLink "ChanceArena" (51 : Nat) "ChanceArena$Game") ∈ lw_R := zR (zk_2 _ (List.mem_of_getElem? (i := 126) (by decide +kernel))) rfl
theorem k2_127 : (Jvm.Cond.instantiable "ChanceArena$Game" (19 : Nat)) ∈ lw_R := zR (zk_2 _ (List.mem_of_getElem? (i := 127) (by decide +kernel))) rfl
theorem k2_128 : (Jvm.Cond.methodLinkNest "ChanceArena" (53 : Nat) ({ cls := "ChanceArena$Game", name := "<init>", desc := "()V" } : Jvm.MethodName) "ChanceArena") ∈ lw_R := zR (zk_2 _ (List.mem_of_getElem? (i := 128) (by decide +kernel))) rfl
theorem k2_129 : (Jvm.Cond.instanceMethod ({ cls := "ChanceArena$Game", name := "<init>", desc := "()V" } : Jvm.MethodName)) ∈ lw_R := zR (zk_2 _ (List.mem_of_getElem? (i := 129) (by decide +kernel))) rfl
theorem k2_221 : (Jvm.Cond.classLink "ChanceArena" (58 : Nat) "ChanceArena$Solver") ∈ lw_R := zR (zk_2 _ (List.mem_of_getElem? (i := 221) (by decide +kernel))) rfl
theorem k2_222 : (Jvm.Cond.instantiable "ChanceArena$Solver" (14 : Nat)) ∈ lw_R := zR (zk_2 _ (List.mem_of_getElem? (i := 222) (by decide +kernel))) rfl
theorem k2_223 : (Jvm.Cond.methodLink "ChanceArena" (60 : Nat) ({ cls := "ChanceArena$Solver", name := "<init>", desc := "(LChanceArena$Game;)V" } : Jvm.MethodName)) ∈ lw_R := zR (zk_2 _ (List.mem_of_getElem? (i := 223) (by decide +kernel))) rfl
theorem k2_224 : (Jvm.Cond.instanceMethod ({ cls := "ChanceArena$Solver", name := "<init>", desc := "(LChanceArena$Game;)V" } : Jvm.MethodName)) ∈ lw_R := zR (zk_2 _ (List.mem_of_getElem? (i := 224) (by decide +kernel))) rfl
theorem k3_151 : (Jvm.Cond.classLink "ChanceArena" (67 : Nat) "ChanceArena$Fractions") ∈ lw_R := zR (zk_3 _ (List.mem_of_getElem? (i := 151) (by decide +kernel))) rfl
theorem k3_152 : (Jvm.Cond.instantiable "ChanceArena$Fractions" (2 : Nat)) ∈ lw_R := zR (zk_3 _ (List.mem_of_getElem? (i := 152) (by decide +kernel))) rfl
theorem k3_153 : (Jvm.Cond.methodLinkNest "ChanceArena" (69 : Nat) ({ cls := "ChanceArena$Fractions", name := "<init>", desc := "()V" } : Jvm.MethodName) "ChanceArena") ∈ lw_R := zR (zk_3 _ (List.mem_of_getElem? (i := 153) (by decide +kernel))) rfl
theorem k3_154 : (Jvm.Cond.instanceMethod ({ cls := "ChanceArena$Fractions", name := "<init>", desc := "()V" } : Jvm.MethodName)) ∈ lw_R := zR (zk_3 _ (List.mem_of_getElem? (i := 154) (by decide +kernel))) rfl
theorem k3_171 : (Jvm.Cond.classLink "ChanceArena" (83 : Nat) "ChanceArena$Natural") ∈ lw_R := zR (zk_3 _ (List.mem_of_getElem? (i := 171) (by decide +kernel))) rfl
theorem k3_172 : (Jvm.Cond.methodLinkNest "ChanceArena" (85 : Nat) ({ cls := "ChanceArena$Natural", name := "<init>", desc := "()V" } : Jvm.MethodName) "ChanceArena") ∈ lw_R := zR (zk_3 _ (List.mem_of_getElem? (i := 172) (by decide +kernel))) rfl
theorem k3_173 : (Jvm.Cond.classLink "ChanceArena" (90 : Nat) "ChanceArena$Fraction") ∈ lw_R := zR (zk_3 _ (List.mem_of_getElem? (i := 173) (by decide +kernel))) rfl
theorem k3_174 : (Jvm.Cond.methodLinkNest "ChanceArena" (92 : Nat) ({ cls := "ChanceArena$Fraction", name := "<init>", desc := "()V" } : Jvm.MethodName) "ChanceArena") ∈ lw_R := zR (zk_3 _ (List.mem_of_getElem? (i := 174) (by decide +kernel))) rfl
theorem k3_175 : (Jvm.Cond.fieldLink "ChanceArena" (7 : Nat) "ChanceArena" "tape" "[C") ∈ lw_R := zR (zk_3 _ (List.mem_of_getElem? (i := 175) (by decide +kernel))) rfl
theorem k3_176 : (Jvm.Cond.fieldLink "ChanceArena" (13 : Nat) "ChanceArena" "tapeLength" "I") ∈ lw_R := zR (zk_3 _ (List.mem_of_getElem? (i := 176) (by decide +kernel))) rfl
theorem k3_177 : (Jvm.Cond.fieldLink "ChanceArena" (20 : Nat) "ChanceArena" "words" "LChanceArena$Words;") ∈ lw_R := zR (zk_3 _ (List.mem_of_getElem? (i := 177) (by decide +kernel))) rfl
theorem k3_178 : (Jvm.Cond.fieldLink "ChanceArena" (27 : Nat) "ChanceArena" "reader" "LChanceArena$TextReader;") ∈ lw_R := zR (zk_3 _ (List.mem_of_getElem? (i := 178) (by decide +kernel))) rfl
theorem k3_179 : (Jvm.Cond.fieldLink "ChanceArena" (34 : Nat) "ChanceArena" "text" "LChanceArena$Program;") ∈ lw_R := zR (zk_3 _ (List.mem_of_getElem? (i := 179) (by decide +kernel))) rfl
theorem k3_180 : (Jvm.Cond.fieldLink "ChanceArena" (38 : Nat) "ChanceArena" "spare" "LChanceArena$Program;") ∈ lw_R := zR (zk_3 _ (List.mem_of_getElem? (i := 180) (by decide +kernel))) rfl
theorem k3_181 : (Jvm.Cond.fieldLink "ChanceArena" (41 : Nat) "ChanceArena" "hasText" "Z") ∈ lw_R := zR (zk_3 _ (List.mem_of_getElem? (i := 181) (by decide +kernel))) rfl
theorem k3_182 : (Jvm.Cond.fieldLink "ChanceArena" (45 : Nat) "ChanceArena" "faultPlace" "I") ∈ lw_R := zR (zk_3 _ (List.mem_of_getElem? (i := 182) (by decide +kernel))) rfl
theorem k3_183 : (Jvm.Cond.fieldLink "ChanceArena" (48 : Nat) "ChanceArena" "faultState" "I") ∈ lw_R := zR (zk_3 _ (List.mem_of_getElem? (i := 183) (by decide +kernel))) rfl
theorem k3_184 : (Jvm.Cond.fieldLink "ChanceArena" (54 : Nat) "ChanceArena" "game" "LChanceArena$Game;") ∈ lw_R := zR (zk_3 _ (List.mem_of_getElem? (i := 184) (by decide +kernel))) rfl
theorem k3_185 : (Jvm.Cond.fieldLink "ChanceArena" (63 : Nat) "ChanceArena" "solver" "LChanceArena$Solver;") ∈ lw_R := zR (zk_3 _ (List.mem_of_getElem? (i := 185) (by decide +kernel))) rfl
theorem k3_186 : (Jvm.Cond.fieldLink "ChanceArena" (70 : Nat) "ChanceArena" "values" "LChanceArena$Fractions;") ∈ lw_R := zR (zk_3 _ (List.mem_of_getElem? (i := 186) (by decide +kernel))) rfl
theorem k3_187 : (Jvm.Cond.fieldLink "ChanceArena" (74 : Nat) "ChanceArena" "withins" "LChanceArena$Fractions;") ∈ lw_R := zR (zk_3 _ (List.mem_of_getElem? (i := 187) (by decide +kernel))) rfl
theorem k3_188 : (Jvm.Cond.fieldLink "ChanceArena" (77 : Nat) "ChanceArena" "earlier" "LChanceArena$Fractions;") ∈ lw_R := zR (zk_3 _ (List.mem_of_getElem? (i := 188) (by decide +kernel))) rfl
theorem k3_189 : (Jvm.Cond.fieldLink "ChanceArena" (80 : Nat) "ChanceArena" "judged" "LChanceArena$Fractions;") ∈ lw_R := zR (zk_3 _ (List.mem_of_getElem? (i := 189) (by decide +kernel))) rfl
theorem k3_190 : (Jvm.Cond.fieldLink "ChanceArena" (86 : Nat) "ChanceArena" "number" "LChanceArena$Natural;") ∈ lw_R := zR (zk_3 _ (List.mem_of_getElem? (i := 190) (by decide +kernel))) rfl
theorem k3_191 : (Jvm.Cond.fieldLink "ChanceArena" (93 : Nat) "ChanceArena" "shown" "LChanceArena$Fraction;") ∈ lw_R := zR (zk_3 _ (List.mem_of_getElem? (i := 191) (by decide +kernel))) rfl
theorem k3_192 : (Jvm.Cond.fieldLink "ChanceArena" (97 : Nat) "ChanceArena" "printed" "[C") ∈ lw_R := zR (zk_3 _ (List.mem_of_getElem? (i := 192) (by decide +kernel))) rfl
theorem k3_193 : (Jvm.Cond.fieldLink "ChanceArena" (100 : Nat) "ChanceArena" "printedLength" "I") ∈ lw_R := zR (zk_3 _ (List.mem_of_getElem? (i := 193) (by decide +kernel))) rfl
theorem d_CA_init_0 : decode prog_1_method_1_code 0 = .ok (.aload_n 0, 1) := by decide +kernel
theorem d_CA_init_1 : decode prog_1_method_1_code 1 = .ok (.invokespecial 1, 3) := by decide +kernel
theorem d_CA_init_4 : decode prog_1_method_1_code 4 = .ok (.aload_n 0, 1) := by decide +kernel
theorem d_CA_init_5 : decode prog_1_method_1_code 5 = .ok (.sipush 256, 3) := by decide +kernel
theorem d_CA_init_8 : decode prog_1_method_1_code 8 = .ok (.newarray .char, 2) := by decide +kernel
theorem d_CA_init_10 : decode prog_1_method_1_code 10 = .ok (.putfield 7, 3) := by decide +kernel
theorem d_CA_init_13 : decode prog_1_method_1_code 13 = .ok (.aload_n 0, 1) := by decide +kernel
theorem d_CA_init_14 : decode prog_1_method_1_code 14 = .ok (.iconst 0, 1) := by decide +kernel
theorem d_CA_init_15 : decode prog_1_method_1_code 15 = .ok (.putfield 13, 3) := by decide +kernel
theorem d_CA_init_18 : decode prog_1_method_1_code 18 = .ok (.aload_n 0, 1) := by decide +kernel
theorem d_CA_init_19 : decode prog_1_method_1_code 19 = .ok (.new 17, 3) := by decide +kernel
theorem d_CA_init_22 : decode prog_1_method_1_code 22 = .ok (.dup, 1) := by decide +kernel
theorem d_CA_init_23 : decode prog_1_method_1_code 23 = .ok (.invokespecial 19, 3) := by decide +kernel
theorem d_CA_init_26 : decode prog_1_method_1_code 26 = .ok (.putfield 20, 3) := by decide +kernel
theorem d_CA_init_29 : decode prog_1_method_1_code 29 = .ok (.aload_n 0, 1) := by decide +kernel
theorem d_CA_init_30 : decode prog_1_method_1_code 30 = .ok (.new 24, 3) := by decide +kernel
theorem d_CA_init_33 : decode prog_1_method_1_code 33 = .ok (.dup, 1) := by decide +kernel
theorem d_CA_init_34 : decode prog_1_method_1_code 34 = .ok (.invokespecial 26, 3) := by decide +kernel
theorem d_CA_init_37 : decode prog_1_method_1_code 37 = .ok (.putfield 27, 3) := by decide +kernel
theorem d_CA_init_40 : decode prog_1_method_1_code 40 = .ok (.aload_n 0, 1) := by decide +kernel
theorem d_CA_init_41 : decode prog_1_method_1_code 41 = .ok (.new 31, 3) := by decide +kernel
theorem d_CA_init_44 : decode prog_1_method_1_code 44 = .ok (.dup, 1) := by decide +kernel
theorem d_CA_init_45 : decode prog_1_method_1_code 45 = .ok (.invokespecial 33, 3) := by decide +kernel
theorem d_CA_init_48 : decode prog_1_method_1_code 48 = .ok (.putfield 34, 3) := by decide +kernel
theorem d_CA_init_51 : decode prog_1_method_1_code 51 = .ok (.aload_n 0, 1) := by decide +kernel
theorem d_CA_init_52 : decode prog_1_method_1_code 52 = .ok (.new 31, 3) := by decide +kernel
theorem d_CA_init_55 : decode prog_1_method_1_code 55 = .ok (.dup, 1) := by decide +kernel
theorem d_CA_init_56 : decode prog_1_method_1_code 56 = .ok (.invokespecial 33, 3) := by decide +kernel
theorem d_CA_init_59 : decode prog_1_method_1_code 59 = .ok (.putfield 38, 3) := by decide +kernel
theorem d_CA_init_62 : decode prog_1_method_1_code 62 = .ok (.aload_n 0, 1) := by decide +kernel
theorem d_CA_init_63 : decode prog_1_method_1_code 63 = .ok (.iconst 0, 1) := by decide +kernel
theorem d_CA_init_64 : decode prog_1_method_1_code 64 = .ok (.putfield 41, 3) := by decide +kernel
theorem d_CA_init_67 : decode prog_1_method_1_code 67 = .ok (.aload_n 0, 1) := by decide +kernel
theorem d_CA_init_68 : decode prog_1_method_1_code 68 = .ok (.iconst (-1), 1) := by decide +kernel
theorem d_CA_init_69 : decode prog_1_method_1_code 69 = .ok (.putfield 45, 3) := by decide +kernel
theorem d_CA_init_72 : decode prog_1_method_1_code 72 = .ok (.aload_n 0, 1) := by decide +kernel
theorem d_CA_init_73 : decode prog_1_method_1_code 73 = .ok (.iconst (-1), 1) := by decide +kernel
theorem d_CA_init_74 : decode prog_1_method_1_code 74 = .ok (.putfield 48, 3) := by decide +kernel
theorem d_CA_init_77 : decode prog_1_method_1_code 77 = .ok (.aload_n 0, 1) := by decide +kernel
theorem d_CA_init_78 : decode prog_1_method_1_code 78 = .ok (.new 51, 3) := by decide +kernel
theorem d_CA_init_81 : decode prog_1_method_1_code 81 = .ok (.dup, 1) := by decide +kernel
theorem d_CA_init_82 : decode prog_1_method_1_code 82 = .ok (.invokespecial 53, 3) := by decide +kernel
theorem d_CA_init_85 : decode prog_1_method_1_code 85 = .ok (.putfield 54, 3) := by decide +kernel
theorem d_CA_init_88 : decode prog_1_method_1_code 88 = .ok (.aload_n 0, 1) := by decide +kernel
theorem d_CA_init_89 : decode prog_1_method_1_code 89 = .ok (.new 58, 3) := by decide +kernel
theorem d_CA_init_92 : decode prog_1_method_1_code 92 = .ok (.dup, 1) := by decide +kernel
theorem d_CA_init_93 : decode prog_1_method_1_code 93 = .ok (.aload_n 0, 1) := by decide +kernel
theorem d_CA_init_94 : decode prog_1_method_1_code 94 = .ok (.getfield 54, 3) := by decide +kernel
theorem d_CA_init_97 : decode prog_1_method_1_code 97 = .ok (.invokespecial 60, 3) := by decide +kernel
theorem d_CA_init_100 : decode prog_1_method_1_code 100 = .ok (.putfield 63, 3) := by decide +kernel
theorem d_CA_init_103 : decode prog_1_method_1_code 103 = .ok (.aload_n 0, 1) := by decide +kernel
theorem d_CA_init_104 : decode prog_1_method_1_code 104 = .ok (.new 67, 3) := by decide +kernel
theorem d_CA_init_107 : decode prog_1_method_1_code 107 = .ok (.dup, 1) := by decide +kernel
theorem d_CA_init_108 : decode prog_1_method_1_code 108 = .ok (.invokespecial 69, 3) := by decide +kernel
theorem d_CA_init_111 : decode prog_1_method_1_code 111 = .ok (.putfield 70, 3) := by decide +kernel
theorem d_CA_init_114 : decode prog_1_method_1_code 114 = .ok (.aload_n 0, 1) := by decide +kernel
theorem d_CA_init_115 : decode prog_1_method_1_code 115 = .ok (.new 67, 3) := by decide +kernel
theorem d_CA_init_118 : decode prog_1_method_1_code 118 = .ok (.dup, 1) := by decide +kernel
theorem d_CA_init_119 : decode prog_1_method_1_code 119 = .ok (.invokespecial 69, 3) := by decide +kernel
theorem d_CA_init_122 : decode prog_1_method_1_code 122 = .ok (.putfield 74, 3) := by decide +kernel
theorem d_CA_init_125 : decode prog_1_method_1_code 125 = .ok (.aload_n 0, 1) := by decide +kernel
theorem d_CA_init_126 : decode prog_1_method_1_code 126 = .ok (.new 67, 3) := by decide +kernel
theorem d_CA_init_129 : decode prog_1_method_1_code 129 = .ok (.dup, 1) := by decide +kernel
theorem d_CA_init_130 : decode prog_1_method_1_code 130 = .ok (.invokespecial 69, 3) := by decide +kernel
theorem d_CA_init_133 : decode prog_1_method_1_code 133 = .ok (.putfield 77, 3) := by decide +kernel
theorem d_CA_init_136 : decode prog_1_method_1_code 136 = .ok (.aload_n 0, 1) := by decide +kernel
theorem d_CA_init_137 : decode prog_1_method_1_code 137 = .ok (.new 67, 3) := by decide +kernel
theorem d_CA_init_140 : decode prog_1_method_1_code 140 = .ok (.dup, 1) := by decide +kernel
theorem d_CA_init_141 : decode prog_1_method_1_code 141 = .ok (.invokespecial 69, 3) := by decide +kernel
theorem d_CA_init_144 : decode prog_1_method_1_code 144 = .ok (.putfield 80, 3) := by decide +kernel
theorem d_CA_init_147 : decode prog_1_method_1_code 147 = .ok (.aload_n 0, 1) := by decide +kernel
theorem d_CA_init_148 : decode prog_1_method_1_code 148 = .ok (.new 83, 3) := by decide +kernel
theorem d_CA_init_151 : decode prog_1_method_1_code 151 = .ok (.dup, 1) := by decide +kernel
theorem d_CA_init_152 : decode prog_1_method_1_code 152 = .ok (.invokespecial 85, 3) := by decide +kernel
theorem d_CA_init_155 : decode prog_1_method_1_code 155 = .ok (.putfield 86, 3) := by decide +kernel
theorem d_CA_init_158 : decode prog_1_method_1_code 158 = .ok (.aload_n 0, 1) := by decide +kernel
theorem d_CA_init_159 : decode prog_1_method_1_code 159 = .ok (.new 90, 3) := by decide +kernel
theorem d_CA_init_162 : decode prog_1_method_1_code 162 = .ok (.dup, 1) := by decide +kernel
theorem d_CA_init_163 : decode prog_1_method_1_code 163 = .ok (.invokespecial 92, 3) := by decide +kernel
theorem d_CA_init_166 : decode prog_1_method_1_code 166 = .ok (.putfield 93, 3) := by decide +kernel
theorem d_CA_init_169 : decode prog_1_method_1_code 169 = .ok (.aload_n 0, 1) := by decide +kernel
theorem d_CA_init_170 : decode prog_1_method_1_code 170 = .ok (.sipush 400, 3) := by decide +kernel
theorem d_CA_init_173 : decode prog_1_method_1_code 173 = .ok (.newarray .char, 2) := by decide +kernel
theorem d_CA_init_175 : decode prog_1_method_1_code 175 = .ok (.putfield 97, 3) := by decide +kernel
theorem d_CA_init_178 : decode prog_1_method_1_code 178 = .ok (.aload_n 0, 1) := by decide +kernel
theorem d_CA_init_179 : decode prog_1_method_1_code 179 = .ok (.iconst 0, 1) := by decide +kernel
theorem d_CA_init_180 : decode prog_1_method_1_code 180 = .ok (.putfield 100, 3) := by decide +kernel
theorem d_CA_init_183 : decode prog_1_method_1_code 183 = .ok (.return_, 1) := by decide +kernel
abbrev S_CA : Type := Nat × (Nat × S_Wo) × (Nat × S_TR) × (Nat × S_Pr) × (Nat × S_Pr) × (Nat × S_Ga) × (Nat × S_So) × (Nat × S_Fs) × (Nat × S_Fs) × (Nat × S_Fs) × (Nat × S_Fs) × (Nat × S_Na) × (Nat × S_Fr) × Nat
def w_CA (tA : Nat → ClassId) (h0 : Nat) (u : S_CA) : va_W := match u with
  | (q8, (q19, u19), (q30, u30), (q41, u41), (q52, u52), (q78, u78), (q89, u89), (q104, u104), (q115, u115), (q126, u126), (q137, u137), (q148, u148), (q159, u159), q173) => (h0, .inr (0, [.ref q8, .int 0, .ref q19, .ref q30, .ref q41, .ref q52, .int 0, .int (-1), .int (-1), .ref q78, .ref q89, .ref q104, .ref q115, .ref q126, .ref q137, .ref q148, .ref q159, .ref q173, .int 0])) :: ([] ++ [(q8, .inl (tA 2, 256, .inl (fun _ => 0)))] ++ w_Wo tA q19 u19 ++ w_TR tA q30 u30 ++ w_Pr tA q41 u41 ++ w_Pr tA q52 u52 ++ w_Ga tA q78 u78 ++ w_So tA q89 q78 u89 ++ w_Fs tA q104 u104 ++ w_Fs tA q115 u115 ++ w_Fs tA q126 u126 ++ w_Fs tA q137 u137 ++ w_Na tA q148 u148 ++ w_Fr tA q159 u159 ++ [(q173, .inl (tA 2, 400, .inl (fun _ => 0)))])
theorem f_CA : ∀ j, j < 19 → defaultValue (t_CA j) = vp_V [.null, .int 0, .null, .null, .null, .null, .int 0, .int 0, .int 0, .null, .null, .null, .null, .null, .null, .null, .null, .null, .int 0] j := by decide +kernel
set_option maxHeartbeats 4000000 in
set_option maxRecDepth 100000 in
theorem c_CA_init (l : Launch) (D : va_G) (tA : Nat → ClassId) (h0 sz : Nat) : zMv l ({ cls := "ChanceArena", name := "<init>", desc := "()V" } : Jvm.MethodName) (zW (Jvm.Cond.code ({ cls := "ChanceArena", name := "<init>", desc := "()V" } : Jvm.MethodName) prog_1_method_1_code (1 : Nat) (Option.none : Option Jvm.ClassFile.FieldType))) { frames := 5, cells := 234, slots := 48661, locals := 93 } [.ref h0] D tA [(h0, .inr (0, [.null, .int 0, .null, .null, .null, .null, .int 0, .int 0, .int 0, .null, .null, .null, .null, .null, .null, .null, .null, .null, .int 0]))] sz (fun _ : S_CA => True) (w_CA tA h0) 234 48661 := by
  refine zOpen (fun A => va_Qv _ (zPost D A (w_CA tA h0)) A) (lv := [(0, .ref h0)]) (by decide) rfl (Nat.le_of_ble_eq_true rfl) rfl ?_
  intro p e s m below meth c A ls hx hb hr hml hh hg hown hlocks hnm hK hA hP hD0 hAw hS hl
  have hD := zD hD0 hAw
  refine lv_aload_n hx hb d_CA_init_0 rfl (lv_at hl 0 rfl) ?_
  refine W.objInit hx hb hown (hg _ k1_45) (hg _ k1_46) (hg _ k1_47) rfl (by rw [hml]; exact hl.1) rfl d_CA_init_1 (Nat.le_of_ble_eq_true rfl) (Nat.le_of_ble_eq_true rfl) ?_
  refine lv_aload_n hx hb d_CA_init_4 rfl (lv_at hl 0 rfl) ?_
  refine lv_sipush (v := 256) hx hb d_CA_init_5 (by decide) ?_
  refine zNewa (atype := .char) (ty := .char) (a0 := (256, .inl (fun _ => 0))) (N' := 256) hx hb rfl (hg _ k1_81) hK hP hD hS hA 2 rfl (fun _ h => by cases h) (fun _ => rfl) (by decide) (by decide) (by decide) (Nat.le_of_ble_eq_true rfl) (Nat.le_of_ble_eq_true rfl) d_CA_init_8 (fun q8 H1 hP1 hD1 hS1 => ?_)
  clear hP hD hS
  refine zCons (fun T8 e8 hP2 hD2 => ?_) hP1 hD1
  clear hP1 hD1
  refine va_put (D := D) (ci := 0) (v := .ref q8) (ty := .array .char) (C := R_CA) (T := T_CA) (N := 19) hx hb hg i_CA t_CA o_CA n_CA hown hK hP2 hD2 hS1 0 rfl rfl 0 (by decide) (hg _ k3_175) (fun _ h9 => h9) rfl (by decide +kernel) rfl rfl (Nat.le_of_ble_eq_true rfl) d_CA_init_10 (fun H3 locs3 hP3 hD3 hS3 => ?_)
  clear hP2 hD2 hS1
  replace hP3 : va_P D vwCl ((h0, .inr (0, [.ref q8, .int 0, .null, .null, .null, .null, .int 0, .int 0, .int 0, .null, .null, .null, .null, .null, .null, .null, .null, .null, .int 0])) :: T8) _ := hP3
  replace hD3 : va_D A ((h0, .inr (0, [.ref q8, .int 0, .null, .null, .null, .null, .int 0, .int 0, .int 0, .null, .null, .null, .null, .null, .null, .null, .null, .null, .int 0])) :: T8) := hD3
  refine lv_aload_n hx hb d_CA_init_13 rfl (lv_at hl 0 rfl) ?_
  refine lv_iconst (v := 0) hx hb d_CA_init_14 (by decide) ?_
  refine va_put (D := D) (ci := 0) (v := .int 0) (ty := .int) (C := R_CA) (T := T_CA) (N := 19) hx hb hg i_CA t_CA o_CA n_CA hown hK hP3 hD3 hS3 0 rfl rfl 1 (by decide) (hg _ k3_176) (fun _ h9 => h9) rfl (by decide +kernel) rfl rfl (Nat.le_of_ble_eq_true rfl) d_CA_init_15 (fun H4 locs4 hP4 hD4 hS4 => ?_)
  clear hP3 hD3 hS3
  replace hP4 : va_P D vwCl ((h0, .inr (0, [.ref q8, .int 0, .null, .null, .null, .null, .int 0, .int 0, .int 0, .null, .null, .null, .null, .null, .null, .null, .null, .null, .int 0])) :: T8) _ := hP4
  replace hD4 : va_D A ((h0, .inr (0, [.ref q8, .int 0, .null, .null, .null, .null, .int 0, .int 0, .int 0, .null, .null, .null, .null, .null, .null, .null, .null, .null, .int 0])) :: T8) := hD4
  refine lv_aload_n hx hb d_CA_init_18 rfl (lv_at hl 0 rfl) ?_
  refine va_new (ci := 1) (fs := [.null, .int 0, .int 0, .null, .null, .null]) (C := R_Wo) (T := T_Wo) (N := 6) hx hb hg i_Wo t_Wo o_Wo hown (hg _ k1_48) (hg _ k1_49) (hg _ k1_2) hK hP4 hD4 hS4 hA rfl f_Wo (Nat.le_of_ble_eq_true rfl) (Nat.le_of_ble_eq_true rfl) d_CA_init_19 (fun q19 H5 hP5 hD5 hS5 => ?_)
  clear hP4 hD4 hS4
  refine lv_dup hx hb d_CA_init_22 rfl ?_
  refine zInit hP5 hD5 hS5 hA (va_runIN (As := []) (rest := [.ref q19, .ref h0]) ⟨hx, hb, hml, hown, hg⟩ (c_Wo_init l D tA q19 H5.size) ⟨va_cnB 0 hg (zGood k1_52 rfl) rfl rfl rfl (va_Nw.of rfl (hg _ k1_50)) (hg _ k1_2) (by decide +kernel) ⟨(Nat.le_of_ble_eq_true rfl), (Nat.le_of_ble_eq_true rfl)⟩, rfl, hg _ k1_51⟩ (zPreI hh hK hP5 hD5) rfl rfl hl.1 rfl (lv_room (Nat.le_of_ble_eq_true rfl)) d_CA_init_23 ⟨(Nat.le_of_ble_eq_true rfl), (Nat.le_of_ble_eq_true rfl)⟩) (fun u19 H6 locs6 _ hP6 hD6 hS6 => ?_)
  clear hP5 hD5 hS5
  refine zCons (fun T23 e23 hP7 hD7 => ?_) hP6 hD6
  clear hP6 hD6
  refine va_putF (D := D) (ci := 0) (v := .ref q19) (ty := .object "ChanceArena$Words") (C := R_CA) (T := T_CA) (N := 19) hx hb hg i_CA t_CA o_CA n_CA hown hK hP7 hD7 hS6 0 rfl rfl 2 (by decide) (hg _ k3_177) (fun _ h9 => h9) rfl hnm rfl (by decide +kernel) rfl rfl (Nat.le_of_ble_eq_true rfl) d_CA_init_26 (fun H8 locs8 hP8 hD8 hS8 => ?_)
  clear hP7 hD7 hS6
  replace hP8 : va_P D vwCl ((h0, .inr (0, [.ref q8, .int 0, .ref q19, .null, .null, .null, .int 0, .int 0, .int 0, .null, .null, .null, .null, .null, .null, .null, .null, .null, .int 0])) :: T23) _ := hP8
  replace hD8 : va_D A ((h0, .inr (0, [.ref q8, .int 0, .ref q19, .null, .null, .null, .int 0, .int 0, .int 0, .null, .null, .null, .null, .null, .null, .null, .null, .null, .int 0])) :: T23) := hD8
  refine lv_aload_n hx hb d_CA_init_29 rfl (lv_at hl 0 rfl) ?_
  refine va_new (ci := 2) (fs := [.null, .null, .null, .int 0, .int 0, .null, .null, .int 0, .int 0]) (C := R_TR) (T := T_TR) (N := 9) hx hb hg i_TR t_TR o_TR hown (hg _ k1_83) (hg _ k1_84) (hg _ k1_3) hK hP8 hD8 hS8 hA rfl f_TR (Nat.le_of_ble_eq_true rfl) (Nat.le_of_ble_eq_true rfl) d_CA_init_30 (fun q30 H9 hP9 hD9 hS9 => ?_)
  clear hP8 hD8 hS8
  refine lv_dup hx hb d_CA_init_33 rfl ?_
  refine zInit hP9 hD9 hS9 hA (va_runIN (As := []) (rest := [.ref q30, .ref h0]) ⟨hx, hb, hml, hown, hg⟩ (c_TR_init l D tA q30 H9.size) ⟨va_cnB 0 hg (zGood k1_87 rfl) rfl rfl rfl (va_Nw.of rfl (hg _ k1_85)) (hg _ k1_3) (by decide +kernel) ⟨(Nat.le_of_ble_eq_true rfl), (Nat.le_of_ble_eq_true rfl)⟩, rfl, hg _ k1_86⟩ (zPreI hh hK hP9 hD9) rfl rfl hl.1 rfl (lv_room (Nat.le_of_ble_eq_true rfl)) d_CA_init_34 ⟨(Nat.le_of_ble_eq_true rfl), (Nat.le_of_ble_eq_true rfl)⟩) (fun u30 H10 locs10 _ hP10 hD10 hS10 => ?_)
  clear hP9 hD9 hS9
  refine zCons (fun T34 e34 hP11 hD11 => ?_) hP10 hD10
  clear hP10 hD10
  refine va_putF (D := D) (ci := 0) (v := .ref q30) (ty := .object "ChanceArena$TextReader") (C := R_CA) (T := T_CA) (N := 19) hx hb hg i_CA t_CA o_CA n_CA hown hK hP11 hD11 hS10 0 rfl rfl 3 (by decide) (hg _ k3_178) (fun _ h9 => h9) rfl hnm rfl (by decide +kernel) rfl rfl (Nat.le_of_ble_eq_true rfl) d_CA_init_37 (fun H12 locs12 hP12 hD12 hS12 => ?_)
  clear hP11 hD11 hS10
  replace hP12 : va_P D vwCl ((h0, .inr (0, [.ref q8, .int 0, .ref q19, .ref q30, .null, .null, .int 0, .int 0, .int 0, .null, .null, .null, .null, .null, .null, .null, .null, .null, .int 0])) :: T34) _ := hP12
  replace hD12 : va_D A ((h0, .inr (0, [.ref q8, .int 0, .ref q19, .ref q30, .null, .null, .int 0, .int 0, .int 0, .null, .null, .null, .null, .null, .null, .null, .null, .null, .int 0])) :: T34) := hD12
  refine lv_aload_n hx hb d_CA_init_40 rfl (lv_at hl 0 rfl) ?_
  refine va_new (ci := 5) (fs := [.null, .null, .int 0, .int 0, .null, .null, .null, .int 0, .null, .null, .null, .int 0, .int 0, .null, .null, .null, .null, .null, .null, .null]) (C := R_Pr) (T := T_Pr) (N := 20) hx hb hg i_Pr t_Pr o_Pr hown (hg _ k2_17) (hg _ k2_18) (hg _ k1_6) hK hP12 hD12 hS12 hA rfl f_Pr (Nat.le_of_ble_eq_true rfl) (Nat.le_of_ble_eq_true rfl) d_CA_init_41 (fun q41 H13 hP13 hD13 hS13 => ?_)
  clear hP12 hD12 hS12
  refine lv_dup hx hb d_CA_init_44 rfl ?_
  refine zInit hP13 hD13 hS13 hA (va_runIN (As := []) (rest := [.ref q41, .ref h0]) ⟨hx, hb, hml, hown, hg⟩ (c_Pr_init l D tA q41 H13.size) ⟨va_cnB 0 hg (zGood k2_21 rfl) rfl rfl rfl (va_Nw.of rfl (hg _ k2_19)) (hg _ k1_6) (by decide +kernel) ⟨(Nat.le_of_ble_eq_true rfl), (Nat.le_of_ble_eq_true rfl)⟩, rfl, hg _ k2_20⟩ (zPreI hh hK hP13 hD13) rfl rfl hl.1 rfl (lv_room (Nat.le_of_ble_eq_true rfl)) d_CA_init_45 ⟨(Nat.le_of_ble_eq_true rfl), (Nat.le_of_ble_eq_true rfl)⟩) (fun u41 H14 locs14 _ hP14 hD14 hS14 => ?_)
  clear hP13 hD13 hS13
  refine zCons (fun T45 e45 hP15 hD15 => ?_) hP14 hD14
  clear hP14 hD14
  refine va_put (D := D) (ci := 0) (v := .ref q41) (ty := .object "ChanceArena$Program") (C := R_CA) (T := T_CA) (N := 19) hx hb hg i_CA t_CA o_CA n_CA hown hK hP15 hD15 hS14 0 rfl rfl 4 (by decide) (hg _ k3_179) (fun _ h9 => h9) rfl (by decide +kernel) rfl rfl (Nat.le_of_ble_eq_true rfl) d_CA_init_48 (fun H16 locs16 hP16 hD16 hS16 => ?_)
  clear hP15 hD15 hS14
  replace hP16 : va_P D vwCl ((h0, .inr (0, [.ref q8, .int 0, .ref q19, .ref q30, .ref q41, .null, .int 0, .int 0, .int 0, .null, .null, .null, .null, .null, .null, .null, .null, .null, .int 0])) :: T45) _ := hP16
  replace hD16 : va_D A ((h0, .inr (0, [.ref q8, .int 0, .ref q19, .ref q30, .ref q41, .null, .int 0, .int 0, .int 0, .null, .null, .null, .null, .null, .null, .null, .null, .null, .int 0])) :: T45) := hD16
  refine lv_aload_n hx hb d_CA_init_51 rfl (lv_at hl 0 rfl) ?_
  refine va_new (ci := 5) (fs := [.null, .null, .int 0, .int 0, .null, .null, .null, .int 0, .null, .null, .null, .int 0, .int 0, .null, .null, .null, .null, .null, .null, .null]) (C := R_Pr) (T := T_Pr) (N := 20) hx hb hg i_Pr t_Pr o_Pr hown (hg _ k2_17) (hg _ k2_18) (hg _ k1_6) hK hP16 hD16 hS16 hA rfl f_Pr (Nat.le_of_ble_eq_true rfl) (Nat.le_of_ble_eq_true rfl) d_CA_init_52 (fun q52 H17 hP17 hD17 hS17 => ?_)
  clear hP16 hD16 hS16
  refine lv_dup hx hb d_CA_init_55 rfl ?_
  refine zInit hP17 hD17 hS17 hA (va_runIN (As := []) (rest := [.ref q52, .ref h0]) ⟨hx, hb, hml, hown, hg⟩ (c_Pr_init l D tA q52 H17.size) ⟨va_cnB 0 hg (zGood k2_21 rfl) rfl rfl rfl (va_Nw.of rfl (hg _ k2_19)) (hg _ k1_6) (by decide +kernel) ⟨(Nat.le_of_ble_eq_true rfl), (Nat.le_of_ble_eq_true rfl)⟩, rfl, hg _ k2_20⟩ (zPreI hh hK hP17 hD17) rfl rfl hl.1 rfl (lv_room (Nat.le_of_ble_eq_true rfl)) d_CA_init_56 ⟨(Nat.le_of_ble_eq_true rfl), (Nat.le_of_ble_eq_true rfl)⟩) (fun u52 H18 locs18 _ hP18 hD18 hS18 => ?_)
  clear hP17 hD17 hS17
  refine zCons (fun T56 e56 hP19 hD19 => ?_) hP18 hD18
  clear hP18 hD18
  refine va_put (D := D) (ci := 0) (v := .ref q52) (ty := .object "ChanceArena$Program") (C := R_CA) (T := T_CA) (N := 19) hx hb hg i_CA t_CA o_CA n_CA hown hK hP19 hD19 hS18 0 rfl rfl 5 (by decide) (hg _ k3_180) (fun _ h9 => h9) rfl (by decide +kernel) rfl rfl (Nat.le_of_ble_eq_true rfl) d_CA_init_59 (fun H20 locs20 hP20 hD20 hS20 => ?_)
  clear hP19 hD19 hS18
  replace hP20 : va_P D vwCl ((h0, .inr (0, [.ref q8, .int 0, .ref q19, .ref q30, .ref q41, .ref q52, .int 0, .int 0, .int 0, .null, .null, .null, .null, .null, .null, .null, .null, .null, .int 0])) :: T56) _ := hP20
  replace hD20 : va_D A ((h0, .inr (0, [.ref q8, .int 0, .ref q19, .ref q30, .ref q41, .ref q52, .int 0, .int 0, .int 0, .null, .null, .null, .null, .null, .null, .null, .null, .null, .int 0])) :: T56) := hD20
  refine lv_aload_n hx hb d_CA_init_62 rfl (lv_at hl 0 rfl) ?_
  refine lv_iconst (v := 0) hx hb d_CA_init_63 (by decide) ?_
  refine va_put (D := D) (ci := 0) (v := .int 0) (ty := .boolean) (C := R_CA) (T := T_CA) (N := 19) hx hb hg i_CA t_CA o_CA n_CA hown hK hP20 hD20 hS20 0 rfl rfl 6 (by decide) (hg _ k3_181) (fun _ h9 => h9) rfl (by decide +kernel) rfl rfl (Nat.le_of_ble_eq_true rfl) d_CA_init_64 (fun H21 locs21 hP21 hD21 hS21 => ?_)
  clear hP20 hD20 hS20
  replace hP21 : va_P D vwCl ((h0, .inr (0, [.ref q8, .int 0, .ref q19, .ref q30, .ref q41, .ref q52, .int 0, .int 0, .int 0, .null, .null, .null, .null, .null, .null, .null, .null, .null, .int 0])) :: T56) _ := hP21
  replace hD21 : va_D A ((h0, .inr (0, [.ref q8, .int 0, .ref q19, .ref q30, .ref q41, .ref q52, .int 0, .int 0, .int 0, .null, .null, .null, .null, .null, .null, .null, .null, .null, .int 0])) :: T56) := hD21
  refine lv_aload_n hx hb d_CA_init_67 rfl (lv_at hl 0 rfl) ?_
  refine lv_iconst (v := -1) hx hb d_CA_init_68 (by decide) ?_
  refine va_put (D := D) (ci := 0) (v := .int (-1)) (ty := .int) (C := R_CA) (T := T_CA) (N := 19) hx hb hg i_CA t_CA o_CA n_CA hown hK hP21 hD21 hS21 0 rfl rfl 7 (by decide) (hg _ k3_182) (fun _ h9 => h9) rfl (by decide +kernel) rfl rfl (Nat.le_of_ble_eq_true rfl) d_CA_init_69 (fun H22 locs22 hP22 hD22 hS22 => ?_)
  clear hP21 hD21 hS21
  replace hP22 : va_P D vwCl ((h0, .inr (0, [.ref q8, .int 0, .ref q19, .ref q30, .ref q41, .ref q52, .int 0, .int (-1), .int 0, .null, .null, .null, .null, .null, .null, .null, .null, .null, .int 0])) :: T56) _ := hP22
  replace hD22 : va_D A ((h0, .inr (0, [.ref q8, .int 0, .ref q19, .ref q30, .ref q41, .ref q52, .int 0, .int (-1), .int 0, .null, .null, .null, .null, .null, .null, .null, .null, .null, .int 0])) :: T56) := hD22
  refine lv_aload_n hx hb d_CA_init_72 rfl (lv_at hl 0 rfl) ?_
  refine lv_iconst (v := -1) hx hb d_CA_init_73 (by decide) ?_
  refine va_put (D := D) (ci := 0) (v := .int (-1)) (ty := .int) (C := R_CA) (T := T_CA) (N := 19) hx hb hg i_CA t_CA o_CA n_CA hown hK hP22 hD22 hS22 0 rfl rfl 8 (by decide) (hg _ k3_183) (fun _ h9 => h9) rfl (by decide +kernel) rfl rfl (Nat.le_of_ble_eq_true rfl) d_CA_init_74 (fun H23 locs23 hP23 hD23 hS23 => ?_)
  clear hP22 hD22 hS22
  replace hP23 : va_P D vwCl ((h0, .inr (0, [.ref q8, .int 0, .ref q19, .ref q30, .ref q41, .ref q52, .int 0, .int (-1), .int (-1), .null, .null, .null, .null, .null, .null, .null, .null, .null, .int 0])) :: T56) _ := hP23
  replace hD23 : va_D A ((h0, .inr (0, [.ref q8, .int 0, .ref q19, .ref q30, .ref q41, .ref q52, .int 0, .int (-1), .int (-1), .null, .null, .null, .null, .null, .null, .null, .null, .null, .int 0])) :: T56) := hD23
  refine lv_aload_n hx hb d_CA_init_77 rfl (lv_at hl 0 rfl) ?_
  refine va_new (ci := 6) (fs := [.int 0, .null, .null, .null, .null, .null, .null, .null, .null, .null, .int 0, .int 0, .int 0, .int 0, .null, .null, .null, .null, .null]) (C := R_Ga) (T := T_Ga) (N := 19) hx hb hg i_Ga t_Ga o_Ga hown (hg _ k2_126) (hg _ k2_127) (hg _ k1_7) hK hP23 hD23 hS23 hA rfl f_Ga (Nat.le_of_ble_eq_true rfl) (Nat.le_of_ble_eq_true rfl) d_CA_init_78 (fun q78 H24 hP24 hD24 hS24 => ?_)
  clear hP23 hD23 hS23
  refine lv_dup hx hb d_CA_init_81 rfl ?_
  refine zInit hP24 hD24 hS24 hA (va_runIN (As := []) (rest := [.ref q78, .ref h0]) ⟨hx, hb, hml, hown, hg⟩ (c_Ga_init l D tA q78 H24.size) ⟨va_cnB 0 hg (zGood k2_130 rfl) rfl rfl rfl (va_Nw.of rfl (hg _ k2_128)) (hg _ k1_7) (by decide +kernel) ⟨(Nat.le_of_ble_eq_true rfl), (Nat.le_of_ble_eq_true rfl)⟩, rfl, hg _ k2_129⟩ (zPreI hh hK hP24 hD24) rfl rfl hl.1 rfl (lv_room (Nat.le_of_ble_eq_true rfl)) d_CA_init_82 ⟨(Nat.le_of_ble_eq_true rfl), (Nat.le_of_ble_eq_true rfl)⟩) (fun u78 H25 locs25 _ hP25 hD25 hS25 => ?_)
  clear hP24 hD24 hS24
  refine zCons (fun T82 e82 hP26 hD26 => ?_) hP25 hD25
  clear hP25 hD25
  refine va_putF (D := D) (ci := 0) (v := .ref q78) (ty := .object "ChanceArena$Game") (C := R_CA) (T := T_CA) (N := 19) hx hb hg i_CA t_CA o_CA n_CA hown hK hP26 hD26 hS25 0 rfl rfl 9 (by decide) (hg _ k3_184) (fun _ h9 => h9) rfl hnm rfl (by decide +kernel) rfl rfl (Nat.le_of_ble_eq_true rfl) d_CA_init_85 (fun H27 locs27 hP27 hD27 hS27 => ?_)
  clear hP26 hD26 hS25
  replace hP27 : va_P D vwCl ((h0, .inr (0, [.ref q8, .int 0, .ref q19, .ref q30, .ref q41, .ref q52, .int 0, .int (-1), .int (-1), .ref q78, .null, .null, .null, .null, .null, .null, .null, .null, .int 0])) :: T82) _ := hP27
  replace hD27 : va_D A ((h0, .inr (0, [.ref q8, .int 0, .ref q19, .ref q30, .ref q41, .ref q52, .int 0, .int (-1), .int (-1), .ref q78, .null, .null, .null, .null, .null, .null, .null, .null, .int 0])) :: T82) := hD27
  refine lv_aload_n hx hb d_CA_init_88 rfl (lv_at hl 0 rfl) ?_
  refine va_new (ci := 7) (fs := [.null, .null, .null, .null, .null, .null, .null, .null, .null, .null, .int 0, .null, .null, .null]) (C := R_So) (T := T_So) (N := 14) hx hb hg i_So t_So o_So hown (hg _ k2_221) (hg _ k2_222) (hg _ k1_8) hK hP27 hD27 hS27 hA rfl f_So (Nat.le_of_ble_eq_true rfl) (Nat.le_of_ble_eq_true rfl) d_CA_init_89 (fun q89 H28 hP28 hD28 hS28 => ?_)
  clear hP27 hD27 hS27
  refine lv_dup hx hb d_CA_init_92 rfl ?_
  refine lv_aload_n hx hb d_CA_init_93 rfl (lv_at hl 0 rfl) ?_
  refine va_get (D := D) (ci := 0) (v := .ref q78) (C := R_CA) (T := T_CA) (N := 19) hx hb hg i_CA hown hK hP28 0 rfl rfl 9 (by decide) (hg _ k3_184) (fun _ h9 => h9) rfl d_CA_init_94 ?_
  refine zInit hP28 hD28 hS28 hA (va_runI (As := [.ref q78]) (rest := [.ref q89, .ref h0]) ⟨hx, hb, hml, hown, hg⟩ (c_So_init l D tA q89 q78 H28.size) (cwI 1 hg (zGood k2_225 rfl) rfl rfl rfl (hg _ k1_8) (hg _ k2_223) (hg _ k2_224) rfl (by decide +kernel) ⟨(Nat.le_of_ble_eq_true rfl), (Nat.le_of_ble_eq_true rfl)⟩) (zPreI hh hK hP28 hD28) rfl rfl hl.1 rfl (lv_room (Nat.le_of_ble_eq_true rfl)) d_CA_init_97 ⟨(Nat.le_of_ble_eq_true rfl), (Nat.le_of_ble_eq_true rfl)⟩) (fun u89 H29 locs29 _ hP29 hD29 hS29 => ?_)
  clear hP28 hD28 hS28
  refine zCons (fun T97 e97 hP30 hD30 => ?_) hP29 hD29
  clear hP29 hD29
  refine va_putF (D := D) (ci := 0) (v := .ref q89) (ty := .object "ChanceArena$Solver") (C := R_CA) (T := T_CA) (N := 19) hx hb hg i_CA t_CA o_CA n_CA hown hK hP30 hD30 hS29 0 rfl rfl 10 (by decide) (hg _ k3_185) (fun _ h9 => h9) rfl hnm rfl (by decide +kernel) rfl rfl (Nat.le_of_ble_eq_true rfl) d_CA_init_100 (fun H31 locs31 hP31 hD31 hS31 => ?_)
  clear hP30 hD30 hS29
  replace hP31 : va_P D vwCl ((h0, .inr (0, [.ref q8, .int 0, .ref q19, .ref q30, .ref q41, .ref q52, .int 0, .int (-1), .int (-1), .ref q78, .ref q89, .null, .null, .null, .null, .null, .null, .null, .int 0])) :: T97) _ := hP31
  replace hD31 : va_D A ((h0, .inr (0, [.ref q8, .int 0, .ref q19, .ref q30, .ref q41, .ref q52, .int 0, .int (-1), .int (-1), .ref q78, .ref q89, .null, .null, .null, .null, .null, .null, .null, .int 0])) :: T97) := hD31
  refine lv_aload_n hx hb d_CA_init_103 rfl (lv_at hl 0 rfl) ?_
  refine va_new (ci := 12) (fs := [.null, .int 0]) (C := R_Fs) (T := T_Fs) (N := 2) hx hb hg i_Fs t_Fs o_Fs hown (hg _ k3_151) (hg _ k3_152) (hg _ k1_13) hK hP31 hD31 hS31 hA rfl f_Fs (Nat.le_of_ble_eq_true rfl) (Nat.le_of_ble_eq_true rfl) d_CA_init_104 (fun q104 H32 hP32 hD32 hS32 => ?_)
  clear hP31 hD31 hS31
  refine lv_dup hx hb d_CA_init_107 rfl ?_
  refine zInit hP32 hD32 hS32 hA (va_runIN (As := []) (rest := [.ref q104, .ref h0]) ⟨hx, hb, hml, hown, hg⟩ (c_Fs_init l D tA q104 H32.size) ⟨va_cnB 0 hg (zGood k3_155 rfl) rfl rfl rfl (va_Nw.of rfl (hg _ k3_153)) (hg _ k1_13) (by decide +kernel) ⟨(Nat.le_of_ble_eq_true rfl), (Nat.le_of_ble_eq_true rfl)⟩, rfl, hg _ k3_154⟩ (zPreI hh hK hP32 hD32) rfl rfl hl.1 rfl (lv_room (Nat.le_of_ble_eq_true rfl)) d_CA_init_108 ⟨(Nat.le_of_ble_eq_true rfl), (Nat.le_of_ble_eq_true rfl)⟩) (fun u104 H33 locs33 _ hP33 hD33 hS33 => ?_)
  clear hP32 hD32 hS32
  refine zCons (fun T108 e108 hP34 hD34 => ?_) hP33 hD33
  clear hP33 hD33
  refine va_putF (D := D) (ci := 0) (v := .ref q104) (ty := .object "ChanceArena$Fractions") (C := R_CA) (T := T_CA) (N := 19) hx hb hg i_CA t_CA o_CA n_CA hown hK hP34 hD34 hS33 0 rfl rfl 11 (by decide) (hg _ k3_186) (fun _ h9 => h9) rfl hnm rfl (by decide +kernel) rfl rfl (Nat.le_of_ble_eq_true rfl) d_CA_init_111 (fun H35 locs35 hP35 hD35 hS35 => ?_)
  clear hP34 hD34 hS33
  replace hP35 : va_P D vwCl ((h0, .inr (0, [.ref q8, .int 0, .ref q19, .ref q30, .ref q41, .ref q52, .int 0, .int (-1), .int (-1), .ref q78, .ref q89, .ref q104, .null, .null, .null, .null, .null, .null, .int 0])) :: T108) _ := hP35
  replace hD35 : va_D A ((h0, .inr (0, [.ref q8, .int 0, .ref q19, .ref q30, .ref q41, .ref q52, .int 0, .int (-1), .int (-1), .ref q78, .ref q89, .ref q104, .null, .null, .null, .null, .null, .null, .int 0])) :: T108) := hD35
  refine lv_aload_n hx hb d_CA_init_114 rfl (lv_at hl 0 rfl) ?_
  refine va_new (ci := 12) (fs := [.null, .int 0]) (C := R_Fs) (T := T_Fs) (N := 2) hx hb hg i_Fs t_Fs o_Fs hown (hg _ k3_151) (hg _ k3_152) (hg _ k1_13) hK hP35 hD35 hS35 hA rfl f_Fs (Nat.le_of_ble_eq_true rfl) (Nat.le_of_ble_eq_true rfl) d_CA_init_115 (fun q115 H36 hP36 hD36 hS36 => ?_)
  clear hP35 hD35 hS35
  refine lv_dup hx hb d_CA_init_118 rfl ?_
  refine zInit hP36 hD36 hS36 hA (va_runIN (As := []) (rest := [.ref q115, .ref h0]) ⟨hx, hb, hml, hown, hg⟩ (c_Fs_init l D tA q115 H36.size) ⟨va_cnB 0 hg (zGood k3_155 rfl) rfl rfl rfl (va_Nw.of rfl (hg _ k3_153)) (hg _ k1_13) (by decide +kernel) ⟨(Nat.le_of_ble_eq_true rfl), (Nat.le_of_ble_eq_true rfl)⟩, rfl, hg _ k3_154⟩ (zPreI hh hK hP36 hD36) rfl rfl hl.1 rfl (lv_room (Nat.le_of_ble_eq_true rfl)) d_CA_init_119 ⟨(Nat.le_of_ble_eq_true rfl), (Nat.le_of_ble_eq_true rfl)⟩) (fun u115 H37 locs37 _ hP37 hD37 hS37 => ?_)
  clear hP36 hD36 hS36
  refine zCons (fun T119 e119 hP38 hD38 => ?_) hP37 hD37
  clear hP37 hD37
  refine va_put (D := D) (ci := 0) (v := .ref q115) (ty := .object "ChanceArena$Fractions") (C := R_CA) (T := T_CA) (N := 19) hx hb hg i_CA t_CA o_CA n_CA hown hK hP38 hD38 hS37 0 rfl rfl 12 (by decide) (hg _ k3_187) (fun _ h9 => h9) rfl (by decide +kernel) rfl rfl (Nat.le_of_ble_eq_true rfl) d_CA_init_122 (fun H39 locs39 hP39 hD39 hS39 => ?_)
  clear hP38 hD38 hS37
  replace hP39 : va_P D vwCl ((h0, .inr (0, [.ref q8, .int 0, .ref q19, .ref q30, .ref q41, .ref q52, .int 0, .int (-1), .int (-1), .ref q78, .ref q89, .ref q104, .ref q115, .null, .null, .null, .null, .null, .int 0])) :: T119) _ := hP39
  replace hD39 : va_D A ((h0, .inr (0, [.ref q8, .int 0, .ref q19, .ref q30, .ref q41, .ref q52, .int 0, .int (-1), .int (-1), .ref q78, .ref q89, .ref q104, .ref q115, .null, .null, .null, .null, .null, .int 0])) :: T119) := hD39
  refine lv_aload_n hx hb d_CA_init_125 rfl (lv_at hl 0 rfl) ?_
  refine va_new (ci := 12) (fs := [.null, .int 0]) (C := R_Fs) (T := T_Fs) (N := 2) hx hb hg i_Fs t_Fs o_Fs hown (hg _ k3_151) (hg _ k3_152) (hg _ k1_13) hK hP39 hD39 hS39 hA rfl f_Fs (Nat.le_of_ble_eq_true rfl) (Nat.le_of_ble_eq_true rfl) d_CA_init_126 (fun q126 H40 hP40 hD40 hS40 => ?_)
  clear hP39 hD39 hS39
  refine lv_dup hx hb d_CA_init_129 rfl ?_
  refine zInit hP40 hD40 hS40 hA (va_runIN (As := []) (rest := [.ref q126, .ref h0]) ⟨hx, hb, hml, hown, hg⟩ (c_Fs_init l D tA q126 H40.size) ⟨va_cnB 0 hg (zGood k3_155 rfl) rfl rfl rfl (va_Nw.of rfl (hg _ k3_153)) (hg _ k1_13) (by decide +kernel) ⟨(Nat.le_of_ble_eq_true rfl), (Nat.le_of_ble_eq_true rfl)⟩, rfl, hg _ k3_154⟩ (zPreI hh hK hP40 hD40) rfl rfl hl.1 rfl (lv_room (Nat.le_of_ble_eq_true rfl)) d_CA_init_130 ⟨(Nat.le_of_ble_eq_true rfl), (Nat.le_of_ble_eq_true rfl)⟩) (fun u126 H41 locs41 _ hP41 hD41 hS41 => ?_)
  clear hP40 hD40 hS40
  refine zCons (fun T130 e130 hP42 hD42 => ?_) hP41 hD41
  clear hP41 hD41
  refine va_put (D := D) (ci := 0) (v := .ref q126) (ty := .object "ChanceArena$Fractions") (C := R_CA) (T := T_CA) (N := 19) hx hb hg i_CA t_CA o_CA n_CA hown hK hP42 hD42 hS41 0 rfl rfl 13 (by decide) (hg _ k3_188) (fun _ h9 => h9) rfl (by decide +kernel) rfl rfl (Nat.le_of_ble_eq_true rfl) d_CA_init_133 (fun H43 locs43 hP43 hD43 hS43 => ?_)
  clear hP42 hD42 hS41
  replace hP43 : va_P D vwCl ((h0, .inr (0, [.ref q8, .int 0, .ref q19, .ref q30, .ref q41, .ref q52, .int 0, .int (-1), .int (-1), .ref q78, .ref q89, .ref q104, .ref q115, .ref q126, .null, .null, .null, .null, .int 0])) :: T130) _ := hP43
  replace hD43 : va_D A ((h0, .inr (0, [.ref q8, .int 0, .ref q19, .ref q30, .ref q41, .ref q52, .int 0, .int (-1), .int (-1), .ref q78, .ref q89, .ref q104, .ref q115, .ref q126, .null, .null, .null, .null, .int 0])) :: T130) := hD43
  refine lv_aload_n hx hb d_CA_init_136 rfl (lv_at hl 0 rfl) ?_
  refine va_new (ci := 12) (fs := [.null, .int 0]) (C := R_Fs) (T := T_Fs) (N := 2) hx hb hg i_Fs t_Fs o_Fs hown (hg _ k3_151) (hg _ k3_152) (hg _ k1_13) hK hP43 hD43 hS43 hA rfl f_Fs (Nat.le_of_ble_eq_true rfl) (Nat.le_of_ble_eq_true rfl) d_CA_init_137 (fun q137 H44 hP44 hD44 hS44 => ?_)
  clear hP43 hD43 hS43
  refine lv_dup hx hb d_CA_init_140 rfl ?_
  refine zInit hP44 hD44 hS44 hA (va_runIN (As := []) (rest := [.ref q137, .ref h0]) ⟨hx, hb, hml, hown, hg⟩ (c_Fs_init l D tA q137 H44.size) ⟨va_cnB 0 hg (zGood k3_155 rfl) rfl rfl rfl (va_Nw.of rfl (hg _ k3_153)) (hg _ k1_13) (by decide +kernel) ⟨(Nat.le_of_ble_eq_true rfl), (Nat.le_of_ble_eq_true rfl)⟩, rfl, hg _ k3_154⟩ (zPreI hh hK hP44 hD44) rfl rfl hl.1 rfl (lv_room (Nat.le_of_ble_eq_true rfl)) d_CA_init_141 ⟨(Nat.le_of_ble_eq_true rfl), (Nat.le_of_ble_eq_true rfl)⟩) (fun u137 H45 locs45 _ hP45 hD45 hS45 => ?_)
  clear hP44 hD44 hS44
  refine zCons (fun T141 e141 hP46 hD46 => ?_) hP45 hD45
  clear hP45 hD45
  refine va_putF (D := D) (ci := 0) (v := .ref q137) (ty := .object "ChanceArena$Fractions") (C := R_CA) (T := T_CA) (N := 19) hx hb hg i_CA t_CA o_CA n_CA hown hK hP46 hD46 hS45 0 rfl rfl 14 (by decide) (hg _ k3_189) (fun _ h9 => h9) rfl hnm rfl (by decide +kernel) rfl rfl (Nat.le_of_ble_eq_true rfl) d_CA_init_144 (fun H47 locs47 hP47 hD47 hS47 => ?_)
  clear hP46 hD46 hS45
  replace hP47 : va_P D vwCl ((h0, .inr (0, [.ref q8, .int 0, .ref q19, .ref q30, .ref q41, .ref q52, .int 0, .int (-1), .int (-1), .ref q78, .ref q89, .ref q104, .ref q115, .ref q126, .ref q137, .null, .null, .null, .int 0])) :: T141) _ := hP47
  replace hD47 : va_D A ((h0, .inr (0, [.ref q8, .int 0, .ref q19, .ref q30, .ref q41, .ref q52, .int 0, .int (-1), .int (-1), .ref q78, .ref q89, .ref q104, .ref q115, .ref q126, .ref q137, .null, .null, .null, .int 0])) :: T141) := hD47
  refine lv_aload_n hx hb d_CA_init_147 rfl (lv_at hl 0 rfl) ?_
  refine va_new (ci := 9) (fs := [.null, .int 0]) (C := R_Na) (T := T_Na) (N := 2) hx hb hg i_Na t_Na o_Na hown (hg _ k3_171) (hg _ k2_234) (hg _ k1_10) hK hP47 hD47 hS47 hA rfl f_Na (Nat.le_of_ble_eq_true rfl) (Nat.le_of_ble_eq_true rfl) d_CA_init_148 (fun q148 H48 hP48 hD48 hS48 => ?_)
  clear hP47 hD47 hS47
  refine lv_dup hx hb d_CA_init_151 rfl ?_
  refine zInit hP48 hD48 hS48 hA (va_runIN (As := []) (rest := [.ref q148, .ref h0]) ⟨hx, hb, hml, hown, hg⟩ (c_Na_init l D tA q148 H48.size) ⟨va_cnB 0 hg (zGood k2_237 rfl) rfl rfl rfl (va_Nw.of rfl (hg _ k3_172)) (hg _ k1_10) (by decide +kernel) ⟨(Nat.le_of_ble_eq_true rfl), (Nat.le_of_ble_eq_true rfl)⟩, rfl, hg _ k2_236⟩ (zPreI hh hK hP48 hD48) rfl rfl hl.1 rfl (lv_room (Nat.le_of_ble_eq_true rfl)) d_CA_init_152 ⟨(Nat.le_of_ble_eq_true rfl), (Nat.le_of_ble_eq_true rfl)⟩) (fun u148 H49 locs49 _ hP49 hD49 hS49 => ?_)
  clear hP48 hD48 hS48
  refine zCons (fun T152 e152 hP50 hD50 => ?_) hP49 hD49
  clear hP49 hD49
  refine va_putF (D := D) (ci := 0) (v := .ref q148) (ty := .object "ChanceArena$Natural") (C := R_CA) (T := T_CA) (N := 19) hx hb hg i_CA t_CA o_CA n_CA hown hK hP50 hD50 hS49 0 rfl rfl 15 (by decide) (hg _ k3_190) (fun _ h9 => h9) rfl hnm rfl (by decide +kernel) rfl rfl (Nat.le_of_ble_eq_true rfl) d_CA_init_155 (fun H51 locs51 hP51 hD51 hS51 => ?_)
  clear hP50 hD50 hS49
  replace hP51 : va_P D vwCl ((h0, .inr (0, [.ref q8, .int 0, .ref q19, .ref q30, .ref q41, .ref q52, .int 0, .int (-1), .int (-1), .ref q78, .ref q89, .ref q104, .ref q115, .ref q126, .ref q137, .ref q148, .null, .null, .int 0])) :: T152) _ := hP51
  replace hD51 : va_D A ((h0, .inr (0, [.ref q8, .int 0, .ref q19, .ref q30, .ref q41, .ref q52, .int 0, .int (-1), .int (-1), .ref q78, .ref q89, .ref q104, .ref q115, .ref q126, .ref q137, .ref q148, .null, .null, .int 0])) :: T152) := hD51
  refine lv_aload_n hx hb d_CA_init_158 rfl (lv_at hl 0 rfl) ?_
  refine va_new (ci := 10) (fs := [.null, .null, .int 0]) (C := R_Fr) (T := T_Fr) (N := 3) hx hb hg i_Fr t_Fr o_Fr hown (hg _ k3_173) (hg _ k3_11) (hg _ k1_11) hK hP51 hD51 hS51 hA rfl f_Fr (Nat.le_of_ble_eq_true rfl) (Nat.le_of_ble_eq_true rfl) d_CA_init_159 (fun q159 H52 hP52 hD52 hS52 => ?_)
  clear hP51 hD51 hS51
  refine lv_dup hx hb d_CA_init_162 rfl ?_
  refine zInit hP52 hD52 hS52 hA (va_runIN (As := []) (rest := [.ref q159, .ref h0]) ⟨hx, hb, hml, hown, hg⟩ (c_Fr_init l D tA q159 H52.size) ⟨va_cnB 0 hg (zGood k3_14 rfl) rfl rfl rfl (va_Nw.of rfl (hg _ k3_174)) (hg _ k1_11) (by decide +kernel) ⟨(Nat.le_of_ble_eq_true rfl), (Nat.le_of_ble_eq_true rfl)⟩, rfl, hg _ k3_13⟩ (zPreI hh hK hP52 hD52) rfl rfl hl.1 rfl (lv_room (Nat.le_of_ble_eq_true rfl)) d_CA_init_163 ⟨(Nat.le_of_ble_eq_true rfl), (Nat.le_of_ble_eq_true rfl)⟩) (fun u159 H53 locs53 _ hP53 hD53 hS53 => ?_)
  clear hP52 hD52 hS52
  refine zCons (fun T163 e163 hP54 hD54 => ?_) hP53 hD53
  clear hP53 hD53
  refine va_putF (D := D) (ci := 0) (v := .ref q159) (ty := .object "ChanceArena$Fraction") (C := R_CA) (T := T_CA) (N := 19) hx hb hg i_CA t_CA o_CA n_CA hown hK hP54 hD54 hS53 0 rfl rfl 16 (by decide) (hg _ k3_191) (fun _ h9 => h9) rfl hnm rfl (by decide +kernel) rfl rfl (Nat.le_of_ble_eq_true rfl) d_CA_init_166 (fun H55 locs55 hP55 hD55 hS55 => ?_)
  clear hP54 hD54 hS53
  replace hP55 : va_P D vwCl ((h0, .inr (0, [.ref q8, .int 0, .ref q19, .ref q30, .ref q41, .ref q52, .int 0, .int (-1), .int (-1), .ref q78, .ref q89, .ref q104, .ref q115, .ref q126, .ref q137, .ref q148, .ref q159, .null, .int 0])) :: T163) _ := hP55
  replace hD55 : va_D A ((h0, .inr (0, [.ref q8, .int 0, .ref q19, .ref q30, .ref q41, .ref q52, .int 0, .int (-1), .int (-1), .ref q78, .ref q89, .ref q104, .ref q115, .ref q126, .ref q137, .ref q148, .ref q159, .null, .int 0])) :: T163) := hD55
  refine lv_aload_n hx hb d_CA_init_169 rfl (lv_at hl 0 rfl) ?_
  refine lv_sipush (v := 400) hx hb d_CA_init_170 (by decide) ?_
  refine zNewa (atype := .char) (ty := .char) (a0 := (400, .inl (fun _ => 0))) (N' := 400) hx hb rfl (hg _ k1_81) hK hP55 hD55 hS55 hA 2 rfl (fun _ h => by cases h) (fun _ => rfl) (by decide) (by decide) (by decide) (Nat.le_of_ble_eq_true rfl) (Nat.le_of_ble_eq_true rfl) d_CA_init_173 (fun q173 H56 hP56 hD56 hS56 => ?_)
  clear hP55 hD55 hS55
  refine zCons (fun T173 e173 hP57 hD57 => ?_) hP56 hD56
  clear hP56 hD56
  refine va_putF (D := D) (ci := 0) (v := .ref q173) (ty := .array .char) (C := R_CA) (T := T_CA) (N := 19) hx hb hg i_CA t_CA o_CA n_CA hown hK hP57 hD57 hS56 0 rfl rfl 17 (by decide) (hg _ k3_192) (fun _ h9 => h9) rfl hnm rfl (by decide +kernel) rfl rfl (Nat.le_of_ble_eq_true rfl) d_CA_init_175 (fun H58 locs58 hP58 hD58 hS58 => ?_)
  clear hP57 hD57 hS56
  replace hP58 : va_P D vwCl ((h0, .inr (0, [.ref q8, .int 0, .ref q19, .ref q30, .ref q41, .ref q52, .int 0, .int (-1), .int (-1), .ref q78, .ref q89, .ref q104, .ref q115, .ref q126, .ref q137, .ref q148, .ref q159, .ref q173, .int 0])) :: T173) _ := hP58
  replace hD58 : va_D A ((h0, .inr (0, [.ref q8, .int 0, .ref q19, .ref q30, .ref q41, .ref q52, .int 0, .int (-1), .int (-1), .ref q78, .ref q89, .ref q104, .ref q115, .ref q126, .ref q137, .ref q148, .ref q159, .ref q173, .int 0])) :: T173) := hD58
  refine lv_aload_n hx hb d_CA_init_178 rfl (lv_at hl 0 rfl) ?_
  refine lv_iconst (v := 0) hx hb d_CA_init_179 (by decide) ?_
  refine va_put (D := D) (ci := 0) (v := .int 0) (ty := .int) (C := R_CA) (T := T_CA) (N := 19) hx hb hg i_CA t_CA o_CA n_CA hown hK hP58 hD58 hS58 0 rfl rfl 18 (by decide) (hg _ k3_193) (fun _ h9 => h9) rfl (by decide +kernel) rfl rfl (Nat.le_of_ble_eq_true rfl) d_CA_init_180 (fun H59 locs59 hP59 hD59 hS59 => ?_)
  clear hP58 hD58 hS58
  replace hP59 : va_P D vwCl ((h0, .inr (0, [.ref q8, .int 0, .ref q19, .ref q30, .ref q41, .ref q52, .int 0, .int (-1), .int (-1), .ref q78, .ref q89, .ref q104, .ref q115, .ref q126, .ref q137, .ref q148, .ref q159, .ref q173, .int 0])) :: T173) _ := hP59
  replace hD59 : va_D A ((h0, .inr (0, [.ref q8, .int 0, .ref q19, .ref q30, .ref q41, .ref q52, .int 0, .int (-1), .int (-1), .ref q78, .ref q89, .ref q104, .ref q115, .ref q126, .ref q137, .ref q148, .ref q159, .ref q173, .int 0])) :: T173) := hD59
  refine W.cs (cells' := 234) (slots' := 48661) rfl rfl ?_
  exact zVret hx hb hr hlocks hP59 hD59 hS59 (q8, (q19, u19), (q30, u30), (q41, u41), (q52, u52), (q78, u78), (q89, u89), (q104, u104), (q115, u115), (q126, u126), (q137, u137), (q148, u148), (q159, u159), q173) trivial (by rw [e173, e163, e152, e141, e130, e119, e108, e97, e82, e56, e45, e34, e23, e8]; rfl) d_CA_init_183
end
section
theorem u_tn {n : Nat} (h : n < 2 ^ 64) : (UInt64.ofNat n).toNat = n := Nat.mod_eq_of_lt h
theorem g_and {a b c : Nat} (ha : a < 2 ^ 64) (hb : b < 2 ^ 64) (hc : a &&& b = c) : lN a &&& lN b = lN c := by
  subst hc
  have h : UInt64.ofNat a &&& UInt64.ofNat b = UInt64.ofNat (a &&& b) := UInt64.toNat_inj.mp (by rw [UInt64.toNat_and, u_tn ha, u_tn hb, u_tn (Nat.and_lt_two_pow a hb)])
  have h2 := congrArg UInt64.toInt64 h
  exact h2
theorem g_and1 {a : Nat} (ha : a < 2 ^ 64) : lN a &&& 1 = lN (a % 2) := g_and (b := 1) ha (by decide) (Nat.and_two_pow_sub_one_eq_mod a 1)
theorem g_mask {a s p : Nat} (hp : 2 ^ s = p) (hs : s < 64) (ha : a < 2 ^ 64) : lN a &&& lN (p - 1) = lN (a % p) := by
  subst hp
  have := Nat.pow_lt_pow_right (show 1 < 2 by decide) hs
  exact g_and ha (by omega) (Nat.and_two_pow_sub_one_eq_mod a s)
theorem g_or {k p a b : Nat} (hp : 2 ^ k = p) (ha : a < p) (h : b * p + a < 2 ^ 64) : lN (b * p) ||| lN a = lN (b * p + a) := by
  subst hp
  have h1 : b * 2 ^ k ||| a = b * 2 ^ k + a := by rw [← Nat.shiftLeft_eq, Nat.shiftLeft_add_eq_or_of_lt ha]
  have h3 : UInt64.ofNat (b * 2 ^ k) ||| UInt64.ofNat a = UInt64.ofNat (b * 2 ^ k + a) := UInt64.toNat_inj.mp (by rw [UInt64.toNat_or, u_tn (by omega), u_tn (by omega), u_tn h, h1])
  have h2 := congrArg UInt64.toInt64 h3
  exact h2
theorem g_or' {k p a b : Nat} (hp : 2 ^ k = p) (ha : a < p) (h : a + b * p < 2 ^ 64) : lN a ||| lN (b * p) = lN (a + b * p) := by
  rw [Int64.or_comm, g_or hp ha (by omega), Nat.add_comm]
theorem g_ushr {a k p : Nat} {y : UInt64} (hy : y = UInt64.ofNat k) (hk : k < 64) (hp : 2 ^ k = p) (ha : a < 2 ^ 64) : ((lN a).toUInt64 >>> y).toInt64 = lN (a / p) := by
  subst hy hp
  have h : UInt64.ofNat a >>> UInt64.ofNat k = UInt64.ofNat (a / 2 ^ k) := UInt64.toNat_inj.mp (by rw [UInt64.toNat_shiftRight, u_tn ha, u_tn (by omega), u_tn (Nat.lt_of_le_of_lt (Nat.div_le_self _ _) ha), Nat.mod_eq_of_lt hk, Nat.shiftRight_eq_div_pow])
  have h2 := congrArg UInt64.toInt64 h
  exact h2
theorem g_shl {a k p : Nat} {y : Int64} (hy : y.toBitVec.smod 64 = BitVec.ofNat 64 k) (hk : k < 64) (hp : 2 ^ k = p) (ha : a < 2 ^ 64) : lN a <<< y = lN (a * p) := by
  subst hp
  apply Int64.toBitVec_inj.mp
  rw [Int64.toBitVec_shiftLeft, hy]
  apply BitVec.eq_of_toNat_eq
  have hb : (lN a).toBitVec.toNat = a := Nat.mod_eq_of_lt ha
  have hk' : (BitVec.ofNat 64 k).toNat = k := Nat.mod_eq_of_lt (by omega)
  have h : ((lN a).toBitVec <<< BitVec.ofNat 64 k).toNat = (a * 2 ^ k) % 2 ^ 64 := by simp only [BitVec.shiftLeft_eq', BitVec.toNat_shiftLeft, hb, hk', Nat.shiftLeft_eq]
  exact h
/-! ===== lN to 2^62 under >> and >>> ===== -/
theorem pf_lI {a : Nat} (h : a < 2 ^ 63) : (lN a).toInt = (a : Int) := lg_ofNat_toInt h
theorem pf_shr {a d : Nat} {D : Int64} (hD : (D.toBitVec.smod 64).toNat = d) (h : a < 2 ^ 62) : lN a >>> D = lN (a / 2 ^ d) := by
  have hd : a / 2 ^ d ≤ a := Nat.div_le_self _ _
  apply Int64.toInt_inj.mp
  have e : (lN a >>> D).toInt = (lN a).toInt >>> d := by
    rw [← hD]
    exact BitVec.toInt_sshiftRight ..
  rw [e, Int.shiftRight_eq_div_pow, pf_lI (by omega), pf_lI (by omega)]
  rfl
theorem pf_ushr {a d : Nat} {D : UInt64} (hD : D.toNat % 64 = d) (h : a < 2 ^ 62) : ((lN a).toUInt64 >>> D).toInt64 = lN (a / 2 ^ d) := by
  have hd : a / 2 ^ d ≤ a := Nat.div_le_self _ _
  have e : (lN a).toUInt64 >>> D = UInt64.ofNat (a / 2 ^ d) := UInt64.toNat_inj.mp (by
    rw [UInt64.toNat_shiftRight, hD, Nat.shiftRight_eq_div_pow, UInt64.toNat_ofNat']
    show (UInt64.ofNat a).toNat / 2 ^ d = _
    rw [UInt64.toNat_ofNat', Nat.mod_eq_of_lt (by omega), Nat.mod_eq_of_lt (by omega)])
  rw [e]
  rfl
end
section
theorem k9_132 : (Jvm.Cond.code ({ cls := "ChanceArenaModel$Whole", name := "<init>", desc := "(I)V" } : Jvm.MethodName) prog_21_method_1_code (2 : Nat) (Option.none : Option Jvm.ClassFile.FieldType)) ∈ lw_R := zR (zk_9 _ (List.mem_of_getElem? (i := 132) (by decide +kernel))) rfl
theorem k9_133 : (Jvm.Cond.methodLink "ChanceArenaModel$Whole" (1 : Nat) ({ cls := "java/lang/Object", name := "<init>", desc := "()V" } : Jvm.MethodName)) ∈ lw_R := zR (zk_9 _ (List.mem_of_getElem? (i := 133) (by decide +kernel))) rfl
theorem k9_134 : (Jvm.Cond.fieldLink "ChanceArenaModel$Whole" (7 : Nat) "ChanceArenaModel$Whole" "parts" "[I") ∈ lw_R := zR (zk_9 _ (List.mem_of_getElem? (i := 134) (by decide +kernel))) rfl
theorem k9_135 : (Jvm.Cond.fieldLink "ChanceArenaModel$Whole" (13 : Nat) "ChanceArenaModel$Whole" "n" "I") ∈ lw_R := zR (zk_9 _ (List.mem_of_getElem? (i := 135) (by decide +kernel))) rfl
theorem k9_144 : (Jvm.Cond.code ({ cls := "ChanceArenaModel$Whole", name := "set", desc := "(J)V" } : Jvm.MethodName) prog_21_method_2_code (5 : Nat) (Option.none : Option Jvm.ClassFile.FieldType)) ∈ lw_R := zR (zk_9 _ (List.mem_of_getElem? (i := 144) (by decide +kernel))) rfl
theorem k9_145 : (Jvm.Cond.constantLong "ChanceArenaModel$Whole" (17 : Nat) (16777215 : Int64)) ∈ lw_R := zR (zk_9 _ (List.mem_of_getElem? (i := 145) (by decide +kernel))) rfl
theorem d_MW_init_0 : decode prog_21_method_1_code 0 = .ok (.aload_n 0, 1) := by decide +kernel
theorem d_MW_init_1 : decode prog_21_method_1_code 1 = .ok (.invokespecial 1, 3) := by decide +kernel
theorem d_MW_init_4 : decode prog_21_method_1_code 4 = .ok (.aload_n 0, 1) := by decide +kernel
theorem d_MW_init_5 : decode prog_21_method_1_code 5 = .ok (.iload_n 1, 1) := by decide +kernel
theorem d_MW_init_6 : decode prog_21_method_1_code 6 = .ok (.newarray .int, 2) := by decide +kernel
theorem d_MW_init_8 : decode prog_21_method_1_code 8 = .ok (.putfield 7, 3) := by decide +kernel
theorem d_MW_init_11 : decode prog_21_method_1_code 11 = .ok (.return_, 1) := by decide +kernel
theorem d_MW_set_7 : decode prog_21_method_2_code 7 = .ok (.lload_n 3, 1) := by decide +kernel
theorem d_MW_set_8 : decode prog_21_method_2_code 8 = .ok (.lconst 0, 1) := by decide +kernel
theorem d_MW_set_9 : decode prog_21_method_2_code 9 = .ok (.lcmp, 1) := by decide +kernel
theorem d_MW_set_10 : decode prog_21_method_2_code 10 = .ok (.ifCond .le 36, 3) := by decide +kernel
theorem d_MW_set_46 : decode prog_21_method_2_code 46 = .ok (.return_, 1) := by decide +kernel
theorem d_MW_set_13 : decode prog_21_method_2_code 13 = .ok (.aload_n 0, 1) := by decide +kernel
theorem d_MW_set_14 : decode prog_21_method_2_code 14 = .ok (.getfield 7, 3) := by decide +kernel
theorem d_MW_set_17 : decode prog_21_method_2_code 17 = .ok (.aload_n 0, 1) := by decide +kernel
theorem d_MW_set_18 : decode prog_21_method_2_code 18 = .ok (.getfield 13, 3) := by decide +kernel
theorem d_MW_set_21 : decode prog_21_method_2_code 21 = .ok (.lload_n 3, 1) := by decide +kernel
theorem d_MW_set_22 : decode prog_21_method_2_code 22 = .ok (.ldc2_w 17, 3) := by decide +kernel
theorem d_MW_set_25 : decode prog_21_method_2_code 25 = .ok (.land, 1) := by decide +kernel
theorem d_MW_set_26 : decode prog_21_method_2_code 26 = .ok (.l2i, 1) := by decide +kernel
theorem d_MW_set_27 : decode prog_21_method_2_code 27 = .ok (.iastore, 1) := by decide +kernel
theorem d_MW_set_28 : decode prog_21_method_2_code 28 = .ok (.aload_n 0, 1) := by decide +kernel
theorem d_MW_set_29 : decode prog_21_method_2_code 29 = .ok (.dup, 1) := by decide +kernel
theorem d_MW_set_30 : decode prog_21_method_2_code 30 = .ok (.getfield 13, 3) := by decide +kernel
theorem d_MW_set_33 : decode prog_21_method_2_code 33 = .ok (.iconst 1, 1) := by decide +kernel
theorem d_MW_set_34 : decode prog_21_method_2_code 34 = .ok (.iadd, 1) := by decide +kernel
theorem d_MW_set_35 : decode prog_21_method_2_code 35 = .ok (.putfield 13, 3) := by decide +kernel
theorem d_MW_set_38 : decode prog_21_method_2_code 38 = .ok (.lload_n 3, 1) := by decide +kernel
theorem d_MW_set_39 : decode prog_21_method_2_code 39 = .ok (.bipush 24, 2) := by decide +kernel
theorem d_MW_set_41 : decode prog_21_method_2_code 41 = .ok (.lshr, 1) := by decide +kernel
theorem d_MW_set_42 : decode prog_21_method_2_code 42 = .ok (.lstore_n 3, 1) := by decide +kernel
theorem d_MW_set_43 : decode prog_21_method_2_code 43 = .ok (.goto (-36), 3) := by decide +kernel
theorem d_MW_set_0 : decode prog_21_method_2_code 0 = .ok (.aload_n 0, 1) := by decide +kernel
theorem d_MW_set_1 : decode prog_21_method_2_code 1 = .ok (.iconst 0, 1) := by decide +kernel
theorem d_MW_set_2 : decode prog_21_method_2_code 2 = .ok (.putfield 13, 3) := by decide +kernel
theorem d_MW_set_5 : decode prog_21_method_2_code 5 = .ok (.lload_n 1, 1) := by decide +kernel
theorem d_MW_set_6 : decode prog_21_method_2_code 6 = .ok (.lstore_n 3, 1) := by decide +kernel
theorem f_MW : ∀ j, j < 2 → defaultValue (t_MW j) = vp_V [.null, .int 0] j := by decide +kernel
def w_MW (tA : Nat → ClassId) (h0 N q : Nat) (v : Nat) (f : Nat → Int32) : va_W := [(h0, .inr (19, [.ref q, .int (nI v)])), (q, .inl (tA 0, N, .inl f))]
set_option maxHeartbeats 4000000 in
set_option maxRecDepth 100000 in
/-- Whole(N): zero, in N parts -/
theorem c_MW_init (l : Launch) (D : va_G) (tA : Nat → ClassId) (h0 sz N : Nat) (hN : N ≤ 1000) : zMv l ({ cls := "ChanceArenaModel$Whole", name := "<init>", desc := "(I)V" } : Jvm.MethodName) (zW (Jvm.Cond.code ({ cls := "ChanceArenaModel$Whole", name := "<init>", desc := "(I)V" } : Jvm.MethodName) prog_21_method_1_code (2 : Nat) (Option.none : Option Jvm.ClassFile.FieldType))) { frames := 1, cells := 1, slots := N, locals := 12 } [.ref h0, .int (nI N)] D tA [(h0, .inr (19, [.null, .int 0]))] sz (fun _ : Nat => True) (fun q => w_MW tA h0 N q 0 (fun _ => 0)) 1 N := by
  refine zOpen (fun A => va_Qv _ (zPost D A (fun q => w_MW tA h0 N q 0 (fun _ => 0))) A) (lv := [(0, .ref h0), (1, .int (nI N))]) (by decide) rfl (Nat.le_of_ble_eq_true rfl) rfl ?_
  intro p e s m below meth c A ls hx hb hr hml hh hg hown hlocks hnm hK hA hP hD0 hAw hS hl
  have hD := zD hD0 hAw
  refine lv_aload_n hx hb d_MW_init_0 rfl (lv_at hl 0 rfl) ?_
  refine W.objInit hx hb hown (hg _ k9_133) (hg _ k1_46) (hg _ k1_47) rfl (by rw [hml]; exact hl.1) rfl d_MW_init_1 (Nat.le_of_ble_eq_true rfl) (Nat.le_of_ble_eq_true rfl) ?_
  refine lv_aload_n hx hb d_MW_init_4 rfl (lv_at hl 0 rfl) ?_
  refine lv_iload_n hx hb d_MW_init_5 rfl (lv_at hl 1 rfl) ?_
  refine zNewa (atype := .int) (ty := .int) (a0 := (N, .inl (fun _ => 0))) (N' := N) hx hb rfl (hg _ k1_82) hK hP hD hS hA 0 rfl (fun _ h => by cases h) (fun _ => rfl) (nI_pos (by omega)) (nI_clamp (by omega)) (by show N * 4 ≤ 536870912; omega) (Nat.le_of_ble_eq_true rfl) (by show 0 + N ≤ N; omega) d_MW_init_6 (fun q6 H1 hP1 hD1 hS1 => ?_)
  clear hP hD hS
  refine va_putF (D := D) (ci := 19) (v := .ref q6) (ty := .array .int) (C := R_MW) (T := T_MW) (N := 2) hx hb hg i_MW t_MW o_MW n_MW hown hK hP1 hD1 hS1 0 rfl rfl 0 (by decide) (hg _ k9_134) (fun _ h9 => h9) rfl hnm rfl (by decide +kernel) rfl rfl (Nat.le_of_ble_eq_true rfl) d_MW_init_8 (fun H2 locs2 hP2 hD2 hS2 => ?_)
  clear hP1 hD1 hS1
  refine W.cs (cells' := 1) (slots' := N) rfl (Nat.zero_add N) ?_
  exact zVret hx hb hr hlocks hP2 hD2 hS2 q6 trivial rfl d_MW_init_11
/-- what set(x) leaves: x's digits to the base 2^24, and how many -/
def MWset (x : Nat) (f : Nat → Int32) (n : Nat) (g : Nat → Int32) : Prop := x / 16777216 ^ n = 0 ∧ (∀ j, j < n → x / 16777216 ^ j ≠ 0) ∧ n ≤ 3 ∧ (∀ i, i < n → g i = nI (x / 16777216 ^ i % 16777216)) ∧ ∀ i, n ≤ i → g i = f i
theorem lcmp_pos {r : Nat} (h : r ≠ 0) (hr : r < 2 ^ 62) : lg_cmp (lN r) 0 = 1 := by
  have h1 : (0 : Int64) < lN r := (pk_lLT (a := 0) (b := r) (by decide) (by omega)).mpr (by omega)
  simp [lg_cmp, h1]
set_option maxHeartbeats 4000000 in
set_option maxRecDepth 100000 in
theorem MW_set_loop {p : Program} {l : Launch} {e : Env} {s : State} {m : MethodId} {below : List Frame} {meth : Method} {c : Code} {D : va_G} {tA : Nat → ClassId} {A : Nat → Prop} {h0 a x N : Nat} {f : Nat → Int32} {args : Array Value} (hx62 : x < 2 ^ 62) (hN : 3 ≤ N) (hN2 : N ≤ 1000) (hx : p.tables.exec = Jvm.exec) (hb : c.code = prog_21_method_2_code) (hr : meth.sig.returnType = none) (hlocks : meth.locks = false) (hml : c.maxLocals = 5) (hg : ∀ w ∈ lw_R, w.before args s = true) (hown : s.vm.findClass "ChanceArenaModel$Whole" = some m.cls) (hK : va_K D vwCl (zT tA) s) :
    ∀ (n j : Nat), j + n = 3 → ∀ (g : Nat → Int32) (H : Heap) (locs : List Loc) (ls : Array Slot), (∀ i, i < j → x / 16777216 ^ i ≠ 0) → (∀ i, i < j → g i = nI (x / 16777216 ^ i % 16777216)) → (∀ i, j ≤ i → g i = f i) → va_P D vwCl [(h0, .inr (19, [.ref a, .int (nI (j))])), (a, .inl (tA 0, N, .inl (g)))] H → va_D A [(h0, .inr (19, [.ref a, .int (nI (j))])), (a, .inl (tA 0, N, .inl (g)))] → va_S A s.heap H locs → lv_has ls 5 [(3, .long (lN (x / 16777216 ^ j))), (0, .ref h0), (1, .long (lN x))] → W p l e { frames := 0, cells := 0, slots := 0, locals := 0 } s m args below meth c H locs 0 0 (MQ below (va_Qv (fun u : Nat × (Nat → Int32) => MWset x f u.1 u.2) (zPost D A (fun u => [(h0, .inr (19, [.ref a, .int (nI (u.1))])), (a, .inl (tA 0, N, .inl (u.2)))])) A) args s 0 0 A) (F0 m 7 ls []) := by
  intro n
  induction n with
  | zero =>
    intro j hj g H locs ls i1 i2 i3 hP hD hS hl
    have hj : j = 3 := hj
    subst hj
    have hz : x / 16777216 ^ 3 = 0 := Nat.div_eq_of_lt (Nat.lt_trans hx62 (by decide))
    rw [hz] at hl
    refine lv_lload_n hx hb d_MW_set_7 rfl (lv_at hl 0 rfl) ?_
    refine lv_lconst (v := 0) hx hb d_MW_set_8 rfl ?_
    refine W.lcmp hx hb d_MW_set_9 ?_
    refine lv_if_le (tgt := 46) hx hb d_MW_set_10 (by decide) (fun c9 => ?_) (fun c9 => absurd (by decide) c9)
    exact zVret hx hb hr hlocks hP hD hS (3, g) ⟨hz, i1, Nat.le_refl 3, i2, i3⟩ rfl d_MW_set_46
  | succ n ih =>
    intro j hj g H locs ls i1 i2 i3 hP hD hS hl
    by_cases hz : x / 16777216 ^ j = 0
    · rw [hz] at hl
      refine lv_lload_n hx hb d_MW_set_7 rfl (lv_at hl 0 rfl) ?_
      refine lv_lconst (v := 0) hx hb d_MW_set_8 rfl ?_
      refine W.lcmp hx hb d_MW_set_9 ?_
      refine lv_if_le (tgt := 46) hx hb d_MW_set_10 (by decide) (fun c9 => ?_) (fun c9 => absurd (by decide) c9)
      exact zVret hx hb hr hlocks hP hD hS (j, g) ⟨hz, i1, by omega, i2, i3⟩ rfl d_MW_set_46
    · have hr62 : x / 16777216 ^ j < 2 ^ 62 := Nat.lt_of_le_of_lt (Nat.div_le_self _ _) hx62
      refine lv_lload_n hx hb d_MW_set_7 rfl (lv_at hl 0 rfl) ?_
      refine lv_lconst (v := 0) hx hb d_MW_set_8 rfl ?_
      refine W.lcmp hx hb d_MW_set_9 ?_
      refine lv_if_le (tgt := 46) hx hb d_MW_set_10 (by decide) (fun c9 => absurd c9 (by rw [lcmp_pos hz hr62]; decide)) (fun c9 => ?_)
      refine lv_aload_n hx hb d_MW_set_13 rfl (lv_at hl 1 rfl) ?_
      refine va_get (D := D) (ci := 19) (v := .ref a) (C := R_MW) (T := T_MW) (N := 2) hx hb hg i_MW hown hK hP 0 rfl rfl 0 (by decide) (hg _ k9_134) (fun _ h9 => h9) rfl d_MW_set_14 ?_
      refine lv_aload_n hx hb d_MW_set_17 rfl (lv_at hl 1 rfl) ?_
      refine va_get (D := D) (ci := 19) (v := .int (nI j)) (C := R_MW) (T := T_MW) (N := 2) hx hb hg i_MW hown hK hP 0 rfl rfl 1 (by decide) (hg _ k9_135) (fun _ h9 => h9) rfl d_MW_set_18 ?_
      refine lv_lload_n hx hb d_MW_set_21 rfl (lv_at hl 0 rfl) ?_
      refine lv_ldc2 hx hb hown (hg _ k9_145) d_MW_set_22 ?_
      refine lv_land hx hb d_MW_set_25 ?_
      refine lv_l2i (v := nI (x / 16777216 ^ j % 16777216)) hx hb d_MW_set_26 (by rw [show (16777215 : Int64) = lN (16777216 - 1) from rfl, g_mask (s := 24) rfl (by decide) (by omega), lN_i]) ?_
      refine va_iast hx hb hK hP hD hS 1 0 rfl rfl (vp_in_nI (by omega) (by omega)) d_MW_set_27 (fun H1 locs1 hP1 hD1 hS1 => ?_)
      clear hP hD hS
      rw [nI_clamp (by omega)] at hP1 hD1
      refine lv_aload_n hx hb d_MW_set_28 rfl (lv_at hl 1 rfl) ?_
      refine lv_dup hx hb d_MW_set_29 rfl ?_
      refine va_get (D := D) (ci := 19) (v := .int (nI j)) (C := R_MW) (T := T_MW) (N := 2) hx hb hg i_MW hown hK hP1 0 rfl rfl 1 (by decide) (hg _ k9_135) (fun _ h9 => h9) rfl d_MW_set_30 ?_
      refine lv_iconst (v := 1) hx hb d_MW_set_33 (by decide) ?_
      refine lv_iadd hx hb d_MW_set_34 ?_
      rw [nI_1]
      refine va_put (D := D) (ci := 19) (v := .int (nI (j + 1))) (ty := .int) (C := R_MW) (T := T_MW) (N := 2) hx hb hg i_MW t_MW o_MW n_MW hown hK hP1 hD1 hS1 0 rfl rfl 1 (by decide) (hg _ k9_135) (fun _ h9 => h9) rfl (by decide +kernel) rfl rfl (Nat.le_of_ble_eq_true rfl) d_MW_set_35 (fun H2 locs2 hP2 hD2 hS2 => ?_)
      clear hP1 hD1 hS1
      refine lv_lload_n hx hb d_MW_set_38 rfl (lv_at hl 0 rfl) ?_
      refine lv_bipush (v := 24) hx hb d_MW_set_39 (by decide) ?_
      refine lv_lshr (v := lN (x / 16777216 ^ (j + 1))) hx hb d_MW_set_41 (by rw [pf_shr (d := 24) (by decide) hr62, Nat.div_div_eq_div_mul, show (2 : Nat) ^ 24 = 16777216 from rfl, ← Nat.pow_succ]) ?_
      refine lv_lstore_n (lv' := [(3, .long (lN (x / 16777216 ^ (j + 1)))), (0, .ref h0), (1, .long (lN x))]) hx hb d_MW_set_42 rfl hl (by decide) rfl (fun ls hl => ?_)
      refine lv_goto (tgt := 7) hx hb d_MW_set_43 (by decide) ?_
      refine ih (j + 1) (by omega) (upd g j (nI (x / 16777216 ^ j % 16777216))) _ _ ls ?_ ?_ ?_ hP2 hD2 hS2 hl
      · intro i hi
        rcases Nat.lt_or_ge i j with h | h
        · exact i1 i h
        · have : i = j := by omega
          subst this; exact hz
      · intro i hi
        rcases Nat.lt_or_ge i j with h | h
        · rw [pk_un (by omega)]; exact i2 i h
        · have : i = j := by omega
          subst this; exact pk_us
      · intro i hi
        rw [pk_un (by omega)]; exact i3 i (by omega)
set_option maxHeartbeats 4000000 in
set_option maxRecDepth 100000 in
/-- Whole.set(x) -/
theorem c_MW_set (l : Launch) (D : va_G) (tA : Nat → ClassId) (h0 a sz x N : Nat) (hx62 : x < 2 ^ 62) (hN : 3 ≤ N) (hN2 : N ≤ 1000) (n0 : Int32) (f : Nat → Int32) : zMv l ({ cls := "ChanceArenaModel$Whole", name := "set", desc := "(J)V" } : Jvm.MethodName) (zW (Jvm.Cond.code ({ cls := "ChanceArenaModel$Whole", name := "set", desc := "(J)V" } : Jvm.MethodName) prog_21_method_2_code (5 : Nat) (Option.none : Option Jvm.ClassFile.FieldType))) { frames := 0, cells := 0, slots := 0, locals := 0 } [.ref h0, .long (lN x)] D tA [(h0, .inr (19, [.ref a, .int n0])), (a, .inl (tA 0, N, .inl f))] sz (fun u : Nat × (Nat → Int32) => MWset x f u.1 u.2) (fun u => [(h0, .inr (19, [.ref a, .int (nI (u.1))])), (a, .inl (tA 0, N, .inl (u.2)))]) 0 0 := by
  refine zOpen (fun A => va_Qv _ (zPost D A (fun u : Nat × (Nat → Int32) => [(h0, .inr (19, [.ref a, .int (nI (u.1))])), (a, .inl (tA 0, N, .inl (u.2)))])) A) (lv := [(0, .ref h0), (1, .long (lN x))]) (by decide) rfl (Nat.le_of_ble_eq_true rfl) rfl ?_
  intro p e s m below meth c A ls hx hb hr hml hh hg hown hlocks hnm hK hA hP hD0 hAw hS hl
  have hD := zD hD0 hAw
  refine lv_aload_n hx hb d_MW_set_0 rfl (lv_at hl 0 rfl) ?_
  refine lv_iconst (v := 0) hx hb d_MW_set_1 (by decide) ?_
  refine va_put (D := D) (ci := 19) (v := .int 0) (ty := .int) (C := R_MW) (T := T_MW) (N := 2) hx hb hg i_MW t_MW o_MW n_MW hown hK hP hD hS 0 rfl rfl 1 (by decide) (hg _ k9_135) (fun _ h9 => h9) rfl (by decide +kernel) rfl rfl (Nat.le_of_ble_eq_true rfl) d_MW_set_2 (fun H1 locs1 hP1 hD1 hS1 => ?_)
  clear hP hD hS
  refine lv_lload_n hx hb d_MW_set_5 rfl (lv_at hl 1 rfl) ?_
  refine lv_lstore_n (lv' := [(3, .long (lN (x / 16777216 ^ 0))), (0, .ref h0), (1, .long (lN x))]) hx hb d_MW_set_6 rfl hl (by decide) (by rw [Nat.pow_zero, Nat.div_one]; rfl) (fun ls hl => ?_)
  exact MW_set_loop hx62 hN hN2 hx hb hr hlocks hml hg hown hK 3 0 rfl f _ _ ls (fun i h => absurd h (Nat.not_lt_zero i)) (fun i h => absurd h (Nat.not_lt_zero i)) (fun i _ => rfl) hP1 hD1 hS1 hl
end
section
theorem k1_20 : (Jvm.Cond.initialized "ChanceArenaModel$Whole") ∈ lw_R := zR (zk_1 _ (List.mem_of_getElem? (i := 20) (by decide +kernel))) rfl
theorem k9_126 : (Jvm.Cond.code ({ cls := "ChanceArenaModel$Fraction", name := "<init>", desc := "(I)V" } : Jvm.MethodName) prog_16_method_1_code (2 : Nat) (Option.none : Option Jvm.ClassFile.FieldType)) ∈ lw_R := zR (zk_9 _ (List.mem_of_getElem? (i := 126) (by decide +kernel))) rfl
theorem k9_127 : (Jvm.Cond.methodLink "ChanceArenaModel$Fraction" (1 : Nat) ({ cls := "java/lang/Object", name := "<init>", desc := "()V" } : Jvm.MethodName)) ∈ lw_R := zR (zk_9 _ (List.mem_of_getElem? (i := 127) (by decide +kernel))) rfl
theorem k9_128 : (Jvm.Cond.classLink "ChanceArenaModel$Fraction" (7 : Nat) "ChanceArenaModel$Whole") ∈ lw_R := zR (zk_9 _ (List.mem_of_getElem? (i := 128) (by decide +kernel))) rfl
theorem k9_129 : (Jvm.Cond.instantiable "ChanceArenaModel$Whole" (2 : Nat)) ∈ lw_R := zR (zk_9 _ (List.mem_of_getElem? (i := 129) (by decide +kernel))) rfl
theorem k9_130 : (Jvm.Cond.methodLink "ChanceArenaModel$Fraction" (9 : Nat) ({ cls := "ChanceArenaModel$Whole", name := "<init>", desc := "(I)V" } : Jvm.MethodName)) ∈ lw_R := zR (zk_9 _ (List.mem_of_getElem? (i := 130) (by decide +kernel))) rfl
theorem k9_131 : (Jvm.Cond.instanceMethod ({ cls := "ChanceArenaModel$Whole", name := "<init>", desc := "(I)V" } : Jvm.MethodName)) ∈ lw_R := zR (zk_9 _ (List.mem_of_getElem? (i := 131) (by decide +kernel))) rfl
theorem k9_141 : (Jvm.Cond.methodLink "ChanceArenaModel$Fraction" (21 : Nat) ({ cls := "ChanceArenaModel$Whole", name := "set", desc := "(J)V" } : Jvm.MethodName)) ∈ lw_R := zR (zk_9 _ (List.mem_of_getElem? (i := 141) (by decide +kernel))) rfl
theorem k9_142 : (Jvm.Cond.instanceMethod ({ cls := "ChanceArenaModel$Whole", name := "set", desc := "(J)V" } : Jvm.MethodName)) ∈ lw_R := zR (zk_9 _ (List.mem_of_getElem? (i := 142) (by decide +kernel))) rfl
theorem k9_143 : (Jvm.Cond.selects "ChanceArenaModel$Whole" ({ cls := "ChanceArenaModel$Whole", name := "set", desc := "(J)V" } : Jvm.MethodName) ({ cls := "ChanceArenaModel$Whole", name := "set", desc := "(J)V" } : Jvm.MethodName)) ∈ lw_R := zR (zk_9 _ (List.mem_of_getElem? (i := 143) (by decide +kernel))) rfl
theorem k9_146 : (Jvm.Cond.fieldLink "ChanceArenaModel$Fraction" (12 : Nat) "ChanceArenaModel$Fraction" "top" "LChanceArenaModel$Whole;") ∈ lw_R := zR (zk_9 _ (List.mem_of_getElem? (i := 146) (by decide +kernel))) rfl
theorem k9_149 : (Jvm.Cond.fieldLink "ChanceArenaModel$Fraction" (18 : Nat) "ChanceArenaModel$Fraction" "bottom" "LChanceArenaModel$Whole;") ∈ lw_R := zR (zk_9 _ (List.mem_of_getElem? (i := 149) (by decide +kernel))) rfl
theorem d_MF_init_0 : decode prog_16_method_1_code 0 = .ok (.aload_n 0, 1) := by decide +kernel
theorem d_MF_init_1 : decode prog_16_method_1_code 1 = .ok (.invokespecial 1, 3) := by decide +kernel
theorem d_MF_init_4 : decode prog_16_method_1_code 4 = .ok (.aload_n 0, 1) := by decide +kernel
theorem d_MF_init_5 : decode prog_16_method_1_code 5 = .ok (.new 7, 3) := by decide +kernel
theorem d_MF_init_8 : decode prog_16_method_1_code 8 = .ok (.dup, 1) := by decide +kernel
theorem d_MF_init_9 : decode prog_16_method_1_code 9 = .ok (.iload_n 1, 1) := by decide +kernel
theorem d_MF_init_10 : decode prog_16_method_1_code 10 = .ok (.invokespecial 9, 3) := by decide +kernel
theorem d_MF_init_13 : decode prog_16_method_1_code 13 = .ok (.putfield 12, 3) := by decide +kernel
theorem d_MF_init_16 : decode prog_16_method_1_code 16 = .ok (.aload_n 0, 1) := by decide +kernel
theorem d_MF_init_17 : decode prog_16_method_1_code 17 = .ok (.new 7, 3) := by decide +kernel
theorem d_MF_init_20 : decode prog_16_method_1_code 20 = .ok (.dup, 1) := by decide +kernel
theorem d_MF_init_21 : decode prog_16_method_1_code 21 = .ok (.iload_n 1, 1) := by decide +kernel
theorem d_MF_init_22 : decode prog_16_method_1_code 22 = .ok (.invokespecial 9, 3) := by decide +kernel
theorem d_MF_init_25 : decode prog_16_method_1_code 25 = .ok (.putfield 18, 3) := by decide +kernel
theorem d_MF_init_28 : decode prog_16_method_1_code 28 = .ok (.aload_n 0, 1) := by decide +kernel
theorem d_MF_init_29 : decode prog_16_method_1_code 29 = .ok (.getfield 18, 3) := by decide +kernel
theorem d_MF_init_32 : decode prog_16_method_1_code 32 = .ok (.lconst 1, 1) := by decide +kernel
theorem d_MF_init_33 : decode prog_16_method_1_code 33 = .ok (.invokevirtual 21, 3) := by decide +kernel
theorem d_MF_init_36 : decode prog_16_method_1_code 36 = .ok (.return_, 1) := by decide +kernel
theorem f_MF : ∀ j, j < 3 → defaultValue (t_MF j) = vp_V [.null, .null, .int 0] j := by decide +kernel
/-- a new fraction: 0 over 1 -/
def w_MF (tA : Nat → ClassId) (h0 N : Nat) (u : Nat × Nat × Nat × Nat) : va_W := match u with
  | (q5, u5, q17, u17) => (h0, .inr (18, [.ref q5, .ref q17, .int 0])) :: (w_MW tA q5 N u5 0 (fun _ => 0) ++ w_MW tA q17 N u17 1 (fun i => if i = 0 then 1 else 0))
theorem MWset_one {n : Nat} {g : Nat → Int32} (h : MWset 1 (fun _ => 0) n g) : n = 1 ∧ g = fun i => if i = 0 then 1 else 0 := by
  obtain ⟨h1, h2, h3, h4, h5⟩ := h
  have hn : n = 1 := by
    rcases n with _ | _ | n
    · simp at h1
    · rfl
    · exact absurd (by decide) (h2 1 (by omega))
  subst hn
  refine ⟨rfl, funext fun i => ?_⟩
  by_cases hi : i = 0
  · subst hi; rw [h4 0 (by omega)]; rfl
  · rw [h5 i (by omega), if_neg hi]
theorem zV {R : Room} {s : State} {args : Array Value} {own C : String} {index maxL mc ms : Nat} {y : MethodName} {bytes : ByteArray} {ret : Option FieldType} {rm : Room} (n : Nat) (hg : ∀ w ∈ lw_R, w.before args s = true) (h1 : Cond.methodLink own index y ∈ lw_R) (h2 : Cond.instanceMethod y ∈ lw_R) (h3 : Cond.selects C y y ∈ lw_R) (h4 : Cond.initialized C ∈ lw_R) (h5 : Cond.code y bytes maxL ret ∈ lw_R) (hrc : rm.cells = mc) (hrs : rm.slots = ms)
    (hd : y.cls = C ∧ y.cls ≠ "java/lang/invoke/MethodHandle" ∧ y.cls ≠ "java/lang/invoke/VarHandle" ∧ (parseMethodDescriptor y.desc).map (fun d => d.parameters.length) = some n) (hR : rm.frames + 1 ≤ R.frames ∧ 8 + (maxL + 11) + rm.locals ≤ R.locals) : CallW R s args own C index y bytes maxL ret (zW (Cond.code y bytes maxL ret)) rm mc ms n := by
  obtain ⟨hC, hd⟩ := hd
  subst hC
  exact ⟨callB_of n hg (zGood h5 rfl) rfl hrc hrs (hg _ h4) (hg _ h1) hd hR, hg _ h2, hg _ h3⟩
set_option maxHeartbeats 4000000 in
set_option maxRecDepth 100000 in
theorem c_MF_init (l : Launch) (D : va_G) (tA : Nat → ClassId) (h0 sz N : Nat) (hN3 : 3 ≤ N) (hN : N ≤ 1000) : zMv l ({ cls := "ChanceArenaModel$Fraction", name := "<init>", desc := "(I)V" } : Jvm.MethodName) (zW (Jvm.Cond.code ({ cls := "ChanceArenaModel$Fraction", name := "<init>", desc := "(I)V" } : Jvm.MethodName) prog_16_method_1_code (2 : Nat) (Option.none : Option Jvm.ClassFile.FieldType))) { frames := 2, cells := 4, slots := 2 * N + 4, locals := 40 } [.ref h0, .int (nI N)] D tA [(h0, .inr (18, [.null, .null, .int 0]))] sz (fun _ : Nat × Nat × Nat × Nat => True) (w_MF tA h0 N) 4 (2 * N + 4) := by
  refine zOpen (fun A => va_Qv _ (zPost D A (w_MF tA h0 N)) A) (lv := [(0, .ref h0), (1, .int (nI N))]) (by decide) rfl (Nat.le_of_ble_eq_true rfl) rfl ?_
  intro p e s m below meth c A ls hx hb hr hml hh hg hown hlocks hnm hK hA hP hD0 hAw hS hl
  have hD := zD hD0 hAw
  refine lv_aload_n hx hb d_MF_init_0 rfl (lv_at hl 0 rfl) ?_
  refine W.objInit hx hb hown (hg _ k9_127) (hg _ k1_46) (hg _ k1_47) rfl (by rw [hml]; exact hl.1) rfl d_MF_init_1 (Nat.le_of_ble_eq_true rfl) (Nat.le_of_ble_eq_true rfl) ?_
  refine lv_aload_n hx hb d_MF_init_4 rfl (lv_at hl 0 rfl) ?_
  refine va_new (ci := 19) (fs := [.null, .int 0]) (C := R_MW) (T := T_MW) (N := 2) hx hb hg i_MW t_MW o_MW hown (hg _ k9_128) (hg _ k9_129) (hg _ k1_20) hK hP hD hS hA rfl f_MW (Nat.le_of_ble_eq_true rfl) (by show _ ≤ 2 * N + 4; omega) d_MF_init_5 (fun q5 H1 hP1 hD1 hS1 => ?_)
  clear hP hD hS
  refine lv_dup hx hb d_MF_init_8 rfl ?_
  refine lv_iload_n hx hb d_MF_init_9 rfl (lv_at hl 1 rfl) ?_
  refine zInit hP1 hD1 hS1 hA (va_runI (As := [.int (nI N)]) (rest := [.ref q5, .ref h0]) ⟨hx, hb, hml, hown, hg⟩ (c_MW_init l D tA q5 H1.size N hN) (cwI 1 hg (zGood k9_132 rfl) rfl rfl rfl (hg _ k1_20) (hg _ k9_130) (hg _ k9_131) rfl (by decide +kernel) ⟨(Nat.le_of_ble_eq_true rfl), (Nat.le_of_ble_eq_true rfl)⟩) (zPreI hh hK hP1 hD1) rfl rfl hl.1 rfl (lv_room (Nat.le_of_ble_eq_true rfl)) d_MF_init_10 ⟨(Nat.le_of_ble_eq_true rfl), by show _ ≤ 2 * N + 4; omega⟩) (fun u5 H2 locs2 _ hP2 hD2 hS2 => ?_)
  clear hP1 hD1 hS1
  refine va_putF (D := D) (ci := 18) (v := .ref q5) (ty := .object "ChanceArenaModel$Whole") (C := R_MF) (T := T_MF) (N := 3) hx hb hg i_MF t_MF o_MF n_MF hown hK hP2 hD2 hS2 0 rfl rfl 0 (by decide) (hg _ k9_146) (fun _ h9 => h9) rfl hnm rfl (by decide +kernel) rfl rfl (Nat.le_of_ble_eq_true rfl) d_MF_init_13 (fun H3 locs3 hP3 hD3 hS3 => ?_)
  clear hP2 hD2 hS2
  refine lv_aload_n hx hb d_MF_init_16 rfl (lv_at hl 0 rfl) ?_
  refine va_new (ci := 19) (fs := [.null, .int 0]) (C := R_MW) (T := T_MW) (N := 2) hx hb hg i_MW t_MW o_MW hown (hg _ k9_128) (hg _ k9_129) (hg _ k1_20) hK hP3 hD3 hS3 hA rfl f_MW (Nat.le_of_ble_eq_true rfl) (by show _ ≤ 2 * N + 4; omega) d_MF_init_17 (fun q17 H4 hP4 hD4 hS4 => ?_)
  clear hP3 hD3 hS3
  refine lv_dup hx hb d_MF_init_20 rfl ?_
  refine lv_iload_n hx hb d_MF_init_21 rfl (lv_at hl 1 rfl) ?_
  refine zInit hP4 hD4 hS4 hA (va_runI (As := [.int (nI N)]) (rest := [.ref q17, .ref h0]) ⟨hx, hb, hml, hown, hg⟩ (c_MW_init l D tA q17 H4.size N hN) (cwI 1 hg (zGood k9_132 rfl) rfl rfl rfl (hg _ k1_20) (hg _ k9_130) (hg _ k9_131) rfl (by decide +kernel) ⟨(Nat.le_of_ble_eq_true rfl), (Nat.le_of_ble_eq_true rfl)⟩) (zPreI hh hK hP4 hD4) rfl rfl hl.1 rfl (lv_room (Nat.le_of_ble_eq_true rfl)) d_MF_init_22 ⟨(Nat.le_of_ble_eq_true rfl), by show _ ≤ 2 * N + 4; omega⟩) (fun u17 H5 locs5 _ hP5 hD5 hS5 => ?_)
  clear hP4 hD4 hS4
  refine va_putF (D := D) (ci := 18) (v := .ref q17) (ty := .object "ChanceArenaModel$Whole") (C := R_MF) (T := T_MF) (N := 3) hx hb hg i_MF t_MF o_MF n_MF hown hK hP5 hD5 hS5 0 rfl rfl 1 (by decide) (hg _ k9_149) (fun _ h9 => h9) rfl hnm rfl (by decide +kernel) rfl rfl (Nat.le_of_ble_eq_true rfl) d_MF_init_25 (fun H6 locs6 hP6 hD6 hS6 => ?_)
  clear hP5 hD5 hS5
  replace hP6 : va_P D vwCl [(h0, .inr (18, [.ref q5, .ref q17, .int 0])), (q5, .inr (19, [.ref u5, .int (nI 0)])), (u5, .inl (tA 0, N, .inl (fun _ => 0))), (q17, .inr (19, [.ref u17, .int (nI 0)])), (u17, .inl (tA 0, N, .inl (fun _ => 0)))] _ := hP6
  replace hD6 : va_D A [(h0, .inr (18, [.ref q5, .ref q17, .int 0])), (q5, .inr (19, [.ref u5, .int (nI 0)])), (u5, .inl (tA 0, N, .inl (fun _ => 0))), (q17, .inr (19, [.ref u17, .int (nI 0)])), (u17, .inl (tA 0, N, .inl (fun _ => 0)))] := hD6
  refine lv_aload_n hx hb d_MF_init_28 rfl (lv_at hl 0 rfl) ?_
  refine va_get (D := D) (ci := 18) (v := .ref q17) (C := R_MF) (T := T_MF) (N := 3) hx hb hg i_MF hown hK hP6 0 rfl rfl 1 (by decide) (hg _ k9_149) (fun _ h9 => h9) rfl d_MF_init_29 ?_
  refine lv_lconst (v := lN 1) hx hb d_MF_init_32 rfl ?_
  refine zCallv (wc := [(q17, .inr (19, [.ref u17, .int (nI 0)])), (u17, .inl (tA 0, N, .inl (fun _ => 0)))]) (wr := [(h0, .inr (18, [.ref q5, .ref q17, .int 0])), (q5, .inr (19, [.ref u5, .int (nI 0)])), (u5, .inl (tA 0, N, .inl (fun _ => 0)))]) hP6 hD6 hS6 hA [3, 4] [0, 1, 2] rfl rfl (by decide) (by decide) (va_runV (As := [.long (lN 1)]) (rest := []) ⟨hx, hb, hml, hown, hg⟩ (c_MW_set l D tA q17 u17 H6.size 1 N (by decide) hN3 hN (nI 0) (fun _ => 0)) (zV 1 hg k9_141 k9_142 k9_143 k1_20 k9_144 rfl rfl (by decide +kernel) ⟨(Nat.le_of_ble_eq_true rfl), (Nat.le_of_ble_eq_true rfl)⟩) (zPreV hh hK hP6 hD6 [3, 4] (by decide) rfl (ci := 19) rfl 0 rfl) rfl rfl hl.1 rfl (lv_room (Nat.le_of_ble_eq_true rfl)) d_MF_init_33 ⟨(Nat.le_of_ble_eq_true rfl), by show _ ≤ 2 * N + 4; omega⟩) (fun u H7 locs7 hw hP7 hD7 hS7 => ?_)
  clear hP6 hD6 hS6
  obtain ⟨n1, g1⟩ := u
  obtain ⟨rfl, rfl⟩ := MWset_one hw
  refine W.cs (cells' := 4) (slots' := 2 * N + 4) rfl (by omega) ?_
  exact zVret hx hb hr hlocks hP7 hD7 hS7 (q5, u5, q17, u17) trivial rfl d_MF_init_36
end
section
theorem k1_19 : (Jvm.Cond.initialized "ChanceArenaModel$Fraction") ∈ lw_R := zR (zk_1 _ (List.mem_of_getElem? (i := 19) (by decide +kernel))) rfl
theorem k9_120 : (Jvm.Cond.code ({ cls := "ChanceArenaModel$Sums", name := "<init>", desc := "()V" } : Jvm.MethodName) prog_20_method_1_code (1 : Nat) (Option.none : Option Jvm.ClassFile.FieldType)) ∈ lw_R := zR (zk_9 _ (List.mem_of_getElem? (i := 120) (by decide +kernel))) rfl
theorem k9_121 : (Jvm.Cond.methodLink "ChanceArenaModel$Sums" (1 : Nat) ({ cls := "java/lang/Object", name := "<init>", desc := "()V" } : Jvm.MethodName)) ∈ lw_R := zR (zk_9 _ (List.mem_of_getElem? (i := 121) (by decide +kernel))) rfl
theorem k9_122 : (Jvm.Cond.classLink "ChanceArenaModel$Sums" (7 : Nat) "ChanceArenaModel$Fraction") ∈ lw_R := zR (zk_9 _ (List.mem_of_getElem? (i := 122) (by decide +kernel))) rfl
theorem k9_123 : (Jvm.Cond.instantiable "ChanceArenaModel$Fraction" (3 : Nat)) ∈ lw_R := zR (zk_9 _ (List.mem_of_getElem? (i := 123) (by decide +kernel))) rfl
theorem k9_124 : (Jvm.Cond.methodLink "ChanceArenaModel$Sums" (11 : Nat) ({ cls := "ChanceArenaModel$Fraction", name := "<init>", desc := "(I)V" } : Jvm.MethodName)) ∈ lw_R := zR (zk_9 _ (List.mem_of_getElem? (i := 124) (by decide +kernel))) rfl
theorem k9_125 : (Jvm.Cond.instanceMethod ({ cls := "ChanceArenaModel$Fraction", name := "<init>", desc := "(I)V" } : Jvm.MethodName)) ∈ lw_R := zR (zk_9 _ (List.mem_of_getElem? (i := 125) (by decide +kernel))) rfl
theorem k9_161 : (Jvm.Cond.classLink "ChanceArenaModel$Sums" (21 : Nat) "ChanceArenaModel$Whole") ∈ lw_R := zR (zk_9 _ (List.mem_of_getElem? (i := 161) (by decide +kernel))) rfl
theorem k9_162 : (Jvm.Cond.methodLink "ChanceArenaModel$Sums" (23 : Nat) ({ cls := "ChanceArenaModel$Whole", name := "<init>", desc := "(I)V" } : Jvm.MethodName)) ∈ lw_R := zR (zk_9 _ (List.mem_of_getElem? (i := 162) (by decide +kernel))) rfl
theorem k9_163 : (Jvm.Cond.fieldLink "ChanceArenaModel$Sums" (14 : Nat) "ChanceArenaModel$Sums" "made" "LChanceArenaModel$Fraction;") ∈ lw_R := zR (zk_9 _ (List.mem_of_getElem? (i := 163) (by decide +kernel))) rfl
theorem k9_165 : (Jvm.Cond.fieldLink "ChanceArenaModel$Sums" (18 : Nat) "ChanceArenaModel$Sums" "sum" "LChanceArenaModel$Fraction;") ∈ lw_R := zR (zk_9 _ (List.mem_of_getElem? (i := 165) (by decide +kernel))) rfl
theorem k9_166 : (Jvm.Cond.fieldLink "ChanceArenaModel$Sums" (24 : Nat) "ChanceArenaModel$Sums" "x" "LChanceArenaModel$Whole;") ∈ lw_R := zR (zk_9 _ (List.mem_of_getElem? (i := 166) (by decide +kernel))) rfl
theorem k9_167 : (Jvm.Cond.fieldLink "ChanceArenaModel$Sums" (28 : Nat) "ChanceArenaModel$Sums" "y" "LChanceArenaModel$Whole;") ∈ lw_R := zR (zk_9 _ (List.mem_of_getElem? (i := 167) (by decide +kernel))) rfl
theorem k9_168 : (Jvm.Cond.fieldLink "ChanceArenaModel$Sums" (31 : Nat) "ChanceArenaModel$Sums" "z" "LChanceArenaModel$Whole;") ∈ lw_R := zR (zk_9 _ (List.mem_of_getElem? (i := 168) (by decide +kernel))) rfl
theorem k9_169 : (Jvm.Cond.fieldLink "ChanceArenaModel$Sums" (34 : Nat) "ChanceArenaModel$Sums" "quotient" "LChanceArenaModel$Whole;") ∈ lw_R := zR (zk_9 _ (List.mem_of_getElem? (i := 169) (by decide +kernel))) rfl
theorem k9_170 : (Jvm.Cond.fieldLink "ChanceArenaModel$Sums" (37 : Nat) "ChanceArenaModel$Sums" "rest" "LChanceArenaModel$Whole;") ∈ lw_R := zR (zk_9 _ (List.mem_of_getElem? (i := 170) (by decide +kernel))) rfl
theorem d_MU_init_0 : decode prog_20_method_1_code 0 = .ok (.aload_n 0, 1) := by decide +kernel
theorem d_MU_init_1 : decode prog_20_method_1_code 1 = .ok (.invokespecial 1, 3) := by decide +kernel
theorem d_MU_init_4 : decode prog_20_method_1_code 4 = .ok (.aload_n 0, 1) := by decide +kernel
theorem d_MU_init_5 : decode prog_20_method_1_code 5 = .ok (.new 7, 3) := by decide +kernel
theorem d_MU_init_8 : decode prog_20_method_1_code 8 = .ok (.dup, 1) := by decide +kernel
theorem d_MU_init_9 : decode prog_20_method_1_code 9 = .ok (.sipush 900, 3) := by decide +kernel
theorem d_MU_init_12 : decode prog_20_method_1_code 12 = .ok (.invokespecial 11, 3) := by decide +kernel
theorem d_MU_init_15 : decode prog_20_method_1_code 15 = .ok (.putfield 14, 3) := by decide +kernel
theorem d_MU_init_18 : decode prog_20_method_1_code 18 = .ok (.aload_n 0, 1) := by decide +kernel
theorem d_MU_init_19 : decode prog_20_method_1_code 19 = .ok (.new 7, 3) := by decide +kernel
theorem d_MU_init_22 : decode prog_20_method_1_code 22 = .ok (.dup, 1) := by decide +kernel
theorem d_MU_init_23 : decode prog_20_method_1_code 23 = .ok (.sipush 900, 3) := by decide +kernel
theorem d_MU_init_26 : decode prog_20_method_1_code 26 = .ok (.invokespecial 11, 3) := by decide +kernel
theorem d_MU_init_29 : decode prog_20_method_1_code 29 = .ok (.putfield 18, 3) := by decide +kernel
theorem d_MU_init_32 : decode prog_20_method_1_code 32 = .ok (.aload_n 0, 1) := by decide +kernel
theorem d_MU_init_33 : decode prog_20_method_1_code 33 = .ok (.new 21, 3) := by decide +kernel
theorem d_MU_init_36 : decode prog_20_method_1_code 36 = .ok (.dup, 1) := by decide +kernel
theorem d_MU_init_37 : decode prog_20_method_1_code 37 = .ok (.sipush 900, 3) := by decide +kernel
theorem d_MU_init_40 : decode prog_20_method_1_code 40 = .ok (.invokespecial 23, 3) := by decide +kernel
theorem d_MU_init_43 : decode prog_20_method_1_code 43 = .ok (.putfield 24, 3) := by decide +kernel
theorem d_MU_init_46 : decode prog_20_method_1_code 46 = .ok (.aload_n 0, 1) := by decide +kernel
theorem d_MU_init_47 : decode prog_20_method_1_code 47 = .ok (.new 21, 3) := by decide +kernel
theorem d_MU_init_50 : decode prog_20_method_1_code 50 = .ok (.dup, 1) := by decide +kernel
theorem d_MU_init_51 : decode prog_20_method_1_code 51 = .ok (.sipush 900, 3) := by decide +kernel
theorem d_MU_init_54 : decode prog_20_method_1_code 54 = .ok (.invokespecial 23, 3) := by decide +kernel
theorem d_MU_init_57 : decode prog_20_method_1_code 57 = .ok (.putfield 28, 3) := by decide +kernel
theorem d_MU_init_60 : decode prog_20_method_1_code 60 = .ok (.aload_n 0, 1) := by decide +kernel
theorem d_MU_init_61 : decode prog_20_method_1_code 61 = .ok (.new 21, 3) := by decide +kernel
theorem d_MU_init_64 : decode prog_20_method_1_code 64 = .ok (.dup, 1) := by decide +kernel
theorem d_MU_init_65 : decode prog_20_method_1_code 65 = .ok (.sipush 900, 3) := by decide +kernel
theorem d_MU_init_68 : decode prog_20_method_1_code 68 = .ok (.invokespecial 23, 3) := by decide +kernel
theorem d_MU_init_71 : decode prog_20_method_1_code 71 = .ok (.putfield 31, 3) := by decide +kernel
theorem d_MU_init_74 : decode prog_20_method_1_code 74 = .ok (.aload_n 0, 1) := by decide +kernel
theorem d_MU_init_75 : decode prog_20_method_1_code 75 = .ok (.new 21, 3) := by decide +kernel
theorem d_MU_init_78 : decode prog_20_method_1_code 78 = .ok (.dup, 1) := by decide +kernel
theorem d_MU_init_79 : decode prog_20_method_1_code 79 = .ok (.sipush 900, 3) := by decide +kernel
theorem d_MU_init_82 : decode prog_20_method_1_code 82 = .ok (.invokespecial 23, 3) := by decide +kernel
theorem d_MU_init_85 : decode prog_20_method_1_code 85 = .ok (.putfield 34, 3) := by decide +kernel
theorem d_MU_init_88 : decode prog_20_method_1_code 88 = .ok (.aload_n 0, 1) := by decide +kernel
theorem d_MU_init_89 : decode prog_20_method_1_code 89 = .ok (.new 21, 3) := by decide +kernel
theorem d_MU_init_92 : decode prog_20_method_1_code 92 = .ok (.dup, 1) := by decide +kernel
theorem d_MU_init_93 : decode prog_20_method_1_code 93 = .ok (.sipush 900, 3) := by decide +kernel
theorem d_MU_init_96 : decode prog_20_method_1_code 96 = .ok (.invokespecial 23, 3) := by decide +kernel
theorem d_MU_init_99 : decode prog_20_method_1_code 99 = .ok (.putfield 37, 3) := by decide +kernel
theorem d_MU_init_102 : decode prog_20_method_1_code 102 = .ok (.return_, 1) := by decide +kernel
abbrev S_MU : Type := (Nat × (Nat × Nat × Nat × Nat)) × (Nat × (Nat × Nat × Nat × Nat)) × (Nat × Nat) × (Nat × Nat) × (Nat × Nat) × (Nat × Nat) × (Nat × Nat)
def w_MU (tA : Nat → ClassId) (h0 : Nat) (u : S_MU) : va_W := match u with
  | ((q5, u5), (q19, u19), (q33, u33), (q47, u47), (q61, u61), (q75, u75), (q89, u89)) => (h0, .inr (17, [.ref q5, .ref q19, .ref q33, .ref q47, .ref q61, .ref q75, .ref q89])) :: ([] ++ w_MF tA q5 900 u5 ++ w_MF tA q19 900 u19 ++ w_MW tA q33 900 u33 0 (fun _ => 0) ++ w_MW tA q47 900 u47 0 (fun _ => 0) ++ w_MW tA q61 900 u61 0 (fun _ => 0) ++ w_MW tA q75 900 u75 0 (fun _ => 0) ++ w_MW tA q89 900 u89 0 (fun _ => 0))
theorem f_MU : ∀ j, j < 7 → defaultValue (t_MU j) = vp_V [.null, .null, .null, .null, .null, .null, .null] j := by decide +kernel
set_option maxHeartbeats 4000000 in
set_option maxRecDepth 100000 in
theorem c_MU_init (l : Launch) (D : va_G) (tA : Nat → ClassId) (h0 sz : Nat) : zMv l ({ cls := "ChanceArenaModel$Sums", name := "<init>", desc := "()V" } : Jvm.MethodName) (zW (Jvm.Cond.code ({ cls := "ChanceArenaModel$Sums", name := "<init>", desc := "()V" } : Jvm.MethodName) prog_20_method_1_code (1 : Nat) (Option.none : Option Jvm.ClassFile.FieldType))) { frames := 3, cells := 20, slots := 8124, locals := 61 } [.ref h0] D tA [(h0, .inr (17, [.null, .null, .null, .null, .null, .null, .null]))] sz (fun _ : S_MU => True) (w_MU tA h0) 20 8124 := by
  refine zOpen (fun A => va_Qv _ (zPost D A (w_MU tA h0)) A) (lv := [(0, .ref h0)]) (by decide) rfl (Nat.le_of_ble_eq_true rfl) rfl ?_
  intro p e s m below meth c A ls hx hb hr hml hh hg hown hlocks hnm hK hA hP hD0 hAw hS hl
  have hD := zD hD0 hAw
  refine lv_aload_n hx hb d_MU_init_0 rfl (lv_at hl 0 rfl) ?_
  refine W.objInit hx hb hown (hg _ k9_121) (hg _ k1_46) (hg _ k1_47) rfl (by rw [hml]; exact hl.1) rfl d_MU_init_1 (Nat.le_of_ble_eq_true rfl) (Nat.le_of_ble_eq_true rfl) ?_
  refine lv_aload_n hx hb d_MU_init_4 rfl (lv_at hl 0 rfl) ?_
  refine va_new (ci := 18) (fs := [.null, .null, .int 0]) (C := R_MF) (T := T_MF) (N := 3) hx hb hg i_MF t_MF o_MF hown (hg _ k9_122) (hg _ k9_123) (hg _ k1_19) hK hP hD hS hA rfl f_MF (Nat.le_of_ble_eq_true rfl) (Nat.le_of_ble_eq_true rfl) d_MU_init_5 (fun q5 H1 hP1 hD1 hS1 => ?_)
  clear hP hD hS
  refine lv_dup hx hb d_MU_init_8 rfl ?_
  refine lv_sipush (v := 900) hx hb d_MU_init_9 (by decide) ?_
  refine zInit hP1 hD1 hS1 hA (va_runI (As := [.int (nI 900)]) (rest := [.ref q5, .ref h0]) ⟨hx, hb, hml, hown, hg⟩ (c_MF_init l D tA q5 H1.size 900 (by decide) (by decide)) (cwI 1 hg (zGood k9_126 rfl) rfl rfl rfl (hg _ k1_19) (hg _ k9_124) (hg _ k9_125) rfl (by decide +kernel) ⟨(Nat.le_of_ble_eq_true rfl), (Nat.le_of_ble_eq_true rfl)⟩) (zPreI hh hK hP1 hD1) rfl rfl hl.1 rfl (lv_room (Nat.le_of_ble_eq_true rfl)) d_MU_init_12 ⟨(Nat.le_of_ble_eq_true rfl), (Nat.le_of_ble_eq_true rfl)⟩) (fun u5 H2 locs2 _ hP2 hD2 hS2 => ?_)
  clear hP1 hD1 hS1
  refine zCons (fun T12 e12 hP3 hD3 => ?_) hP2 hD2
  clear hP2 hD2
  refine va_putF (D := D) (ci := 17) (v := .ref q5) (ty := .object "ChanceArenaModel$Fraction") (C := R_MU) (T := T_MU) (N := 7) hx hb hg i_MU t_MU o_MU n_MU hown hK hP3 hD3 hS2 0 rfl rfl 0 (by decide) (hg _ k9_163) (fun _ h9 => h9) rfl hnm rfl (by decide +kernel) rfl rfl (Nat.le_of_ble_eq_true rfl) d_MU_init_15 (fun H4 locs4 hP4 hD4 hS4 => ?_)
  clear hP3 hD3 hS2
  replace hP4 : va_P D vwCl ((h0, .inr (17, [.ref q5, .null, .null, .null, .null, .null, .null])) :: T12) _ := hP4
  replace hD4 : va_D A ((h0, .inr (17, [.ref q5, .null, .null, .null, .null, .null, .null])) :: T12) := hD4
  refine lv_aload_n hx hb d_MU_init_18 rfl (lv_at hl 0 rfl) ?_
  refine va_new (ci := 18) (fs := [.null, .null, .int 0]) (C := R_MF) (T := T_MF) (N := 3) hx hb hg i_MF t_MF o_MF hown (hg _ k9_122) (hg _ k9_123) (hg _ k1_19) hK hP4 hD4 hS4 hA rfl f_MF (Nat.le_of_ble_eq_true rfl) (Nat.le_of_ble_eq_true rfl) d_MU_init_19 (fun q19 H5 hP5 hD5 hS5 => ?_)
  clear hP4 hD4 hS4
  refine lv_dup hx hb d_MU_init_22 rfl ?_
  refine lv_sipush (v := 900) hx hb d_MU_init_23 (by decide) ?_
  refine zInit hP5 hD5 hS5 hA (va_runI (As := [.int (nI 900)]) (rest := [.ref q19, .ref h0]) ⟨hx, hb, hml, hown, hg⟩ (c_MF_init l D tA q19 H5.size 900 (by decide) (by decide)) (cwI 1 hg (zGood k9_126 rfl) rfl rfl rfl (hg _ k1_19) (hg _ k9_124) (hg _ k9_125) rfl (by decide +kernel) ⟨(Nat.le_of_ble_eq_true rfl), (Nat.le_of_ble_eq_true rfl)⟩) (zPreI hh hK hP5 hD5) rfl rfl hl.1 rfl (lv_room (Nat.le_of_ble_eq_true rfl)) d_MU_init_26 ⟨(Nat.le_of_ble_eq_true rfl), (Nat.le_of_ble_eq_true rfl)⟩) (fun u19 H6 locs6 _ hP6 hD6 hS6 => ?_)
  clear hP5 hD5 hS5
  refine zCons (fun T26 e26 hP7 hD7 => ?_) hP6 hD6
  clear hP6 hD6
  refine va_putF (D := D) (ci := 17) (v := .ref q19) (ty := .object "ChanceArenaModel$Fraction") (C := R_MU) (T := T_MU) (N := 7) hx hb hg i_MU t_MU o_MU n_MU hown hK hP7 hD7 hS6 0 rfl rfl 1 (by decide) (hg _ k9_165) (fun _ h9 => h9) rfl hnm rfl (by decide +kernel) rfl rfl (Nat.le_of_ble_eq_true rfl) d_MU_init_29 (fun H8 locs8 hP8 hD8 hS8 => ?_)
  clear hP7 hD7 hS6
  replace hP8 : va_P D vwCl ((h0, .inr (17, [.ref q5, .ref q19, .null, .null, .null, .null, .null])) :: T26) _ := hP8
  replace hD8 : va_D A ((h0, .inr (17, [.ref q5, .ref q19, .null, .null, .null, .null, .null])) :: T26) := hD8
  refine lv_aload_n hx hb d_MU_init_32 rfl (lv_at hl 0 rfl) ?_
  refine va_new (ci := 19) (fs := [.null, .int 0]) (C := R_MW) (T := T_MW) (N := 2) hx hb hg i_MW t_MW o_MW hown (hg _ k9_161) (hg _ k9_129) (hg _ k1_20) hK hP8 hD8 hS8 hA rfl f_MW (Nat.le_of_ble_eq_true rfl) (Nat.le_of_ble_eq_true rfl) d_MU_init_33 (fun q33 H9 hP9 hD9 hS9 => ?_)
  clear hP8 hD8 hS8
  refine lv_dup hx hb d_MU_init_36 rfl ?_
  refine lv_sipush (v := 900) hx hb d_MU_init_37 (by decide) ?_
  refine zInit hP9 hD9 hS9 hA (va_runI (As := [.int (nI 900)]) (rest := [.ref q33, .ref h0]) ⟨hx, hb, hml, hown, hg⟩ (c_MW_init l D tA q33 H9.size 900 (by decide)) (cwI 1 hg (zGood k9_132 rfl) rfl rfl rfl (hg _ k1_20) (hg _ k9_162) (hg _ k9_131) rfl (by decide +kernel) ⟨(Nat.le_of_ble_eq_true rfl), (Nat.le_of_ble_eq_true rfl)⟩) (zPreI hh hK hP9 hD9) rfl rfl hl.1 rfl (lv_room (Nat.le_of_ble_eq_true rfl)) d_MU_init_40 ⟨(Nat.le_of_ble_eq_true rfl), (Nat.le_of_ble_eq_true rfl)⟩) (fun u33 H10 locs10 _ hP10 hD10 hS10 => ?_)
  clear hP9 hD9 hS9
  refine zCons (fun T40 e40 hP11 hD11 => ?_) hP10 hD10
  clear hP10 hD10
  refine va_putF (D := D) (ci := 17) (v := .ref q33) (ty := .object "ChanceArenaModel$Whole") (C := R_MU) (T := T_MU) (N := 7) hx hb hg i_MU t_MU o_MU n_MU hown hK hP11 hD11 hS10 0 rfl rfl 2 (by decide) (hg _ k9_166) (fun _ h9 => h9) rfl hnm rfl (by decide +kernel) rfl rfl (Nat.le_of_ble_eq_true rfl) d_MU_init_43 (fun H12 locs12 hP12 hD12 hS12 => ?_)
  clear hP11 hD11 hS10
  replace hP12 : va_P D vwCl ((h0, .inr (17, [.ref q5, .ref q19, .ref q33, .null, .null, .null, .null])) :: T40) _ := hP12
  replace hD12 : va_D A ((h0, .inr (17, [.ref q5, .ref q19, .ref q33, .null, .null, .null, .null])) :: T40) := hD12
  refine lv_aload_n hx hb d_MU_init_46 rfl (lv_at hl 0 rfl) ?_
  refine va_new (ci := 19) (fs := [.null, .int 0]) (C := R_MW) (T := T_MW) (N := 2) hx hb hg i_MW t_MW o_MW hown (hg _ k9_161) (hg _ k9_129) (hg _ k1_20) hK hP12 hD12 hS12 hA rfl f_MW (Nat.le_of_ble_eq_true rfl) (Nat.le_of_ble_eq_true rfl) d_MU_init_47 (fun q47 H13 hP13 hD13 hS13 => ?_)
  clear hP12 hD12 hS12
  refine lv_dup hx hb d_MU_init_50 rfl ?_
  refine lv_sipush (v := 900) hx hb d_MU_init_51 (by decide) ?_
  refine zInit hP13 hD13 hS13 hA (va_runI (As := [.int (nI 900)]) (rest := [.ref q47, .ref h0]) ⟨hx, hb, hml, hown, hg⟩ (c_MW_init l D tA q47 H13.size 900 (by decide)) (cwI 1 hg (zGood k9_132 rfl) rfl rfl rfl (hg _ k1_20) (hg _ k9_162) (hg _ k9_131) rfl (by decide +kernel) ⟨(Nat.le_of_ble_eq_true rfl), (Nat.le_of_ble_eq_true rfl)⟩) (zPreI hh hK hP13 hD13) rfl rfl hl.1 rfl (lv_room (Nat.le_of_ble_eq_true rfl)) d_MU_init_54 ⟨(Nat.le_of_ble_eq_true rfl), (Nat.le_of_ble_eq_true rfl)⟩) (fun u47 H14 locs14 _ hP14 hD14 hS14 => ?_)
  clear hP13 hD13 hS13
  refine zCons (fun T54 e54 hP15 hD15 => ?_) hP14 hD14
  clear hP14 hD14
  refine va_putF (D := D) (ci := 17) (v := .ref q47) (ty := .object "ChanceArenaModel$Whole") (C := R_MU) (T := T_MU) (N := 7) hx hb hg i_MU t_MU o_MU n_MU hown hK hP15 hD15 hS14 0 rfl rfl 3 (by decide) (hg _ k9_167) (fun _ h9 => h9) rfl hnm rfl (by decide +kernel) rfl rfl (Nat.le_of_ble_eq_true rfl) d_MU_init_57 (fun H16 locs16 hP16 hD16 hS16 => ?_)
  clear hP15 hD15 hS14
  replace hP16 : va_P D vwCl ((h0, .inr (17, [.ref q5, .ref q19, .ref q33, .ref q47, .null, .null, .null])) :: T54) _ := hP16
  replace hD16 : va_D A ((h0, .inr (17, [.ref q5, .ref q19, .ref q33, .ref q47, .null, .null, .null])) :: T54) := hD16
  refine lv_aload_n hx hb d_MU_init_60 rfl (lv_at hl 0 rfl) ?_
  refine va_new (ci := 19) (fs := [.null, .int 0]) (C := R_MW) (T := T_MW) (N := 2) hx hb hg i_MW t_MW o_MW hown (hg _ k9_161) (hg _ k9_129) (hg _ k1_20) hK hP16 hD16 hS16 hA rfl f_MW (Nat.le_of_ble_eq_true rfl) (Nat.le_of_ble_eq_true rfl) d_MU_init_61 (fun q61 H17 hP17 hD17 hS17 => ?_)
  clear hP16 hD16 hS16
  refine lv_dup hx hb d_MU_init_64 rfl ?_
  refine lv_sipush (v := 900) hx hb d_MU_init_65 (by decide) ?_
  refine zInit hP17 hD17 hS17 hA (va_runI (As := [.int (nI 900)]) (rest := [.ref q61, .ref h0]) ⟨hx, hb, hml, hown, hg⟩ (c_MW_init l D tA q61 H17.size 900 (by decide)) (cwI 1 hg (zGood k9_132 rfl) rfl rfl rfl (hg _ k1_20) (hg _ k9_162) (hg _ k9_131) rfl (by decide +kernel) ⟨(Nat.le_of_ble_eq_true rfl), (Nat.le_of_ble_eq_true rfl)⟩) (zPreI hh hK hP17 hD17) rfl rfl hl.1 rfl (lv_room (Nat.le_of_ble_eq_true rfl)) d_MU_init_68 ⟨(Nat.le_of_ble_eq_true rfl), (Nat.le_of_ble_eq_true rfl)⟩) (fun u61 H18 locs18 _ hP18 hD18 hS18 => ?_)
  clear hP17 hD17 hS17
  refine zCons (fun T68 e68 hP19 hD19 => ?_) hP18 hD18
  clear hP18 hD18
  refine va_putF (D := D) (ci := 17) (v := .ref q61) (ty := .object "ChanceArenaModel$Whole") (C := R_MU) (T := T_MU) (N := 7) hx hb hg i_MU t_MU o_MU n_MU hown hK hP19 hD19 hS18 0 rfl rfl 4 (by decide) (hg _ k9_168) (fun _ h9 => h9) rfl hnm rfl (by decide +kernel) rfl rfl (Nat.le_of_ble_eq_true rfl) d_MU_init_71 (fun H20 locs20 hP20 hD20 hS20 => ?_)
  clear hP19 hD19 hS18
  replace hP20 : va_P D vwCl ((h0, .inr (17, [.ref q5, .ref q19, .ref q33, .ref q47, .ref q61, .null, .null])) :: T68) _ := hP20
  replace hD20 : va_D A ((h0, .inr (17, [.ref q5, .ref q19, .ref q33, .ref q47, .ref q61, .null, .null])) :: T68) := hD20
  refine lv_aload_n hx hb d_MU_init_74 rfl (lv_at hl 0 rfl) ?_
  refine va_new (ci := 19) (fs := [.null, .int 0]) (C := R_MW) (T := T_MW) (N := 2) hx hb hg i_MW t_MW o_MW hown (hg _ k9_161) (hg _ k9_129) (hg _ k1_20) hK hP20 hD20 hS20 hA rfl f_MW (Nat.le_of_ble_eq_true rfl) (Nat.le_of_ble_eq_true rfl) d_MU_init_75 (fun q75 H21 hP21 hD21 hS21 => ?_)
  clear hP20 hD20 hS20
  refine lv_dup hx hb d_MU_init_78 rfl ?_
  refine lv_sipush (v := 900) hx hb d_MU_init_79 (by decide) ?_
  refine zInit hP21 hD21 hS21 hA (va_runI (As := [.int (nI 900)]) (rest := [.ref q75, .ref h0]) ⟨hx, hb, hml, hown, hg⟩ (c_MW_init l D tA q75 H21.size 900 (by decide)) (cwI 1 hg (zGood k9_132 rfl) rfl rfl rfl (hg _ k1_20) (hg _ k9_162) (hg _ k9_131) rfl (by decide +kernel) ⟨(Nat.le_of_ble_eq_true rfl), (Nat.le_of_ble_eq_true rfl)⟩) (zPreI hh hK hP21 hD21) rfl rfl hl.1 rfl (lv_room (Nat.le_of_ble_eq_true rfl)) d_MU_init_82 ⟨(Nat.le_of_ble_eq_true rfl), (Nat.le_of_ble_eq_true rfl)⟩) (fun u75 H22 locs22 _ hP22 hD22 hS22 => ?_)
  clear hP21 hD21 hS21
  refine zCons (fun T82 e82 hP23 hD23 => ?_) hP22 hD22
  clear hP22 hD22
  refine va_putF (D := D) (ci := 17) (v := .ref q75) (ty := .object "ChanceArenaModel$Whole") (C := R_MU) (T := T_MU) (N := 7) hx hb hg i_MU t_MU o_MU n_MU hown hK hP23 hD23 hS22 0 rfl rfl 5 (by decide) (hg _ k9_169) (fun _ h9 => h9) rfl hnm rfl (by decide +kernel) rfl rfl (Nat.le_of_ble_eq_true rfl) d_MU_init_85 (fun H24 locs24 hP24 hD24 hS24 => ?_)
  clear hP23 hD23 hS22
  replace hP24 : va_P D vwCl ((h0, .inr (17, [.ref q5, .ref q19, .ref q33, .ref q47, .ref q61, .ref q75, .null])) :: T82) _ := hP24
  replace hD24 : va_D A ((h0, .inr (17, [.ref q5, .ref q19, .ref q33, .ref q47, .ref q61, .ref q75, .null])) :: T82) := hD24
  refine lv_aload_n hx hb d_MU_init_88 rfl (lv_at hl 0 rfl) ?_
  refine va_new (ci := 19) (fs := [.null, .int 0]) (C := R_MW) (T := T_MW) (N := 2) hx hb hg i_MW t_MW o_MW hown (hg _ k9_161) (hg _ k9_129) (hg _ k1_20) hK hP24 hD24 hS24 hA rfl f_MW (Nat.le_of_ble_eq_true rfl) (Nat.le_of_ble_eq_true rfl) d_MU_init_89 (fun q89 H25 hP25 hD25 hS25 => ?_)
  clear hP24 hD24 hS24
  refine lv_dup hx hb d_MU_init_92 rfl ?_
  refine lv_sipush (v := 900) hx hb d_MU_init_93 (by decide) ?_
  refine zInit hP25 hD25 hS25 hA (va_runI (As := [.int (nI 900)]) (rest := [.ref q89, .ref h0]) ⟨hx, hb, hml, hown, hg⟩ (c_MW_init l D tA q89 H25.size 900 (by decide)) (cwI 1 hg (zGood k9_132 rfl) rfl rfl rfl (hg _ k1_20) (hg _ k9_162) (hg _ k9_131) rfl (by decide +kernel) ⟨(Nat.le_of_ble_eq_true rfl), (Nat.le_of_ble_eq_true rfl)⟩) (zPreI hh hK hP25 hD25) rfl rfl hl.1 rfl (lv_room (Nat.le_of_ble_eq_true rfl)) d_MU_init_96 ⟨(Nat.le_of_ble_eq_true rfl), (Nat.le_of_ble_eq_true rfl)⟩) (fun u89 H26 locs26 _ hP26 hD26 hS26 => ?_)
  clear hP25 hD25 hS25
  refine zCons (fun T96 e96 hP27 hD27 => ?_) hP26 hD26
  clear hP26 hD26
  refine va_putF (D := D) (ci := 17) (v := .ref q89) (ty := .object "ChanceArenaModel$Whole") (C := R_MU) (T := T_MU) (N := 7) hx hb hg i_MU t_MU o_MU n_MU hown hK hP27 hD27 hS26 0 rfl rfl 6 (by decide) (hg _ k9_170) (fun _ h9 => h9) rfl hnm rfl (by decide +kernel) rfl rfl (Nat.le_of_ble_eq_true rfl) d_MU_init_99 (fun H28 locs28 hP28 hD28 hS28 => ?_)
  clear hP27 hD27 hS26
  replace hP28 : va_P D vwCl ((h0, .inr (17, [.ref q5, .ref q19, .ref q33, .ref q47, .ref q61, .ref q75, .ref q89])) :: T96) _ := hP28
  replace hD28 : va_D A ((h0, .inr (17, [.ref q5, .ref q19, .ref q33, .ref q47, .ref q61, .ref q75, .ref q89])) :: T96) := hD28
  refine W.cs (cells' := 20) (slots' := 8124) rfl rfl ?_
  exact zVret hx hb hr hlocks hP28 hD28 hS28 ((q5, u5), (q19, u19), (q33, u33), (q47, u47), (q61, u61), (q75, u75), (q89, u89)) trivial (by rw [e96, e82, e68, e54, e40, e26, e12]; rfl) d_MU_init_102
end
section
/-! The order of a world's cells doesn't matter. -/
theorem zPperm {D : va_G} {ws ws9 : va_W} {H : Heap} (h : ws.Perm ws9) (hP : va_P D vwCl ws H) : va_P D vwCl ws9 H := fun k q hk => by
  obtain ⟨i, hi⟩ := List.mem_iff_getElem?.mp (h.mem_iff.mpr (List.mem_iff_getElem?.mpr ⟨k, hk⟩))
  exact hP i q hi
theorem zDpw {A : Nat → Prop} {ws : va_W} : va_D A ws ↔ ws.Pairwise (fun a b => a.1 ≠ b.1) ∧ ∀ q ∈ ws, A q.1 := by
  constructor
  · intro h
    refine ⟨List.pairwise_iff_getElem.mpr (fun i j hi hj hij e => ?_), fun q hq => ?_⟩
    · have := h.1 i j ws[i] ws[j] (List.getElem?_eq_getElem hi) (List.getElem?_eq_getElem hj) e
      omega
    · obtain ⟨i, hi⟩ := List.mem_iff_getElem?.mp hq
      exact h.2 i q hi
  · intro h
    refine ⟨fun i j p q hi hj e => ?_, fun k q hk => h.2 q (List.mem_iff_getElem?.mpr ⟨k, hk⟩)⟩
    obtain ⟨li, ei⟩ := List.getElem?_eq_some_iff.mp hi
    obtain ⟨lj, ej⟩ := List.getElem?_eq_some_iff.mp hj
    have hp := List.pairwise_iff_getElem.mp h.1
    rcases Nat.lt_trichotomy i j with hij | hij | hij
    · exact absurd (by rw [ei, ej]; exact e) (hp i j li lj hij)
    · exact hij
    · exact absurd (by rw [ei, ej]; exact e.symm) (hp j i lj li hij)
theorem zDperm {A : Nat → Prop} {ws ws9 : va_W} (h : ws.Perm ws9) (hD : va_D A ws) : va_D A ws9 := by
  obtain ⟨h1, h2⟩ := zDpw.mp hD
  exact zDpw.mpr ⟨(h.pairwise_iff (fun hab => Ne.symm hab)).mp h1, fun q hq => h2 q (h.mem_iff.mpr hq)⟩
theorem zPull {G : Prop} {D : va_G} {A : Nat → Prop} {x a : Nat × va_E} {T : va_W} {H : Heap} (k : va_P D vwCl (x :: a :: T) H → va_D A (x :: a :: T) → G) (hP : va_P D vwCl ((x :: T) ++ [a]) H) (hD : va_D A ((x :: T) ++ [a])) : G := by
  have h : ((x :: T) ++ [a]).Perm (x :: a :: T) := (List.perm_append_singleton a (x :: T)).trans (List.Perm.swap x a T)
  exact k (zPperm h hP) (zDperm h hD)
theorem zCons1 {G : Prop} {D : va_G} {A : Nat → Prop} {x y0 : Nat × va_E} {T W1 : va_W} {H : Heap} (k : ∀ T9 : va_W, T9 = T ++ W1 → va_P D vwCl (x :: y0 ::  T9) H → va_D A (x :: y0 ::  T9) → G) (hP : va_P D vwCl ((x :: y0 ::  T) ++ W1) H) (hD : va_D A ((x :: y0 ::  T) ++ W1)) : G := k _ rfl hP hD
theorem zCons2 {G : Prop} {D : va_G} {A : Nat → Prop} {x y0 y1 : Nat × va_E} {T W1 : va_W} {H : Heap} (k : ∀ T9 : va_W, T9 = T ++ W1 → va_P D vwCl (x :: y0 :: y1 ::  T9) H → va_D A (x :: y0 :: y1 ::  T9) → G) (hP : va_P D vwCl ((x :: y0 :: y1 ::  T) ++ W1) H) (hD : va_D A ((x :: y0 :: y1 ::  T) ++ W1)) : G := k _ rfl hP hD
theorem zCons3 {G : Prop} {D : va_G} {A : Nat → Prop} {x y0 y1 y2 : Nat × va_E} {T W1 : va_W} {H : Heap} (k : ∀ T9 : va_W, T9 = T ++ W1 → va_P D vwCl (x :: y0 :: y1 :: y2 ::  T9) H → va_D A (x :: y0 :: y1 :: y2 ::  T9) → G) (hP : va_P D vwCl ((x :: y0 :: y1 :: y2 ::  T) ++ W1) H) (hD : va_D A ((x :: y0 :: y1 :: y2 ::  T) ++ W1)) : G := k _ rfl hP hD
theorem zCons4 {G : Prop} {D : va_G} {A : Nat → Prop} {x y0 y1 y2 y3 : Nat × va_E} {T W1 : va_W} {H : Heap} (k : ∀ T9 : va_W, T9 = T ++ W1 → va_P D vwCl (x :: y0 :: y1 :: y2 :: y3 ::  T9) H → va_D A (x :: y0 :: y1 :: y2 :: y3 ::  T9) → G) (hP : va_P D vwCl ((x :: y0 :: y1 :: y2 :: y3 ::  T) ++ W1) H) (hD : va_D A ((x :: y0 :: y1 :: y2 :: y3 ::  T) ++ W1)) : G := k _ rfl hP hD
end
section
theorem k1_18 : (Jvm.Cond.initialized "ChanceArenaModel$Sums") ∈ lw_R := zR (zk_1 _ (List.mem_of_getElem? (i := 18) (by decide +kernel))) rfl
theorem k9_114 : (Jvm.Cond.code ({ cls := "ChanceArenaModel$Solver", name := "<init>", desc := "()V" } : Jvm.MethodName) prog_19_method_1_code (3 : Nat) (Option.none : Option Jvm.ClassFile.FieldType)) ∈ lw_R := zR (zk_9 _ (List.mem_of_getElem? (i := 114) (by decide +kernel))) rfl
theorem k9_115 : (Jvm.Cond.methodLink "ChanceArenaModel$Solver" (1 : Nat) ({ cls := "java/lang/Object", name := "<init>", desc := "()V" } : Jvm.MethodName)) ∈ lw_R := zR (zk_9 _ (List.mem_of_getElem? (i := 115) (by decide +kernel))) rfl
theorem k9_116 : (Jvm.Cond.classLink "ChanceArenaModel$Solver" (7 : Nat) "ChanceArenaModel$Sums") ∈ lw_R := zR (zk_9 _ (List.mem_of_getElem? (i := 116) (by decide +kernel))) rfl
theorem k9_117 : (Jvm.Cond.instantiable "ChanceArenaModel$Sums" (7 : Nat)) ∈ lw_R := zR (zk_9 _ (List.mem_of_getElem? (i := 117) (by decide +kernel))) rfl
theorem k9_118 : (Jvm.Cond.methodLinkNest "ChanceArenaModel$Solver" (9 : Nat) ({ cls := "ChanceArenaModel$Sums", name := "<init>", desc := "()V" } : Jvm.MethodName) "ChanceArenaModel") ∈ lw_R := zR (zk_9 _ (List.mem_of_getElem? (i := 118) (by decide +kernel))) rfl
theorem k9_119 : (Jvm.Cond.instanceMethod ({ cls := "ChanceArenaModel$Sums", name := "<init>", desc := "()V" } : Jvm.MethodName)) ∈ lw_R := zR (zk_9 _ (List.mem_of_getElem? (i := 119) (by decide +kernel))) rfl
theorem k9_186 : (Jvm.Cond.classLink "ChanceArenaModel$Solver" (38 : Nat) "ChanceArenaModel$Fraction") ∈ lw_R := zR (zk_9 _ (List.mem_of_getElem? (i := 186) (by decide +kernel))) rfl
theorem k9_187 : (Jvm.Cond.arrayOver (Jvm.ClassFile.FieldType.object "ChanceArenaModel$Fraction")) ∈ lw_R := zR (zk_9 _ (List.mem_of_getElem? (i := 187) (by decide +kernel))) rfl
theorem k9_188 : (Jvm.Cond.methodLink "ChanceArenaModel$Solver" (81 : Nat) ({ cls := "ChanceArenaModel$Fraction", name := "<init>", desc := "(I)V" } : Jvm.MethodName)) ∈ lw_R := zR (zk_9 _ (List.mem_of_getElem? (i := 188) (by decide +kernel))) rfl
theorem k9_189 : (Jvm.Cond.fieldLink "ChanceArenaModel$Solver" (10 : Nat) "ChanceArenaModel$Solver" "sums" "LChanceArenaModel$Sums;") ∈ lw_R := zR (zk_9 _ (List.mem_of_getElem? (i := 189) (by decide +kernel))) rfl
theorem k9_193 : (Jvm.Cond.fieldLink "ChanceArenaModel$Solver" (16 : Nat) "ChanceArenaModel$Solver" "kinds" "[I") ∈ lw_R := zR (zk_9 _ (List.mem_of_getElem? (i := 193) (by decide +kernel))) rfl
theorem k9_194 : (Jvm.Cond.fieldLink "ChanceArenaModel$Solver" (20 : Nat) "ChanceArenaModel$Solver" "firstCommands" "[I") ∈ lw_R := zR (zk_9 _ (List.mem_of_getElem? (i := 194) (by decide +kernel))) rfl
theorem k9_195 : (Jvm.Cond.fieldLink "ChanceArenaModel$Solver" (23 : Nat) "ChanceArenaModel$Solver" "multiples" "[I") ∈ lw_R := zR (zk_9 _ (List.mem_of_getElem? (i := 195) (by decide +kernel))) rfl
theorem k9_196 : (Jvm.Cond.fieldLink "ChanceArenaModel$Solver" (26 : Nat) "ChanceArenaModel$Solver" "firstBranches" "[I") ∈ lw_R := zR (zk_9 _ (List.mem_of_getElem? (i := 196) (by decide +kernel))) rfl
theorem k9_197 : (Jvm.Cond.fieldLink "ChanceArenaModel$Solver" (29 : Nat) "ChanceArenaModel$Solver" "targets" "[I") ∈ lw_R := zR (zk_9 _ (List.mem_of_getElem? (i := 197) (by decide +kernel))) rfl
theorem k9_198 : (Jvm.Cond.fieldLink "ChanceArenaModel$Solver" (32 : Nat) "ChanceArenaModel$Solver" "ups" "[I") ∈ lw_R := zR (zk_9 _ (List.mem_of_getElem? (i := 198) (by decide +kernel))) rfl
theorem k9_199 : (Jvm.Cond.fieldLink "ChanceArenaModel$Solver" (35 : Nat) "ChanceArenaModel$Solver" "downs" "[I") ∈ lw_R := zR (zk_9 _ (List.mem_of_getElem? (i := 199) (by decide +kernel))) rfl
theorem k9_200 : (Jvm.Cond.fieldLink "ChanceArenaModel$Solver" (40 : Nat) "ChanceArenaModel$Solver" "fractions" "[LChanceArenaModel$Fraction;") ∈ lw_R := zR (zk_9 _ (List.mem_of_getElem? (i := 200) (by decide +kernel))) rfl
theorem k9_201 : (Jvm.Cond.fieldLink "ChanceArenaModel$Solver" (44 : Nat) "ChanceArenaModel$Solver" "has" "[Z") ∈ lw_R := zR (zk_9 _ (List.mem_of_getElem? (i := 201) (by decide +kernel))) rfl
theorem k9_202 : (Jvm.Cond.fieldLink "ChanceArenaModel$Solver" (48 : Nat) "ChanceArenaModel$Solver" "next" "[LChanceArenaModel$Fraction;") ∈ lw_R := zR (zk_9 _ (List.mem_of_getElem? (i := 202) (by decide +kernel))) rfl
theorem k9_203 : (Jvm.Cond.fieldLink "ChanceArenaModel$Solver" (51 : Nat) "ChanceArenaModel$Solver" "told" "[I") ∈ lw_R := zR (zk_9 _ (List.mem_of_getElem? (i := 203) (by decide +kernel))) rfl
theorem k9_204 : (Jvm.Cond.fieldLink "ChanceArenaModel$Solver" (54 : Nat) "ChanceArenaModel$Solver" "choices" "[I") ∈ lw_R := zR (zk_9 _ (List.mem_of_getElem? (i := 204) (by decide +kernel))) rfl
theorem k9_205 : (Jvm.Cond.fieldLink "ChanceArenaModel$Solver" (57 : Nat) "ChanceArenaModel$Solver" "ranks" "[I") ∈ lw_R := zR (zk_9 _ (List.mem_of_getElem? (i := 205) (by decide +kernel))) rfl
theorem k9_207 : (Jvm.Cond.fieldLink "ChanceArenaModel$Solver" (60 : Nat) "ChanceArenaModel$Solver" "plays" "[I") ∈ lw_R := zR (zk_9 _ (List.mem_of_getElem? (i := 207) (by decide +kernel))) rfl
theorem k9_208 : (Jvm.Cond.fieldLink "ChanceArenaModel$Solver" (63 : Nat) "ChanceArenaModel$Solver" "inside" "[Z") ∈ lw_R := zR (zk_9 _ (List.mem_of_getElem? (i := 208) (by decide +kernel))) rfl
theorem k9_209 : (Jvm.Cond.fieldLink "ChanceArenaModel$Solver" (66 : Nat) "ChanceArenaModel$Solver" "fixed" "[Z") ∈ lw_R := zR (zk_9 _ (List.mem_of_getElem? (i := 209) (by decide +kernel))) rfl
theorem k9_210 : (Jvm.Cond.fieldLink "ChanceArenaModel$Solver" (69 : Nat) "ChanceArenaModel$Solver" "values" "[LChanceArenaModel$Fraction;") ∈ lw_R := zR (zk_9 _ (List.mem_of_getElem? (i := 210) (by decide +kernel))) rfl
theorem k9_211 : (Jvm.Cond.fieldLink "ChanceArenaModel$Solver" (72 : Nat) "ChanceArenaModel$Solver" "unknown" "[I") ∈ lw_R := zR (zk_9 _ (List.mem_of_getElem? (i := 211) (by decide +kernel))) rfl
theorem k9_212 : (Jvm.Cond.fieldLink "ChanceArenaModel$Solver" (75 : Nat) "ChanceArenaModel$Solver" "rowOf" "[I") ∈ lw_R := zR (zk_9 _ (List.mem_of_getElem? (i := 212) (by decide +kernel))) rfl
theorem k9_214 : (Jvm.Cond.fieldLink "ChanceArenaModel$Solver" (78 : Nat) "ChanceArenaModel$Solver" "cells" "[LChanceArenaModel$Fraction;") ∈ lw_R := zR (zk_9 _ (List.mem_of_getElem? (i := 214) (by decide +kernel))) rfl
theorem k9_215 : (Jvm.Cond.fieldLink "ChanceArenaModel$Solver" (84 : Nat) "ChanceArenaModel$Solver" "chance" "LChanceArenaModel$Fraction;") ∈ lw_R := zR (zk_9 _ (List.mem_of_getElem? (i := 215) (by decide +kernel))) rfl
theorem k9_216 : (Jvm.Cond.fieldLink "ChanceArenaModel$Solver" (88 : Nat) "ChanceArenaModel$Solver" "factor" "LChanceArenaModel$Fraction;") ∈ lw_R := zR (zk_9 _ (List.mem_of_getElem? (i := 216) (by decide +kernel))) rfl
theorem k9_217 : (Jvm.Cond.fieldLink "ChanceArenaModel$Solver" (91 : Nat) "ChanceArenaModel$Solver" "worth" "LChanceArenaModel$Fraction;") ∈ lw_R := zR (zk_9 _ (List.mem_of_getElem? (i := 217) (by decide +kernel))) rfl
theorem k9_218 : (Jvm.Cond.fieldLink "ChanceArenaModel$Solver" (94 : Nat) "ChanceArenaModel$Solver" "other" "LChanceArenaModel$Fraction;") ∈ lw_R := zR (zk_9 _ (List.mem_of_getElem? (i := 218) (by decide +kernel))) rfl
theorem k9_219 : (Jvm.Cond.fieldLink "ChanceArenaModel$Solver" (97 : Nat) "ChanceArenaModel$Solver" "best" "LChanceArenaModel$Fraction;") ∈ lw_R := zR (zk_9 _ (List.mem_of_getElem? (i := 219) (by decide +kernel))) rfl
theorem k9_220 : (Jvm.Cond.fieldLink "ChanceArenaModel$Solver" (100 : Nat) "ChanceArenaModel$Solver" "digits" "[I") ∈ lw_R := zR (zk_9 _ (List.mem_of_getElem? (i := 220) (by decide +kernel))) rfl
theorem d_MS_init_0 : decode prog_19_method_1_code 0 = .ok (.aload_n 0, 1) := by decide +kernel
theorem d_MS_init_1 : decode prog_19_method_1_code 1 = .ok (.invokespecial 1, 3) := by decide +kernel
theorem d_MS_init_4 : decode prog_19_method_1_code 4 = .ok (.aload_n 0, 1) := by decide +kernel
theorem d_MS_init_5 : decode prog_19_method_1_code 5 = .ok (.new 7, 3) := by decide +kernel
theorem d_MS_init_8 : decode prog_19_method_1_code 8 = .ok (.dup, 1) := by decide +kernel
theorem d_MS_init_9 : decode prog_19_method_1_code 9 = .ok (.invokespecial 9, 3) := by decide +kernel
theorem d_MS_init_12 : decode prog_19_method_1_code 12 = .ok (.putfield 10, 3) := by decide +kernel
theorem d_MS_init_15 : decode prog_19_method_1_code 15 = .ok (.aload_n 0, 1) := by decide +kernel
theorem d_MS_init_16 : decode prog_19_method_1_code 16 = .ok (.sipush 513, 3) := by decide +kernel
theorem d_MS_init_19 : decode prog_19_method_1_code 19 = .ok (.newarray .int, 2) := by decide +kernel
theorem d_MS_init_21 : decode prog_19_method_1_code 21 = .ok (.putfield 16, 3) := by decide +kernel
theorem d_MS_init_24 : decode prog_19_method_1_code 24 = .ok (.aload_n 0, 1) := by decide +kernel
theorem d_MS_init_25 : decode prog_19_method_1_code 25 = .ok (.sipush 514, 3) := by decide +kernel
theorem d_MS_init_28 : decode prog_19_method_1_code 28 = .ok (.newarray .int, 2) := by decide +kernel
theorem d_MS_init_30 : decode prog_19_method_1_code 30 = .ok (.putfield 20, 3) := by decide +kernel
theorem d_MS_init_33 : decode prog_19_method_1_code 33 = .ok (.aload_n 0, 1) := by decide +kernel
theorem d_MS_init_34 : decode prog_19_method_1_code 34 = .ok (.sipush 4200, 3) := by decide +kernel
theorem d_MS_init_37 : decode prog_19_method_1_code 37 = .ok (.newarray .int, 2) := by decide +kernel
theorem d_MS_init_39 : decode prog_19_method_1_code 39 = .ok (.putfield 23, 3) := by decide +kernel
theorem d_MS_init_42 : decode prog_19_method_1_code 42 = .ok (.aload_n 0, 1) := by decide +kernel
theorem d_MS_init_43 : decode prog_19_method_1_code 43 = .ok (.sipush 4201, 3) := by decide +kernel
theorem d_MS_init_46 : decode prog_19_method_1_code 46 = .ok (.newarray .int, 2) := by decide +kernel
theorem d_MS_init_48 : decode prog_19_method_1_code 48 = .ok (.putfield 26, 3) := by decide +kernel
theorem d_MS_init_51 : decode prog_19_method_1_code 51 = .ok (.aload_n 0, 1) := by decide +kernel
theorem d_MS_init_52 : decode prog_19_method_1_code 52 = .ok (.sipush 4096, 3) := by decide +kernel
theorem d_MS_init_55 : decode prog_19_method_1_code 55 = .ok (.newarray .int, 2) := by decide +kernel
theorem d_MS_init_57 : decode prog_19_method_1_code 57 = .ok (.putfield 29, 3) := by decide +kernel
theorem d_MS_init_60 : decode prog_19_method_1_code 60 = .ok (.aload_n 0, 1) := by decide +kernel
theorem d_MS_init_61 : decode prog_19_method_1_code 61 = .ok (.sipush 4096, 3) := by decide +kernel
theorem d_MS_init_64 : decode prog_19_method_1_code 64 = .ok (.newarray .int, 2) := by decide +kernel
theorem d_MS_init_66 : decode prog_19_method_1_code 66 = .ok (.putfield 32, 3) := by decide +kernel
theorem d_MS_init_69 : decode prog_19_method_1_code 69 = .ok (.aload_n 0, 1) := by decide +kernel
theorem d_MS_init_70 : decode prog_19_method_1_code 70 = .ok (.sipush 4096, 3) := by decide +kernel
theorem d_MS_init_73 : decode prog_19_method_1_code 73 = .ok (.newarray .int, 2) := by decide +kernel
theorem d_MS_init_75 : decode prog_19_method_1_code 75 = .ok (.putfield 35, 3) := by decide +kernel
theorem d_MS_init_78 : decode prog_19_method_1_code 78 = .ok (.aload_n 0, 1) := by decide +kernel
theorem d_MS_init_79 : decode prog_19_method_1_code 79 = .ok (.sipush 1536, 3) := by decide +kernel
theorem d_MS_init_82 : decode prog_19_method_1_code 82 = .ok (.anewarray 38, 3) := by decide +kernel
theorem d_MS_init_85 : decode prog_19_method_1_code 85 = .ok (.putfield 40, 3) := by decide +kernel
theorem d_MS_init_88 : decode prog_19_method_1_code 88 = .ok (.aload_n 0, 1) := by decide +kernel
theorem d_MS_init_89 : decode prog_19_method_1_code 89 = .ok (.iconst 3, 1) := by decide +kernel
theorem d_MS_init_90 : decode prog_19_method_1_code 90 = .ok (.newarray .boolean, 2) := by decide +kernel
theorem d_MS_init_92 : decode prog_19_method_1_code 92 = .ok (.putfield 44, 3) := by decide +kernel
theorem d_MS_init_95 : decode prog_19_method_1_code 95 = .ok (.aload_n 0, 1) := by decide +kernel
theorem d_MS_init_96 : decode prog_19_method_1_code 96 = .ok (.sipush 512, 3) := by decide +kernel
theorem d_MS_init_99 : decode prog_19_method_1_code 99 = .ok (.anewarray 38, 3) := by decide +kernel
theorem d_MS_init_102 : decode prog_19_method_1_code 102 = .ok (.putfield 48, 3) := by decide +kernel
theorem d_MS_init_105 : decode prog_19_method_1_code 105 = .ok (.aload_n 0, 1) := by decide +kernel
theorem d_MS_init_106 : decode prog_19_method_1_code 106 = .ok (.sipush 512, 3) := by decide +kernel
theorem d_MS_init_109 : decode prog_19_method_1_code 109 = .ok (.newarray .int, 2) := by decide +kernel
theorem d_MS_init_111 : decode prog_19_method_1_code 111 = .ok (.putfield 51, 3) := by decide +kernel
theorem d_MS_init_114 : decode prog_19_method_1_code 114 = .ok (.aload_n 0, 1) := by decide +kernel
theorem d_MS_init_115 : decode prog_19_method_1_code 115 = .ok (.sipush 512, 3) := by decide +kernel
theorem d_MS_init_118 : decode prog_19_method_1_code 118 = .ok (.newarray .int, 2) := by decide +kernel
theorem d_MS_init_120 : decode prog_19_method_1_code 120 = .ok (.putfield 54, 3) := by decide +kernel
theorem d_MS_init_123 : decode prog_19_method_1_code 123 = .ok (.aload_n 0, 1) := by decide +kernel
theorem d_MS_init_124 : decode prog_19_method_1_code 124 = .ok (.sipush 512, 3) := by decide +kernel
theorem d_MS_init_127 : decode prog_19_method_1_code 127 = .ok (.newarray .int, 2) := by decide +kernel
theorem d_MS_init_129 : decode prog_19_method_1_code 129 = .ok (.putfield 57, 3) := by decide +kernel
theorem d_MS_init_132 : decode prog_19_method_1_code 132 = .ok (.aload_n 0, 1) := by decide +kernel
theorem d_MS_init_133 : decode prog_19_method_1_code 133 = .ok (.sipush 512, 3) := by decide +kernel
theorem d_MS_init_136 : decode prog_19_method_1_code 136 = .ok (.newarray .int, 2) := by decide +kernel
theorem d_MS_init_138 : decode prog_19_method_1_code 138 = .ok (.putfield 60, 3) := by decide +kernel
theorem d_MS_init_141 : decode prog_19_method_1_code 141 = .ok (.aload_n 0, 1) := by decide +kernel
theorem d_MS_init_142 : decode prog_19_method_1_code 142 = .ok (.sipush 512, 3) := by decide +kernel
theorem d_MS_init_145 : decode prog_19_method_1_code 145 = .ok (.newarray .boolean, 2) := by decide +kernel
theorem d_MS_init_147 : decode prog_19_method_1_code 147 = .ok (.putfield 63, 3) := by decide +kernel
theorem d_MS_init_150 : decode prog_19_method_1_code 150 = .ok (.aload_n 0, 1) := by decide +kernel
theorem d_MS_init_151 : decode prog_19_method_1_code 151 = .ok (.sipush 512, 3) := by decide +kernel
theorem d_MS_init_154 : decode prog_19_method_1_code 154 = .ok (.newarray .boolean, 2) := by decide +kernel
theorem d_MS_init_156 : decode prog_19_method_1_code 156 = .ok (.putfield 66, 3) := by decide +kernel
theorem d_MS_init_159 : decode prog_19_method_1_code 159 = .ok (.aload_n 0, 1) := by decide +kernel
theorem d_MS_init_160 : decode prog_19_method_1_code 160 = .ok (.sipush 512, 3) := by decide +kernel
theorem d_MS_init_163 : decode prog_19_method_1_code 163 = .ok (.anewarray 38, 3) := by decide +kernel
theorem d_MS_init_166 : decode prog_19_method_1_code 166 = .ok (.putfield 69, 3) := by decide +kernel
theorem d_MS_init_169 : decode prog_19_method_1_code 169 = .ok (.aload_n 0, 1) := by decide +kernel
theorem d_MS_init_170 : decode prog_19_method_1_code 170 = .ok (.bipush 40, 2) := by decide +kernel
theorem d_MS_init_172 : decode prog_19_method_1_code 172 = .ok (.newarray .int, 2) := by decide +kernel
theorem d_MS_init_174 : decode prog_19_method_1_code 174 = .ok (.putfield 72, 3) := by decide +kernel
theorem d_MS_init_177 : decode prog_19_method_1_code 177 = .ok (.aload_n 0, 1) := by decide +kernel
theorem d_MS_init_178 : decode prog_19_method_1_code 178 = .ok (.sipush 512, 3) := by decide +kernel
theorem d_MS_init_181 : decode prog_19_method_1_code 181 = .ok (.newarray .int, 2) := by decide +kernel
theorem d_MS_init_183 : decode prog_19_method_1_code 183 = .ok (.putfield 75, 3) := by decide +kernel
theorem d_MS_init_186 : decode prog_19_method_1_code 186 = .ok (.aload_n 0, 1) := by decide +kernel
theorem d_MS_init_187 : decode prog_19_method_1_code 187 = .ok (.sipush 1640, 3) := by decide +kernel
theorem d_MS_init_190 : decode prog_19_method_1_code 190 = .ok (.anewarray 38, 3) := by decide +kernel
theorem d_MS_init_193 : decode prog_19_method_1_code 193 = .ok (.putfield 78, 3) := by decide +kernel
theorem d_MS_init_196 : decode prog_19_method_1_code 196 = .ok (.aload_n 0, 1) := by decide +kernel
theorem d_MS_init_197 : decode prog_19_method_1_code 197 = .ok (.new 38, 3) := by decide +kernel
theorem d_MS_init_200 : decode prog_19_method_1_code 200 = .ok (.dup, 1) := by decide +kernel
theorem d_MS_init_201 : decode prog_19_method_1_code 201 = .ok (.bipush 8, 2) := by decide +kernel
theorem d_MS_init_203 : decode prog_19_method_1_code 203 = .ok (.invokespecial 81, 3) := by decide +kernel
theorem d_MS_init_206 : decode prog_19_method_1_code 206 = .ok (.putfield 84, 3) := by decide +kernel
theorem d_MS_init_209 : decode prog_19_method_1_code 209 = .ok (.aload_n 0, 1) := by decide +kernel
theorem d_MS_init_210 : decode prog_19_method_1_code 210 = .ok (.new 38, 3) := by decide +kernel
theorem d_MS_init_213 : decode prog_19_method_1_code 213 = .ok (.dup, 1) := by decide +kernel
theorem d_MS_init_214 : decode prog_19_method_1_code 214 = .ok (.bipush 56, 2) := by decide +kernel
theorem d_MS_init_216 : decode prog_19_method_1_code 216 = .ok (.invokespecial 81, 3) := by decide +kernel
theorem d_MS_init_219 : decode prog_19_method_1_code 219 = .ok (.putfield 88, 3) := by decide +kernel
theorem d_MS_init_222 : decode prog_19_method_1_code 222 = .ok (.aload_n 0, 1) := by decide +kernel
theorem d_MS_init_223 : decode prog_19_method_1_code 223 = .ok (.new 38, 3) := by decide +kernel
theorem d_MS_init_226 : decode prog_19_method_1_code 226 = .ok (.dup, 1) := by decide +kernel
theorem d_MS_init_227 : decode prog_19_method_1_code 227 = .ok (.sipush 900, 3) := by decide +kernel
theorem d_MS_init_230 : decode prog_19_method_1_code 230 = .ok (.invokespecial 81, 3) := by decide +kernel
theorem d_MS_init_233 : decode prog_19_method_1_code 233 = .ok (.putfield 91, 3) := by decide +kernel
theorem d_MS_init_236 : decode prog_19_method_1_code 236 = .ok (.aload_n 0, 1) := by decide +kernel
theorem d_MS_init_237 : decode prog_19_method_1_code 237 = .ok (.new 38, 3) := by decide +kernel
theorem d_MS_init_240 : decode prog_19_method_1_code 240 = .ok (.dup, 1) := by decide +kernel
theorem d_MS_init_241 : decode prog_19_method_1_code 241 = .ok (.sipush 900, 3) := by decide +kernel
theorem d_MS_init_244 : decode prog_19_method_1_code 244 = .ok (.invokespecial 81, 3) := by decide +kernel
theorem d_MS_init_247 : decode prog_19_method_1_code 247 = .ok (.putfield 94, 3) := by decide +kernel
theorem d_MS_init_250 : decode prog_19_method_1_code 250 = .ok (.aload_n 0, 1) := by decide +kernel
theorem d_MS_init_251 : decode prog_19_method_1_code 251 = .ok (.new 38, 3) := by decide +kernel
theorem d_MS_init_254 : decode prog_19_method_1_code 254 = .ok (.dup, 1) := by decide +kernel
theorem d_MS_init_255 : decode prog_19_method_1_code 255 = .ok (.sipush 900, 3) := by decide +kernel
theorem d_MS_init_258 : decode prog_19_method_1_code 258 = .ok (.invokespecial 81, 3) := by decide +kernel
theorem d_MS_init_261 : decode prog_19_method_1_code 261 = .ok (.putfield 97, 3) := by decide +kernel
theorem d_MS_init_264 : decode prog_19_method_1_code 264 = .ok (.aload_n 0, 1) := by decide +kernel
theorem d_MS_init_265 : decode prog_19_method_1_code 265 = .ok (.sipush 400, 3) := by decide +kernel
theorem d_MS_init_268 : decode prog_19_method_1_code 268 = .ok (.newarray .int, 2) := by decide +kernel
theorem d_MS_init_270 : decode prog_19_method_1_code 270 = .ok (.putfield 100, 3) := by decide +kernel
abbrev U_MF : Type := Nat × (Nat × Nat × Nat × Nat)
/-- fractions of 56 parts in a row -/
def f_pool (tA : Nat → ClassId) (r : Nat → U_MF) : Nat → va_W
  | 0 => []
  | k + 1 => f_pool tA r k ++ w_MF tA (r k).1 56 (r k).2
theorem f_pool_le {tA : Nat → ClassId} {r : Nat → U_MF} {j : Nat} {v : U_MF} : ∀ k, k ≤ j → f_pool tA (va_up r j v) k = f_pool tA r k
  | 0, _ => rfl
  | k + 1, h => by
    show f_pool tA (va_up r j v) k ++ w_MF tA (va_up r j v k).1 56 (va_up r j v k).2 = f_pool tA r k ++ w_MF tA (r k).1 56 (r k).2
    have e9 : va_up r j v k = r k := by unfold va_up; rw [if_neg (by omega)]
    rw [f_pool_le k (by omega), e9]
theorem f_pool_up {tA : Nat → ClassId} {r : Nat → U_MF} {k : Nat} {v : U_MF} : f_pool tA (va_up r k v) (k + 1) = f_pool tA r k ++ w_MF tA v.1 56 v.2 := by
  show f_pool tA (va_up r k v) k ++ w_MF tA (va_up r k v k).1 56 (va_up r k v k).2 = _
  have e9 : va_up r k v k = v := by unfold va_up; rw [if_pos rfl]
  rw [f_pool_le k (Nat.le_refl k), e9]
abbrev rA (tA : Nat → ClassId) (N : Nat) (g : Nat → Option Nat) : va_E := .inl (tA 6, N, .inr (.inr (.inr (.inr g))))
set_option maxHeartbeats 4000000 in
set_option maxRecDepth 100000 in
/-- new Fraction(56) into an array: the pool grows -/
theorem MS_make {p : Program} {l : Launch} {e : Env} {R : Room} {s : State} {m : MethodId} {args : Array Value} {below : List Frame} {meth : Method} {c : Code} {H : Heap} {locs : List Loc} {cells slots : Nat} {Q : State → Prop} {D : va_G} {tA : Nat → ClassId} {A : Nat → Prop} {X T0 : va_W} {r : Nat → U_MF} {n q0 a N i pc nL : Nat} {g : Nat → Option Nat} {ls : Array Slot} {cc : ByteArray} (hx : p.tables.exec = Jvm.exec) (hb : c.code = cc) (hml : c.maxLocals = nL) (hls : ls.size = nL) (hh : zH s) (hg : ∀ w ∈ lw_R, w.before args s = true) (hown : s.vm.findClass "ChanceArenaModel$Solver" = some m.cls) (hK : va_K D vwCl (zT tA) s) (hA : ∀ q, s.heap.size ≤ q → A q) (hP : va_P D vwCl (X ++ (T0 ++ f_pool tA r n)) H) (hD : va_D A (X ++ (T0 ++ f_pool tA r n))) (hS : va_S A s.heap H locs)
    (hq : X[q0]? = some (a, rA tA N g)) (hi : i < N) (hN : N < 2 ^ 31) (d0 : decode cc pc = .ok (.new 38, 3)) (d3 : decode cc (pc + 3) = .ok (.dup, 1)) (d4 : decode cc (pc + 4) = .ok (.bipush 56, 2)) (d6 : decode cc (pc + 6) = .ok (.invokespecial 81, 3)) (d9 : decode cc (pc + 9) = .ok (.aastore, 1)) (hRf : 3 ≤ R.frames) (hRl : 61 ≤ R.locals) (hc : cells + 5 ≤ R.cells) (hs : slots + 119 ≤ R.slots)
    (kk : ∀ (v : U_MF) (H1 : Heap) (locs1 : List Loc), va_P D vwCl (X.set q0 (a, rA tA N (va_up g i (some v.1))) ++ (T0 ++ f_pool tA (va_up r n v) (n + 1))) H1 → va_D A (X.set q0 (a, rA tA N (va_up g i (some v.1))) ++ (T0 ++ f_pool tA (va_up r n v) (n + 1))) → va_S A s.heap H1 locs1 → W p l e R s m args below meth c H1 locs1 (cells + 5) (slots + 119) Q (F0 m (pc + 10) ls [])) : W p l e R s m args below meth c H locs cells slots Q (F0 m pc ls [.int (nI i), .ref a]) := by
  refine va_new (ci := 18) (fs := [.null, .null, .int 0]) (C := R_MF) (T := T_MF) (N := 3) hx hb hg i_MF t_MF o_MF hown (hg _ k9_186) (hg _ k9_123) (hg _ k1_19) hK hP hD hS hA rfl f_MF (by omega) (by omega) d0 (fun q H1 hP1 hD1 hS1 => ?_)
  clear hP hD hS
  refine lv_dup hx hb d3 rfl ?_
  refine lv_bipush (v := nI 56) hx hb d4 (by decide) ?_
  refine zInit hP1 hD1 hS1 hA (va_runI (As := [.int (nI 56)]) (rest := [.ref q, .int (nI i), .ref a]) ⟨hx, hb, hml, hown, hg⟩ (c_MF_init l D tA q H1.size 56 (by decide) (by decide)) (cwI 1 hg (zGood k9_126 rfl) rfl rfl rfl (hg _ k1_19) (hg _ k9_188) (hg _ k9_125) rfl (by decide +kernel) ⟨hRf, hRl⟩) (zPreI hh hK hP1 hD1) rfl rfl hls rfl (lv_room (Nat.le_of_ble_eq_true rfl)) d6 ⟨by omega, by omega⟩) (fun u H2 locs2 _ hP2 hD2 hS2 => ?_)
  clear hP1 hD1 hS1
  have hlt : q0 < X.length := (List.getElem?_eq_some_iff.mp hq).1
  refine va_astq hx hb hK hP2 hD2 hS2 q0 6 _ 18 (by rw [List.append_assoc, List.getElem?_append_left hlt]; exact hq) rfl zAt rfl (vp_in_nI hi hN) d9 (fun H3 locs3 hP3 hD3 hS3 => ?_)
  clear hP2 hD2 hS2
  rw [nI_clamp (by omega), List.append_assoc, List.append_assoc, ← f_pool_up (v := (q, u)), List.set_append_left _ _ hlt] at hP3 hD3
  refine W.cs (cells' := cells + 5) (slots' := slots + 119) (by omega) (by omega) ?_
  exact kk (q, u) _ _ hP3 hD3 hS3
end
section
theorem d_MS_init_284 : decode prog_19_method_1_code 284 = .ok (.iload_n 2, 1) := by decide +kernel
theorem d_MS_init_285 : decode prog_19_method_1_code 285 = .ok (.iconst 3, 1) := by decide +kernel
theorem d_MS_init_286 : decode prog_19_method_1_code 286 = .ok (.if_icmp .ge 28, 3) := by decide +kernel
theorem d_MS_init_289 : decode prog_19_method_1_code 289 = .ok (.aload_n 0, 1) := by decide +kernel
theorem d_MS_init_290 : decode prog_19_method_1_code 290 = .ok (.getfield 40, 3) := by decide +kernel
theorem d_MS_init_293 : decode prog_19_method_1_code 293 = .ok (.iconst 3, 1) := by decide +kernel
theorem d_MS_init_294 : decode prog_19_method_1_code 294 = .ok (.iload_n 1, 1) := by decide +kernel
theorem d_MS_init_295 : decode prog_19_method_1_code 295 = .ok (.imul, 1) := by decide +kernel
theorem d_MS_init_296 : decode prog_19_method_1_code 296 = .ok (.iload_n 2, 1) := by decide +kernel
theorem d_MS_init_297 : decode prog_19_method_1_code 297 = .ok (.iadd, 1) := by decide +kernel
theorem d_MS_init_298 : decode prog_19_method_1_code 298 = .ok (.new 38, 3) := by decide +kernel
theorem d_MS_init_301 : decode prog_19_method_1_code 301 = .ok (.dup, 1) := by decide +kernel
theorem d_MS_init_302 : decode prog_19_method_1_code 302 = .ok (.bipush 56, 2) := by decide +kernel
theorem d_MS_init_304 : decode prog_19_method_1_code 304 = .ok (.invokespecial 81, 3) := by decide +kernel
theorem d_MS_init_307 : decode prog_19_method_1_code 307 = .ok (.aastore, 1) := by decide +kernel
theorem d_MS_init_308 : decode prog_19_method_1_code 308 = .ok (.iinc 2 1, 3) := by decide +kernel
theorem d_MS_init_311 : decode prog_19_method_1_code 311 = .ok (.goto (-27), 3) := by decide +kernel
theorem d_MS_init_275 : decode prog_19_method_1_code 275 = .ok (.iload_n 1, 1) := by decide +kernel
theorem d_MS_init_276 : decode prog_19_method_1_code 276 = .ok (.sipush 512, 3) := by decide +kernel
theorem d_MS_init_279 : decode prog_19_method_1_code 279 = .ok (.if_icmp .ge 71, 3) := by decide +kernel
theorem d_MS_init_282 : decode prog_19_method_1_code 282 = .ok (.iconst 0, 1) := by decide +kernel
theorem d_MS_init_283 : decode prog_19_method_1_code 283 = .ok (.istore_n 2, 1) := by decide +kernel
theorem d_MS_init_314 : decode prog_19_method_1_code 314 = .ok (.aload_n 0, 1) := by decide +kernel
theorem d_MS_init_315 : decode prog_19_method_1_code 315 = .ok (.getfield 48, 3) := by decide +kernel
theorem d_MS_init_318 : decode prog_19_method_1_code 318 = .ok (.iload_n 1, 1) := by decide +kernel
theorem d_MS_init_319 : decode prog_19_method_1_code 319 = .ok (.new 38, 3) := by decide +kernel
theorem d_MS_init_322 : decode prog_19_method_1_code 322 = .ok (.dup, 1) := by decide +kernel
theorem d_MS_init_323 : decode prog_19_method_1_code 323 = .ok (.bipush 56, 2) := by decide +kernel
theorem d_MS_init_325 : decode prog_19_method_1_code 325 = .ok (.invokespecial 81, 3) := by decide +kernel
theorem d_MS_init_328 : decode prog_19_method_1_code 328 = .ok (.aastore, 1) := by decide +kernel
theorem d_MS_init_329 : decode prog_19_method_1_code 329 = .ok (.aload_n 0, 1) := by decide +kernel
theorem d_MS_init_330 : decode prog_19_method_1_code 330 = .ok (.getfield 69, 3) := by decide +kernel
theorem d_MS_init_333 : decode prog_19_method_1_code 333 = .ok (.iload_n 1, 1) := by decide +kernel
theorem d_MS_init_334 : decode prog_19_method_1_code 334 = .ok (.new 38, 3) := by decide +kernel
theorem d_MS_init_337 : decode prog_19_method_1_code 337 = .ok (.dup, 1) := by decide +kernel
theorem d_MS_init_338 : decode prog_19_method_1_code 338 = .ok (.bipush 56, 2) := by decide +kernel
theorem d_MS_init_340 : decode prog_19_method_1_code 340 = .ok (.invokespecial 81, 3) := by decide +kernel
theorem d_MS_init_343 : decode prog_19_method_1_code 343 = .ok (.aastore, 1) := by decide +kernel
theorem d_MS_init_344 : decode prog_19_method_1_code 344 = .ok (.iinc 1 1, 3) := by decide +kernel
theorem d_MS_init_347 : decode prog_19_method_1_code 347 = .ok (.goto (-72), 3) := by decide +kernel
theorem d_MS_init_352 : decode prog_19_method_1_code 352 = .ok (.iload_n 1, 1) := by decide +kernel
theorem d_MS_init_353 : decode prog_19_method_1_code 353 = .ok (.sipush 1640, 3) := by decide +kernel
theorem d_MS_init_356 : decode prog_19_method_1_code 356 = .ok (.if_icmp .ge 24, 3) := by decide +kernel
theorem d_MS_init_359 : decode prog_19_method_1_code 359 = .ok (.aload_n 0, 1) := by decide +kernel
theorem d_MS_init_360 : decode prog_19_method_1_code 360 = .ok (.getfield 78, 3) := by decide +kernel
theorem d_MS_init_363 : decode prog_19_method_1_code 363 = .ok (.iload_n 1, 1) := by decide +kernel
theorem d_MS_init_364 : decode prog_19_method_1_code 364 = .ok (.new 38, 3) := by decide +kernel
theorem d_MS_init_367 : decode prog_19_method_1_code 367 = .ok (.dup, 1) := by decide +kernel
theorem d_MS_init_368 : decode prog_19_method_1_code 368 = .ok (.bipush 56, 2) := by decide +kernel
theorem d_MS_init_370 : decode prog_19_method_1_code 370 = .ok (.invokespecial 81, 3) := by decide +kernel
theorem d_MS_init_373 : decode prog_19_method_1_code 373 = .ok (.aastore, 1) := by decide +kernel
theorem d_MS_init_374 : decode prog_19_method_1_code 374 = .ok (.iinc 1 1, 3) := by decide +kernel
theorem d_MS_init_377 : decode prog_19_method_1_code 377 = .ok (.goto (-25), 3) := by decide +kernel
def gF (r : Nat → U_MF) (m : Nat) : Nat → Option Nat := fun j => if j < m then some (r (5 * (j / 3) + j % 3)).1 else none
theorem gF_keep {r : Nat → U_MF} {m n : Nat} {v : U_MF} (h : ∀ j, j < m → 5 * (j / 3) + j % 3 ≠ n) : gF (va_up r n v) m = gF r m := by
  funext j
  simp only [va_up, gF]
  by_cases h2 : j < m
  · rw [if_pos h2, if_pos h2, if_neg (h j h2)]
  · rw [if_neg h2, if_neg h2]
def gN (r : Nat → U_MF) (m : Nat) : Nat → Option Nat := fun j => if j < m then some (r (5 * j + 3)).1 else none
theorem gN_keep {r : Nat → U_MF} {m n : Nat} {v : U_MF} (h : ∀ j, j < m → 5 * j + 3 ≠ n) : gN (va_up r n v) m = gN r m := by
  funext j
  simp only [va_up, gN]
  by_cases h2 : j < m
  · rw [if_pos h2, if_pos h2, if_neg (h j h2)]
  · rw [if_neg h2, if_neg h2]
def gV (r : Nat → U_MF) (m : Nat) : Nat → Option Nat := fun j => if j < m then some (r (5 * j + 4)).1 else none
theorem gV_keep {r : Nat → U_MF} {m n : Nat} {v : U_MF} (h : ∀ j, j < m → 5 * j + 4 ≠ n) : gV (va_up r n v) m = gV r m := by
  funext j
  simp only [va_up, gV]
  by_cases h2 : j < m
  · rw [if_pos h2, if_pos h2, if_neg (h j h2)]
  · rw [if_neg h2, if_neg h2]
def gC (r : Nat → U_MF) (m : Nat) : Nat → Option Nat := fun j => if j < m then some (r (2560 + j)).1 else none
theorem gC_keep {r : Nat → U_MF} {m n : Nat} {v : U_MF} (h : ∀ j, j < m → 2560 + j ≠ n) : gC (va_up r n v) m = gC r m := by
  funext j
  simp only [va_up, gC]
  by_cases h2 : j < m
  · rw [if_pos h2, if_pos h2, if_neg (h j h2)]
  · rw [if_neg h2, if_neg h2]
theorem gF_up {r : Nat → U_MF} {k w : Nat} {v : U_MF} (hw : w < 3) : va_up (gF r (3 * k + w)) (3 * k + w) (some v.1) = gF (va_up r (5 * k + w) v) (3 * k + w + 1) := by
  funext j
  simp only [va_up, gF]
  by_cases h : j = 3 * k + w
  · subst h; rw [if_pos rfl, if_pos (by omega), if_pos (by omega)]
  · rw [if_neg h]
    by_cases h2 : j < 3 * k + w
    · rw [if_pos h2, if_pos (by omega), if_neg (by omega)]
    · rw [if_neg h2, if_neg (by omega)]
theorem gN_up {r : Nat → U_MF} {k : Nat} {v : U_MF} : va_up (gN r (k)) (k) (some v.1) = gN (va_up r (5 * k + 3) v) (k + 1) := by
  funext j
  simp only [va_up, gN]
  by_cases h : j = k
  · subst h; rw [if_pos rfl, if_pos (by omega), if_pos (by omega)]
  · rw [if_neg h]
    by_cases h2 : j < k
    · rw [if_pos h2, if_pos (by omega), if_neg (by omega)]
    · rw [if_neg h2, if_neg (by omega)]
theorem gV_up {r : Nat → U_MF} {k : Nat} {v : U_MF} : va_up (gV r (k)) (k) (some v.1) = gV (va_up r (5 * k + 4) v) (k + 1) := by
  funext j
  simp only [va_up, gV]
  by_cases h : j = k
  · subst h; rw [if_pos rfl, if_pos (by omega), if_pos (by omega)]
  · rw [if_neg h]
    by_cases h2 : j < k
    · rw [if_pos h2, if_pos (by omega), if_neg (by omega)]
    · rw [if_neg h2, if_neg (by omega)]
theorem gC_up {r : Nat → U_MF} {k : Nat} {v : U_MF} : va_up (gC r (k)) (k) (some v.1) = gC (va_up r (2560 + k) v) (k + 1) := by
  funext j
  simp only [va_up, gC]
  by_cases h : j = k
  · subst h; rw [if_pos rfl, if_pos (by omega), if_pos (by omega)]
  · rw [if_neg h]
    by_cases h2 : j < k
    · rw [if_pos h2, if_pos (by omega), if_neg (by omega)]
    · rw [if_neg h2, if_neg (by omega)]
abbrev msX (tA : Nat → ClassId) (h0 ac av an af : Nat) (fs : List Value) (c v n f : Nat → Option Nat) : va_W := [(h0, .inr (16, fs)), (ac, rA tA 1640 c), (av, rA tA 512 v), (an, rA tA 512 n), (af, rA tA 1536 f)]
set_option maxHeartbeats 4000000 in
set_option maxRecDepth 100000 in
theorem MS_inner {p : Program} {l : Launch} {e : Env} {s : State} {m : MethodId} {below : List Frame} {meth : Method} {c : Code} {D : va_G} {tA : Nat → ClassId} {A : Nat → Prop} {h0 ac av an af : Nat} {fs : List Value} {T0 : va_W} {Q : State → Prop} (hx : p.tables.exec = Jvm.exec) (hb : c.code = prog_19_method_1_code) (hml : c.maxLocals = 3) (hh : zH s) (hg : ∀ w ∈ lw_R, w.before #[Value.ref h0] s = true) (hown : s.vm.findClass "ChanceArenaModel$Solver" = some m.cls) (hK : va_K D vwCl (zT tA) s) (hA : ∀ q, s.heap.size ≤ q → A q) (hff : fs[11]? = some (.ref af)) {k : Nat} (hk : k < 512)
    (kend : ∀ (r : Nat → U_MF) (H : Heap) (locs : List Loc) (ls : Array Slot), va_P D vwCl (msX tA h0 ac av an af fs (gC r (0)) (gV r (k)) (gN r (k)) (gF r (3 * k + 3)) ++ (T0 ++ f_pool tA r (5 * k + 3))) H → va_D A (msX tA h0 ac av an af fs (gC r (0)) (gV r (k)) (gN r (k)) (gF r (3 * k + 3)) ++ (T0 ++ f_pool tA r (5 * k + 3))) → va_S A s.heap H locs → lv_has ls 3 [(2, .int (nI 3)), (1, .int (nI k)), (0, .ref h0)] → W p l e { frames := 4, cells := 21067, slots := 543437, locals := 81 } s m #[Value.ref h0] below meth c H locs (67 + 5 * (5 * k + 3)) (43637 + 119 * (5 * k + 3)) Q (F0 m 314 ls [])) :
    ∀ (t w : Nat), w + t = 3 → ∀ (r : Nat → U_MF) (H : Heap) (locs : List Loc) (ls : Array Slot), va_P D vwCl (msX tA h0 ac av an af fs (gC r (0)) (gV r (k)) (gN r (k)) (gF r (3 * k + w)) ++ (T0 ++ f_pool tA r (5 * k + w))) H → va_D A (msX tA h0 ac av an af fs (gC r (0)) (gV r (k)) (gN r (k)) (gF r (3 * k + w)) ++ (T0 ++ f_pool tA r (5 * k + w))) → va_S A s.heap H locs → lv_has ls 3 [(2, .int (nI w)), (1, .int (nI k)), (0, .ref h0)] → W p l e { frames := 4, cells := 21067, slots := 543437, locals := 81 } s m #[Value.ref h0] below meth c H locs (67 + 5 * (5 * k + w)) (43637 + 119 * (5 * k + w)) Q (F0 m 284 ls []) := by
  intro t
  induction t with
  | zero =>
    intro w hw r H locs ls hP hD hS hl
    have hw : w = 3 := hw
    subst hw
    refine lv_iload_n hx hb d_MS_init_284 rfl (lv_at hl 0 rfl) ?_
    refine lv_iconst (v := 3) hx hb d_MS_init_285 (by decide) ?_
    refine lv_icmp_ge (tgt := 314) hx hb d_MS_init_286 (by decide) (fun c9 => ?_) (fun c9 => absurd (by decide) c9)
    exact kend r H locs ls hP hD hS hl
  | succ t ih =>
    intro w hw r H locs ls hP hD hS hl
    refine lv_iload_n hx hb d_MS_init_284 rfl (lv_at hl 0 rfl) ?_
    refine lv_iconst (v := 3) hx hb d_MS_init_285 (by decide) ?_
    refine lv_icmp_ge (tgt := 314) hx hb d_MS_init_286 (by decide) (fun c9 => absurd c9 (nI_ge (a := w) (b := 3) (by omega) (by decide))) (fun c9 => ?_)
    refine lv_aload_n hx hb d_MS_init_289 rfl (lv_at hl 2 rfl) ?_
    refine va_get (D := D) (ci := 16) (v := .ref af) (C := R_MS) (T := T_MS) (N := 32) hx hb hg i_MS hown hK hP 0 rfl rfl 11 (by decide) (hg _ k9_200) (fun _ h9 => h9) hff d_MS_init_290 ?_
    refine lv_iconst (v := 3) hx hb d_MS_init_293 (by decide) ?_
    refine lv_iload_n hx hb d_MS_init_294 rfl (lv_at hl 1 rfl) ?_
    refine lv_imul hx hb d_MS_init_295 ?_
    refine lv_iload_n hx hb d_MS_init_296 rfl (lv_at hl 0 rfl) ?_
    refine lv_iadd hx hb d_MS_init_297 ?_
    rw [show (3 : Int32) * nI k + nI w = nI (3 * k + w) from by rw [show (3 : Int32) = nI 3 from rfl, pk_mul, nI_add]]
    refine MS_make (X := msX tA h0 ac av an af fs (gC r 0) (gV r k) (gN r k) (gF r (3 * k + w))) (T0 := T0) (r := r) (n := 5 * k + w) (i := 3 * k + w) (q0 := 4) (N := 1536) hx hb hml hl.1 hh hg hown hK hA hP hD hS rfl (by omega) (by decide) d_MS_init_298 d_MS_init_301 d_MS_init_302 d_MS_init_304 d_MS_init_307 (by decide) (by decide) (by show _ ≤ 21067; omega) (by show _ ≤ 543437; omega) (fun v H1 locs1 hP1 hD1 hS1 => ?_)
    clear hP hD hS
    replace hP1 : va_P D vwCl (msX tA h0 ac av an af fs (gC r 0) (gV r k) (gN r k) (va_up (gF r (3 * k + w)) (3 * k + w) (some v.1)) ++ (T0 ++ f_pool tA (va_up r (5 * k + w) v) (5 * k + w + 1))) _ := hP1
    replace hD1 : va_D A (msX tA h0 ac av an af fs (gC r 0) (gV r k) (gN r k) (va_up (gF r (3 * k + w)) (3 * k + w) (some v.1)) ++ (T0 ++ f_pool tA (va_up r (5 * k + w) v) (5 * k + w + 1))) := hD1
    rw [gF_up (by omega), ← gC_keep (m := 0) (n := 5 * k + w) (v := v) (by omega), ← gV_keep (m := k) (n := 5 * k + w) (v := v) (by omega), ← gN_keep (m := k) (n := 5 * k + w) (v := v) (by omega)] at hP1 hD1
    refine lv_iinc (v := nI (w + 1)) (lv' := [(2, .int (nI (w + 1))), (1, .int (nI k)), (0, .ref h0)]) hx hb d_MS_init_308 hl (k := 0) rfl (show nI w + Int32.ofInt 1 = _ from nI_1 w) (by decide) rfl (fun ls hl => ?_)
    refine lv_goto (tgt := 284) hx hb d_MS_init_311 (by decide) ?_
    exact ih (w + 1) (by omega) _ _ _ ls hP1 hD1 hS1 hl
set_option maxHeartbeats 4000000 in
set_option maxRecDepth 100000 in
theorem MS_outer {p : Program} {l : Launch} {e : Env} {s : State} {m : MethodId} {below : List Frame} {meth : Method} {c : Code} {D : va_G} {tA : Nat → ClassId} {A : Nat → Prop} {h0 ac av an af : Nat} {fs : List Value} {T0 : va_W} {Q : State → Prop} (hx : p.tables.exec = Jvm.exec) (hb : c.code = prog_19_method_1_code) (hml : c.maxLocals = 3) (hh : zH s) (hg : ∀ w ∈ lw_R, w.before #[Value.ref h0] s = true) (hown : s.vm.findClass "ChanceArenaModel$Solver" = some m.cls) (hK : va_K D vwCl (zT tA) s) (hA : ∀ q, s.heap.size ≤ q → A q) (hff : fs[11]? = some (.ref af)) (hfn : fs[13]? = some (.ref an)) (hfv : fs[21]? = some (.ref av))
    (kend : ∀ (r : Nat → U_MF) (H : Heap) (locs : List Loc) (ls : Array Slot), va_P D vwCl (msX tA h0 ac av an af fs (gC r (0)) (gV r (512)) (gN r (512)) (gF r (3 * 512)) ++ (T0 ++ f_pool tA r (5 * 512))) H → va_D A (msX tA h0 ac av an af fs (gC r (0)) (gV r (512)) (gN r (512)) (gF r (3 * 512)) ++ (T0 ++ f_pool tA r (5 * 512))) → va_S A s.heap H locs → lv_has ls 3 [(1, .int (nI 512)), (0, .ref h0)] → W p l e { frames := 4, cells := 21067, slots := 543437, locals := 81 } s m #[Value.ref h0] below meth c H locs (67 + 5 * (5 * 512)) (43637 + 119 * (5 * 512)) Q (F0 m 350 ls [])) :
    ∀ (t k : Nat), k + t = 512 → ∀ (r : Nat → U_MF) (H : Heap) (locs : List Loc) (ls : Array Slot), va_P D vwCl (msX tA h0 ac av an af fs (gC r (0)) (gV r (k)) (gN r (k)) (gF r (3 * k)) ++ (T0 ++ f_pool tA r (5 * k))) H → va_D A (msX tA h0 ac av an af fs (gC r (0)) (gV r (k)) (gN r (k)) (gF r (3 * k)) ++ (T0 ++ f_pool tA r (5 * k))) → va_S A s.heap H locs → lv_has ls 3 [(1, .int (nI k)), (0, .ref h0)] → W p l e { frames := 4, cells := 21067, slots := 543437, locals := 81 } s m #[Value.ref h0] below meth c H locs (67 + 5 * (5 * k)) (43637 + 119 * (5 * k)) Q (F0 m 275 ls []) := by
  intro t
  induction t with
  | zero =>
    intro k hk r H locs ls hP hD hS hl
    have hk : k = 512 := hk
    subst hk
    refine lv_iload_n hx hb d_MS_init_275 rfl (lv_at hl 0 rfl) ?_
    refine lv_sipush (v := 512) hx hb d_MS_init_276 (by decide) ?_
    refine lv_icmp_ge (tgt := 350) hx hb d_MS_init_279 (by decide) (fun c9 => ?_) (fun c9 => absurd (by decide) c9)
    exact kend r H locs ls hP hD hS hl
  | succ t ih =>
    intro k hk r0 H locs ls hP hD hS hl
    refine lv_iload_n hx hb d_MS_init_275 rfl (lv_at hl 0 rfl) ?_
    refine lv_sipush (v := 512) hx hb d_MS_init_276 (by decide) ?_
    refine lv_icmp_ge (tgt := 350) hx hb d_MS_init_279 (by decide) (fun c9 => absurd c9 (nI_ge (a := k) (b := 512) (by omega) (by decide))) (fun c9 => ?_)
    refine lv_iconst (v := 0) hx hb d_MS_init_282 (by decide) ?_
    refine lv_istore_n (lv' := [(2, .int (nI 0)), (1, .int (nI k)), (0, .ref h0)]) hx hb d_MS_init_283 rfl hl (by decide) rfl (fun ls hl => ?_)
    refine MS_inner hx hb hml hh hg hown hK hA hff (show k < 512 by omega) ?_ 3 0 rfl r0 _ _ ls hP hD hS hl
    clear hP hD hS hl
    intro r H locs ls hP hD hS hl
    refine lv_aload_n hx hb d_MS_init_314 rfl (lv_at hl 2 rfl) ?_
    refine va_get (D := D) (ci := 16) (v := .ref an) (C := R_MS) (T := T_MS) (N := 32) hx hb hg i_MS hown hK hP 0 rfl rfl 13 (by decide) (hg _ k9_202) (fun _ h9 => h9) hfn d_MS_init_315 ?_
    refine lv_iload_n hx hb d_MS_init_318 rfl (lv_at hl 1 rfl) ?_
    refine MS_make (X := msX tA h0 ac av an af fs (gC r 0) (gV r k) (gN r k) (gF r (3 * k + 3))) (T0 := T0) (r := r) (n := 5 * k + 3) (i := k) (q0 := 3) (N := 512) hx hb hml hl.1 hh hg hown hK hA hP hD hS rfl (by omega) (by decide) d_MS_init_319 d_MS_init_322 d_MS_init_323 d_MS_init_325 d_MS_init_328 (by decide) (by decide) (by show _ ≤ 21067; omega) (by show _ ≤ 543437; omega) (fun v H1 locs1 hP1 hD1 hS1 => ?_)
    clear hP hD hS
    replace hP1 : va_P D vwCl (msX tA h0 ac av an af fs (gC r 0) (gV r k) (va_up (gN r k) k (some v.1)) (gF r (3 * k + 3)) ++ (T0 ++ f_pool tA (va_up r (5 * k + 3) v) (5 * k + 3 + 1))) _ := hP1
    replace hD1 : va_D A (msX tA h0 ac av an af fs (gC r 0) (gV r k) (va_up (gN r k) k (some v.1)) (gF r (3 * k + 3)) ++ (T0 ++ f_pool tA (va_up r (5 * k + 3) v) (5 * k + 3 + 1))) := hD1
    rw [gN_up, ← gC_keep (m := 0) (n := 5 * k + 3) (v := v) (by omega), ← gV_keep (m := k) (n := 5 * k + 3) (v := v) (by omega), ← gF_keep (m := 3 * k + 3) (n := 5 * k + 3) (v := v) (by omega)] at hP1 hD1
    generalize va_up r (5 * k + 3) v = r2 at hP1 hD1
    refine lv_aload_n hx hb d_MS_init_329 rfl (lv_at hl 2 rfl) ?_
    refine va_get (D := D) (ci := 16) (v := .ref av) (C := R_MS) (T := T_MS) (N := 32) hx hb hg i_MS hown hK hP1 0 rfl rfl 21 (by decide) (hg _ k9_210) (fun _ h9 => h9) hfv d_MS_init_330 ?_
    refine lv_iload_n hx hb d_MS_init_333 rfl (lv_at hl 1 rfl) ?_
    refine MS_make (X := msX tA h0 ac av an af fs (gC r2 0) (gV r2 k) (gN r2 (k + 1)) (gF r2 (3 * k + 3))) (T0 := T0) (r := r2) (n := 5 * k + 3 + 1) (i := k) (q0 := 2) (N := 512) hx hb hml hl.1 hh hg hown hK hA hP1 hD1 hS1 rfl (by omega) (by decide) d_MS_init_334 d_MS_init_337 d_MS_init_338 d_MS_init_340 d_MS_init_343 (by decide) (by decide) (by show _ ≤ 21067; omega) (by show _ ≤ 543437; omega) (fun v H2 locs2 hP2 hD2 hS2 => ?_)
    clear hP1 hD1 hS1
    replace hP2 : va_P D vwCl (msX tA h0 ac av an af fs (gC r2 0) (va_up (gV r2 k) k (some v.1)) (gN r2 (k + 1)) (gF r2 (3 * k + 3)) ++ (T0 ++ f_pool tA (va_up r2 (5 * k + 4) v) (5 * k + 4 + 1))) _ := hP2
    replace hD2 : va_D A (msX tA h0 ac av an af fs (gC r2 0) (va_up (gV r2 k) k (some v.1)) (gN r2 (k + 1)) (gF r2 (3 * k + 3)) ++ (T0 ++ f_pool tA (va_up r2 (5 * k + 4) v) (5 * k + 4 + 1))) := hD2
    rw [gV_up, ← gC_keep (m := 0) (n := 5 * k + 4) (v := v) (by omega), ← gN_keep (m := k + 1) (n := 5 * k + 4) (v := v) (by omega), ← gF_keep (m := 3 * k + 3) (n := 5 * k + 4) (v := v) (by omega)] at hP2 hD2
    refine lv_iinc (v := nI (k + 1)) (lv' := [(1, .int (nI (k + 1))), (2, .int (nI 3)), (0, .ref h0)]) hx hb d_MS_init_344 hl (k := 1) rfl (show nI k + Int32.ofInt 1 = _ from nI_1 k) (by decide) rfl (fun ls hl => ?_)
    refine lv_goto (tgt := 275) hx hb d_MS_init_347 (by decide) ?_
    refine W.cs (cells' := 67 + 5 * (5 * (k + 1))) (slots' := 43637 + 119 * (5 * (k + 1))) (by omega) (by omega) ?_
    exact ih (k + 1) (by omega) _ _ _ ls hP2 hD2 hS2 (lv_sub hl [0, 2] rfl)
set_option maxHeartbeats 4000000 in
set_option maxRecDepth 100000 in
theorem MS_cells {p : Program} {l : Launch} {e : Env} {s : State} {m : MethodId} {below : List Frame} {meth : Method} {c : Code} {D : va_G} {tA : Nat → ClassId} {A : Nat → Prop} {h0 ac av an af : Nat} {fs : List Value} {T0 : va_W} {Q : State → Prop} (hx : p.tables.exec = Jvm.exec) (hb : c.code = prog_19_method_1_code) (hml : c.maxLocals = 3) (hh : zH s) (hg : ∀ w ∈ lw_R, w.before #[Value.ref h0] s = true) (hown : s.vm.findClass "ChanceArenaModel$Solver" = some m.cls) (hK : va_K D vwCl (zT tA) s) (hA : ∀ q, s.heap.size ≤ q → A q) (hfc : fs[25]? = some (.ref ac))
    (kend : ∀ (r : Nat → U_MF) (H : Heap) (locs : List Loc) (ls : Array Slot), va_P D vwCl (msX tA h0 ac av an af fs (gC r (1640)) (gV r (512)) (gN r (512)) (gF r (1536)) ++ (T0 ++ f_pool tA r (2560 + 1640))) H → va_D A (msX tA h0 ac av an af fs (gC r (1640)) (gV r (512)) (gN r (512)) (gF r (1536)) ++ (T0 ++ f_pool tA r (2560 + 1640))) → va_S A s.heap H locs → lv_has ls 3 [(1, .int (nI 1640)), (0, .ref h0)] → W p l e { frames := 4, cells := 21067, slots := 543437, locals := 81 } s m #[Value.ref h0] below meth c H locs (67 + 5 * (2560 + 1640)) (43637 + 119 * (2560 + 1640)) Q (F0 m 380 ls [])) :
    ∀ (t k : Nat), k + t = 1640 → ∀ (r : Nat → U_MF) (H : Heap) (locs : List Loc) (ls : Array Slot), va_P D vwCl (msX tA h0 ac av an af fs (gC r (k)) (gV r (512)) (gN r (512)) (gF r (1536)) ++ (T0 ++ f_pool tA r (2560 + k))) H → va_D A (msX tA h0 ac av an af fs (gC r (k)) (gV r (512)) (gN r (512)) (gF r (1536)) ++ (T0 ++ f_pool tA r (2560 + k))) → va_S A s.heap H locs → lv_has ls 3 [(1, .int (nI k)), (0, .ref h0)] → W p l e { frames := 4, cells := 21067, slots := 543437, locals := 81 } s m #[Value.ref h0] below meth c H locs (67 + 5 * (2560 + k)) (43637 + 119 * (2560 + k)) Q (F0 m 352 ls []) := by
  intro t
  induction t with
  | zero =>
    intro k hk r H locs ls hP hD hS hl
    have hk : k = 1640 := hk
    subst hk
    refine lv_iload_n hx hb d_MS_init_352 rfl (lv_at hl 0 rfl) ?_
    refine lv_sipush (v := 1640) hx hb d_MS_init_353 (by decide) ?_
    refine lv_icmp_ge (tgt := 380) hx hb d_MS_init_356 (by decide) (fun c9 => ?_) (fun c9 => absurd (by decide) c9)
    exact kend r H locs ls hP hD hS hl
  | succ t ih =>
    intro k hk r H locs ls hP hD hS hl
    refine lv_iload_n hx hb d_MS_init_352 rfl (lv_at hl 0 rfl) ?_
    refine lv_sipush (v := 1640) hx hb d_MS_init_353 (by decide) ?_
    refine lv_icmp_ge (tgt := 380) hx hb d_MS_init_356 (by decide) (fun c9 => absurd c9 (nI_ge (a := k) (b := 1640) (by omega) (by decide))) (fun c9 => ?_)
    refine lv_aload_n hx hb d_MS_init_359 rfl (lv_at hl 1 rfl) ?_
    refine va_get (D := D) (ci := 16) (v := .ref ac) (C := R_MS) (T := T_MS) (N := 32) hx hb hg i_MS hown hK hP 0 rfl rfl 25 (by decide) (hg _ k9_214) (fun _ h9 => h9) hfc d_MS_init_360 ?_
    refine lv_iload_n hx hb d_MS_init_363 rfl (lv_at hl 0 rfl) ?_
    refine MS_make (X := msX tA h0 ac av an af fs (gC r k) (gV r 512) (gN r 512) (gF r 1536)) (T0 := T0) (r := r) (n := 2560 + k) (i := k) (q0 := 1) (N := 1640) hx hb hml hl.1 hh hg hown hK hA hP hD hS rfl (by omega) (by decide) d_MS_init_364 d_MS_init_367 d_MS_init_368 d_MS_init_370 d_MS_init_373 (by decide) (by decide) (by show _ ≤ 21067; omega) (by show _ ≤ 543437; omega) (fun v H1 locs1 hP1 hD1 hS1 => ?_)
    clear hP hD hS
    replace hP1 : va_P D vwCl (msX tA h0 ac av an af fs (va_up (gC r k) k (some v.1)) (gV r 512) (gN r 512) (gF r 1536) ++ (T0 ++ f_pool tA (va_up r (2560 + k) v) (2560 + k + 1))) _ := hP1
    replace hD1 : va_D A (msX tA h0 ac av an af fs (va_up (gC r k) k (some v.1)) (gV r 512) (gN r 512) (gF r 1536) ++ (T0 ++ f_pool tA (va_up r (2560 + k) v) (2560 + k + 1))) := hD1
    rw [gC_up, ← gV_keep (m := 512) (n := 2560 + k) (v := v) (by omega), ← gN_keep (m := 512) (n := 2560 + k) (v := v) (by omega), ← gF_keep (m := 1536) (n := 2560 + k) (v := v) (by omega)] at hP1 hD1
    refine lv_iinc (v := nI (k + 1)) (lv' := [(1, .int (nI (k + 1))), (0, .ref h0)]) hx hb d_MS_init_374 hl (k := 0) rfl (show nI k + Int32.ofInt 1 = _ from nI_1 k) (by decide) rfl (fun ls hl => ?_)
    refine lv_goto (tgt := 352) hx hb d_MS_init_377 (by decide) ?_
    exact ih (k + 1) (by omega) _ _ _ ls hP1 hD1 hS1 hl
end
section
theorem d_MS_init_273 : decode prog_19_method_1_code 273 = .ok (.iconst 0, 1) := by decide +kernel
theorem d_MS_init_274 : decode prog_19_method_1_code 274 = .ok (.istore_n 1, 1) := by decide +kernel
theorem d_MS_init_350 : decode prog_19_method_1_code 350 = .ok (.iconst 0, 1) := by decide +kernel
theorem d_MS_init_351 : decode prog_19_method_1_code 351 = .ok (.istore_n 1, 1) := by decide +kernel
theorem d_MS_init_380 : decode prog_19_method_1_code 380 = .ok (.return_, 1) := by decide +kernel
theorem gC_0 {r : Nat → U_MF} : gC r 0 = fun _ => none := by
  funext j
  simp [gC]
theorem gV_0 {r : Nat → U_MF} : gV r 0 = fun _ => none := by
  funext j
  simp [gV]
theorem gN_0 {r : Nat → U_MF} : gN r 0 = fun _ => none := by
  funext j
  simp [gN]
theorem gF_0 {r : Nat → U_MF} : gF r 0 = fun _ => none := by
  funext j
  simp [gF]
abbrev S_MS : Type := (Nat × S_MU) × Nat × Nat × Nat × Nat × Nat × Nat × Nat × Nat × Nat × Nat × Nat × Nat × Nat × Nat × Nat × Nat × Nat × Nat × Nat × Nat × (Nat × (Nat × Nat × Nat × Nat)) × (Nat × (Nat × Nat × Nat × Nat)) × (Nat × (Nat × Nat × Nat × Nat)) × (Nat × (Nat × Nat × Nat × Nat)) × (Nat × (Nat × Nat × Nat × Nat)) × Nat × (Nat → U_MF)
def w_MS (tA : Nat → ClassId) (h0 : Nat) (u : S_MS) : va_W := match u with
  | ((q5, u5), q19, q28, q37, q46, q55, q64, q73, q82, q90, q99, q109, q118, q127, q136, q145, q154, q163, q172, q181, q190, (q197, u197), (q210, u210), (q223, u223), (q237, u237), (q251, u251), q268, r) => msX tA h0 q190 q163 q99 q82 [.ref q5, .int 0, .int 0, .int 0, .ref q19, .ref q28, .ref q37, .ref q46, .ref q55, .ref q64, .ref q73, .ref q82, .ref q90, .ref q99, .ref q109, .ref q118, .ref q127, .int 0, .ref q136, .ref q145, .ref q154, .ref q163, .ref q172, .ref q181, .int 0, .ref q190, .ref q197, .ref q210, .ref q223, .ref q237, .ref q251, .ref q268] (gC r 1640) (gV r 512) (gN r 512) (gF r 1536) ++ (([] ++ w_MU tA q5 u5 ++ [(q19, .inl (tA 0, 513, .inl (fun _ => 0)))] ++ [(q28, .inl (tA 0, 514, .inl (fun _ => 0)))] ++ [(q37, .inl (tA 0, 4200, .inl (fun _ => 0)))] ++ [(q46, .inl (tA 0, 4201, .inl (fun _ => 0)))] ++ [(q55, .inl (tA 0, 4096, .inl (fun _ => 0)))] ++ [(q64, .inl (tA 0, 4096, .inl (fun _ => 0)))] ++ [(q73, .inl (tA 0, 4096, .inl (fun _ => 0)))] ++ [(q90, .inl (tA 1, 3, .inl (fun _ => 0)))] ++ [(q109, .inl (tA 0, 512, .inl (fun _ => 0)))] ++ [(q118, .inl (tA 0, 512, .inl (fun _ => 0)))] ++ [(q127, .inl (tA 0, 512, .inl (fun _ => 0)))] ++ [(q136, .inl (tA 0, 512, .inl (fun _ => 0)))] ++ [(q145, .inl (tA 1, 512, .inl (fun _ => 0)))] ++ [(q154, .inl (tA 1, 512, .inl (fun _ => 0)))] ++ [(q172, .inl (tA 0, 40, .inl (fun _ => 0)))] ++ [(q181, .inl (tA 0, 512, .inl (fun _ => 0)))] ++ w_MF tA q197 8 u197 ++ w_MF tA q210 56 u210 ++ w_MF tA q223 900 u223 ++ w_MF tA q237 900 u237 ++ w_MF tA q251 900 u251 ++ [(q268, .inl (tA 0, 400, .inl (fun _ => 0)))]) ++ f_pool tA r 4200)
theorem f_MS : ∀ j, j < 32 → defaultValue (t_MS j) = vp_V [.null, .int 0, .int 0, .int 0, .null, .null, .null, .null, .null, .null, .null, .null, .null, .null, .null, .null, .null, .int 0, .null, .null, .null, .null, .null, .null, .int 0, .null, .null, .null, .null, .null, .null, .null] j := by decide +kernel
set_option maxHeartbeats 4000000 in
set_option maxRecDepth 100000 in
theorem c_MS_init (l : Launch) (D : va_G) (tA : Nat → ClassId) (h0 sz : Nat) : zMv l ({ cls := "ChanceArenaModel$Solver", name := "<init>", desc := "()V" } : Jvm.MethodName) (zW (Jvm.Cond.code ({ cls := "ChanceArenaModel$Solver", name := "<init>", desc := "()V" } : Jvm.MethodName) prog_19_method_1_code (3 : Nat) (Option.none : Option Jvm.ClassFile.FieldType))) { frames := 4, cells := 21067, slots := 543437, locals := 81 } [.ref h0] D tA [(h0, .inr (16, [.null, .int 0, .int 0, .int 0, .null, .null, .null, .null, .null, .null, .null, .null, .null, .null, .null, .null, .null, .int 0, .null, .null, .null, .null, .null, .null, .int 0, .null, .null, .null, .null, .null, .null, .null]))] sz (fun _ : S_MS => True) (w_MS tA h0) 21067 543437 := by
  refine zOpen (fun A => va_Qv _ (zPost D A (w_MS tA h0)) A) (lv := [(0, .ref h0)]) (by decide) rfl (Nat.le_of_ble_eq_true rfl) rfl ?_
  intro p e s m below meth c A ls hx hb hr hml hh hg hown hlocks hnm hK hA hP hD0 hAw hS hl
  have hD := zD hD0 hAw
  refine lv_aload_n hx hb d_MS_init_0 rfl (lv_at hl 0 rfl) ?_
  refine W.objInit hx hb hown (hg _ k9_115) (hg _ k1_46) (hg _ k1_47) rfl (by rw [hml]; exact hl.1) rfl d_MS_init_1 (Nat.le_of_ble_eq_true rfl) (Nat.le_of_ble_eq_true rfl) ?_
  refine lv_aload_n hx hb d_MS_init_4 rfl (lv_at hl 0 rfl) ?_
  refine va_new (ci := 17) (fs := [.null, .null, .null, .null, .null, .null, .null]) (C := R_MU) (T := T_MU) (N := 7) hx hb hg i_MU t_MU o_MU hown (hg _ k9_116) (hg _ k9_117) (hg _ k1_18) hK hP hD hS hA rfl f_MU (Nat.le_of_ble_eq_true rfl) (Nat.le_of_ble_eq_true rfl) d_MS_init_5 (fun q5 H1 hP1 hD1 hS1 => ?_)
  clear hP hD hS
  refine lv_dup hx hb d_MS_init_8 rfl ?_
  refine zInit hP1 hD1 hS1 hA (va_runIN (As := []) (rest := [.ref q5, .ref h0]) ⟨hx, hb, hml, hown, hg⟩ (c_MU_init l D tA q5 H1.size) ⟨va_cnB 0 hg (zGood k9_120 rfl) rfl rfl rfl (va_Nw.of rfl (hg _ k9_118)) (hg _ k1_18) (by decide +kernel) ⟨(Nat.le_of_ble_eq_true rfl), (Nat.le_of_ble_eq_true rfl)⟩, rfl, hg _ k9_119⟩ (zPreI hh hK hP1 hD1) rfl rfl hl.1 rfl (lv_room (Nat.le_of_ble_eq_true rfl)) d_MS_init_9 ⟨(Nat.le_of_ble_eq_true rfl), (Nat.le_of_ble_eq_true rfl)⟩) (fun u5 H2 locs2 _ hP2 hD2 hS2 => ?_)
  clear hP1 hD1 hS1
  refine zCons (fun T9 e9 hP3 hD3 => ?_) hP2 hD2
  clear hP2 hD2
  refine va_putF (D := D) (ci := 16) (v := .ref q5) (ty := .object "ChanceArenaModel$Sums") (C := R_MS) (T := T_MS) (N := 32) hx hb hg i_MS t_MS o_MS n_MS hown hK hP3 hD3 hS2 0 rfl rfl 0 (by decide) (hg _ k9_189) (fun _ h9 => h9) rfl hnm rfl (by decide +kernel) rfl rfl (Nat.le_of_ble_eq_true rfl) d_MS_init_12 (fun H4 locs4 hP4 hD4 hS4 => ?_)
  clear hP3 hD3 hS2
  replace hP4 : va_P D vwCl ((h0, .inr (16, [.ref q5, .int 0, .int 0, .int 0, .null, .null, .null, .null, .null, .null, .null, .null, .null, .null, .null, .null, .null, .int 0, .null, .null, .null, .null, .null, .null, .int 0, .null, .null, .null, .null, .null, .null, .null])) :: T9) _ := hP4
  replace hD4 : va_D A ((h0, .inr (16, [.ref q5, .int 0, .int 0, .int 0, .null, .null, .null, .null, .null, .null, .null, .null, .null, .null, .null, .null, .null, .int 0, .null, .null, .null, .null, .null, .null, .int 0, .null, .null, .null, .null, .null, .null, .null])) :: T9) := hD4
  refine lv_aload_n hx hb d_MS_init_15 rfl (lv_at hl 0 rfl) ?_
  refine lv_sipush (v := 513) hx hb d_MS_init_16 (by decide) ?_
  refine zNewa (atype := .int) (ty := .int) (a0 := (513, .inl (fun _ => 0))) (N' := 513) hx hb rfl (hg _ k1_82) hK hP4 hD4 hS4 hA 0 rfl (fun _ h => by cases h) (fun _ => rfl) (by decide) (by decide) (by decide) (Nat.le_of_ble_eq_true rfl) (Nat.le_of_ble_eq_true rfl) d_MS_init_19 (fun q19 H5 hP5 hD5 hS5 => ?_)
  clear hP4 hD4 hS4
  refine zCons (fun T19 e19 hP6 hD6 => ?_) hP5 hD5
  clear hP5 hD5
  refine va_putF (D := D) (ci := 16) (v := .ref q19) (ty := .array .int) (C := R_MS) (T := T_MS) (N := 32) hx hb hg i_MS t_MS o_MS n_MS hown hK hP6 hD6 hS5 0 rfl rfl 4 (by decide) (hg _ k9_193) (fun _ h9 => h9) rfl hnm rfl (by decide +kernel) rfl rfl (Nat.le_of_ble_eq_true rfl) d_MS_init_21 (fun H7 locs7 hP7 hD7 hS7 => ?_)
  clear hP6 hD6 hS5
  replace hP7 : va_P D vwCl ((h0, .inr (16, [.ref q5, .int 0, .int 0, .int 0, .ref q19, .null, .null, .null, .null, .null, .null, .null, .null, .null, .null, .null, .null, .int 0, .null, .null, .null, .null, .null, .null, .int 0, .null, .null, .null, .null, .null, .null, .null])) :: T19) _ := hP7
  replace hD7 : va_D A ((h0, .inr (16, [.ref q5, .int 0, .int 0, .int 0, .ref q19, .null, .null, .null, .null, .null, .null, .null, .null, .null, .null, .null, .null, .int 0, .null, .null, .null, .null, .null, .null, .int 0, .null, .null, .null, .null, .null, .null, .null])) :: T19) := hD7
  refine lv_aload_n hx hb d_MS_init_24 rfl (lv_at hl 0 rfl) ?_
  refine lv_sipush (v := 514) hx hb d_MS_init_25 (by decide) ?_
  refine zNewa (atype := .int) (ty := .int) (a0 := (514, .inl (fun _ => 0))) (N' := 514) hx hb rfl (hg _ k1_82) hK hP7 hD7 hS7 hA 0 rfl (fun _ h => by cases h) (fun _ => rfl) (by decide) (by decide) (by decide) (Nat.le_of_ble_eq_true rfl) (Nat.le_of_ble_eq_true rfl) d_MS_init_28 (fun q28 H8 hP8 hD8 hS8 => ?_)
  clear hP7 hD7 hS7
  refine zCons (fun T28 e28 hP9 hD9 => ?_) hP8 hD8
  clear hP8 hD8
  refine va_putF (D := D) (ci := 16) (v := .ref q28) (ty := .array .int) (C := R_MS) (T := T_MS) (N := 32) hx hb hg i_MS t_MS o_MS n_MS hown hK hP9 hD9 hS8 0 rfl rfl 5 (by decide) (hg _ k9_194) (fun _ h9 => h9) rfl hnm rfl (by decide +kernel) rfl rfl (Nat.le_of_ble_eq_true rfl) d_MS_init_30 (fun H10 locs10 hP10 hD10 hS10 => ?_)
  clear hP9 hD9 hS8
  replace hP10 : va_P D vwCl ((h0, .inr (16, [.ref q5, .int 0, .int 0, .int 0, .ref q19, .ref q28, .null, .null, .null, .null, .null, .null, .null, .null, .null, .null, .null, .int 0, .null, .null, .null, .null, .null, .null, .int 0, .null, .null, .null, .null, .null, .null, .null])) :: T28) _ := hP10
  replace hD10 : va_D A ((h0, .inr (16, [.ref q5, .int 0, .int 0, .int 0, .ref q19, .ref q28, .null, .null, .null, .null, .null, .null, .null, .null, .null, .null, .null, .int 0, .null, .null, .null, .null, .null, .null, .int 0, .null, .null, .null, .null, .null, .null, .null])) :: T28) := hD10
  refine lv_aload_n hx hb d_MS_init_33 rfl (lv_at hl 0 rfl) ?_
  refine lv_sipush (v := 4200) hx hb d_MS_init_34 (by decide) ?_
  refine zNewa (atype := .int) (ty := .int) (a0 := (4200, .inl (fun _ => 0))) (N' := 4200) hx hb rfl (hg _ k1_82) hK hP10 hD10 hS10 hA 0 rfl (fun _ h => by cases h) (fun _ => rfl) (by decide) (by decide) (by decide) (Nat.le_of_ble_eq_true rfl) (Nat.le_of_ble_eq_true rfl) d_MS_init_37 (fun q37 H11 hP11 hD11 hS11 => ?_)
  clear hP10 hD10 hS10
  refine zCons (fun T37 e37 hP12 hD12 => ?_) hP11 hD11
  clear hP11 hD11
  refine va_putF (D := D) (ci := 16) (v := .ref q37) (ty := .array .int) (C := R_MS) (T := T_MS) (N := 32) hx hb hg i_MS t_MS o_MS n_MS hown hK hP12 hD12 hS11 0 rfl rfl 6 (by decide) (hg _ k9_195) (fun _ h9 => h9) rfl hnm rfl (by decide +kernel) rfl rfl (Nat.le_of_ble_eq_true rfl) d_MS_init_39 (fun H13 locs13 hP13 hD13 hS13 => ?_)
  clear hP12 hD12 hS11
  replace hP13 : va_P D vwCl ((h0, .inr (16, [.ref q5, .int 0, .int 0, .int 0, .ref q19, .ref q28, .ref q37, .null, .null, .null, .null, .null, .null, .null, .null, .null, .null, .int 0, .null, .null, .null, .null, .null, .null, .int 0, .null, .null, .null, .null, .null, .null, .null])) :: T37) _ := hP13
  replace hD13 : va_D A ((h0, .inr (16, [.ref q5, .int 0, .int 0, .int 0, .ref q19, .ref q28, .ref q37, .null, .null, .null, .null, .null, .null, .null, .null, .null, .null, .int 0, .null, .null, .null, .null, .null, .null, .int 0, .null, .null, .null, .null, .null, .null, .null])) :: T37) := hD13
  refine lv_aload_n hx hb d_MS_init_42 rfl (lv_at hl 0 rfl) ?_
  refine lv_sipush (v := 4201) hx hb d_MS_init_43 (by decide) ?_
  refine zNewa (atype := .int) (ty := .int) (a0 := (4201, .inl (fun _ => 0))) (N' := 4201) hx hb rfl (hg _ k1_82) hK hP13 hD13 hS13 hA 0 rfl (fun _ h => by cases h) (fun _ => rfl) (by decide) (by decide) (by decide) (Nat.le_of_ble_eq_true rfl) (Nat.le_of_ble_eq_true rfl) d_MS_init_46 (fun q46 H14 hP14 hD14 hS14 => ?_)
  clear hP13 hD13 hS13
  refine zCons (fun T46 e46 hP15 hD15 => ?_) hP14 hD14
  clear hP14 hD14
  refine va_putF (D := D) (ci := 16) (v := .ref q46) (ty := .array .int) (C := R_MS) (T := T_MS) (N := 32) hx hb hg i_MS t_MS o_MS n_MS hown hK hP15 hD15 hS14 0 rfl rfl 7 (by decide) (hg _ k9_196) (fun _ h9 => h9) rfl hnm rfl (by decide +kernel) rfl rfl (Nat.le_of_ble_eq_true rfl) d_MS_init_48 (fun H16 locs16 hP16 hD16 hS16 => ?_)
  clear hP15 hD15 hS14
  replace hP16 : va_P D vwCl ((h0, .inr (16, [.ref q5, .int 0, .int 0, .int 0, .ref q19, .ref q28, .ref q37, .ref q46, .null, .null, .null, .null, .null, .null, .null, .null, .null, .int 0, .null, .null, .null, .null, .null, .null, .int 0, .null, .null, .null, .null, .null, .null, .null])) :: T46) _ := hP16
  replace hD16 : va_D A ((h0, .inr (16, [.ref q5, .int 0, .int 0, .int 0, .ref q19, .ref q28, .ref q37, .ref q46, .null, .null, .null, .null, .null, .null, .null, .null, .null, .int 0, .null, .null, .null, .null, .null, .null, .int 0, .null, .null, .null, .null, .null, .null, .null])) :: T46) := hD16
  refine lv_aload_n hx hb d_MS_init_51 rfl (lv_at hl 0 rfl) ?_
  refine lv_sipush (v := 4096) hx hb d_MS_init_52 (by decide) ?_
  refine zNewa (atype := .int) (ty := .int) (a0 := (4096, .inl (fun _ => 0))) (N' := 4096) hx hb rfl (hg _ k1_82) hK hP16 hD16 hS16 hA 0 rfl (fun _ h => by cases h) (fun _ => rfl) (by decide) (by decide) (by decide) (Nat.le_of_ble_eq_true rfl) (Nat.le_of_ble_eq_true rfl) d_MS_init_55 (fun q55 H17 hP17 hD17 hS17 => ?_)
  clear hP16 hD16 hS16
  refine zCons (fun T55 e55 hP18 hD18 => ?_) hP17 hD17
  clear hP17 hD17
  refine va_putF (D := D) (ci := 16) (v := .ref q55) (ty := .array .int) (C := R_MS) (T := T_MS) (N := 32) hx hb hg i_MS t_MS o_MS n_MS hown hK hP18 hD18 hS17 0 rfl rfl 8 (by decide) (hg _ k9_197) (fun _ h9 => h9) rfl hnm rfl (by decide +kernel) rfl rfl (Nat.le_of_ble_eq_true rfl) d_MS_init_57 (fun H19 locs19 hP19 hD19 hS19 => ?_)
  clear hP18 hD18 hS17
  replace hP19 : va_P D vwCl ((h0, .inr (16, [.ref q5, .int 0, .int 0, .int 0, .ref q19, .ref q28, .ref q37, .ref q46, .ref q55, .null, .null, .null, .null, .null, .null, .null, .null, .int 0, .null, .null, .null, .null, .null, .null, .int 0, .null, .null, .null, .null, .null, .null, .null])) :: T55) _ := hP19
  replace hD19 : va_D A ((h0, .inr (16, [.ref q5, .int 0, .int 0, .int 0, .ref q19, .ref q28, .ref q37, .ref q46, .ref q55, .null, .null, .null, .null, .null, .null, .null, .null, .int 0, .null, .null, .null, .null, .null, .null, .int 0, .null, .null, .null, .null, .null, .null, .null])) :: T55) := hD19
  refine lv_aload_n hx hb d_MS_init_60 rfl (lv_at hl 0 rfl) ?_
  refine lv_sipush (v := 4096) hx hb d_MS_init_61 (by decide) ?_
  refine zNewa (atype := .int) (ty := .int) (a0 := (4096, .inl (fun _ => 0))) (N' := 4096) hx hb rfl (hg _ k1_82) hK hP19 hD19 hS19 hA 0 rfl (fun _ h => by cases h) (fun _ => rfl) (by decide) (by decide) (by decide) (Nat.le_of_ble_eq_true rfl) (Nat.le_of_ble_eq_true rfl) d_MS_init_64 (fun q64 H20 hP20 hD20 hS20 => ?_)
  clear hP19 hD19 hS19
  refine zCons (fun T64 e64 hP21 hD21 => ?_) hP20 hD20
  clear hP20 hD20
  refine va_putF (D := D) (ci := 16) (v := .ref q64) (ty := .array .int) (C := R_MS) (T := T_MS) (N := 32) hx hb hg i_MS t_MS o_MS n_MS hown hK hP21 hD21 hS20 0 rfl rfl 9 (by decide) (hg _ k9_198) (fun _ h9 => h9) rfl hnm rfl (by decide +kernel) rfl rfl (Nat.le_of_ble_eq_true rfl) d_MS_init_66 (fun H22 locs22 hP22 hD22 hS22 => ?_)
  clear hP21 hD21 hS20
  replace hP22 : va_P D vwCl ((h0, .inr (16, [.ref q5, .int 0, .int 0, .int 0, .ref q19, .ref q28, .ref q37, .ref q46, .ref q55, .ref q64, .null, .null, .null, .null, .null, .null, .null, .int 0, .null, .null, .null, .null, .null, .null, .int 0, .null, .null, .null, .null, .null, .null, .null])) :: T64) _ := hP22
  replace hD22 : va_D A ((h0, .inr (16, [.ref q5, .int 0, .int 0, .int 0, .ref q19, .ref q28, .ref q37, .ref q46, .ref q55, .ref q64, .null, .null, .null, .null, .null, .null, .null, .int 0, .null, .null, .null, .null, .null, .null, .int 0, .null, .null, .null, .null, .null, .null, .null])) :: T64) := hD22
  refine lv_aload_n hx hb d_MS_init_69 rfl (lv_at hl 0 rfl) ?_
  refine lv_sipush (v := 4096) hx hb d_MS_init_70 (by decide) ?_
  refine zNewa (atype := .int) (ty := .int) (a0 := (4096, .inl (fun _ => 0))) (N' := 4096) hx hb rfl (hg _ k1_82) hK hP22 hD22 hS22 hA 0 rfl (fun _ h => by cases h) (fun _ => rfl) (by decide) (by decide) (by decide) (Nat.le_of_ble_eq_true rfl) (Nat.le_of_ble_eq_true rfl) d_MS_init_73 (fun q73 H23 hP23 hD23 hS23 => ?_)
  clear hP22 hD22 hS22
  refine zCons (fun T73 e73 hP24 hD24 => ?_) hP23 hD23
  clear hP23 hD23
  refine va_putF (D := D) (ci := 16) (v := .ref q73) (ty := .array .int) (C := R_MS) (T := T_MS) (N := 32) hx hb hg i_MS t_MS o_MS n_MS hown hK hP24 hD24 hS23 0 rfl rfl 10 (by decide) (hg _ k9_199) (fun _ h9 => h9) rfl hnm rfl (by decide +kernel) rfl rfl (Nat.le_of_ble_eq_true rfl) d_MS_init_75 (fun H25 locs25 hP25 hD25 hS25 => ?_)
  clear hP24 hD24 hS23
  replace hP25 : va_P D vwCl ((h0, .inr (16, [.ref q5, .int 0, .int 0, .int 0, .ref q19, .ref q28, .ref q37, .ref q46, .ref q55, .ref q64, .ref q73, .null, .null, .null, .null, .null, .null, .int 0, .null, .null, .null, .null, .null, .null, .int 0, .null, .null, .null, .null, .null, .null, .null])) :: T73) _ := hP25
  replace hD25 : va_D A ((h0, .inr (16, [.ref q5, .int 0, .int 0, .int 0, .ref q19, .ref q28, .ref q37, .ref q46, .ref q55, .ref q64, .ref q73, .null, .null, .null, .null, .null, .null, .int 0, .null, .null, .null, .null, .null, .null, .int 0, .null, .null, .null, .null, .null, .null, .null])) :: T73) := hD25
  refine lv_aload_n hx hb d_MS_init_78 rfl (lv_at hl 0 rfl) ?_
  refine lv_sipush (v := 1536) hx hb d_MS_init_79 (by decide) ?_
  refine zNewq (N' := 1536) hx hb hown (hg _ k9_186) (hg _ k9_187) hK hP25 hD25 hS25 hA 6 rfl (by decide) (by decide) (by decide) (Nat.le_of_ble_eq_true rfl) (Nat.le_of_ble_eq_true rfl) d_MS_init_82 (fun q82 H26 hP26 hD26 hS26 => ?_)
  clear hP25 hD25 hS25
  refine zPull (fun hP27 hD27 => ?_) hP26 hD26
  clear hP26 hD26
  refine va_putF (D := D) (ci := 16) (v := .ref q82) (ty := .array (.object "ChanceArenaModel$Fraction")) (C := R_MS) (T := T_MS) (N := 32) hx hb hg i_MS t_MS o_MS n_MS hown hK hP27 hD27 hS26 0 rfl rfl 11 (by decide) (hg _ k9_200) (fun _ h9 => h9) rfl hnm rfl (by decide +kernel) rfl rfl (Nat.le_of_ble_eq_true rfl) d_MS_init_85 (fun H28 locs28 hP28 hD28 hS28 => ?_)
  clear hP27 hD27 hS26
  replace hP28 : va_P D vwCl ((h0, .inr (16, [.ref q5, .int 0, .int 0, .int 0, .ref q19, .ref q28, .ref q37, .ref q46, .ref q55, .ref q64, .ref q73, .ref q82, .null, .null, .null, .null, .null, .int 0, .null, .null, .null, .null, .null, .null, .int 0, .null, .null, .null, .null, .null, .null, .null])) :: (q82, .inl (tA 6, 1536, .inr (.inr (.inr (.inr (fun _ => none)))))) :: T73) _ := hP28
  replace hD28 : va_D A ((h0, .inr (16, [.ref q5, .int 0, .int 0, .int 0, .ref q19, .ref q28, .ref q37, .ref q46, .ref q55, .ref q64, .ref q73, .ref q82, .null, .null, .null, .null, .null, .int 0, .null, .null, .null, .null, .null, .null, .int 0, .null, .null, .null, .null, .null, .null, .null])) :: (q82, .inl (tA 6, 1536, .inr (.inr (.inr (.inr (fun _ => none)))))) :: T73) := hD28
  refine lv_aload_n hx hb d_MS_init_88 rfl (lv_at hl 0 rfl) ?_
  refine lv_iconst (v := 3) hx hb d_MS_init_89 (by decide) ?_
  refine zNewa (atype := .boolean) (ty := .boolean) (a0 := (3, .inl (fun _ => 0))) (N' := 3) hx hb rfl (hg _ k1_162) hK hP28 hD28 hS28 hA 1 rfl (fun _ h => by cases h) (fun _ => rfl) (by decide) (by decide) (by decide) (Nat.le_of_ble_eq_true rfl) (Nat.le_of_ble_eq_true rfl) d_MS_init_90 (fun q90 H29 hP29 hD29 hS29 => ?_)
  clear hP28 hD28 hS28
  refine zCons1 (fun T90 e90 hP30 hD30 => ?_) hP29 hD29
  clear hP29 hD29
  refine va_putF (D := D) (ci := 16) (v := .ref q90) (ty := .array .boolean) (C := R_MS) (T := T_MS) (N := 32) hx hb hg i_MS t_MS o_MS n_MS hown hK hP30 hD30 hS29 0 rfl rfl 12 (by decide) (hg _ k9_201) (fun _ h9 => h9) rfl hnm rfl (by decide +kernel) rfl rfl (Nat.le_of_ble_eq_true rfl) d_MS_init_92 (fun H31 locs31 hP31 hD31 hS31 => ?_)
  clear hP30 hD30 hS29
  replace hP31 : va_P D vwCl ((h0, .inr (16, [.ref q5, .int 0, .int 0, .int 0, .ref q19, .ref q28, .ref q37, .ref q46, .ref q55, .ref q64, .ref q73, .ref q82, .ref q90, .null, .null, .null, .null, .int 0, .null, .null, .null, .null, .null, .null, .int 0, .null, .null, .null, .null, .null, .null, .null])) :: (q82, .inl (tA 6, 1536, .inr (.inr (.inr (.inr (fun _ => none)))))) :: T90) _ := hP31
  replace hD31 : va_D A ((h0, .inr (16, [.ref q5, .int 0, .int 0, .int 0, .ref q19, .ref q28, .ref q37, .ref q46, .ref q55, .ref q64, .ref q73, .ref q82, .ref q90, .null, .null, .null, .null, .int 0, .null, .null, .null, .null, .null, .null, .int 0, .null, .null, .null, .null, .null, .null, .null])) :: (q82, .inl (tA 6, 1536, .inr (.inr (.inr (.inr (fun _ => none)))))) :: T90) := hD31
  refine lv_aload_n hx hb d_MS_init_95 rfl (lv_at hl 0 rfl) ?_
  refine lv_sipush (v := 512) hx hb d_MS_init_96 (by decide) ?_
  refine zNewq (N' := 512) hx hb hown (hg _ k9_186) (hg _ k9_187) hK hP31 hD31 hS31 hA 6 rfl (by decide) (by decide) (by decide) (Nat.le_of_ble_eq_true rfl) (Nat.le_of_ble_eq_true rfl) d_MS_init_99 (fun q99 H32 hP32 hD32 hS32 => ?_)
  clear hP31 hD31 hS31
  refine zPull (fun hP33 hD33 => ?_) hP32 hD32
  clear hP32 hD32
  refine va_putF (D := D) (ci := 16) (v := .ref q99) (ty := .array (.object "ChanceArenaModel$Fraction")) (C := R_MS) (T := T_MS) (N := 32) hx hb hg i_MS t_MS o_MS n_MS hown hK hP33 hD33 hS32 0 rfl rfl 13 (by decide) (hg _ k9_202) (fun _ h9 => h9) rfl hnm rfl (by decide +kernel) rfl rfl (Nat.le_of_ble_eq_true rfl) d_MS_init_102 (fun H34 locs34 hP34 hD34 hS34 => ?_)
  clear hP33 hD33 hS32
  replace hP34 : va_P D vwCl ((h0, .inr (16, [.ref q5, .int 0, .int 0, .int 0, .ref q19, .ref q28, .ref q37, .ref q46, .ref q55, .ref q64, .ref q73, .ref q82, .ref q90, .ref q99, .null, .null, .null, .int 0, .null, .null, .null, .null, .null, .null, .int 0, .null, .null, .null, .null, .null, .null, .null])) :: (q99, .inl (tA 6, 512, .inr (.inr (.inr (.inr (fun _ => none)))))) :: (q82, .inl (tA 6, 1536, .inr (.inr (.inr (.inr (fun _ => none)))))) :: T90) _ := hP34
  replace hD34 : va_D A ((h0, .inr (16, [.ref q5, .int 0, .int 0, .int 0, .ref q19, .ref q28, .ref q37, .ref q46, .ref q55, .ref q64, .ref q73, .ref q82, .ref q90, .ref q99, .null, .null, .null, .int 0, .null, .null, .null, .null, .null, .null, .int 0, .null, .null, .null, .null, .null, .null, .null])) :: (q99, .inl (tA 6, 512, .inr (.inr (.inr (.inr (fun _ => none)))))) :: (q82, .inl (tA 6, 1536, .inr (.inr (.inr (.inr (fun _ => none)))))) :: T90) := hD34
  refine lv_aload_n hx hb d_MS_init_105 rfl (lv_at hl 0 rfl) ?_
  refine lv_sipush (v := 512) hx hb d_MS_init_106 (by decide) ?_
  refine zNewa (atype := .int) (ty := .int) (a0 := (512, .inl (fun _ => 0))) (N' := 512) hx hb rfl (hg _ k1_82) hK hP34 hD34 hS34 hA 0 rfl (fun _ h => by cases h) (fun _ => rfl) (by decide) (by decide) (by decide) (Nat.le_of_ble_eq_true rfl) (Nat.le_of_ble_eq_true rfl) d_MS_init_109 (fun q109 H35 hP35 hD35 hS35 => ?_)
  clear hP34 hD34 hS34
  refine zCons2 (fun T109 e109 hP36 hD36 => ?_) hP35 hD35
  clear hP35 hD35
  refine va_putF (D := D) (ci := 16) (v := .ref q109) (ty := .array .int) (C := R_MS) (T := T_MS) (N := 32) hx hb hg i_MS t_MS o_MS n_MS hown hK hP36 hD36 hS35 0 rfl rfl 14 (by decide) (hg _ k9_203) (fun _ h9 => h9) rfl hnm rfl (by decide +kernel) rfl rfl (Nat.le_of_ble_eq_true rfl) d_MS_init_111 (fun H37 locs37 hP37 hD37 hS37 => ?_)
  clear hP36 hD36 hS35
  replace hP37 : va_P D vwCl ((h0, .inr (16, [.ref q5, .int 0, .int 0, .int 0, .ref q19, .ref q28, .ref q37, .ref q46, .ref q55, .ref q64, .ref q73, .ref q82, .ref q90, .ref q99, .ref q109, .null, .null, .int 0, .null, .null, .null, .null, .null, .null, .int 0, .null, .null, .null, .null, .null, .null, .null])) :: (q99, .inl (tA 6, 512, .inr (.inr (.inr (.inr (fun _ => none)))))) :: (q82, .inl (tA 6, 1536, .inr (.inr (.inr (.inr (fun _ => none)))))) :: T109) _ := hP37
  replace hD37 : va_D A ((h0, .inr (16, [.ref q5, .int 0, .int 0, .int 0, .ref q19, .ref q28, .ref q37, .ref q46, .ref q55, .ref q64, .ref q73, .ref q82, .ref q90, .ref q99, .ref q109, .null, .null, .int 0, .null, .null, .null, .null, .null, .null, .int 0, .null, .null, .null, .null, .null, .null, .null])) :: (q99, .inl (tA 6, 512, .inr (.inr (.inr (.inr (fun _ => none)))))) :: (q82, .inl (tA 6, 1536, .inr (.inr (.inr (.inr (fun _ => none)))))) :: T109) := hD37
  refine lv_aload_n hx hb d_MS_init_114 rfl (lv_at hl 0 rfl) ?_
  refine lv_sipush (v := 512) hx hb d_MS_init_115 (by decide) ?_
  refine zNewa (atype := .int) (ty := .int) (a0 := (512, .inl (fun _ => 0))) (N' := 512) hx hb rfl (hg _ k1_82) hK hP37 hD37 hS37 hA 0 rfl (fun _ h => by cases h) (fun _ => rfl) (by decide) (by decide) (by decide) (Nat.le_of_ble_eq_true rfl) (Nat.le_of_ble_eq_true rfl) d_MS_init_118 (fun q118 H38 hP38 hD38 hS38 => ?_)
  clear hP37 hD37 hS37
  refine zCons2 (fun T118 e118 hP39 hD39 => ?_) hP38 hD38
  clear hP38 hD38
  refine va_putF (D := D) (ci := 16) (v := .ref q118) (ty := .array .int) (C := R_MS) (T := T_MS) (N := 32) hx hb hg i_MS t_MS o_MS n_MS hown hK hP39 hD39 hS38 0 rfl rfl 15 (by decide) (hg _ k9_204) (fun _ h9 => h9) rfl hnm rfl (by decide +kernel) rfl rfl (Nat.le_of_ble_eq_true rfl) d_MS_init_120 (fun H40 locs40 hP40 hD40 hS40 => ?_)
  clear hP39 hD39 hS38
  replace hP40 : va_P D vwCl ((h0, .inr (16, [.ref q5, .int 0, .int 0, .int 0, .ref q19, .ref q28, .ref q37, .ref q46, .ref q55, .ref q64, .ref q73, .ref q82, .ref q90, .ref q99, .ref q109, .ref q118, .null, .int 0, .null, .null, .null, .null, .null, .null, .int 0, .null, .null, .null, .null, .null, .null, .null])) :: (q99, .inl (tA 6, 512, .inr (.inr (.inr (.inr (fun _ => none)))))) :: (q82, .inl (tA 6, 1536, .inr (.inr (.inr (.inr (fun _ => none)))))) :: T118) _ := hP40
  replace hD40 : va_D A ((h0, .inr (16, [.ref q5, .int 0, .int 0, .int 0, .ref q19, .ref q28, .ref q37, .ref q46, .ref q55, .ref q64, .ref q73, .ref q82, .ref q90, .ref q99, .ref q109, .ref q118, .null, .int 0, .null, .null, .null, .null, .null, .null, .int 0, .null, .null, .null, .null, .null, .null, .null])) :: (q99, .inl (tA 6, 512, .inr (.inr (.inr (.inr (fun _ => none)))))) :: (q82, .inl (tA 6, 1536, .inr (.inr (.inr (.inr (fun _ => none)))))) :: T118) := hD40
  refine lv_aload_n hx hb d_MS_init_123 rfl (lv_at hl 0 rfl) ?_
  refine lv_sipush (v := 512) hx hb d_MS_init_124 (by decide) ?_
  refine zNewa (atype := .int) (ty := .int) (a0 := (512, .inl (fun _ => 0))) (N' := 512) hx hb rfl (hg _ k1_82) hK hP40 hD40 hS40 hA 0 rfl (fun _ h => by cases h) (fun _ => rfl) (by decide) (by decide) (by decide) (Nat.le_of_ble_eq_true rfl) (Nat.le_of_ble_eq_true rfl) d_MS_init_127 (fun q127 H41 hP41 hD41 hS41 => ?_)
  clear hP40 hD40 hS40
  refine zCons2 (fun T127 e127 hP42 hD42 => ?_) hP41 hD41
  clear hP41 hD41
  refine va_putF (D := D) (ci := 16) (v := .ref q127) (ty := .array .int) (C := R_MS) (T := T_MS) (N := 32) hx hb hg i_MS t_MS o_MS n_MS hown hK hP42 hD42 hS41 0 rfl rfl 16 (by decide) (hg _ k9_205) (fun _ h9 => h9) rfl hnm rfl (by decide +kernel) rfl rfl (Nat.le_of_ble_eq_true rfl) d_MS_init_129 (fun H43 locs43 hP43 hD43 hS43 => ?_)
  clear hP42 hD42 hS41
  replace hP43 : va_P D vwCl ((h0, .inr (16, [.ref q5, .int 0, .int 0, .int 0, .ref q19, .ref q28, .ref q37, .ref q46, .ref q55, .ref q64, .ref q73, .ref q82, .ref q90, .ref q99, .ref q109, .ref q118, .ref q127, .int 0, .null, .null, .null, .null, .null, .null, .int 0, .null, .null, .null, .null, .null, .null, .null])) :: (q99, .inl (tA 6, 512, .inr (.inr (.inr (.inr (fun _ => none)))))) :: (q82, .inl (tA 6, 1536, .inr (.inr (.inr (.inr (fun _ => none)))))) :: T127) _ := hP43
  replace hD43 : va_D A ((h0, .inr (16, [.ref q5, .int 0, .int 0, .int 0, .ref q19, .ref q28, .ref q37, .ref q46, .ref q55, .ref q64, .ref q73, .ref q82, .ref q90, .ref q99, .ref q109, .ref q118, .ref q127, .int 0, .null, .null, .null, .null, .null, .null, .int 0, .null, .null, .null, .null, .null, .null, .null])) :: (q99, .inl (tA 6, 512, .inr (.inr (.inr (.inr (fun _ => none)))))) :: (q82, .inl (tA 6, 1536, .inr (.inr (.inr (.inr (fun _ => none)))))) :: T127) := hD43
  refine lv_aload_n hx hb d_MS_init_132 rfl (lv_at hl 0 rfl) ?_
  refine lv_sipush (v := 512) hx hb d_MS_init_133 (by decide) ?_
  refine zNewa (atype := .int) (ty := .int) (a0 := (512, .inl (fun _ => 0))) (N' := 512) hx hb rfl (hg _ k1_82) hK hP43 hD43 hS43 hA 0 rfl (fun _ h => by cases h) (fun _ => rfl) (by decide) (by decide) (by decide) (Nat.le_of_ble_eq_true rfl) (Nat.le_of_ble_eq_true rfl) d_MS_init_136 (fun q136 H44 hP44 hD44 hS44 => ?_)
  clear hP43 hD43 hS43
  refine zCons2 (fun T136 e136 hP45 hD45 => ?_) hP44 hD44
  clear hP44 hD44
  refine va_putF (D := D) (ci := 16) (v := .ref q136) (ty := .array .int) (C := R_MS) (T := T_MS) (N := 32) hx hb hg i_MS t_MS o_MS n_MS hown hK hP45 hD45 hS44 0 rfl rfl 18 (by decide) (hg _ k9_207) (fun _ h9 => h9) rfl hnm rfl (by decide +kernel) rfl rfl (Nat.le_of_ble_eq_true rfl) d_MS_init_138 (fun H46 locs46 hP46 hD46 hS46 => ?_)
  clear hP45 hD45 hS44
  replace hP46 : va_P D vwCl ((h0, .inr (16, [.ref q5, .int 0, .int 0, .int 0, .ref q19, .ref q28, .ref q37, .ref q46, .ref q55, .ref q64, .ref q73, .ref q82, .ref q90, .ref q99, .ref q109, .ref q118, .ref q127, .int 0, .ref q136, .null, .null, .null, .null, .null, .int 0, .null, .null, .null, .null, .null, .null, .null])) :: (q99, .inl (tA 6, 512, .inr (.inr (.inr (.inr (fun _ => none)))))) :: (q82, .inl (tA 6, 1536, .inr (.inr (.inr (.inr (fun _ => none)))))) :: T136) _ := hP46
  replace hD46 : va_D A ((h0, .inr (16, [.ref q5, .int 0, .int 0, .int 0, .ref q19, .ref q28, .ref q37, .ref q46, .ref q55, .ref q64, .ref q73, .ref q82, .ref q90, .ref q99, .ref q109, .ref q118, .ref q127, .int 0, .ref q136, .null, .null, .null, .null, .null, .int 0, .null, .null, .null, .null, .null, .null, .null])) :: (q99, .inl (tA 6, 512, .inr (.inr (.inr (.inr (fun _ => none)))))) :: (q82, .inl (tA 6, 1536, .inr (.inr (.inr (.inr (fun _ => none)))))) :: T136) := hD46
  refine lv_aload_n hx hb d_MS_init_141 rfl (lv_at hl 0 rfl) ?_
  refine lv_sipush (v := 512) hx hb d_MS_init_142 (by decide) ?_
  refine zNewa (atype := .boolean) (ty := .boolean) (a0 := (512, .inl (fun _ => 0))) (N' := 512) hx hb rfl (hg _ k1_162) hK hP46 hD46 hS46 hA 1 rfl (fun _ h => by cases h) (fun _ => rfl) (by decide) (by decide) (by decide) (Nat.le_of_ble_eq_true rfl) (Nat.le_of_ble_eq_true rfl) d_MS_init_145 (fun q145 H47 hP47 hD47 hS47 => ?_)
  clear hP46 hD46 hS46
  refine zCons2 (fun T145 e145 hP48 hD48 => ?_) hP47 hD47
  clear hP47 hD47
  refine va_putF (D := D) (ci := 16) (v := .ref q145) (ty := .array .boolean) (C := R_MS) (T := T_MS) (N := 32) hx hb hg i_MS t_MS o_MS n_MS hown hK hP48 hD48 hS47 0 rfl rfl 19 (by decide) (hg _ k9_208) (fun _ h9 => h9) rfl hnm rfl (by decide +kernel) rfl rfl (Nat.le_of_ble_eq_true rfl) d_MS_init_147 (fun H49 locs49 hP49 hD49 hS49 => ?_)
  clear hP48 hD48 hS47
  replace hP49 : va_P D vwCl ((h0, .inr (16, [.ref q5, .int 0, .int 0, .int 0, .ref q19, .ref q28, .ref q37, .ref q46, .ref q55, .ref q64, .ref q73, .ref q82, .ref q90, .ref q99, .ref q109, .ref q118, .ref q127, .int 0, .ref q136, .ref q145, .null, .null, .null, .null, .int 0, .null, .null, .null, .null, .null, .null, .null])) :: (q99, .inl (tA 6, 512, .inr (.inr (.inr (.inr (fun _ => none)))))) :: (q82, .inl (tA 6, 1536, .inr (.inr (.inr (.inr (fun _ => none)))))) :: T145) _ := hP49
  replace hD49 : va_D A ((h0, .inr (16, [.ref q5, .int 0, .int 0, .int 0, .ref q19, .ref q28, .ref q37, .ref q46, .ref q55, .ref q64, .ref q73, .ref q82, .ref q90, .ref q99, .ref q109, .ref q118, .ref q127, .int 0, .ref q136, .ref q145, .null, .null, .null, .null, .int 0, .null, .null, .null, .null, .null, .null, .null])) :: (q99, .inl (tA 6, 512, .inr (.inr (.inr (.inr (fun _ => none)))))) :: (q82, .inl (tA 6, 1536, .inr (.inr (.inr (.inr (fun _ => none)))))) :: T145) := hD49
  refine lv_aload_n hx hb d_MS_init_150 rfl (lv_at hl 0 rfl) ?_
  refine lv_sipush (v := 512) hx hb d_MS_init_151 (by decide) ?_
  refine zNewa (atype := .boolean) (ty := .boolean) (a0 := (512, .inl (fun _ => 0))) (N' := 512) hx hb rfl (hg _ k1_162) hK hP49 hD49 hS49 hA 1 rfl (fun _ h => by cases h) (fun _ => rfl) (by decide) (by decide) (by decide) (Nat.le_of_ble_eq_true rfl) (Nat.le_of_ble_eq_true rfl) d_MS_init_154 (fun q154 H50 hP50 hD50 hS50 => ?_)
  clear hP49 hD49 hS49
  refine zCons2 (fun T154 e154 hP51 hD51 => ?_) hP50 hD50
  clear hP50 hD50
  refine va_putF (D := D) (ci := 16) (v := .ref q154) (ty := .array .boolean) (C := R_MS) (T := T_MS) (N := 32) hx hb hg i_MS t_MS o_MS n_MS hown hK hP51 hD51 hS50 0 rfl rfl 20 (by decide) (hg _ k9_209) (fun _ h9 => h9) rfl hnm rfl (by decide +kernel) rfl rfl (Nat.le_of_ble_eq_true rfl) d_MS_init_156 (fun H52 locs52 hP52 hD52 hS52 => ?_)
  clear hP51 hD51 hS50
  replace hP52 : va_P D vwCl ((h0, .inr (16, [.ref q5, .int 0, .int 0, .int 0, .ref q19, .ref q28, .ref q37, .ref q46, .ref q55, .ref q64, .ref q73, .ref q82, .ref q90, .ref q99, .ref q109, .ref q118, .ref q127, .int 0, .ref q136, .ref q145, .ref q154, .null, .null, .null, .int 0, .null, .null, .null, .null, .null, .null, .null])) :: (q99, .inl (tA 6, 512, .inr (.inr (.inr (.inr (fun _ => none)))))) :: (q82, .inl (tA 6, 1536, .inr (.inr (.inr (.inr (fun _ => none)))))) :: T154) _ := hP52
  replace hD52 : va_D A ((h0, .inr (16, [.ref q5, .int 0, .int 0, .int 0, .ref q19, .ref q28, .ref q37, .ref q46, .ref q55, .ref q64, .ref q73, .ref q82, .ref q90, .ref q99, .ref q109, .ref q118, .ref q127, .int 0, .ref q136, .ref q145, .ref q154, .null, .null, .null, .int 0, .null, .null, .null, .null, .null, .null, .null])) :: (q99, .inl (tA 6, 512, .inr (.inr (.inr (.inr (fun _ => none)))))) :: (q82, .inl (tA 6, 1536, .inr (.inr (.inr (.inr (fun _ => none)))))) :: T154) := hD52
  refine lv_aload_n hx hb d_MS_init_159 rfl (lv_at hl 0 rfl) ?_
  refine lv_sipush (v := 512) hx hb d_MS_init_160 (by decide) ?_
  refine zNewq (N' := 512) hx hb hown (hg _ k9_186) (hg _ k9_187) hK hP52 hD52 hS52 hA 6 rfl (by decide) (by decide) (by decide) (Nat.le_of_ble_eq_true rfl) (Nat.le_of_ble_eq_true rfl) d_MS_init_163 (fun q163 H53 hP53 hD53 hS53 => ?_)
  clear hP52 hD52 hS52
  refine zPull (fun hP54 hD54 => ?_) hP53 hD53
  clear hP53 hD53
  refine va_putF (D := D) (ci := 16) (v := .ref q163) (ty := .array (.object "ChanceArenaModel$Fraction")) (C := R_MS) (T := T_MS) (N := 32) hx hb hg i_MS t_MS o_MS n_MS hown hK hP54 hD54 hS53 0 rfl rfl 21 (by decide) (hg _ k9_210) (fun _ h9 => h9) rfl hnm rfl (by decide +kernel) rfl rfl (Nat.le_of_ble_eq_true rfl) d_MS_init_166 (fun H55 locs55 hP55 hD55 hS55 => ?_)
  clear hP54 hD54 hS53
  replace hP55 : va_P D vwCl ((h0, .inr (16, [.ref q5, .int 0, .int 0, .int 0, .ref q19, .ref q28, .ref q37, .ref q46, .ref q55, .ref q64, .ref q73, .ref q82, .ref q90, .ref q99, .ref q109, .ref q118, .ref q127, .int 0, .ref q136, .ref q145, .ref q154, .ref q163, .null, .null, .int 0, .null, .null, .null, .null, .null, .null, .null])) :: (q163, .inl (tA 6, 512, .inr (.inr (.inr (.inr (fun _ => none)))))) :: (q99, .inl (tA 6, 512, .inr (.inr (.inr (.inr (fun _ => none)))))) :: (q82, .inl (tA 6, 1536, .inr (.inr (.inr (.inr (fun _ => none)))))) :: T154) _ := hP55
  replace hD55 : va_D A ((h0, .inr (16, [.ref q5, .int 0, .int 0, .int 0, .ref q19, .ref q28, .ref q37, .ref q46, .ref q55, .ref q64, .ref q73, .ref q82, .ref q90, .ref q99, .ref q109, .ref q118, .ref q127, .int 0, .ref q136, .ref q145, .ref q154, .ref q163, .null, .null, .int 0, .null, .null, .null, .null, .null, .null, .null])) :: (q163, .inl (tA 6, 512, .inr (.inr (.inr (.inr (fun _ => none)))))) :: (q99, .inl (tA 6, 512, .inr (.inr (.inr (.inr (fun _ => none)))))) :: (q82, .inl (tA 6, 1536, .inr (.inr (.inr (.inr (fun _ => none)))))) :: T154) := hD55
  refine lv_aload_n hx hb d_MS_init_169 rfl (lv_at hl 0 rfl) ?_
  refine lv_bipush (v := 40) hx hb d_MS_init_170 (by decide) ?_
  refine zNewa (atype := .int) (ty := .int) (a0 := (40, .inl (fun _ => 0))) (N' := 40) hx hb rfl (hg _ k1_82) hK hP55 hD55 hS55 hA 0 rfl (fun _ h => by cases h) (fun _ => rfl) (by decide) (by decide) (by decide) (Nat.le_of_ble_eq_true rfl) (Nat.le_of_ble_eq_true rfl) d_MS_init_172 (fun q172 H56 hP56 hD56 hS56 => ?_)
  clear hP55 hD55 hS55
  refine zCons3 (fun T172 e172 hP57 hD57 => ?_) hP56 hD56
  clear hP56 hD56
  refine va_putF (D := D) (ci := 16) (v := .ref q172) (ty := .array .int) (C := R_MS) (T := T_MS) (N := 32) hx hb hg i_MS t_MS o_MS n_MS hown hK hP57 hD57 hS56 0 rfl rfl 22 (by decide) (hg _ k9_211) (fun _ h9 => h9) rfl hnm rfl (by decide +kernel) rfl rfl (Nat.le_of_ble_eq_true rfl) d_MS_init_174 (fun H58 locs58 hP58 hD58 hS58 => ?_)
  clear hP57 hD57 hS56
  replace hP58 : va_P D vwCl ((h0, .inr (16, [.ref q5, .int 0, .int 0, .int 0, .ref q19, .ref q28, .ref q37, .ref q46, .ref q55, .ref q64, .ref q73, .ref q82, .ref q90, .ref q99, .ref q109, .ref q118, .ref q127, .int 0, .ref q136, .ref q145, .ref q154, .ref q163, .ref q172, .null, .int 0, .null, .null, .null, .null, .null, .null, .null])) :: (q163, .inl (tA 6, 512, .inr (.inr (.inr (.inr (fun _ => none)))))) :: (q99, .inl (tA 6, 512, .inr (.inr (.inr (.inr (fun _ => none)))))) :: (q82, .inl (tA 6, 1536, .inr (.inr (.inr (.inr (fun _ => none)))))) :: T172) _ := hP58
  replace hD58 : va_D A ((h0, .inr (16, [.ref q5, .int 0, .int 0, .int 0, .ref q19, .ref q28, .ref q37, .ref q46, .ref q55, .ref q64, .ref q73, .ref q82, .ref q90, .ref q99, .ref q109, .ref q118, .ref q127, .int 0, .ref q136, .ref q145, .ref q154, .ref q163, .ref q172, .null, .int 0, .null, .null, .null, .null, .null, .null, .null])) :: (q163, .inl (tA 6, 512, .inr (.inr (.inr (.inr (fun _ => none)))))) :: (q99, .inl (tA 6, 512, .inr (.inr (.inr (.inr (fun _ => none)))))) :: (q82, .inl (tA 6, 1536, .inr (.inr (.inr (.inr (fun _ => none)))))) :: T172) := hD58
  refine lv_aload_n hx hb d_MS_init_177 rfl (lv_at hl 0 rfl) ?_
  refine lv_sipush (v := 512) hx hb d_MS_init_178 (by decide) ?_
  refine zNewa (atype := .int) (ty := .int) (a0 := (512, .inl (fun _ => 0))) (N' := 512) hx hb rfl (hg _ k1_82) hK hP58 hD58 hS58 hA 0 rfl (fun _ h => by cases h) (fun _ => rfl) (by decide) (by decide) (by decide) (Nat.le_of_ble_eq_true rfl) (Nat.le_of_ble_eq_true rfl) d_MS_init_181 (fun q181 H59 hP59 hD59 hS59 => ?_)
  clear hP58 hD58 hS58
  refine zCons3 (fun T181 e181 hP60 hD60 => ?_) hP59 hD59
  clear hP59 hD59
  refine va_putF (D := D) (ci := 16) (v := .ref q181) (ty := .array .int) (C := R_MS) (T := T_MS) (N := 32) hx hb hg i_MS t_MS o_MS n_MS hown hK hP60 hD60 hS59 0 rfl rfl 23 (by decide) (hg _ k9_212) (fun _ h9 => h9) rfl hnm rfl (by decide +kernel) rfl rfl (Nat.le_of_ble_eq_true rfl) d_MS_init_183 (fun H61 locs61 hP61 hD61 hS61 => ?_)
  clear hP60 hD60 hS59
  replace hP61 : va_P D vwCl ((h0, .inr (16, [.ref q5, .int 0, .int 0, .int 0, .ref q19, .ref q28, .ref q37, .ref q46, .ref q55, .ref q64, .ref q73, .ref q82, .ref q90, .ref q99, .ref q109, .ref q118, .ref q127, .int 0, .ref q136, .ref q145, .ref q154, .ref q163, .ref q172, .ref q181, .int 0, .null, .null, .null, .null, .null, .null, .null])) :: (q163, .inl (tA 6, 512, .inr (.inr (.inr (.inr (fun _ => none)))))) :: (q99, .inl (tA 6, 512, .inr (.inr (.inr (.inr (fun _ => none)))))) :: (q82, .inl (tA 6, 1536, .inr (.inr (.inr (.inr (fun _ => none)))))) :: T181) _ := hP61
  replace hD61 : va_D A ((h0, .inr (16, [.ref q5, .int 0, .int 0, .int 0, .ref q19, .ref q28, .ref q37, .ref q46, .ref q55, .ref q64, .ref q73, .ref q82, .ref q90, .ref q99, .ref q109, .ref q118, .ref q127, .int 0, .ref q136, .ref q145, .ref q154, .ref q163, .ref q172, .ref q181, .int 0, .null, .null, .null, .null, .null, .null, .null])) :: (q163, .inl (tA 6, 512, .inr (.inr (.inr (.inr (fun _ => none)))))) :: (q99, .inl (tA 6, 512, .inr (.inr (.inr (.inr (fun _ => none)))))) :: (q82, .inl (tA 6, 1536, .inr (.inr (.inr (.inr (fun _ => none)))))) :: T181) := hD61
  refine lv_aload_n hx hb d_MS_init_186 rfl (lv_at hl 0 rfl) ?_
  refine lv_sipush (v := 1640) hx hb d_MS_init_187 (by decide) ?_
  refine zNewq (N' := 1640) hx hb hown (hg _ k9_186) (hg _ k9_187) hK hP61 hD61 hS61 hA 6 rfl (by decide) (by decide) (by decide) (Nat.le_of_ble_eq_true rfl) (Nat.le_of_ble_eq_true rfl) d_MS_init_190 (fun q190 H62 hP62 hD62 hS62 => ?_)
  clear hP61 hD61 hS61
  refine zPull (fun hP63 hD63 => ?_) hP62 hD62
  clear hP62 hD62
  refine va_putF (D := D) (ci := 16) (v := .ref q190) (ty := .array (.object "ChanceArenaModel$Fraction")) (C := R_MS) (T := T_MS) (N := 32) hx hb hg i_MS t_MS o_MS n_MS hown hK hP63 hD63 hS62 0 rfl rfl 25 (by decide) (hg _ k9_214) (fun _ h9 => h9) rfl hnm rfl (by decide +kernel) rfl rfl (Nat.le_of_ble_eq_true rfl) d_MS_init_193 (fun H64 locs64 hP64 hD64 hS64 => ?_)
  clear hP63 hD63 hS62
  replace hP64 : va_P D vwCl ((h0, .inr (16, [.ref q5, .int 0, .int 0, .int 0, .ref q19, .ref q28, .ref q37, .ref q46, .ref q55, .ref q64, .ref q73, .ref q82, .ref q90, .ref q99, .ref q109, .ref q118, .ref q127, .int 0, .ref q136, .ref q145, .ref q154, .ref q163, .ref q172, .ref q181, .int 0, .ref q190, .null, .null, .null, .null, .null, .null])) :: (q190, .inl (tA 6, 1640, .inr (.inr (.inr (.inr (fun _ => none)))))) :: (q163, .inl (tA 6, 512, .inr (.inr (.inr (.inr (fun _ => none)))))) :: (q99, .inl (tA 6, 512, .inr (.inr (.inr (.inr (fun _ => none)))))) :: (q82, .inl (tA 6, 1536, .inr (.inr (.inr (.inr (fun _ => none)))))) :: T181) _ := hP64
  replace hD64 : va_D A ((h0, .inr (16, [.ref q5, .int 0, .int 0, .int 0, .ref q19, .ref q28, .ref q37, .ref q46, .ref q55, .ref q64, .ref q73, .ref q82, .ref q90, .ref q99, .ref q109, .ref q118, .ref q127, .int 0, .ref q136, .ref q145, .ref q154, .ref q163, .ref q172, .ref q181, .int 0, .ref q190, .null, .null, .null, .null, .null, .null])) :: (q190, .inl (tA 6, 1640, .inr (.inr (.inr (.inr (fun _ => none)))))) :: (q163, .inl (tA 6, 512, .inr (.inr (.inr (.inr (fun _ => none)))))) :: (q99, .inl (tA 6, 512, .inr (.inr (.inr (.inr (fun _ => none)))))) :: (q82, .inl (tA 6, 1536, .inr (.inr (.inr (.inr (fun _ => none)))))) :: T181) := hD64
  refine lv_aload_n hx hb d_MS_init_196 rfl (lv_at hl 0 rfl) ?_
  refine va_new (ci := 18) (fs := [.null, .null, .int 0]) (C := R_MF) (T := T_MF) (N := 3) hx hb hg i_MF t_MF o_MF hown (hg _ k9_186) (hg _ k9_123) (hg _ k1_19) hK hP64 hD64 hS64 hA rfl f_MF (Nat.le_of_ble_eq_true rfl) (Nat.le_of_ble_eq_true rfl) d_MS_init_197 (fun q197 H65 hP65 hD65 hS65 => ?_)
  clear hP64 hD64 hS64
  refine lv_dup hx hb d_MS_init_200 rfl ?_
  refine lv_bipush (v := 8) hx hb d_MS_init_201 (by decide) ?_
  refine zInit hP65 hD65 hS65 hA (va_runI (As := [.int (nI 8)]) (rest := [.ref q197, .ref h0]) ⟨hx, hb, hml, hown, hg⟩ (c_MF_init l D tA q197 H65.size 8 (by decide) (by decide)) (cwI 1 hg (zGood k9_126 rfl) rfl rfl rfl (hg _ k1_19) (hg _ k9_188) (hg _ k9_125) rfl (by decide +kernel) ⟨(Nat.le_of_ble_eq_true rfl), (Nat.le_of_ble_eq_true rfl)⟩) (zPreI hh hK hP65 hD65) rfl rfl hl.1 rfl (lv_room (Nat.le_of_ble_eq_true rfl)) d_MS_init_203 ⟨(Nat.le_of_ble_eq_true rfl), (Nat.le_of_ble_eq_true rfl)⟩) (fun u197 H66 locs66 _ hP66 hD66 hS66 => ?_)
  clear hP65 hD65 hS65
  refine zCons4 (fun T203 e203 hP67 hD67 => ?_) hP66 hD66
  clear hP66 hD66
  refine va_putF (D := D) (ci := 16) (v := .ref q197) (ty := .object "ChanceArenaModel$Fraction") (C := R_MS) (T := T_MS) (N := 32) hx hb hg i_MS t_MS o_MS n_MS hown hK hP67 hD67 hS66 0 rfl rfl 26 (by decide) (hg _ k9_215) (fun _ h9 => h9) rfl hnm rfl (by decide +kernel) rfl rfl (Nat.le_of_ble_eq_true rfl) d_MS_init_206 (fun H68 locs68 hP68 hD68 hS68 => ?_)
  clear hP67 hD67 hS66
  replace hP68 : va_P D vwCl ((h0, .inr (16, [.ref q5, .int 0, .int 0, .int 0, .ref q19, .ref q28, .ref q37, .ref q46, .ref q55, .ref q64, .ref q73, .ref q82, .ref q90, .ref q99, .ref q109, .ref q118, .ref q127, .int 0, .ref q136, .ref q145, .ref q154, .ref q163, .ref q172, .ref q181, .int 0, .ref q190, .ref q197, .null, .null, .null, .null, .null])) :: (q190, .inl (tA 6, 1640, .inr (.inr (.inr (.inr (fun _ => none)))))) :: (q163, .inl (tA 6, 512, .inr (.inr (.inr (.inr (fun _ => none)))))) :: (q99, .inl (tA 6, 512, .inr (.inr (.inr (.inr (fun _ => none)))))) :: (q82, .inl (tA 6, 1536, .inr (.inr (.inr (.inr (fun _ => none)))))) :: T203) _ := hP68
  replace hD68 : va_D A ((h0, .inr (16, [.ref q5, .int 0, .int 0, .int 0, .ref q19, .ref q28, .ref q37, .ref q46, .ref q55, .ref q64, .ref q73, .ref q82, .ref q90, .ref q99, .ref q109, .ref q118, .ref q127, .int 0, .ref q136, .ref q145, .ref q154, .ref q163, .ref q172, .ref q181, .int 0, .ref q190, .ref q197, .null, .null, .null, .null, .null])) :: (q190, .inl (tA 6, 1640, .inr (.inr (.inr (.inr (fun _ => none)))))) :: (q163, .inl (tA 6, 512, .inr (.inr (.inr (.inr (fun _ => none)))))) :: (q99, .inl (tA 6, 512, .inr (.inr (.inr (.inr (fun _ => none)))))) :: (q82, .inl (tA 6, 1536, .inr (.inr (.inr (.inr (fun _ => none)))))) :: T203) := hD68
  refine lv_aload_n hx hb d_MS_init_209 rfl (lv_at hl 0 rfl) ?_
  refine va_new (ci := 18) (fs := [.null, .null, .int 0]) (C := R_MF) (T := T_MF) (N := 3) hx hb hg i_MF t_MF o_MF hown (hg _ k9_186) (hg _ k9_123) (hg _ k1_19) hK hP68 hD68 hS68 hA rfl f_MF (Nat.le_of_ble_eq_true rfl) (Nat.le_of_ble_eq_true rfl) d_MS_init_210 (fun q210 H69 hP69 hD69 hS69 => ?_)
  clear hP68 hD68 hS68
  refine lv_dup hx hb d_MS_init_213 rfl ?_
  refine lv_bipush (v := 56) hx hb d_MS_init_214 (by decide) ?_
  refine zInit hP69 hD69 hS69 hA (va_runI (As := [.int (nI 56)]) (rest := [.ref q210, .ref h0]) ⟨hx, hb, hml, hown, hg⟩ (c_MF_init l D tA q210 H69.size 56 (by decide) (by decide)) (cwI 1 hg (zGood k9_126 rfl) rfl rfl rfl (hg _ k1_19) (hg _ k9_188) (hg _ k9_125) rfl (by decide +kernel) ⟨(Nat.le_of_ble_eq_true rfl), (Nat.le_of_ble_eq_true rfl)⟩) (zPreI hh hK hP69 hD69) rfl rfl hl.1 rfl (lv_room (Nat.le_of_ble_eq_true rfl)) d_MS_init_216 ⟨(Nat.le_of_ble_eq_true rfl), (Nat.le_of_ble_eq_true rfl)⟩) (fun u210 H70 locs70 _ hP70 hD70 hS70 => ?_)
  clear hP69 hD69 hS69
  refine zCons4 (fun T216 e216 hP71 hD71 => ?_) hP70 hD70
  clear hP70 hD70
  refine va_putF (D := D) (ci := 16) (v := .ref q210) (ty := .object "ChanceArenaModel$Fraction") (C := R_MS) (T := T_MS) (N := 32) hx hb hg i_MS t_MS o_MS n_MS hown hK hP71 hD71 hS70 0 rfl rfl 27 (by decide) (hg _ k9_216) (fun _ h9 => h9) rfl hnm rfl (by decide +kernel) rfl rfl (Nat.le_of_ble_eq_true rfl) d_MS_init_219 (fun H72 locs72 hP72 hD72 hS72 => ?_)
  clear hP71 hD71 hS70
  replace hP72 : va_P D vwCl ((h0, .inr (16, [.ref q5, .int 0, .int 0, .int 0, .ref q19, .ref q28, .ref q37, .ref q46, .ref q55, .ref q64, .ref q73, .ref q82, .ref q90, .ref q99, .ref q109, .ref q118, .ref q127, .int 0, .ref q136, .ref q145, .ref q154, .ref q163, .ref q172, .ref q181, .int 0, .ref q190, .ref q197, .ref q210, .null, .null, .null, .null])) :: (q190, .inl (tA 6, 1640, .inr (.inr (.inr (.inr (fun _ => none)))))) :: (q163, .inl (tA 6, 512, .inr (.inr (.inr (.inr (fun _ => none)))))) :: (q99, .inl (tA 6, 512, .inr (.inr (.inr (.inr (fun _ => none)))))) :: (q82, .inl (tA 6, 1536, .inr (.inr (.inr (.inr (fun _ => none)))))) :: T216) _ := hP72
  replace hD72 : va_D A ((h0, .inr (16, [.ref q5, .int 0, .int 0, .int 0, .ref q19, .ref q28, .ref q37, .ref q46, .ref q55, .ref q64, .ref q73, .ref q82, .ref q90, .ref q99, .ref q109, .ref q118, .ref q127, .int 0, .ref q136, .ref q145, .ref q154, .ref q163, .ref q172, .ref q181, .int 0, .ref q190, .ref q197, .ref q210, .null, .null, .null, .null])) :: (q190, .inl (tA 6, 1640, .inr (.inr (.inr (.inr (fun _ => none)))))) :: (q163, .inl (tA 6, 512, .inr (.inr (.inr (.inr (fun _ => none)))))) :: (q99, .inl (tA 6, 512, .inr (.inr (.inr (.inr (fun _ => none)))))) :: (q82, .inl (tA 6, 1536, .inr (.inr (.inr (.inr (fun _ => none)))))) :: T216) := hD72
  refine lv_aload_n hx hb d_MS_init_222 rfl (lv_at hl 0 rfl) ?_
  refine va_new (ci := 18) (fs := [.null, .null, .int 0]) (C := R_MF) (T := T_MF) (N := 3) hx hb hg i_MF t_MF o_MF hown (hg _ k9_186) (hg _ k9_123) (hg _ k1_19) hK hP72 hD72 hS72 hA rfl f_MF (Nat.le_of_ble_eq_true rfl) (Nat.le_of_ble_eq_true rfl) d_MS_init_223 (fun q223 H73 hP73 hD73 hS73 => ?_)
  clear hP72 hD72 hS72
  refine lv_dup hx hb d_MS_init_226 rfl ?_
  refine lv_sipush (v := 900) hx hb d_MS_init_227 (by decide) ?_
  refine zInit hP73 hD73 hS73 hA (va_runI (As := [.int (nI 900)]) (rest := [.ref q223, .ref h0]) ⟨hx, hb, hml, hown, hg⟩ (c_MF_init l D tA q223 H73.size 900 (by decide) (by decide)) (cwI 1 hg (zGood k9_126 rfl) rfl rfl rfl (hg _ k1_19) (hg _ k9_188) (hg _ k9_125) rfl (by decide +kernel) ⟨(Nat.le_of_ble_eq_true rfl), (Nat.le_of_ble_eq_true rfl)⟩) (zPreI hh hK hP73 hD73) rfl rfl hl.1 rfl (lv_room (Nat.le_of_ble_eq_true rfl)) d_MS_init_230 ⟨(Nat.le_of_ble_eq_true rfl), (Nat.le_of_ble_eq_true rfl)⟩) (fun u223 H74 locs74 _ hP74 hD74 hS74 => ?_)
  clear hP73 hD73 hS73
  refine zCons4 (fun T230 e230 hP75 hD75 => ?_) hP74 hD74
  clear hP74 hD74
  refine va_putF (D := D) (ci := 16) (v := .ref q223) (ty := .object "ChanceArenaModel$Fraction") (C := R_MS) (T := T_MS) (N := 32) hx hb hg i_MS t_MS o_MS n_MS hown hK hP75 hD75 hS74 0 rfl rfl 28 (by decide) (hg _ k9_217) (fun _ h9 => h9) rfl hnm rfl (by decide +kernel) rfl rfl (Nat.le_of_ble_eq_true rfl) d_MS_init_233 (fun H76 locs76 hP76 hD76 hS76 => ?_)
  clear hP75 hD75 hS74
  replace hP76 : va_P D vwCl ((h0, .inr (16, [.ref q5, .int 0, .int 0, .int 0, .ref q19, .ref q28, .ref q37, .ref q46, .ref q55, .ref q64, .ref q73, .ref q82, .ref q90, .ref q99, .ref q109, .ref q118, .ref q127, .int 0, .ref q136, .ref q145, .ref q154, .ref q163, .ref q172, .ref q181, .int 0, .ref q190, .ref q197, .ref q210, .ref q223, .null, .null, .null])) :: (q190, .inl (tA 6, 1640, .inr (.inr (.inr (.inr (fun _ => none)))))) :: (q163, .inl (tA 6, 512, .inr (.inr (.inr (.inr (fun _ => none)))))) :: (q99, .inl (tA 6, 512, .inr (.inr (.inr (.inr (fun _ => none)))))) :: (q82, .inl (tA 6, 1536, .inr (.inr (.inr (.inr (fun _ => none)))))) :: T230) _ := hP76
  replace hD76 : va_D A ((h0, .inr (16, [.ref q5, .int 0, .int 0, .int 0, .ref q19, .ref q28, .ref q37, .ref q46, .ref q55, .ref q64, .ref q73, .ref q82, .ref q90, .ref q99, .ref q109, .ref q118, .ref q127, .int 0, .ref q136, .ref q145, .ref q154, .ref q163, .ref q172, .ref q181, .int 0, .ref q190, .ref q197, .ref q210, .ref q223, .null, .null, .null])) :: (q190, .inl (tA 6, 1640, .inr (.inr (.inr (.inr (fun _ => none)))))) :: (q163, .inl (tA 6, 512, .inr (.inr (.inr (.inr (fun _ => none)))))) :: (q99, .inl (tA 6, 512, .inr (.inr (.inr (.inr (fun _ => none)))))) :: (q82, .inl (tA 6, 1536, .inr (.inr (.inr (.inr (fun _ => none)))))) :: T230) := hD76
  refine lv_aload_n hx hb d_MS_init_236 rfl (lv_at hl 0 rfl) ?_
  refine va_new (ci := 18) (fs := [.null, .null, .int 0]) (C := R_MF) (T := T_MF) (N := 3) hx hb hg i_MF t_MF o_MF hown (hg _ k9_186) (hg _ k9_123) (hg _ k1_19) hK hP76 hD76 hS76 hA rfl f_MF (Nat.le_of_ble_eq_true rfl) (Nat.le_of_ble_eq_true rfl) d_MS_init_237 (fun q237 H77 hP77 hD77 hS77 => ?_)
  clear hP76 hD76 hS76
  refine lv_dup hx hb d_MS_init_240 rfl ?_
  refine lv_sipush (v := 900) hx hb d_MS_init_241 (by decide) ?_
  refine zInit hP77 hD77 hS77 hA (va_runI (As := [.int (nI 900)]) (rest := [.ref q237, .ref h0]) ⟨hx, hb, hml, hown, hg⟩ (c_MF_init l D tA q237 H77.size 900 (by decide) (by decide)) (cwI 1 hg (zGood k9_126 rfl) rfl rfl rfl (hg _ k1_19) (hg _ k9_188) (hg _ k9_125) rfl (by decide +kernel) ⟨(Nat.le_of_ble_eq_true rfl), (Nat.le_of_ble_eq_true rfl)⟩) (zPreI hh hK hP77 hD77) rfl rfl hl.1 rfl (lv_room (Nat.le_of_ble_eq_true rfl)) d_MS_init_244 ⟨(Nat.le_of_ble_eq_true rfl), (Nat.le_of_ble_eq_true rfl)⟩) (fun u237 H78 locs78 _ hP78 hD78 hS78 => ?_)
  clear hP77 hD77 hS77
  refine zCons4 (fun T244 e244 hP79 hD79 => ?_) hP78 hD78
  clear hP78 hD78
  refine va_putF (D := D) (ci := 16) (v := .ref q237) (ty := .object "ChanceArenaModel$Fraction") (C := R_MS) (T := T_MS) (N := 32) hx hb hg i_MS t_MS o_MS n_MS hown hK hP79 hD79 hS78 0 rfl rfl 29 (by decide) (hg _ k9_218) (fun _ h9 => h9) rfl hnm rfl (by decide +kernel) rfl rfl (Nat.le_of_ble_eq_true rfl) d_MS_init_247 (fun H80 locs80 hP80 hD80 hS80 => ?_)
  clear hP79 hD79 hS78
  replace hP80 : va_P D vwCl ((h0, .inr (16, [.ref q5, .int 0, .int 0, .int 0, .ref q19, .ref q28, .ref q37, .ref q46, .ref q55, .ref q64, .ref q73, .ref q82, .ref q90, .ref q99, .ref q109, .ref q118, .ref q127, .int 0, .ref q136, .ref q145, .ref q154, .ref q163, .ref q172, .ref q181, .int 0, .ref q190, .ref q197, .ref q210, .ref q223, .ref q237, .null, .null])) :: (q190, .inl (tA 6, 1640, .inr (.inr (.inr (.inr (fun _ => none)))))) :: (q163, .inl (tA 6, 512, .inr (.inr (.inr (.inr (fun _ => none)))))) :: (q99, .inl (tA 6, 512, .inr (.inr (.inr (.inr (fun _ => none)))))) :: (q82, .inl (tA 6, 1536, .inr (.inr (.inr (.inr (fun _ => none)))))) :: T244) _ := hP80
  replace hD80 : va_D A ((h0, .inr (16, [.ref q5, .int 0, .int 0, .int 0, .ref q19, .ref q28, .ref q37, .ref q46, .ref q55, .ref q64, .ref q73, .ref q82, .ref q90, .ref q99, .ref q109, .ref q118, .ref q127, .int 0, .ref q136, .ref q145, .ref q154, .ref q163, .ref q172, .ref q181, .int 0, .ref q190, .ref q197, .ref q210, .ref q223, .ref q237, .null, .null])) :: (q190, .inl (tA 6, 1640, .inr (.inr (.inr (.inr (fun _ => none)))))) :: (q163, .inl (tA 6, 512, .inr (.inr (.inr (.inr (fun _ => none)))))) :: (q99, .inl (tA 6, 512, .inr (.inr (.inr (.inr (fun _ => none)))))) :: (q82, .inl (tA 6, 1536, .inr (.inr (.inr (.inr (fun _ => none)))))) :: T244) := hD80
  refine lv_aload_n hx hb d_MS_init_250 rfl (lv_at hl 0 rfl) ?_
  refine va_new (ci := 18) (fs := [.null, .null, .int 0]) (C := R_MF) (T := T_MF) (N := 3) hx hb hg i_MF t_MF o_MF hown (hg _ k9_186) (hg _ k9_123) (hg _ k1_19) hK hP80 hD80 hS80 hA rfl f_MF (Nat.le_of_ble_eq_true rfl) (Nat.le_of_ble_eq_true rfl) d_MS_init_251 (fun q251 H81 hP81 hD81 hS81 => ?_)
  clear hP80 hD80 hS80
  refine lv_dup hx hb d_MS_init_254 rfl ?_
  refine lv_sipush (v := 900) hx hb d_MS_init_255 (by decide) ?_
  refine zInit hP81 hD81 hS81 hA (va_runI (As := [.int (nI 900)]) (rest := [.ref q251, .ref h0]) ⟨hx, hb, hml, hown, hg⟩ (c_MF_init l D tA q251 H81.size 900 (by decide) (by decide)) (cwI 1 hg (zGood k9_126 rfl) rfl rfl rfl (hg _ k1_19) (hg _ k9_188) (hg _ k9_125) rfl (by decide +kernel) ⟨(Nat.le_of_ble_eq_true rfl), (Nat.le_of_ble_eq_true rfl)⟩) (zPreI hh hK hP81 hD81) rfl rfl hl.1 rfl (lv_room (Nat.le_of_ble_eq_true rfl)) d_MS_init_258 ⟨(Nat.le_of_ble_eq_true rfl), (Nat.le_of_ble_eq_true rfl)⟩) (fun u251 H82 locs82 _ hP82 hD82 hS82 => ?_)
  clear hP81 hD81 hS81
  refine zCons4 (fun T258 e258 hP83 hD83 => ?_) hP82 hD82
  clear hP82 hD82
  refine va_putF (D := D) (ci := 16) (v := .ref q251) (ty := .object "ChanceArenaModel$Fraction") (C := R_MS) (T := T_MS) (N := 32) hx hb hg i_MS t_MS o_MS n_MS hown hK hP83 hD83 hS82 0 rfl rfl 30 (by decide) (hg _ k9_219) (fun _ h9 => h9) rfl hnm rfl (by decide +kernel) rfl rfl (Nat.le_of_ble_eq_true rfl) d_MS_init_261 (fun H84 locs84 hP84 hD84 hS84 => ?_)
  clear hP83 hD83 hS82
  replace hP84 : va_P D vwCl ((h0, .inr (16, [.ref q5, .int 0, .int 0, .int 0, .ref q19, .ref q28, .ref q37, .ref q46, .ref q55, .ref q64, .ref q73, .ref q82, .ref q90, .ref q99, .ref q109, .ref q118, .ref q127, .int 0, .ref q136, .ref q145, .ref q154, .ref q163, .ref q172, .ref q181, .int 0, .ref q190, .ref q197, .ref q210, .ref q223, .ref q237, .ref q251, .null])) :: (q190, .inl (tA 6, 1640, .inr (.inr (.inr (.inr (fun _ => none)))))) :: (q163, .inl (tA 6, 512, .inr (.inr (.inr (.inr (fun _ => none)))))) :: (q99, .inl (tA 6, 512, .inr (.inr (.inr (.inr (fun _ => none)))))) :: (q82, .inl (tA 6, 1536, .inr (.inr (.inr (.inr (fun _ => none)))))) :: T258) _ := hP84
  replace hD84 : va_D A ((h0, .inr (16, [.ref q5, .int 0, .int 0, .int 0, .ref q19, .ref q28, .ref q37, .ref q46, .ref q55, .ref q64, .ref q73, .ref q82, .ref q90, .ref q99, .ref q109, .ref q118, .ref q127, .int 0, .ref q136, .ref q145, .ref q154, .ref q163, .ref q172, .ref q181, .int 0, .ref q190, .ref q197, .ref q210, .ref q223, .ref q237, .ref q251, .null])) :: (q190, .inl (tA 6, 1640, .inr (.inr (.inr (.inr (fun _ => none)))))) :: (q163, .inl (tA 6, 512, .inr (.inr (.inr (.inr (fun _ => none)))))) :: (q99, .inl (tA 6, 512, .inr (.inr (.inr (.inr (fun _ => none)))))) :: (q82, .inl (tA 6, 1536, .inr (.inr (.inr (.inr (fun _ => none)))))) :: T258) := hD84
  refine lv_aload_n hx hb d_MS_init_264 rfl (lv_at hl 0 rfl) ?_
  refine lv_sipush (v := 400) hx hb d_MS_init_265 (by decide) ?_
  refine zNewa (atype := .int) (ty := .int) (a0 := (400, .inl (fun _ => 0))) (N' := 400) hx hb rfl (hg _ k1_82) hK hP84 hD84 hS84 hA 0 rfl (fun _ h => by cases h) (fun _ => rfl) (by decide) (by decide) (by decide) (Nat.le_of_ble_eq_true rfl) (Nat.le_of_ble_eq_true rfl) d_MS_init_268 (fun q268 H85 hP85 hD85 hS85 => ?_)
  clear hP84 hD84 hS84
  refine zCons4 (fun T268 e268 hP86 hD86 => ?_) hP85 hD85
  clear hP85 hD85
  refine va_putF (D := D) (ci := 16) (v := .ref q268) (ty := .array .int) (C := R_MS) (T := T_MS) (N := 32) hx hb hg i_MS t_MS o_MS n_MS hown hK hP86 hD86 hS85 0 rfl rfl 31 (by decide) (hg _ k9_220) (fun _ h9 => h9) rfl hnm rfl (by decide +kernel) rfl rfl (Nat.le_of_ble_eq_true rfl) d_MS_init_270 (fun H87 locs87 hP87 hD87 hS87 => ?_)
  clear hP86 hD86 hS85
  replace hP87 : va_P D vwCl ((h0, .inr (16, [.ref q5, .int 0, .int 0, .int 0, .ref q19, .ref q28, .ref q37, .ref q46, .ref q55, .ref q64, .ref q73, .ref q82, .ref q90, .ref q99, .ref q109, .ref q118, .ref q127, .int 0, .ref q136, .ref q145, .ref q154, .ref q163, .ref q172, .ref q181, .int 0, .ref q190, .ref q197, .ref q210, .ref q223, .ref q237, .ref q251, .ref q268])) :: (q190, .inl (tA 6, 1640, .inr (.inr (.inr (.inr (fun _ => none)))))) :: (q163, .inl (tA 6, 512, .inr (.inr (.inr (.inr (fun _ => none)))))) :: (q99, .inl (tA 6, 512, .inr (.inr (.inr (.inr (fun _ => none)))))) :: (q82, .inl (tA 6, 1536, .inr (.inr (.inr (.inr (fun _ => none)))))) :: T268) _ := hP87
  replace hD87 : va_D A ((h0, .inr (16, [.ref q5, .int 0, .int 0, .int 0, .ref q19, .ref q28, .ref q37, .ref q46, .ref q55, .ref q64, .ref q73, .ref q82, .ref q90, .ref q99, .ref q109, .ref q118, .ref q127, .int 0, .ref q136, .ref q145, .ref q154, .ref q163, .ref q172, .ref q181, .int 0, .ref q190, .ref q197, .ref q210, .ref q223, .ref q237, .ref q251, .ref q268])) :: (q190, .inl (tA 6, 1640, .inr (.inr (.inr (.inr (fun _ => none)))))) :: (q163, .inl (tA 6, 512, .inr (.inr (.inr (.inr (fun _ => none)))))) :: (q99, .inl (tA 6, 512, .inr (.inr (.inr (.inr (fun _ => none)))))) :: (q82, .inl (tA 6, 1536, .inr (.inr (.inr (.inr (fun _ => none)))))) :: T268) := hD87
  refine lv_iconst (v := 0) hx hb d_MS_init_273 (by decide) ?_
  refine lv_istore_n (lv' := [(1, .int (nI 0)), (0, .ref h0)]) hx hb d_MS_init_274 rfl hl (by decide) rfl (fun ls hl => ?_)
  refine W.cs (cells' := 67 + 5 * (5 * 0)) (slots' := 43637 + 119 * (5 * 0)) rfl rfl ?_
  refine MS_outer (ac := q190) (av := q163) (an := q99) (af := q82) (fs := [.ref q5, .int 0, .int 0, .int 0, .ref q19, .ref q28, .ref q37, .ref q46, .ref q55, .ref q64, .ref q73, .ref q82, .ref q90, .ref q99, .ref q109, .ref q118, .ref q127, .int 0, .ref q136, .ref q145, .ref q154, .ref q163, .ref q172, .ref q181, .int 0, .ref q190, .ref q197, .ref q210, .ref q223, .ref q237, .ref q251, .ref q268]) (T0 := T268) hx hb hml hh hg hown hK hA rfl rfl rfl ?_ 512 0 rfl (fun _ => (0, 0, 0, 0, 0)) _ _ ls ?_ ?_ hS87 hl
  · intro r H2 locs2 ls2 hP2 hD2 hS2 hl2
    refine lv_iconst (v := 0) hx hb d_MS_init_350 (by decide) ?_
    refine lv_istore_n (lv' := [(1, .int (nI 0)), (0, .ref h0)]) hx hb d_MS_init_351 rfl hl2 (by decide) rfl (fun ls3 hl3 => ?_)
    refine W.cs (cells' := 67 + 5 * (2560 + 0)) (slots' := 43637 + 119 * (2560 + 0)) rfl rfl ?_
    refine MS_cells hx hb hml hh hg hown hK hA rfl ?_ 1640 0 rfl r _ _ ls3 hP2 hD2 hS2 hl3
    intro r5 H5 locs5 ls5 hP5 hD5 hS5 hl5
    refine W.cs (cells' := 21067) (slots' := 543437) rfl rfl ?_
    exact zVret hx hb hr hlocks hP5 hD5 hS5 ((q5, u5), q19, q28, q37, q46, q55, q64, q73, q82, q90, q99, q109, q118, q127, q136, q145, q154, q163, q172, q181, q190, (q197, u197), (q210, u210), (q223, u223), (q237, u237), (q251, u251), q268, r5) trivial (by rw [e268, e258, e244, e230, e216, e203, e181, e172, e154, e145, e136, e127, e118, e109, e90, e73, e64, e55, e46, e37, e28, e19, e9]; rfl) d_MS_init_380
  · simp only [Nat.mul_zero, gC_0, gV_0, gN_0, gF_0, f_pool, List.append_nil]
    exact hP87
  · simp only [Nat.mul_zero, gC_0, gV_0, gN_0, gF_0, f_pool, List.append_nil]
    exact hD87
end
section
theorem k1_16 : (Jvm.Cond.initialized "ChanceArenaModel$Game") ∈ lw_R := zR (zk_1 _ (List.mem_of_getElem? (i := 16) (by decide +kernel))) rfl
theorem k1_17 : (Jvm.Cond.initialized "ChanceArenaModel$Solver") ∈ lw_R := zR (zk_1 _ (List.mem_of_getElem? (i := 17) (by decide +kernel))) rfl
theorem k8_203 : (Jvm.Cond.code ({ cls := "ChanceArenaModel", name := "<init>", desc := "()V" } : Jvm.MethodName) prog_15_method_1_code (1 : Nat) (Option.none : Option Jvm.ClassFile.FieldType)) ∈ lw_R := zR (zk_8 _ (List.mem_of_getElem? (i := 203) (by decide +kernel))) rfl
theorem k8_204 : (Jvm.Cond.methodLink "ChanceArenaModel" (1 : Nat) ({ cls := "java/lang/Object", name := "<init>", desc := "()V" } : Jvm.MethodName)) ∈ lw_R := zR (zk_8 _ (List.mem_of_getElem? (i := 204) (by decide +kernel))) rfl
theorem k8_205 : (Jvm.Cond.classLink "ChanceArenaModel" (7 : Nat) "ChanceArenaModel$Numbers") ∈ lw_R := zR (zk_8 _ (List.mem_of_getElem? (i := 205) (by decide +kernel))) rfl
theorem k8_207 : (Jvm.Cond.methodLinkNest "ChanceArenaModel" (9 : Nat) ({ cls := "ChanceArenaModel$Numbers", name := "<init>", desc := "()V" } : Jvm.MethodName) "ChanceArenaModel") ∈ lw_R := zR (zk_8 _ (List.mem_of_getElem? (i := 207) (by decide +kernel))) rfl
theorem k8_221 : (Jvm.Cond.classLink "ChanceArenaModel" (31 : Nat) "ChanceArenaModel$Game") ∈ lw_R := zR (zk_8 _ (List.mem_of_getElem? (i := 221) (by decide +kernel))) rfl
theorem k8_222 : (Jvm.Cond.instantiable "ChanceArenaModel$Game" (30 : Nat)) ∈ lw_R := zR (zk_8 _ (List.mem_of_getElem? (i := 222) (by decide +kernel))) rfl
theorem k8_223 : (Jvm.Cond.methodLinkNest "ChanceArenaModel" (33 : Nat) ({ cls := "ChanceArenaModel$Game", name := "<init>", desc := "()V" } : Jvm.MethodName) "ChanceArenaModel") ∈ lw_R := zR (zk_8 _ (List.mem_of_getElem? (i := 223) (by decide +kernel))) rfl
theorem k8_224 : (Jvm.Cond.instanceMethod ({ cls := "ChanceArenaModel$Game", name := "<init>", desc := "()V" } : Jvm.MethodName)) ∈ lw_R := zR (zk_8 _ (List.mem_of_getElem? (i := 224) (by decide +kernel))) rfl
theorem k9_110 : (Jvm.Cond.classLink "ChanceArenaModel" (114 : Nat) "ChanceArenaModel$Solver") ∈ lw_R := zR (zk_9 _ (List.mem_of_getElem? (i := 110) (by decide +kernel))) rfl
theorem k9_111 : (Jvm.Cond.instantiable "ChanceArenaModel$Solver" (32 : Nat)) ∈ lw_R := zR (zk_9 _ (List.mem_of_getElem? (i := 111) (by decide +kernel))) rfl
theorem k9_112 : (Jvm.Cond.methodLink "ChanceArenaModel" (116 : Nat) ({ cls := "ChanceArenaModel$Solver", name := "<init>", desc := "()V" } : Jvm.MethodName)) ∈ lw_R := zR (zk_9 _ (List.mem_of_getElem? (i := 112) (by decide +kernel))) rfl
theorem k9_113 : (Jvm.Cond.instanceMethod ({ cls := "ChanceArenaModel$Solver", name := "<init>", desc := "()V" } : Jvm.MethodName)) ∈ lw_R := zR (zk_9 _ (List.mem_of_getElem? (i := 113) (by decide +kernel))) rfl
theorem k10_47 : (Jvm.Cond.fieldLink "ChanceArenaModel" (10 : Nat) "ChanceArenaModel" "tape" "LChanceArenaModel$Numbers;") ∈ lw_R := zR (zk_10 _ (List.mem_of_getElem? (i := 47) (by decide +kernel))) rfl
theorem k10_48 : (Jvm.Cond.fieldLink "ChanceArenaModel" (16 : Nat) "ChanceArenaModel" "text" "LChanceArenaModel$Numbers;") ∈ lw_R := zR (zk_10 _ (List.mem_of_getElem? (i := 48) (by decide +kernel))) rfl
theorem k10_49 : (Jvm.Cond.fieldLink "ChanceArenaModel" (19 : Nat) "ChanceArenaModel" "kinds" "LChanceArenaModel$Numbers;") ∈ lw_R := zR (zk_10 _ (List.mem_of_getElem? (i := 49) (by decide +kernel))) rfl
theorem k10_50 : (Jvm.Cond.fieldLink "ChanceArenaModel" (22 : Nat) "ChanceArenaModel" "places" "LChanceArenaModel$Numbers;") ∈ lw_R := zR (zk_10 _ (List.mem_of_getElem? (i := 50) (by decide +kernel))) rfl
theorem k10_51 : (Jvm.Cond.fieldLink "ChanceArenaModel" (25 : Nat) "ChanceArenaModel" "ends" "LChanceArenaModel$Numbers;") ∈ lw_R := zR (zk_10 _ (List.mem_of_getElem? (i := 51) (by decide +kernel))) rfl
theorem k10_52 : (Jvm.Cond.fieldLink "ChanceArenaModel" (28 : Nat) "ChanceArenaModel" "wanted" "LChanceArenaModel$Numbers;") ∈ lw_R := zR (zk_10 _ (List.mem_of_getElem? (i := 52) (by decide +kernel))) rfl
theorem k10_55 : (Jvm.Cond.fieldLink "ChanceArenaModel" (34 : Nat) "ChanceArenaModel" "game" "LChanceArenaModel$Game;") ∈ lw_R := zR (zk_10 _ (List.mem_of_getElem? (i := 55) (by decide +kernel))) rfl
theorem k10_56 : (Jvm.Cond.fieldLink "ChanceArenaModel" (38 : Nat) "ChanceArenaModel" "draft" "LChanceArenaModel$Game;") ∈ lw_R := zR (zk_10 _ (List.mem_of_getElem? (i := 56) (by decide +kernel))) rfl
theorem k10_58 : (Jvm.Cond.fieldLink "ChanceArenaModel" (41 : Nat) "ChanceArenaModel" "wrong" "I") ∈ lw_R := zR (zk_10 _ (List.mem_of_getElem? (i := 58) (by decide +kernel))) rfl
theorem k10_59 : (Jvm.Cond.fieldLink "ChanceArenaModel" (45 : Nat) "ChanceArenaModel" "nameWord" "LChanceArenaModel$Numbers;") ∈ lw_R := zR (zk_10 _ (List.mem_of_getElem? (i := 59) (by decide +kernel))) rfl
theorem k10_60 : (Jvm.Cond.fieldLink "ChanceArenaModel" (48 : Nat) "ChanceArenaModel" "nameSort" "LChanceArenaModel$Numbers;") ∈ lw_R := zR (zk_10 _ (List.mem_of_getElem? (i := 60) (by decide +kernel))) rfl
theorem k10_61 : (Jvm.Cond.fieldLink "ChanceArenaModel" (51 : Nat) "ChanceArenaModel" "nameIndex" "LChanceArenaModel$Numbers;") ∈ lw_R := zR (zk_10 _ (List.mem_of_getElem? (i := 61) (by decide +kernel))) rfl
theorem k10_64 : (Jvm.Cond.fieldLink "ChanceArenaModel" (54 : Nat) "ChanceArenaModel" "jobs" "LChanceArenaModel$Numbers;") ∈ lw_R := zR (zk_10 _ (List.mem_of_getElem? (i := 64) (by decide +kernel))) rfl
theorem k10_65 : (Jvm.Cond.fieldLink "ChanceArenaModel" (57 : Nat) "ChanceArenaModel" "truths" "LChanceArenaModel$Numbers;") ∈ lw_R := zR (zk_10 _ (List.mem_of_getElem? (i := 65) (by decide +kernel))) rfl
theorem k10_66 : (Jvm.Cond.fieldLink "ChanceArenaModel" (60 : Nat) "ChanceArenaModel" "looks" "LChanceArenaModel$Numbers;") ∈ lw_R := zR (zk_10 _ (List.mem_of_getElem? (i := 66) (by decide +kernel))) rfl
theorem k10_67 : (Jvm.Cond.fieldLink "ChanceArenaModel" (63 : Nat) "ChanceArenaModel" "above" "[J") ∈ lw_R := zR (zk_10 _ (List.mem_of_getElem? (i := 67) (by decide +kernel))) rfl
theorem k10_68 : (Jvm.Cond.fieldLink "ChanceArenaModel" (67 : Nat) "ChanceArenaModel" "below" "[J") ∈ lw_R := zR (zk_10 _ (List.mem_of_getElem? (i := 68) (by decide +kernel))) rfl
theorem k10_70 : (Jvm.Cond.fieldLink "ChanceArenaModel" (70 : Nat) "ChanceArenaModel" "todo" "LChanceArenaModel$Numbers;") ∈ lw_R := zR (zk_10 _ (List.mem_of_getElem? (i := 70) (by decide +kernel))) rfl
theorem k10_71 : (Jvm.Cond.fieldLink "ChanceArenaModel" (73 : Nat) "ChanceArenaModel" "now" "[I") ∈ lw_R := zR (zk_10 _ (List.mem_of_getElem? (i := 71) (by decide +kernel))) rfl
theorem k10_72 : (Jvm.Cond.fieldLink "ChanceArenaModel" (77 : Nat) "ChanceArenaModel" "met" "[Z") ∈ lw_R := zR (zk_10 _ (List.mem_of_getElem? (i := 72) (by decide +kernel))) rfl
theorem k10_73 : (Jvm.Cond.fieldLink "ChanceArenaModel" (81 : Nat) "ChanceArenaModel" "metAbove" "[J") ∈ lw_R := zR (zk_10 _ (List.mem_of_getElem? (i := 73) (by decide +kernel))) rfl
theorem k10_74 : (Jvm.Cond.fieldLink "ChanceArenaModel" (84 : Nat) "ChanceArenaModel" "metBelow" "[J") ∈ lw_R := zR (zk_10 _ (List.mem_of_getElem? (i := 74) (by decide +kernel))) rfl
theorem k10_76 : (Jvm.Cond.fieldLink "ChanceArenaModel" (87 : Nat) "ChanceArenaModel" "faultState" "I") ∈ lw_R := zR (zk_10 _ (List.mem_of_getElem? (i := 76) (by decide +kernel))) rfl
theorem k10_77 : (Jvm.Cond.fieldLink "ChanceArenaModel" (90 : Nat) "ChanceArenaModel" "vars" "[I") ∈ lw_R := zR (zk_10 _ (List.mem_of_getElem? (i := 77) (by decide +kernel))) rfl
theorem k10_78 : (Jvm.Cond.fieldLink "ChanceArenaModel" (93 : Nat) "ChanceArenaModel" "kindOf" "[I") ∈ lw_R := zR (zk_10 _ (List.mem_of_getElem? (i := 78) (by decide +kernel))) rfl
theorem k10_79 : (Jvm.Cond.fieldLink "ChanceArenaModel" (96 : Nat) "ChanceArenaModel" "firstCommand" "[I") ∈ lw_R := zR (zk_10 _ (List.mem_of_getElem? (i := 79) (by decide +kernel))) rfl
theorem k10_80 : (Jvm.Cond.fieldLink "ChanceArenaModel" (99 : Nat) "ChanceArenaModel" "manyCommands" "[I") ∈ lw_R := zR (zk_10 _ (List.mem_of_getElem? (i := 80) (by decide +kernel))) rfl
theorem k10_81 : (Jvm.Cond.fieldLink "ChanceArenaModel" (102 : Nat) "ChanceArenaModel" "commandOf" "LChanceArenaModel$Numbers;") ∈ lw_R := zR (zk_10 _ (List.mem_of_getElem? (i := 81) (by decide +kernel))) rfl
theorem k10_82 : (Jvm.Cond.fieldLink "ChanceArenaModel" (105 : Nat) "ChanceArenaModel" "firstBranch" "LChanceArenaModel$Numbers;") ∈ lw_R := zR (zk_10 _ (List.mem_of_getElem? (i := 82) (by decide +kernel))) rfl
theorem k10_83 : (Jvm.Cond.fieldLink "ChanceArenaModel" (108 : Nat) "ChanceArenaModel" "manyBranches" "LChanceArenaModel$Numbers;") ∈ lw_R := zR (zk_10 _ (List.mem_of_getElem? (i := 83) (by decide +kernel))) rfl
theorem k10_84 : (Jvm.Cond.fieldLink "ChanceArenaModel" (111 : Nat) "ChanceArenaModel" "multipleOf" "LChanceArenaModel$Numbers;") ∈ lw_R := zR (zk_10 _ (List.mem_of_getElem? (i := 84) (by decide +kernel))) rfl
theorem k10_85 : (Jvm.Cond.fieldLink "ChanceArenaModel" (117 : Nat) "ChanceArenaModel" "solver" "LChanceArenaModel$Solver;") ∈ lw_R := zR (zk_10 _ (List.mem_of_getElem? (i := 85) (by decide +kernel))) rfl
theorem k10_87 : (Jvm.Cond.fieldLink "ChanceArenaModel" (121 : Nat) "ChanceArenaModel" "wayTo" "[I") ∈ lw_R := zR (zk_10 _ (List.mem_of_getElem? (i := 87) (by decide +kernel))) rfl
theorem k10_88 : (Jvm.Cond.fieldLink "ChanceArenaModel" (124 : Nat) "ChanceArenaModel" "wayAbove" "[J") ∈ lw_R := zR (zk_10 _ (List.mem_of_getElem? (i := 88) (by decide +kernel))) rfl
theorem k10_89 : (Jvm.Cond.fieldLink "ChanceArenaModel" (127 : Nat) "ChanceArenaModel" "wayBelow" "[J") ∈ lw_R := zR (zk_10 _ (List.mem_of_getElem? (i := 89) (by decide +kernel))) rfl
theorem k10_90 : (Jvm.Cond.fieldLink "ChanceArenaModel" (130 : Nat) "ChanceArenaModel" "next" "[I") ∈ lw_R := zR (zk_10 _ (List.mem_of_getElem? (i := 90) (by decide +kernel))) rfl
theorem k10_91 : (Jvm.Cond.fieldLink "ChanceArenaModel" (133 : Nat) "ChanceArenaModel" "chanceAbove" "[J") ∈ lw_R := zR (zk_10 _ (List.mem_of_getElem? (i := 91) (by decide +kernel))) rfl
theorem k10_92 : (Jvm.Cond.fieldLink "ChanceArenaModel" (136 : Nat) "ChanceArenaModel" "chanceBelow" "[J") ∈ lw_R := zR (zk_10 _ (List.mem_of_getElem? (i := 92) (by decide +kernel))) rfl
theorem k10_93 : (Jvm.Cond.fieldLink "ChanceArenaModel" (139 : Nat) "ChanceArenaModel" "printed" "[I") ∈ lw_R := zR (zk_10 _ (List.mem_of_getElem? (i := 93) (by decide +kernel))) rfl
theorem d_MM_init_0 : decode prog_15_method_1_code 0 = .ok (.aload_n 0, 1) := by decide +kernel
theorem d_MM_init_1 : decode prog_15_method_1_code 1 = .ok (.invokespecial 1, 3) := by decide +kernel
theorem d_MM_init_4 : decode prog_15_method_1_code 4 = .ok (.aload_n 0, 1) := by decide +kernel
theorem d_MM_init_5 : decode prog_15_method_1_code 5 = .ok (.new 7, 3) := by decide +kernel
theorem d_MM_init_8 : decode prog_15_method_1_code 8 = .ok (.dup, 1) := by decide +kernel
theorem d_MM_init_9 : decode prog_15_method_1_code 9 = .ok (.invokespecial 9, 3) := by decide +kernel
theorem d_MM_init_12 : decode prog_15_method_1_code 12 = .ok (.putfield 10, 3) := by decide +kernel
theorem d_MM_init_15 : decode prog_15_method_1_code 15 = .ok (.aload_n 0, 1) := by decide +kernel
theorem d_MM_init_16 : decode prog_15_method_1_code 16 = .ok (.new 7, 3) := by decide +kernel
theorem d_MM_init_19 : decode prog_15_method_1_code 19 = .ok (.dup, 1) := by decide +kernel
theorem d_MM_init_20 : decode prog_15_method_1_code 20 = .ok (.invokespecial 9, 3) := by decide +kernel
theorem d_MM_init_23 : decode prog_15_method_1_code 23 = .ok (.putfield 16, 3) := by decide +kernel
theorem d_MM_init_26 : decode prog_15_method_1_code 26 = .ok (.aload_n 0, 1) := by decide +kernel
theorem d_MM_init_27 : decode prog_15_method_1_code 27 = .ok (.new 7, 3) := by decide +kernel
theorem d_MM_init_30 : decode prog_15_method_1_code 30 = .ok (.dup, 1) := by decide +kernel
theorem d_MM_init_31 : decode prog_15_method_1_code 31 = .ok (.invokespecial 9, 3) := by decide +kernel
theorem d_MM_init_34 : decode prog_15_method_1_code 34 = .ok (.putfield 19, 3) := by decide +kernel
theorem d_MM_init_37 : decode prog_15_method_1_code 37 = .ok (.aload_n 0, 1) := by decide +kernel
theorem d_MM_init_38 : decode prog_15_method_1_code 38 = .ok (.new 7, 3) := by decide +kernel
theorem d_MM_init_41 : decode prog_15_method_1_code 41 = .ok (.dup, 1) := by decide +kernel
theorem d_MM_init_42 : decode prog_15_method_1_code 42 = .ok (.invokespecial 9, 3) := by decide +kernel
theorem d_MM_init_45 : decode prog_15_method_1_code 45 = .ok (.putfield 22, 3) := by decide +kernel
theorem d_MM_init_48 : decode prog_15_method_1_code 48 = .ok (.aload_n 0, 1) := by decide +kernel
theorem d_MM_init_49 : decode prog_15_method_1_code 49 = .ok (.new 7, 3) := by decide +kernel
theorem d_MM_init_52 : decode prog_15_method_1_code 52 = .ok (.dup, 1) := by decide +kernel
theorem d_MM_init_53 : decode prog_15_method_1_code 53 = .ok (.invokespecial 9, 3) := by decide +kernel
theorem d_MM_init_56 : decode prog_15_method_1_code 56 = .ok (.putfield 25, 3) := by decide +kernel
theorem d_MM_init_59 : decode prog_15_method_1_code 59 = .ok (.aload_n 0, 1) := by decide +kernel
theorem d_MM_init_60 : decode prog_15_method_1_code 60 = .ok (.new 7, 3) := by decide +kernel
theorem d_MM_init_63 : decode prog_15_method_1_code 63 = .ok (.dup, 1) := by decide +kernel
theorem d_MM_init_64 : decode prog_15_method_1_code 64 = .ok (.invokespecial 9, 3) := by decide +kernel
theorem d_MM_init_67 : decode prog_15_method_1_code 67 = .ok (.putfield 28, 3) := by decide +kernel
theorem d_MM_init_70 : decode prog_15_method_1_code 70 = .ok (.aload_n 0, 1) := by decide +kernel
theorem d_MM_init_71 : decode prog_15_method_1_code 71 = .ok (.new 31, 3) := by decide +kernel
theorem d_MM_init_74 : decode prog_15_method_1_code 74 = .ok (.dup, 1) := by decide +kernel
theorem d_MM_init_75 : decode prog_15_method_1_code 75 = .ok (.invokespecial 33, 3) := by decide +kernel
theorem d_MM_init_78 : decode prog_15_method_1_code 78 = .ok (.putfield 34, 3) := by decide +kernel
theorem d_MM_init_81 : decode prog_15_method_1_code 81 = .ok (.aload_n 0, 1) := by decide +kernel
theorem d_MM_init_82 : decode prog_15_method_1_code 82 = .ok (.new 31, 3) := by decide +kernel
theorem d_MM_init_85 : decode prog_15_method_1_code 85 = .ok (.dup, 1) := by decide +kernel
theorem d_MM_init_86 : decode prog_15_method_1_code 86 = .ok (.invokespecial 33, 3) := by decide +kernel
theorem d_MM_init_89 : decode prog_15_method_1_code 89 = .ok (.putfield 38, 3) := by decide +kernel
theorem d_MM_init_92 : decode prog_15_method_1_code 92 = .ok (.aload_n 0, 1) := by decide +kernel
theorem d_MM_init_93 : decode prog_15_method_1_code 93 = .ok (.iconst (-1), 1) := by decide +kernel
theorem d_MM_init_94 : decode prog_15_method_1_code 94 = .ok (.putfield 41, 3) := by decide +kernel
theorem d_MM_init_97 : decode prog_15_method_1_code 97 = .ok (.aload_n 0, 1) := by decide +kernel
theorem d_MM_init_98 : decode prog_15_method_1_code 98 = .ok (.new 7, 3) := by decide +kernel
theorem d_MM_init_101 : decode prog_15_method_1_code 101 = .ok (.dup, 1) := by decide +kernel
theorem d_MM_init_102 : decode prog_15_method_1_code 102 = .ok (.invokespecial 9, 3) := by decide +kernel
theorem d_MM_init_105 : decode prog_15_method_1_code 105 = .ok (.putfield 45, 3) := by decide +kernel
theorem d_MM_init_108 : decode prog_15_method_1_code 108 = .ok (.aload_n 0, 1) := by decide +kernel
theorem d_MM_init_109 : decode prog_15_method_1_code 109 = .ok (.new 7, 3) := by decide +kernel
theorem d_MM_init_112 : decode prog_15_method_1_code 112 = .ok (.dup, 1) := by decide +kernel
theorem d_MM_init_113 : decode prog_15_method_1_code 113 = .ok (.invokespecial 9, 3) := by decide +kernel
theorem d_MM_init_116 : decode prog_15_method_1_code 116 = .ok (.putfield 48, 3) := by decide +kernel
theorem d_MM_init_119 : decode prog_15_method_1_code 119 = .ok (.aload_n 0, 1) := by decide +kernel
theorem d_MM_init_120 : decode prog_15_method_1_code 120 = .ok (.new 7, 3) := by decide +kernel
theorem d_MM_init_123 : decode prog_15_method_1_code 123 = .ok (.dup, 1) := by decide +kernel
theorem d_MM_init_124 : decode prog_15_method_1_code 124 = .ok (.invokespecial 9, 3) := by decide +kernel
theorem d_MM_init_127 : decode prog_15_method_1_code 127 = .ok (.putfield 51, 3) := by decide +kernel
theorem d_MM_init_130 : decode prog_15_method_1_code 130 = .ok (.aload_n 0, 1) := by decide +kernel
theorem d_MM_init_131 : decode prog_15_method_1_code 131 = .ok (.new 7, 3) := by decide +kernel
theorem d_MM_init_134 : decode prog_15_method_1_code 134 = .ok (.dup, 1) := by decide +kernel
theorem d_MM_init_135 : decode prog_15_method_1_code 135 = .ok (.invokespecial 9, 3) := by decide +kernel
theorem d_MM_init_138 : decode prog_15_method_1_code 138 = .ok (.putfield 54, 3) := by decide +kernel
theorem d_MM_init_141 : decode prog_15_method_1_code 141 = .ok (.aload_n 0, 1) := by decide +kernel
theorem d_MM_init_142 : decode prog_15_method_1_code 142 = .ok (.new 7, 3) := by decide +kernel
theorem d_MM_init_145 : decode prog_15_method_1_code 145 = .ok (.dup, 1) := by decide +kernel
theorem d_MM_init_146 : decode prog_15_method_1_code 146 = .ok (.invokespecial 9, 3) := by decide +kernel
theorem d_MM_init_149 : decode prog_15_method_1_code 149 = .ok (.putfield 57, 3) := by decide +kernel
theorem d_MM_init_152 : decode prog_15_method_1_code 152 = .ok (.aload_n 0, 1) := by decide +kernel
theorem d_MM_init_153 : decode prog_15_method_1_code 153 = .ok (.new 7, 3) := by decide +kernel
theorem d_MM_init_156 : decode prog_15_method_1_code 156 = .ok (.dup, 1) := by decide +kernel
theorem d_MM_init_157 : decode prog_15_method_1_code 157 = .ok (.invokespecial 9, 3) := by decide +kernel
theorem d_MM_init_160 : decode prog_15_method_1_code 160 = .ok (.putfield 60, 3) := by decide +kernel
theorem d_MM_init_163 : decode prog_15_method_1_code 163 = .ok (.aload_n 0, 1) := by decide +kernel
theorem d_MM_init_164 : decode prog_15_method_1_code 164 = .ok (.sipush 16400, 3) := by decide +kernel
theorem d_MM_init_167 : decode prog_15_method_1_code 167 = .ok (.newarray .long, 2) := by decide +kernel
theorem d_MM_init_169 : decode prog_15_method_1_code 169 = .ok (.putfield 63, 3) := by decide +kernel
theorem d_MM_init_172 : decode prog_15_method_1_code 172 = .ok (.aload_n 0, 1) := by decide +kernel
theorem d_MM_init_173 : decode prog_15_method_1_code 173 = .ok (.sipush 16400, 3) := by decide +kernel
theorem d_MM_init_176 : decode prog_15_method_1_code 176 = .ok (.newarray .long, 2) := by decide +kernel
theorem d_MM_init_178 : decode prog_15_method_1_code 178 = .ok (.putfield 67, 3) := by decide +kernel
theorem d_MM_init_181 : decode prog_15_method_1_code 181 = .ok (.aload_n 0, 1) := by decide +kernel
theorem d_MM_init_182 : decode prog_15_method_1_code 182 = .ok (.new 7, 3) := by decide +kernel
theorem d_MM_init_185 : decode prog_15_method_1_code 185 = .ok (.dup, 1) := by decide +kernel
theorem d_MM_init_186 : decode prog_15_method_1_code 186 = .ok (.invokespecial 9, 3) := by decide +kernel
theorem d_MM_init_189 : decode prog_15_method_1_code 189 = .ok (.putfield 70, 3) := by decide +kernel
theorem d_MM_init_192 : decode prog_15_method_1_code 192 = .ok (.aload_n 0, 1) := by decide +kernel
theorem d_MM_init_193 : decode prog_15_method_1_code 193 = .ok (.bipush 12, 2) := by decide +kernel
theorem d_MM_init_195 : decode prog_15_method_1_code 195 = .ok (.newarray .int, 2) := by decide +kernel
theorem d_MM_init_197 : decode prog_15_method_1_code 197 = .ok (.putfield 73, 3) := by decide +kernel
theorem d_MM_init_200 : decode prog_15_method_1_code 200 = .ok (.aload_n 0, 1) := by decide +kernel
theorem d_MM_init_201 : decode prog_15_method_1_code 201 = .ok (.bipush 60, 2) := by decide +kernel
theorem d_MM_init_203 : decode prog_15_method_1_code 203 = .ok (.newarray .boolean, 2) := by decide +kernel
theorem d_MM_init_205 : decode prog_15_method_1_code 205 = .ok (.putfield 77, 3) := by decide +kernel
theorem d_MM_init_208 : decode prog_15_method_1_code 208 = .ok (.aload_n 0, 1) := by decide +kernel
theorem d_MM_init_209 : decode prog_15_method_1_code 209 = .ok (.bipush 60, 2) := by decide +kernel
theorem d_MM_init_211 : decode prog_15_method_1_code 211 = .ok (.newarray .long, 2) := by decide +kernel
theorem d_MM_init_213 : decode prog_15_method_1_code 213 = .ok (.putfield 81, 3) := by decide +kernel
theorem d_MM_init_216 : decode prog_15_method_1_code 216 = .ok (.aload_n 0, 1) := by decide +kernel
theorem d_MM_init_217 : decode prog_15_method_1_code 217 = .ok (.bipush 60, 2) := by decide +kernel
theorem d_MM_init_219 : decode prog_15_method_1_code 219 = .ok (.newarray .long, 2) := by decide +kernel
theorem d_MM_init_221 : decode prog_15_method_1_code 221 = .ok (.putfield 84, 3) := by decide +kernel
theorem d_MM_init_224 : decode prog_15_method_1_code 224 = .ok (.aload_n 0, 1) := by decide +kernel
theorem d_MM_init_225 : decode prog_15_method_1_code 225 = .ok (.iconst (-1), 1) := by decide +kernel
theorem d_MM_init_226 : decode prog_15_method_1_code 226 = .ok (.putfield 87, 3) := by decide +kernel
theorem d_MM_init_229 : decode prog_15_method_1_code 229 = .ok (.aload_n 0, 1) := by decide +kernel
theorem d_MM_init_230 : decode prog_15_method_1_code 230 = .ok (.sipush 6144, 3) := by decide +kernel
theorem d_MM_init_233 : decode prog_15_method_1_code 233 = .ok (.newarray .int, 2) := by decide +kernel
theorem d_MM_init_235 : decode prog_15_method_1_code 235 = .ok (.putfield 90, 3) := by decide +kernel
theorem d_MM_init_238 : decode prog_15_method_1_code 238 = .ok (.aload_n 0, 1) := by decide +kernel
theorem d_MM_init_239 : decode prog_15_method_1_code 239 = .ok (.sipush 512, 3) := by decide +kernel
theorem d_MM_init_242 : decode prog_15_method_1_code 242 = .ok (.newarray .int, 2) := by decide +kernel
theorem d_MM_init_244 : decode prog_15_method_1_code 244 = .ok (.putfield 93, 3) := by decide +kernel
theorem d_MM_init_247 : decode prog_15_method_1_code 247 = .ok (.aload_n 0, 1) := by decide +kernel
theorem d_MM_init_248 : decode prog_15_method_1_code 248 = .ok (.sipush 512, 3) := by decide +kernel
theorem d_MM_init_251 : decode prog_15_method_1_code 251 = .ok (.newarray .int, 2) := by decide +kernel
theorem d_MM_init_253 : decode prog_15_method_1_code 253 = .ok (.putfield 96, 3) := by decide +kernel
theorem d_MM_init_256 : decode prog_15_method_1_code 256 = .ok (.aload_n 0, 1) := by decide +kernel
theorem d_MM_init_257 : decode prog_15_method_1_code 257 = .ok (.sipush 512, 3) := by decide +kernel
theorem d_MM_init_260 : decode prog_15_method_1_code 260 = .ok (.newarray .int, 2) := by decide +kernel
theorem d_MM_init_262 : decode prog_15_method_1_code 262 = .ok (.putfield 99, 3) := by decide +kernel
theorem d_MM_init_265 : decode prog_15_method_1_code 265 = .ok (.aload_n 0, 1) := by decide +kernel
theorem d_MM_init_266 : decode prog_15_method_1_code 266 = .ok (.new 7, 3) := by decide +kernel
theorem d_MM_init_269 : decode prog_15_method_1_code 269 = .ok (.dup, 1) := by decide +kernel
theorem d_MM_init_270 : decode prog_15_method_1_code 270 = .ok (.invokespecial 9, 3) := by decide +kernel
theorem d_MM_init_273 : decode prog_15_method_1_code 273 = .ok (.putfield 102, 3) := by decide +kernel
theorem d_MM_init_276 : decode prog_15_method_1_code 276 = .ok (.aload_n 0, 1) := by decide +kernel
theorem d_MM_init_277 : decode prog_15_method_1_code 277 = .ok (.new 7, 3) := by decide +kernel
theorem d_MM_init_280 : decode prog_15_method_1_code 280 = .ok (.dup, 1) := by decide +kernel
theorem d_MM_init_281 : decode prog_15_method_1_code 281 = .ok (.invokespecial 9, 3) := by decide +kernel
theorem d_MM_init_284 : decode prog_15_method_1_code 284 = .ok (.putfield 105, 3) := by decide +kernel
theorem d_MM_init_287 : decode prog_15_method_1_code 287 = .ok (.aload_n 0, 1) := by decide +kernel
theorem d_MM_init_288 : decode prog_15_method_1_code 288 = .ok (.new 7, 3) := by decide +kernel
theorem d_MM_init_291 : decode prog_15_method_1_code 291 = .ok (.dup, 1) := by decide +kernel
theorem d_MM_init_292 : decode prog_15_method_1_code 292 = .ok (.invokespecial 9, 3) := by decide +kernel
theorem d_MM_init_295 : decode prog_15_method_1_code 295 = .ok (.putfield 108, 3) := by decide +kernel
theorem d_MM_init_298 : decode prog_15_method_1_code 298 = .ok (.aload_n 0, 1) := by decide +kernel
theorem d_MM_init_299 : decode prog_15_method_1_code 299 = .ok (.new 7, 3) := by decide +kernel
theorem d_MM_init_302 : decode prog_15_method_1_code 302 = .ok (.dup, 1) := by decide +kernel
theorem d_MM_init_303 : decode prog_15_method_1_code 303 = .ok (.invokespecial 9, 3) := by decide +kernel
theorem d_MM_init_306 : decode prog_15_method_1_code 306 = .ok (.putfield 111, 3) := by decide +kernel
theorem d_MM_init_309 : decode prog_15_method_1_code 309 = .ok (.aload_n 0, 1) := by decide +kernel
theorem d_MM_init_310 : decode prog_15_method_1_code 310 = .ok (.new 114, 3) := by decide +kernel
theorem d_MM_init_313 : decode prog_15_method_1_code 313 = .ok (.dup, 1) := by decide +kernel
theorem d_MM_init_314 : decode prog_15_method_1_code 314 = .ok (.invokespecial 116, 3) := by decide +kernel
theorem d_MM_init_317 : decode prog_15_method_1_code 317 = .ok (.putfield 117, 3) := by decide +kernel
theorem d_MM_init_320 : decode prog_15_method_1_code 320 = .ok (.aload_n 0, 1) := by decide +kernel
theorem d_MM_init_321 : decode prog_15_method_1_code 321 = .ok (.sipush 4096, 3) := by decide +kernel
theorem d_MM_init_324 : decode prog_15_method_1_code 324 = .ok (.newarray .int, 2) := by decide +kernel
theorem d_MM_init_326 : decode prog_15_method_1_code 326 = .ok (.putfield 121, 3) := by decide +kernel
theorem d_MM_init_329 : decode prog_15_method_1_code 329 = .ok (.aload_n 0, 1) := by decide +kernel
theorem d_MM_init_330 : decode prog_15_method_1_code 330 = .ok (.sipush 4096, 3) := by decide +kernel
theorem d_MM_init_333 : decode prog_15_method_1_code 333 = .ok (.newarray .long, 2) := by decide +kernel
theorem d_MM_init_335 : decode prog_15_method_1_code 335 = .ok (.putfield 124, 3) := by decide +kernel
theorem d_MM_init_338 : decode prog_15_method_1_code 338 = .ok (.aload_n 0, 1) := by decide +kernel
theorem d_MM_init_339 : decode prog_15_method_1_code 339 = .ok (.sipush 4096, 3) := by decide +kernel
theorem d_MM_init_342 : decode prog_15_method_1_code 342 = .ok (.newarray .long, 2) := by decide +kernel
theorem d_MM_init_344 : decode prog_15_method_1_code 344 = .ok (.putfield 127, 3) := by decide +kernel
theorem d_MM_init_347 : decode prog_15_method_1_code 347 = .ok (.aload_n 0, 1) := by decide +kernel
theorem d_MM_init_348 : decode prog_15_method_1_code 348 = .ok (.bipush 12, 2) := by decide +kernel
theorem d_MM_init_350 : decode prog_15_method_1_code 350 = .ok (.newarray .int, 2) := by decide +kernel
theorem d_MM_init_352 : decode prog_15_method_1_code 352 = .ok (.putfield 130, 3) := by decide +kernel
theorem d_MM_init_355 : decode prog_15_method_1_code 355 = .ok (.aload_n 0, 1) := by decide +kernel
theorem d_MM_init_356 : decode prog_15_method_1_code 356 = .ok (.bipush 8, 2) := by decide +kernel
theorem d_MM_init_358 : decode prog_15_method_1_code 358 = .ok (.newarray .long, 2) := by decide +kernel
theorem d_MM_init_360 : decode prog_15_method_1_code 360 = .ok (.putfield 133, 3) := by decide +kernel
theorem d_MM_init_363 : decode prog_15_method_1_code 363 = .ok (.aload_n 0, 1) := by decide +kernel
theorem d_MM_init_364 : decode prog_15_method_1_code 364 = .ok (.bipush 8, 2) := by decide +kernel
theorem d_MM_init_366 : decode prog_15_method_1_code 366 = .ok (.newarray .long, 2) := by decide +kernel
theorem d_MM_init_368 : decode prog_15_method_1_code 368 = .ok (.putfield 136, 3) := by decide +kernel
theorem d_MM_init_371 : decode prog_15_method_1_code 371 = .ok (.aload_n 0, 1) := by decide +kernel
theorem d_MM_init_372 : decode prog_15_method_1_code 372 = .ok (.sipush 900, 3) := by decide +kernel
theorem d_MM_init_375 : decode prog_15_method_1_code 375 = .ok (.newarray .int, 2) := by decide +kernel
theorem d_MM_init_377 : decode prog_15_method_1_code 377 = .ok (.putfield 139, 3) := by decide +kernel
theorem d_MM_init_380 : decode prog_15_method_1_code 380 = .ok (.return_, 1) := by decide +kernel
abbrev S_MM : Type := (Nat × S_MN) × (Nat × S_MN) × (Nat × S_MN) × (Nat × S_MN) × (Nat × S_MN) × (Nat × S_MN) × (Nat × S_MG) × (Nat × S_MG) × (Nat × S_MN) × (Nat × S_MN) × (Nat × S_MN) × (Nat × S_MN) × (Nat × S_MN) × (Nat × S_MN) × Nat × Nat × (Nat × S_MN) × Nat × Nat × Nat × Nat × Nat × Nat × Nat × Nat × (Nat × S_MN) × (Nat × S_MN) × (Nat × S_MN) × (Nat × S_MN) × (Nat × S_MS) × Nat × Nat × Nat × Nat × Nat × Nat × Nat
def w_MM (tA : Nat → ClassId) (h0 : Nat) (u : S_MM) : va_W := match u with
  | ((q5, u5), (q16, u16), (q27, u27), (q38, u38), (q49, u49), (q60, u60), (q71, u71), (q82, u82), (q98, u98), (q109, u109), (q120, u120), (q131, u131), (q142, u142), (q153, u153), q167, q176, (q182, u182), q195, q203, q211, q219, q233, q242, q251, q260, (q266, u266), (q277, u277), (q288, u288), (q299, u299), (q310, u310), q324, q333, q342, q350, q358, q366, q375) => (h0, .inr (13, [.int 0, .ref q5, .ref q16, .ref q27, .ref q38, .ref q49, .ref q60, .int 0, .int 0, .ref q71, .ref q82, .int 0, .int (-1), .ref q98, .ref q109, .ref q120, .int 0, .int 0, .ref q131, .ref q142, .ref q153, .ref q167, .ref q176, .int 0, .ref q182, .ref q195, .ref q203, .ref q211, .ref q219, .int 0, .int (-1), .ref q233, .ref q242, .ref q251, .ref q260, .ref q266, .ref q277, .ref q288, .ref q299, .ref q310, .int 0, .ref q324, .ref q333, .ref q342, .ref q350, .ref q358, .ref q366, .ref q375, .int 0])) :: ([] ++ w_MN tA q5 u5 ++ w_MN tA q16 u16 ++ w_MN tA q27 u27 ++ w_MN tA q38 u38 ++ w_MN tA q49 u49 ++ w_MN tA q60 u60 ++ w_MG tA q71 u71 ++ w_MG tA q82 u82 ++ w_MN tA q98 u98 ++ w_MN tA q109 u109 ++ w_MN tA q120 u120 ++ w_MN tA q131 u131 ++ w_MN tA q142 u142 ++ w_MN tA q153 u153 ++ [(q167, .inl (tA 3, 16400, .inr (.inl (fun _ => 0))))] ++ [(q176, .inl (tA 3, 16400, .inr (.inl (fun _ => 0))))] ++ w_MN tA q182 u182 ++ [(q195, .inl (tA 0, 12, .inl (fun _ => 0)))] ++ [(q203, .inl (tA 1, 60, .inl (fun _ => 0)))] ++ [(q211, .inl (tA 3, 60, .inr (.inl (fun _ => 0))))] ++ [(q219, .inl (tA 3, 60, .inr (.inl (fun _ => 0))))] ++ [(q233, .inl (tA 0, 6144, .inl (fun _ => 0)))] ++ [(q242, .inl (tA 0, 512, .inl (fun _ => 0)))] ++ [(q251, .inl (tA 0, 512, .inl (fun _ => 0)))] ++ [(q260, .inl (tA 0, 512, .inl (fun _ => 0)))] ++ w_MN tA q266 u266 ++ w_MN tA q277 u277 ++ w_MN tA q288 u288 ++ w_MN tA q299 u299 ++ w_MS tA q310 u310 ++ [(q324, .inl (tA 0, 4096, .inl (fun _ => 0)))] ++ [(q333, .inl (tA 3, 4096, .inr (.inl (fun _ => 0))))] ++ [(q342, .inl (tA 3, 4096, .inr (.inl (fun _ => 0))))] ++ [(q350, .inl (tA 0, 12, .inl (fun _ => 0)))] ++ [(q358, .inl (tA 3, 8, .inr (.inl (fun _ => 0))))] ++ [(q366, .inl (tA 3, 8, .inr (.inl (fun _ => 0))))] ++ [(q375, .inl (tA 0, 900, .inl (fun _ => 0)))])
theorem f_MM : ∀ j, j < 49 → defaultValue (t_MM j) = vp_V [.int 0, .null, .null, .null, .null, .null, .null, .int 0, .int 0, .null, .null, .int 0, .int 0, .null, .null, .null, .int 0, .int 0, .null, .null, .null, .null, .null, .int 0, .null, .null, .null, .null, .null, .int 0, .int 0, .null, .null, .null, .null, .null, .null, .null, .null, .null, .int 0, .null, .null, .null, .null, .null, .null, .null, .int 0] j := by decide +kernel
set_option maxHeartbeats 4000000 in
set_option maxRecDepth 100000 in
theorem c_MM_init (l : Launch) (D : va_G) (tA : Nat → ClassId) (h0 sz : Nat) : zMv l ({ cls := "ChanceArenaModel", name := "<init>", desc := "()V" } : Jvm.MethodName) (zW (Jvm.Cond.code ({ cls := "ChanceArenaModel", name := "<init>", desc := "()V" } : Jvm.MethodName) prog_15_method_1_code (1 : Nat) (Option.none : Option Jvm.ClassFile.FieldType))) { frames := 5, cells := 21191, slots := 603063, locals := 103 } [.ref h0] D tA [(h0, .inr (13, [.int 0, .null, .null, .null, .null, .null, .null, .int 0, .int 0, .null, .null, .int 0, .int 0, .null, .null, .null, .int 0, .int 0, .null, .null, .null, .null, .null, .int 0, .null, .null, .null, .null, .null, .int 0, .int 0, .null, .null, .null, .null, .null, .null, .null, .null, .null, .int 0, .null, .null, .null, .null, .null, .null, .null, .int 0]))] sz (fun _ : S_MM => True) (w_MM tA h0) 21191 603063 := by
  refine zOpen (fun A => va_Qv _ (zPost D A (w_MM tA h0)) A) (lv := [(0, .ref h0)]) (by decide) rfl (Nat.le_of_ble_eq_true rfl) rfl ?_
  intro p e s m below meth c A ls hx hb hr hml hh hg hown hlocks hnm hK hA hP hD0 hAw hS hl
  have hD := zD hD0 hAw
  refine lv_aload_n hx hb d_MM_init_0 rfl (lv_at hl 0 rfl) ?_
  refine W.objInit hx hb hown (hg _ k8_204) (hg _ k1_46) (hg _ k1_47) rfl (by rw [hml]; exact hl.1) rfl d_MM_init_1 (Nat.le_of_ble_eq_true rfl) (Nat.le_of_ble_eq_true rfl) ?_
  refine lv_aload_n hx hb d_MM_init_4 rfl (lv_at hl 0 rfl) ?_
  refine va_new (ci := 14) (fs := [.null, .int 0]) (C := R_MN) (T := T_MN) (N := 2) hx hb hg i_MN t_MN o_MN hown (hg _ k8_205) (hg _ k8_206) (hg _ k1_15) hK hP hD hS hA rfl f_MN (Nat.le_of_ble_eq_true rfl) (Nat.le_of_ble_eq_true rfl) d_MM_init_5 (fun q5 H1 hP1 hD1 hS1 => ?_)
  clear hP hD hS
  refine lv_dup hx hb d_MM_init_8 rfl ?_
  refine zInit hP1 hD1 hS1 hA (va_runIN (As := []) (rest := [.ref q5, .ref h0]) ⟨hx, hb, hml, hown, hg⟩ (c_MN_init l D tA q5 H1.size) ⟨va_cnB 0 hg (zGood k8_209 rfl) rfl rfl rfl (va_Nw.of rfl (hg _ k8_207)) (hg _ k1_15) (by decide +kernel) ⟨(Nat.le_of_ble_eq_true rfl), (Nat.le_of_ble_eq_true rfl)⟩, rfl, hg _ k8_208⟩ (zPreI hh hK hP1 hD1) rfl rfl hl.1 rfl (lv_room (Nat.le_of_ble_eq_true rfl)) d_MM_init_9 ⟨(Nat.le_of_ble_eq_true rfl), (Nat.le_of_ble_eq_true rfl)⟩) (fun u5 H2 locs2 _ hP2 hD2 hS2 => ?_)
  clear hP1 hD1 hS1
  refine zCons (fun T9 e9 hP3 hD3 => ?_) hP2 hD2
  clear hP2 hD2
  refine va_put (D := D) (ci := 13) (v := .ref q5) (ty := .object "ChanceArenaModel$Numbers") (C := R_MM) (T := T_MM) (N := 49) hx hb hg i_MM t_MM o_MM n_MM hown hK hP3 hD3 hS2 0 rfl rfl 1 (by decide) (hg _ k10_47) (fun _ h9 => h9) rfl (by decide +kernel) rfl rfl (Nat.le_of_ble_eq_true rfl) d_MM_init_12 (fun H4 locs4 hP4 hD4 hS4 => ?_)
  clear hP3 hD3 hS2
  replace hP4 : va_P D vwCl ((h0, .inr (13, [.int 0, .ref q5, .null, .null, .null, .null, .null, .int 0, .int 0, .null, .null, .int 0, .int 0, .null, .null, .null, .int 0, .int 0, .null, .null, .null, .null, .null, .int 0, .null, .null, .null, .null, .null, .int 0, .int 0, .null, .null, .null, .null, .null, .null, .null, .null, .null, .int 0, .null, .null, .null, .null, .null, .null, .null, .int 0])) :: T9) _ := hP4
  replace hD4 : va_D A ((h0, .inr (13, [.int 0, .ref q5, .null, .null, .null, .null, .null, .int 0, .int 0, .null, .null, .int 0, .int 0, .null, .null, .null, .int 0, .int 0, .null, .null, .null, .null, .null, .int 0, .null, .null, .null, .null, .null, .int 0, .int 0, .null, .null, .null, .null, .null, .null, .null, .null, .null, .int 0, .null, .null, .null, .null, .null, .null, .null, .int 0])) :: T9) := hD4
  refine lv_aload_n hx hb d_MM_init_15 rfl (lv_at hl 0 rfl) ?_
  refine va_new (ci := 14) (fs := [.null, .int 0]) (C := R_MN) (T := T_MN) (N := 2) hx hb hg i_MN t_MN o_MN hown (hg _ k8_205) (hg _ k8_206) (hg _ k1_15) hK hP4 hD4 hS4 hA rfl f_MN (Nat.le_of_ble_eq_true rfl) (Nat.le_of_ble_eq_true rfl) d_MM_init_16 (fun q16 H5 hP5 hD5 hS5 => ?_)
  clear hP4 hD4 hS4
  refine lv_dup hx hb d_MM_init_19 rfl ?_
  refine zInit hP5 hD5 hS5 hA (va_runIN (As := []) (rest := [.ref q16, .ref h0]) ⟨hx, hb, hml, hown, hg⟩ (c_MN_init l D tA q16 H5.size) ⟨va_cnB 0 hg (zGood k8_209 rfl) rfl rfl rfl (va_Nw.of rfl (hg _ k8_207)) (hg _ k1_15) (by decide +kernel) ⟨(Nat.le_of_ble_eq_true rfl), (Nat.le_of_ble_eq_true rfl)⟩, rfl, hg _ k8_208⟩ (zPreI hh hK hP5 hD5) rfl rfl hl.1 rfl (lv_room (Nat.le_of_ble_eq_true rfl)) d_MM_init_20 ⟨(Nat.le_of_ble_eq_true rfl), (Nat.le_of_ble_eq_true rfl)⟩) (fun u16 H6 locs6 _ hP6 hD6 hS6 => ?_)
  clear hP5 hD5 hS5
  refine zCons (fun T20 e20 hP7 hD7 => ?_) hP6 hD6
  clear hP6 hD6
  refine va_put (D := D) (ci := 13) (v := .ref q16) (ty := .object "ChanceArenaModel$Numbers") (C := R_MM) (T := T_MM) (N := 49) hx hb hg i_MM t_MM o_MM n_MM hown hK hP7 hD7 hS6 0 rfl rfl 2 (by decide) (hg _ k10_48) (fun _ h9 => h9) rfl (by decide +kernel) rfl rfl (Nat.le_of_ble_eq_true rfl) d_MM_init_23 (fun H8 locs8 hP8 hD8 hS8 => ?_)
  clear hP7 hD7 hS6
  replace hP8 : va_P D vwCl ((h0, .inr (13, [.int 0, .ref q5, .ref q16, .null, .null, .null, .null, .int 0, .int 0, .null, .null, .int 0, .int 0, .null, .null, .null, .int 0, .int 0, .null, .null, .null, .null, .null, .int 0, .null, .null, .null, .null, .null, .int 0, .int 0, .null, .null, .null, .null, .null, .null, .null, .null, .null, .int 0, .null, .null, .null, .null, .null, .null, .null, .int 0])) :: T20) _ := hP8
  replace hD8 : va_D A ((h0, .inr (13, [.int 0, .ref q5, .ref q16, .null, .null, .null, .null, .int 0, .int 0, .null, .null, .int 0, .int 0, .null, .null, .null, .int 0, .int 0, .null, .null, .null, .null, .null, .int 0, .null, .null, .null, .null, .null, .int 0, .int 0, .null, .null, .null, .null, .null, .null, .null, .null, .null, .int 0, .null, .null, .null, .null, .null, .null, .null, .int 0])) :: T20) := hD8
  refine lv_aload_n hx hb d_MM_init_26 rfl (lv_at hl 0 rfl) ?_
  refine va_new (ci := 14) (fs := [.null, .int 0]) (C := R_MN) (T := T_MN) (N := 2) hx hb hg i_MN t_MN o_MN hown (hg _ k8_205) (hg _ k8_206) (hg _ k1_15) hK hP8 hD8 hS8 hA rfl f_MN (Nat.le_of_ble_eq_true rfl) (Nat.le_of_ble_eq_true rfl) d_MM_init_27 (fun q27 H9 hP9 hD9 hS9 => ?_)
  clear hP8 hD8 hS8
  refine lv_dup hx hb d_MM_init_30 rfl ?_
  refine zInit hP9 hD9 hS9 hA (va_runIN (As := []) (rest := [.ref q27, .ref h0]) ⟨hx, hb, hml, hown, hg⟩ (c_MN_init l D tA q27 H9.size) ⟨va_cnB 0 hg (zGood k8_209 rfl) rfl rfl rfl (va_Nw.of rfl (hg _ k8_207)) (hg _ k1_15) (by decide +kernel) ⟨(Nat.le_of_ble_eq_true rfl), (Nat.le_of_ble_eq_true rfl)⟩, rfl, hg _ k8_208⟩ (zPreI hh hK hP9 hD9) rfl rfl hl.1 rfl (lv_room (Nat.le_of_ble_eq_true rfl)) d_MM_init_31 ⟨(Nat.le_of_ble_eq_true rfl), (Nat.le_of_ble_eq_true rfl)⟩) (fun u27 H10 locs10 _ hP10 hD10 hS10 => ?_)
  clear hP9 hD9 hS9
  refine zCons (fun T31 e31 hP11 hD11 => ?_) hP10 hD10
  clear hP10 hD10
  refine va_putF (D := D) (ci := 13) (v := .ref q27) (ty := .object "ChanceArenaModel$Numbers") (C := R_MM) (T := T_MM) (N := 49) hx hb hg i_MM t_MM o_MM n_MM hown hK hP11 hD11 hS10 0 rfl rfl 3 (by decide) (hg _ k10_49) (fun _ h9 => h9) rfl hnm rfl (by decide +kernel) rfl rfl (Nat.le_of_ble_eq_true rfl) d_MM_init_34 (fun H12 locs12 hP12 hD12 hS12 => ?_)
  clear hP11 hD11 hS10
  replace hP12 : va_P D vwCl ((h0, .inr (13, [.int 0, .ref q5, .ref q16, .ref q27, .null, .null, .null, .int 0, .int 0, .null, .null, .int 0, .int 0, .null, .null, .null, .int 0, .int 0, .null, .null, .null, .null, .null, .int 0, .null, .null, .null, .null, .null, .int 0, .int 0, .null, .null, .null, .null, .null, .null, .null, .null, .null, .int 0, .null, .null, .null, .null, .null, .null, .null, .int 0])) :: T31) _ := hP12
  replace hD12 : va_D A ((h0, .inr (13, [.int 0, .ref q5, .ref q16, .ref q27, .null, .null, .null, .int 0, .int 0, .null, .null, .int 0, .int 0, .null, .null, .null, .int 0, .int 0, .null, .null, .null, .null, .null, .int 0, .null, .null, .null, .null, .null, .int 0, .int 0, .null, .null, .null, .null, .null, .null, .null, .null, .null, .int 0, .null, .null, .null, .null, .null, .null, .null, .int 0])) :: T31) := hD12
  refine lv_aload_n hx hb d_MM_init_37 rfl (lv_at hl 0 rfl) ?_
  refine va_new (ci := 14) (fs := [.null, .int 0]) (C := R_MN) (T := T_MN) (N := 2) hx hb hg i_MN t_MN o_MN hown (hg _ k8_205) (hg _ k8_206) (hg _ k1_15) hK hP12 hD12 hS12 hA rfl f_MN (Nat.le_of_ble_eq_true rfl) (Nat.le_of_ble_eq_true rfl) d_MM_init_38 (fun q38 H13 hP13 hD13 hS13 => ?_)
  clear hP12 hD12 hS12
  refine lv_dup hx hb d_MM_init_41 rfl ?_
  refine zInit hP13 hD13 hS13 hA (va_runIN (As := []) (rest := [.ref q38, .ref h0]) ⟨hx, hb, hml, hown, hg⟩ (c_MN_init l D tA q38 H13.size) ⟨va_cnB 0 hg (zGood k8_209 rfl) rfl rfl rfl (va_Nw.of rfl (hg _ k8_207)) (hg _ k1_15) (by decide +kernel) ⟨(Nat.le_of_ble_eq_true rfl), (Nat.le_of_ble_eq_true rfl)⟩, rfl, hg _ k8_208⟩ (zPreI hh hK hP13 hD13) rfl rfl hl.1 rfl (lv_room (Nat.le_of_ble_eq_true rfl)) d_MM_init_42 ⟨(Nat.le_of_ble_eq_true rfl), (Nat.le_of_ble_eq_true rfl)⟩) (fun u38 H14 locs14 _ hP14 hD14 hS14 => ?_)
  clear hP13 hD13 hS13
  refine zCons (fun T42 e42 hP15 hD15 => ?_) hP14 hD14
  clear hP14 hD14
  refine va_putF (D := D) (ci := 13) (v := .ref q38) (ty := .object "ChanceArenaModel$Numbers") (C := R_MM) (T := T_MM) (N := 49) hx hb hg i_MM t_MM o_MM n_MM hown hK hP15 hD15 hS14 0 rfl rfl 4 (by decide) (hg _ k10_50) (fun _ h9 => h9) rfl hnm rfl (by decide +kernel) rfl rfl (Nat.le_of_ble_eq_true rfl) d_MM_init_45 (fun H16 locs16 hP16 hD16 hS16 => ?_)
  clear hP15 hD15 hS14
  replace hP16 : va_P D vwCl ((h0, .inr (13, [.int 0, .ref q5, .ref q16, .ref q27, .ref q38, .null, .null, .int 0, .int 0, .null, .null, .int 0, .int 0, .null, .null, .null, .int 0, .int 0, .null, .null, .null, .null, .null, .int 0, .null, .null, .null, .null, .null, .int 0, .int 0, .null, .null, .null, .null, .null, .null, .null, .null, .null, .int 0, .null, .null, .null, .null, .null, .null, .null, .int 0])) :: T42) _ := hP16
  replace hD16 : va_D A ((h0, .inr (13, [.int 0, .ref q5, .ref q16, .ref q27, .ref q38, .null, .null, .int 0, .int 0, .null, .null, .int 0, .int 0, .null, .null, .null, .int 0, .int 0, .null, .null, .null, .null, .null, .int 0, .null, .null, .null, .null, .null, .int 0, .int 0, .null, .null, .null, .null, .null, .null, .null, .null, .null, .int 0, .null, .null, .null, .null, .null, .null, .null, .int 0])) :: T42) := hD16
  refine lv_aload_n hx hb d_MM_init_48 rfl (lv_at hl 0 rfl) ?_
  refine va_new (ci := 14) (fs := [.null, .int 0]) (C := R_MN) (T := T_MN) (N := 2) hx hb hg i_MN t_MN o_MN hown (hg _ k8_205) (hg _ k8_206) (hg _ k1_15) hK hP16 hD16 hS16 hA rfl f_MN (Nat.le_of_ble_eq_true rfl) (Nat.le_of_ble_eq_true rfl) d_MM_init_49 (fun q49 H17 hP17 hD17 hS17 => ?_)
  clear hP16 hD16 hS16
  refine lv_dup hx hb d_MM_init_52 rfl ?_
  refine zInit hP17 hD17 hS17 hA (va_runIN (As := []) (rest := [.ref q49, .ref h0]) ⟨hx, hb, hml, hown, hg⟩ (c_MN_init l D tA q49 H17.size) ⟨va_cnB 0 hg (zGood k8_209 rfl) rfl rfl rfl (va_Nw.of rfl (hg _ k8_207)) (hg _ k1_15) (by decide +kernel) ⟨(Nat.le_of_ble_eq_true rfl), (Nat.le_of_ble_eq_true rfl)⟩, rfl, hg _ k8_208⟩ (zPreI hh hK hP17 hD17) rfl rfl hl.1 rfl (lv_room (Nat.le_of_ble_eq_true rfl)) d_MM_init_53 ⟨(Nat.le_of_ble_eq_true rfl), (Nat.le_of_ble_eq_true rfl)⟩) (fun u49 H18 locs18 _ hP18 hD18 hS18 => ?_)
  clear hP17 hD17 hS17
  refine zCons (fun T53 e53 hP19 hD19 => ?_) hP18 hD18
  clear hP18 hD18
  refine va_putF (D := D) (ci := 13) (v := .ref q49) (ty := .object "ChanceArenaModel$Numbers") (C := R_MM) (T := T_MM) (N := 49) hx hb hg i_MM t_MM o_MM n_MM hown hK hP19 hD19 hS18 0 rfl rfl 5 (by decide) (hg _ k10_51) (fun _ h9 => h9) rfl hnm rfl (by decide +kernel) rfl rfl (Nat.le_of_ble_eq_true rfl) d_MM_init_56 (fun H20 locs20 hP20 hD20 hS20 => ?_)
  clear hP19 hD19 hS18
  replace hP20 : va_P D vwCl ((h0, .inr (13, [.int 0, .ref q5, .ref q16, .ref q27, .ref q38, .ref q49, .null, .int 0, .int 0, .null, .null, .int 0, .int 0, .null, .null, .null, .int 0, .int 0, .null, .null, .null, .null, .null, .int 0, .null, .null, .null, .null, .null, .int 0, .int 0, .null, .null, .null, .null, .null, .null, .null, .null, .null, .int 0, .null, .null, .null, .null, .null, .null, .null, .int 0])) :: T53) _ := hP20
  replace hD20 : va_D A ((h0, .inr (13, [.int 0, .ref q5, .ref q16, .ref q27, .ref q38, .ref q49, .null, .int 0, .int 0, .null, .null, .int 0, .int 0, .null, .null, .null, .int 0, .int 0, .null, .null, .null, .null, .null, .int 0, .null, .null, .null, .null, .null, .int 0, .int 0, .null, .null, .null, .null, .null, .null, .null, .null, .null, .int 0, .null, .null, .null, .null, .null, .null, .null, .int 0])) :: T53) := hD20
  refine lv_aload_n hx hb d_MM_init_59 rfl (lv_at hl 0 rfl) ?_
  refine va_new (ci := 14) (fs := [.null, .int 0]) (C := R_MN) (T := T_MN) (N := 2) hx hb hg i_MN t_MN o_MN hown (hg _ k8_205) (hg _ k8_206) (hg _ k1_15) hK hP20 hD20 hS20 hA rfl f_MN (Nat.le_of_ble_eq_true rfl) (Nat.le_of_ble_eq_true rfl) d_MM_init_60 (fun q60 H21 hP21 hD21 hS21 => ?_)
  clear hP20 hD20 hS20
  refine lv_dup hx hb d_MM_init_63 rfl ?_
  refine zInit hP21 hD21 hS21 hA (va_runIN (As := []) (rest := [.ref q60, .ref h0]) ⟨hx, hb, hml, hown, hg⟩ (c_MN_init l D tA q60 H21.size) ⟨va_cnB 0 hg (zGood k8_209 rfl) rfl rfl rfl (va_Nw.of rfl (hg _ k8_207)) (hg _ k1_15) (by decide +kernel) ⟨(Nat.le_of_ble_eq_true rfl), (Nat.le_of_ble_eq_true rfl)⟩, rfl, hg _ k8_208⟩ (zPreI hh hK hP21 hD21) rfl rfl hl.1 rfl (lv_room (Nat.le_of_ble_eq_true rfl)) d_MM_init_64 ⟨(Nat.le_of_ble_eq_true rfl), (Nat.le_of_ble_eq_true rfl)⟩) (fun u60 H22 locs22 _ hP22 hD22 hS22 => ?_)
  clear hP21 hD21 hS21
  refine zCons (fun T64 e64 hP23 hD23 => ?_) hP22 hD22
  clear hP22 hD22
  refine va_putF (D := D) (ci := 13) (v := .ref q60) (ty := .object "ChanceArenaModel$Numbers") (C := R_MM) (T := T_MM) (N := 49) hx hb hg i_MM t_MM o_MM n_MM hown hK hP23 hD23 hS22 0 rfl rfl 6 (by decide) (hg _ k10_52) (fun _ h9 => h9) rfl hnm rfl (by decide +kernel) rfl rfl (Nat.le_of_ble_eq_true rfl) d_MM_init_67 (fun H24 locs24 hP24 hD24 hS24 => ?_)
  clear hP23 hD23 hS22
  replace hP24 : va_P D vwCl ((h0, .inr (13, [.int 0, .ref q5, .ref q16, .ref q27, .ref q38, .ref q49, .ref q60, .int 0, .int 0, .null, .null, .int 0, .int 0, .null, .null, .null, .int 0, .int 0, .null, .null, .null, .null, .null, .int 0, .null, .null, .null, .null, .null, .int 0, .int 0, .null, .null, .null, .null, .null, .null, .null, .null, .null, .int 0, .null, .null, .null, .null, .null, .null, .null, .int 0])) :: T64) _ := hP24
  replace hD24 : va_D A ((h0, .inr (13, [.int 0, .ref q5, .ref q16, .ref q27, .ref q38, .ref q49, .ref q60, .int 0, .int 0, .null, .null, .int 0, .int 0, .null, .null, .null, .int 0, .int 0, .null, .null, .null, .null, .null, .int 0, .null, .null, .null, .null, .null, .int 0, .int 0, .null, .null, .null, .null, .null, .null, .null, .null, .null, .int 0, .null, .null, .null, .null, .null, .null, .null, .int 0])) :: T64) := hD24
  refine lv_aload_n hx hb d_MM_init_70 rfl (lv_at hl 0 rfl) ?_
  refine va_new (ci := 15) (fs := [.null, .null, .null, .null, .null, .null, .int 0, .null, .null, .null, .null, .null, .int 0, .null, .null, .null, .null, .int 0, .int 0, .null, .null, .null, .null, .null, .null, .null, .null, .null, .null, .null]) (C := R_MG) (T := T_MG) (N := 30) hx hb hg i_MG t_MG o_MG hown (hg _ k8_221) (hg _ k8_222) (hg _ k1_16) hK hP24 hD24 hS24 hA rfl f_MG (Nat.le_of_ble_eq_true rfl) (Nat.le_of_ble_eq_true rfl) d_MM_init_71 (fun q71 H25 hP25 hD25 hS25 => ?_)
  clear hP24 hD24 hS24
  refine lv_dup hx hb d_MM_init_74 rfl ?_
  refine zInit hP25 hD25 hS25 hA (va_runIN (As := []) (rest := [.ref q71, .ref h0]) ⟨hx, hb, hml, hown, hg⟩ (c_MG_init l D tA q71 H25.size) ⟨va_cnB 0 hg (zGood k8_225 rfl) rfl rfl rfl (va_Nw.of rfl (hg _ k8_223)) (hg _ k1_16) (by decide +kernel) ⟨(Nat.le_of_ble_eq_true rfl), (Nat.le_of_ble_eq_true rfl)⟩, rfl, hg _ k8_224⟩ (zPreI hh hK hP25 hD25) rfl rfl hl.1 rfl (lv_room (Nat.le_of_ble_eq_true rfl)) d_MM_init_75 ⟨(Nat.le_of_ble_eq_true rfl), (Nat.le_of_ble_eq_true rfl)⟩) (fun u71 H26 locs26 _ hP26 hD26 hS26 => ?_)
  clear hP25 hD25 hS25
  refine zCons (fun T75 e75 hP27 hD27 => ?_) hP26 hD26
  clear hP26 hD26
  refine va_put (D := D) (ci := 13) (v := .ref q71) (ty := .object "ChanceArenaModel$Game") (C := R_MM) (T := T_MM) (N := 49) hx hb hg i_MM t_MM o_MM n_MM hown hK hP27 hD27 hS26 0 rfl rfl 9 (by decide) (hg _ k10_55) (fun _ h9 => h9) rfl (by decide +kernel) rfl rfl (Nat.le_of_ble_eq_true rfl) d_MM_init_78 (fun H28 locs28 hP28 hD28 hS28 => ?_)
  clear hP27 hD27 hS26
  replace hP28 : va_P D vwCl ((h0, .inr (13, [.int 0, .ref q5, .ref q16, .ref q27, .ref q38, .ref q49, .ref q60, .int 0, .int 0, .ref q71, .null, .int 0, .int 0, .null, .null, .null, .int 0, .int 0, .null, .null, .null, .null, .null, .int 0, .null, .null, .null, .null, .null, .int 0, .int 0, .null, .null, .null, .null, .null, .null, .null, .null, .null, .int 0, .null, .null, .null, .null, .null, .null, .null, .int 0])) :: T75) _ := hP28
  replace hD28 : va_D A ((h0, .inr (13, [.int 0, .ref q5, .ref q16, .ref q27, .ref q38, .ref q49, .ref q60, .int 0, .int 0, .ref q71, .null, .int 0, .int 0, .null, .null, .null, .int 0, .int 0, .null, .null, .null, .null, .null, .int 0, .null, .null, .null, .null, .null, .int 0, .int 0, .null, .null, .null, .null, .null, .null, .null, .null, .null, .int 0, .null, .null, .null, .null, .null, .null, .null, .int 0])) :: T75) := hD28
  refine lv_aload_n hx hb d_MM_init_81 rfl (lv_at hl 0 rfl) ?_
  refine va_new (ci := 15) (fs := [.null, .null, .null, .null, .null, .null, .int 0, .null, .null, .null, .null, .null, .int 0, .null, .null, .null, .null, .int 0, .int 0, .null, .null, .null, .null, .null, .null, .null, .null, .null, .null, .null]) (C := R_MG) (T := T_MG) (N := 30) hx hb hg i_MG t_MG o_MG hown (hg _ k8_221) (hg _ k8_222) (hg _ k1_16) hK hP28 hD28 hS28 hA rfl f_MG (Nat.le_of_ble_eq_true rfl) (Nat.le_of_ble_eq_true rfl) d_MM_init_82 (fun q82 H29 hP29 hD29 hS29 => ?_)
  clear hP28 hD28 hS28
  refine lv_dup hx hb d_MM_init_85 rfl ?_
  refine zInit hP29 hD29 hS29 hA (va_runIN (As := []) (rest := [.ref q82, .ref h0]) ⟨hx, hb, hml, hown, hg⟩ (c_MG_init l D tA q82 H29.size) ⟨va_cnB 0 hg (zGood k8_225 rfl) rfl rfl rfl (va_Nw.of rfl (hg _ k8_223)) (hg _ k1_16) (by decide +kernel) ⟨(Nat.le_of_ble_eq_true rfl), (Nat.le_of_ble_eq_true rfl)⟩, rfl, hg _ k8_224⟩ (zPreI hh hK hP29 hD29) rfl rfl hl.1 rfl (lv_room (Nat.le_of_ble_eq_true rfl)) d_MM_init_86 ⟨(Nat.le_of_ble_eq_true rfl), (Nat.le_of_ble_eq_true rfl)⟩) (fun u82 H30 locs30 _ hP30 hD30 hS30 => ?_)
  clear hP29 hD29 hS29
  refine zCons (fun T86 e86 hP31 hD31 => ?_) hP30 hD30
  clear hP30 hD30
  refine va_put (D := D) (ci := 13) (v := .ref q82) (ty := .object "ChanceArenaModel$Game") (C := R_MM) (T := T_MM) (N := 49) hx hb hg i_MM t_MM o_MM n_MM hown hK hP31 hD31 hS30 0 rfl rfl 10 (by decide) (hg _ k10_56) (fun _ h9 => h9) rfl (by decide +kernel) rfl rfl (Nat.le_of_ble_eq_true rfl) d_MM_init_89 (fun H32 locs32 hP32 hD32 hS32 => ?_)
  clear hP31 hD31 hS30
  replace hP32 : va_P D vwCl ((h0, .inr (13, [.int 0, .ref q5, .ref q16, .ref q27, .ref q38, .ref q49, .ref q60, .int 0, .int 0, .ref q71, .ref q82, .int 0, .int 0, .null, .null, .null, .int 0, .int 0, .null, .null, .null, .null, .null, .int 0, .null, .null, .null, .null, .null, .int 0, .int 0, .null, .null, .null, .null, .null, .null, .null, .null, .null, .int 0, .null, .null, .null, .null, .null, .null, .null, .int 0])) :: T86) _ := hP32
  replace hD32 : va_D A ((h0, .inr (13, [.int 0, .ref q5, .ref q16, .ref q27, .ref q38, .ref q49, .ref q60, .int 0, .int 0, .ref q71, .ref q82, .int 0, .int 0, .null, .null, .null, .int 0, .int 0, .null, .null, .null, .null, .null, .int 0, .null, .null, .null, .null, .null, .int 0, .int 0, .null, .null, .null, .null, .null, .null, .null, .null, .null, .int 0, .null, .null, .null, .null, .null, .null, .null, .int 0])) :: T86) := hD32
  refine lv_aload_n hx hb d_MM_init_92 rfl (lv_at hl 0 rfl) ?_
  refine lv_iconst (v := -1) hx hb d_MM_init_93 (by decide) ?_
  refine va_put (D := D) (ci := 13) (v := .int (-1)) (ty := .int) (C := R_MM) (T := T_MM) (N := 49) hx hb hg i_MM t_MM o_MM n_MM hown hK hP32 hD32 hS32 0 rfl rfl 12 (by decide) (hg _ k10_58) (fun _ h9 => h9) rfl (by decide +kernel) rfl rfl (Nat.le_of_ble_eq_true rfl) d_MM_init_94 (fun H33 locs33 hP33 hD33 hS33 => ?_)
  clear hP32 hD32 hS32
  replace hP33 : va_P D vwCl ((h0, .inr (13, [.int 0, .ref q5, .ref q16, .ref q27, .ref q38, .ref q49, .ref q60, .int 0, .int 0, .ref q71, .ref q82, .int 0, .int (-1), .null, .null, .null, .int 0, .int 0, .null, .null, .null, .null, .null, .int 0, .null, .null, .null, .null, .null, .int 0, .int 0, .null, .null, .null, .null, .null, .null, .null, .null, .null, .int 0, .null, .null, .null, .null, .null, .null, .null, .int 0])) :: T86) _ := hP33
  replace hD33 : va_D A ((h0, .inr (13, [.int 0, .ref q5, .ref q16, .ref q27, .ref q38, .ref q49, .ref q60, .int 0, .int 0, .ref q71, .ref q82, .int 0, .int (-1), .null, .null, .null, .int 0, .int 0, .null, .null, .null, .null, .null, .int 0, .null, .null, .null, .null, .null, .int 0, .int 0, .null, .null, .null, .null, .null, .null, .null, .null, .null, .int 0, .null, .null, .null, .null, .null, .null, .null, .int 0])) :: T86) := hD33
  refine lv_aload_n hx hb d_MM_init_97 rfl (lv_at hl 0 rfl) ?_
  refine va_new (ci := 14) (fs := [.null, .int 0]) (C := R_MN) (T := T_MN) (N := 2) hx hb hg i_MN t_MN o_MN hown (hg _ k8_205) (hg _ k8_206) (hg _ k1_15) hK hP33 hD33 hS33 hA rfl f_MN (Nat.le_of_ble_eq_true rfl) (Nat.le_of_ble_eq_true rfl) d_MM_init_98 (fun q98 H34 hP34 hD34 hS34 => ?_)
  clear hP33 hD33 hS33
  refine lv_dup hx hb d_MM_init_101 rfl ?_
  refine zInit hP34 hD34 hS34 hA (va_runIN (As := []) (rest := [.ref q98, .ref h0]) ⟨hx, hb, hml, hown, hg⟩ (c_MN_init l D tA q98 H34.size) ⟨va_cnB 0 hg (zGood k8_209 rfl) rfl rfl rfl (va_Nw.of rfl (hg _ k8_207)) (hg _ k1_15) (by decide +kernel) ⟨(Nat.le_of_ble_eq_true rfl), (Nat.le_of_ble_eq_true rfl)⟩, rfl, hg _ k8_208⟩ (zPreI hh hK hP34 hD34) rfl rfl hl.1 rfl (lv_room (Nat.le_of_ble_eq_true rfl)) d_MM_init_102 ⟨(Nat.le_of_ble_eq_true rfl), (Nat.le_of_ble_eq_true rfl)⟩) (fun u98 H35 locs35 _ hP35 hD35 hS35 => ?_)
  clear hP34 hD34 hS34
  refine zCons (fun T102 e102 hP36 hD36 => ?_) hP35 hD35
  clear hP35 hD35
  refine va_putF (D := D) (ci := 13) (v := .ref q98) (ty := .object "ChanceArenaModel$Numbers") (C := R_MM) (T := T_MM) (N := 49) hx hb hg i_MM t_MM o_MM n_MM hown hK hP36 hD36 hS35 0 rfl rfl 13 (by decide) (hg _ k10_59) (fun _ h9 => h9) rfl hnm rfl (by decide +kernel) rfl rfl (Nat.le_of_ble_eq_true rfl) d_MM_init_105 (fun H37 locs37 hP37 hD37 hS37 => ?_)
  clear hP36 hD36 hS35
  replace hP37 : va_P D vwCl ((h0, .inr (13, [.int 0, .ref q5, .ref q16, .ref q27, .ref q38, .ref q49, .ref q60, .int 0, .int 0, .ref q71, .ref q82, .int 0, .int (-1), .ref q98, .null, .null, .int 0, .int 0, .null, .null, .null, .null, .null, .int 0, .null, .null, .null, .null, .null, .int 0, .int 0, .null, .null, .null, .null, .null, .null, .null, .null, .null, .int 0, .null, .null, .null, .null, .null, .null, .null, .int 0])) :: T102) _ := hP37
  replace hD37 : va_D A ((h0, .inr (13, [.int 0, .ref q5, .ref q16, .ref q27, .ref q38, .ref q49, .ref q60, .int 0, .int 0, .ref q71, .ref q82, .int 0, .int (-1), .ref q98, .null, .null, .int 0, .int 0, .null, .null, .null, .null, .null, .int 0, .null, .null, .null, .null, .null, .int 0, .int 0, .null, .null, .null, .null, .null, .null, .null, .null, .null, .int 0, .null, .null, .null, .null, .null, .null, .null, .int 0])) :: T102) := hD37
  refine lv_aload_n hx hb d_MM_init_108 rfl (lv_at hl 0 rfl) ?_
  refine va_new (ci := 14) (fs := [.null, .int 0]) (C := R_MN) (T := T_MN) (N := 2) hx hb hg i_MN t_MN o_MN hown (hg _ k8_205) (hg _ k8_206) (hg _ k1_15) hK hP37 hD37 hS37 hA rfl f_MN (Nat.le_of_ble_eq_true rfl) (Nat.le_of_ble_eq_true rfl) d_MM_init_109 (fun q109 H38 hP38 hD38 hS38 => ?_)
  clear hP37 hD37 hS37
  refine lv_dup hx hb d_MM_init_112 rfl ?_
  refine zInit hP38 hD38 hS38 hA (va_runIN (As := []) (rest := [.ref q109, .ref h0]) ⟨hx, hb, hml, hown, hg⟩ (c_MN_init l D tA q109 H38.size) ⟨va_cnB 0 hg (zGood k8_209 rfl) rfl rfl rfl (va_Nw.of rfl (hg _ k8_207)) (hg _ k1_15) (by decide +kernel) ⟨(Nat.le_of_ble_eq_true rfl), (Nat.le_of_ble_eq_true rfl)⟩, rfl, hg _ k8_208⟩ (zPreI hh hK hP38 hD38) rfl rfl hl.1 rfl (lv_room (Nat.le_of_ble_eq_true rfl)) d_MM_init_113 ⟨(Nat.le_of_ble_eq_true rfl), (Nat.le_of_ble_eq_true rfl)⟩) (fun u109 H39 locs39 _ hP39 hD39 hS39 => ?_)
  clear hP38 hD38 hS38
  refine zCons (fun T113 e113 hP40 hD40 => ?_) hP39 hD39
  clear hP39 hD39
  refine va_putF (D := D) (ci := 13) (v := .ref q109) (ty := .object "ChanceArenaModel$Numbers") (C := R_MM) (T := T_MM) (N := 49) hx hb hg i_MM t_MM o_MM n_MM hown hK hP40 hD40 hS39 0 rfl rfl 14 (by decide) (hg _ k10_60) (fun _ h9 => h9) rfl hnm rfl (by decide +kernel) rfl rfl (Nat.le_of_ble_eq_true rfl) d_MM_init_116 (fun H41 locs41 hP41 hD41 hS41 => ?_)
  clear hP40 hD40 hS39
  replace hP41 : va_P D vwCl ((h0, .inr (13, [.int 0, .ref q5, .ref q16, .ref q27, .ref q38, .ref q49, .ref q60, .int 0, .int 0, .ref q71, .ref q82, .int 0, .int (-1), .ref q98, .ref q109, .null, .int 0, .int 0, .null, .null, .null, .null, .null, .int 0, .null, .null, .null, .null, .null, .int 0, .int 0, .null, .null, .null, .null, .null, .null, .null, .null, .null, .int 0, .null, .null, .null, .null, .null, .null, .null, .int 0])) :: T113) _ := hP41
  replace hD41 : va_D A ((h0, .inr (13, [.int 0, .ref q5, .ref q16, .ref q27, .ref q38, .ref q49, .ref q60, .int 0, .int 0, .ref q71, .ref q82, .int 0, .int (-1), .ref q98, .ref q109, .null, .int 0, .int 0, .null, .null, .null, .null, .null, .int 0, .null, .null, .null, .null, .null, .int 0, .int 0, .null, .null, .null, .null, .null, .null, .null, .null, .null, .int 0, .null, .null, .null, .null, .null, .null, .null, .int 0])) :: T113) := hD41
  refine lv_aload_n hx hb d_MM_init_119 rfl (lv_at hl 0 rfl) ?_
  refine va_new (ci := 14) (fs := [.null, .int 0]) (C := R_MN) (T := T_MN) (N := 2) hx hb hg i_MN t_MN o_MN hown (hg _ k8_205) (hg _ k8_206) (hg _ k1_15) hK hP41 hD41 hS41 hA rfl f_MN (Nat.le_of_ble_eq_true rfl) (Nat.le_of_ble_eq_true rfl) d_MM_init_120 (fun q120 H42 hP42 hD42 hS42 => ?_)
  clear hP41 hD41 hS41
  refine lv_dup hx hb d_MM_init_123 rfl ?_
  refine zInit hP42 hD42 hS42 hA (va_runIN (As := []) (rest := [.ref q120, .ref h0]) ⟨hx, hb, hml, hown, hg⟩ (c_MN_init l D tA q120 H42.size) ⟨va_cnB 0 hg (zGood k8_209 rfl) rfl rfl rfl (va_Nw.of rfl (hg _ k8_207)) (hg _ k1_15) (by decide +kernel) ⟨(Nat.le_of_ble_eq_true rfl), (Nat.le_of_ble_eq_true rfl)⟩, rfl, hg _ k8_208⟩ (zPreI hh hK hP42 hD42) rfl rfl hl.1 rfl (lv_room (Nat.le_of_ble_eq_true rfl)) d_MM_init_124 ⟨(Nat.le_of_ble_eq_true rfl), (Nat.le_of_ble_eq_true rfl)⟩) (fun u120 H43 locs43 _ hP43 hD43 hS43 => ?_)
  clear hP42 hD42 hS42
  refine zCons (fun T124 e124 hP44 hD44 => ?_) hP43 hD43
  clear hP43 hD43
  refine va_putF (D := D) (ci := 13) (v := .ref q120) (ty := .object "ChanceArenaModel$Numbers") (C := R_MM) (T := T_MM) (N := 49) hx hb hg i_MM t_MM o_MM n_MM hown hK hP44 hD44 hS43 0 rfl rfl 15 (by decide) (hg _ k10_61) (fun _ h9 => h9) rfl hnm rfl (by decide +kernel) rfl rfl (Nat.le_of_ble_eq_true rfl) d_MM_init_127 (fun H45 locs45 hP45 hD45 hS45 => ?_)
  clear hP44 hD44 hS43
  replace hP45 : va_P D vwCl ((h0, .inr (13, [.int 0, .ref q5, .ref q16, .ref q27, .ref q38, .ref q49, .ref q60, .int 0, .int 0, .ref q71, .ref q82, .int 0, .int (-1), .ref q98, .ref q109, .ref q120, .int 0, .int 0, .null, .null, .null, .null, .null, .int 0, .null, .null, .null, .null, .null, .int 0, .int 0, .null, .null, .null, .null, .null, .null, .null, .null, .null, .int 0, .null, .null, .null, .null, .null, .null, .null, .int 0])) :: T124) _ := hP45
  replace hD45 : va_D A ((h0, .inr (13, [.int 0, .ref q5, .ref q16, .ref q27, .ref q38, .ref q49, .ref q60, .int 0, .int 0, .ref q71, .ref q82, .int 0, .int (-1), .ref q98, .ref q109, .ref q120, .int 0, .int 0, .null, .null, .null, .null, .null, .int 0, .null, .null, .null, .null, .null, .int 0, .int 0, .null, .null, .null, .null, .null, .null, .null, .null, .null, .int 0, .null, .null, .null, .null, .null, .null, .null, .int 0])) :: T124) := hD45
  refine lv_aload_n hx hb d_MM_init_130 rfl (lv_at hl 0 rfl) ?_
  refine va_new (ci := 14) (fs := [.null, .int 0]) (C := R_MN) (T := T_MN) (N := 2) hx hb hg i_MN t_MN o_MN hown (hg _ k8_205) (hg _ k8_206) (hg _ k1_15) hK hP45 hD45 hS45 hA rfl f_MN (Nat.le_of_ble_eq_true rfl) (Nat.le_of_ble_eq_true rfl) d_MM_init_131 (fun q131 H46 hP46 hD46 hS46 => ?_)
  clear hP45 hD45 hS45
  refine lv_dup hx hb d_MM_init_134 rfl ?_
  refine zInit hP46 hD46 hS46 hA (va_runIN (As := []) (rest := [.ref q131, .ref h0]) ⟨hx, hb, hml, hown, hg⟩ (c_MN_init l D tA q131 H46.size) ⟨va_cnB 0 hg (zGood k8_209 rfl) rfl rfl rfl (va_Nw.of rfl (hg _ k8_207)) (hg _ k1_15) (by decide +kernel) ⟨(Nat.le_of_ble_eq_true rfl), (Nat.le_of_ble_eq_true rfl)⟩, rfl, hg _ k8_208⟩ (zPreI hh hK hP46 hD46) rfl rfl hl.1 rfl (lv_room (Nat.le_of_ble_eq_true rfl)) d_MM_init_135 ⟨(Nat.le_of_ble_eq_true rfl), (Nat.le_of_ble_eq_true rfl)⟩) (fun u131 H47 locs47 _ hP47 hD47 hS47 => ?_)
  clear hP46 hD46 hS46
  refine zCons (fun T135 e135 hP48 hD48 => ?_) hP47 hD47
  clear hP47 hD47
  refine va_putF (D := D) (ci := 13) (v := .ref q131) (ty := .object "ChanceArenaModel$Numbers") (C := R_MM) (T := T_MM) (N := 49) hx hb hg i_MM t_MM o_MM n_MM hown hK hP48 hD48 hS47 0 rfl rfl 18 (by decide) (hg _ k10_64) (fun _ h9 => h9) rfl hnm rfl (by decide +kernel) rfl rfl (Nat.le_of_ble_eq_true rfl) d_MM_init_138 (fun H49 locs49 hP49 hD49 hS49 => ?_)
  clear hP48 hD48 hS47
  replace hP49 : va_P D vwCl ((h0, .inr (13, [.int 0, .ref q5, .ref q16, .ref q27, .ref q38, .ref q49, .ref q60, .int 0, .int 0, .ref q71, .ref q82, .int 0, .int (-1), .ref q98, .ref q109, .ref q120, .int 0, .int 0, .ref q131, .null, .null, .null, .null, .int 0, .null, .null, .null, .null, .null, .int 0, .int 0, .null, .null, .null, .null, .null, .null, .null, .null, .null, .int 0, .null, .null, .null, .null, .null, .null, .null, .int 0])) :: T135) _ := hP49
  replace hD49 : va_D A ((h0, .inr (13, [.int 0, .ref q5, .ref q16, .ref q27, .ref q38, .ref q49, .ref q60, .int 0, .int 0, .ref q71, .ref q82, .int 0, .int (-1), .ref q98, .ref q109, .ref q120, .int 0, .int 0, .ref q131, .null, .null, .null, .null, .int 0, .null, .null, .null, .null, .null, .int 0, .int 0, .null, .null, .null, .null, .null, .null, .null, .null, .null, .int 0, .null, .null, .null, .null, .null, .null, .null, .int 0])) :: T135) := hD49
  refine lv_aload_n hx hb d_MM_init_141 rfl (lv_at hl 0 rfl) ?_
  refine va_new (ci := 14) (fs := [.null, .int 0]) (C := R_MN) (T := T_MN) (N := 2) hx hb hg i_MN t_MN o_MN hown (hg _ k8_205) (hg _ k8_206) (hg _ k1_15) hK hP49 hD49 hS49 hA rfl f_MN (Nat.le_of_ble_eq_true rfl) (Nat.le_of_ble_eq_true rfl) d_MM_init_142 (fun q142 H50 hP50 hD50 hS50 => ?_)
  clear hP49 hD49 hS49
  refine lv_dup hx hb d_MM_init_145 rfl ?_
  refine zInit hP50 hD50 hS50 hA (va_runIN (As := []) (rest := [.ref q142, .ref h0]) ⟨hx, hb, hml, hown, hg⟩ (c_MN_init l D tA q142 H50.size) ⟨va_cnB 0 hg (zGood k8_209 rfl) rfl rfl rfl (va_Nw.of rfl (hg _ k8_207)) (hg _ k1_15) (by decide +kernel) ⟨(Nat.le_of_ble_eq_true rfl), (Nat.le_of_ble_eq_true rfl)⟩, rfl, hg _ k8_208⟩ (zPreI hh hK hP50 hD50) rfl rfl hl.1 rfl (lv_room (Nat.le_of_ble_eq_true rfl)) d_MM_init_146 ⟨(Nat.le_of_ble_eq_true rfl), (Nat.le_of_ble_eq_true rfl)⟩) (fun u142 H51 locs51 _ hP51 hD51 hS51 => ?_)
  clear hP50 hD50 hS50
  refine zCons (fun T146 e146 hP52 hD52 => ?_) hP51 hD51
  clear hP51 hD51
  refine va_putF (D := D) (ci := 13) (v := .ref q142) (ty := .object "ChanceArenaModel$Numbers") (C := R_MM) (T := T_MM) (N := 49) hx hb hg i_MM t_MM o_MM n_MM hown hK hP52 hD52 hS51 0 rfl rfl 19 (by decide) (hg _ k10_65) (fun _ h9 => h9) rfl hnm rfl (by decide +kernel) rfl rfl (Nat.le_of_ble_eq_true rfl) d_MM_init_149 (fun H53 locs53 hP53 hD53 hS53 => ?_)
  clear hP52 hD52 hS51
  replace hP53 : va_P D vwCl ((h0, .inr (13, [.int 0, .ref q5, .ref q16, .ref q27, .ref q38, .ref q49, .ref q60, .int 0, .int 0, .ref q71, .ref q82, .int 0, .int (-1), .ref q98, .ref q109, .ref q120, .int 0, .int 0, .ref q131, .ref q142, .null, .null, .null, .int 0, .null, .null, .null, .null, .null, .int 0, .int 0, .null, .null, .null, .null, .null, .null, .null, .null, .null, .int 0, .null, .null, .null, .null, .null, .null, .null, .int 0])) :: T146) _ := hP53
  replace hD53 : va_D A ((h0, .inr (13, [.int 0, .ref q5, .ref q16, .ref q27, .ref q38, .ref q49, .ref q60, .int 0, .int 0, .ref q71, .ref q82, .int 0, .int (-1), .ref q98, .ref q109, .ref q120, .int 0, .int 0, .ref q131, .ref q142, .null, .null, .null, .int 0, .null, .null, .null, .null, .null, .int 0, .int 0, .null, .null, .null, .null, .null, .null, .null, .null, .null, .int 0, .null, .null, .null, .null, .null, .null, .null, .int 0])) :: T146) := hD53
  refine lv_aload_n hx hb d_MM_init_152 rfl (lv_at hl 0 rfl) ?_
  refine va_new (ci := 14) (fs := [.null, .int 0]) (C := R_MN) (T := T_MN) (N := 2) hx hb hg i_MN t_MN o_MN hown (hg _ k8_205) (hg _ k8_206) (hg _ k1_15) hK hP53 hD53 hS53 hA rfl f_MN (Nat.le_of_ble_eq_true rfl) (Nat.le_of_ble_eq_true rfl) d_MM_init_153 (fun q153 H54 hP54 hD54 hS54 => ?_)
  clear hP53 hD53 hS53
  refine lv_dup hx hb d_MM_init_156 rfl ?_
  refine zInit hP54 hD54 hS54 hA (va_runIN (As := []) (rest := [.ref q153, .ref h0]) ⟨hx, hb, hml, hown, hg⟩ (c_MN_init l D tA q153 H54.size) ⟨va_cnB 0 hg (zGood k8_209 rfl) rfl rfl rfl (va_Nw.of rfl (hg _ k8_207)) (hg _ k1_15) (by decide +kernel) ⟨(Nat.le_of_ble_eq_true rfl), (Nat.le_of_ble_eq_true rfl)⟩, rfl, hg _ k8_208⟩ (zPreI hh hK hP54 hD54) rfl rfl hl.1 rfl (lv_room (Nat.le_of_ble_eq_true rfl)) d_MM_init_157 ⟨(Nat.le_of_ble_eq_true rfl), (Nat.le_of_ble_eq_true rfl)⟩) (fun u153 H55 locs55 _ hP55 hD55 hS55 => ?_)
  clear hP54 hD54 hS54
  refine zCons (fun T157 e157 hP56 hD56 => ?_) hP55 hD55
  clear hP55 hD55
  refine va_putF (D := D) (ci := 13) (v := .ref q153) (ty := .object "ChanceArenaModel$Numbers") (C := R_MM) (T := T_MM) (N := 49) hx hb hg i_MM t_MM o_MM n_MM hown hK hP56 hD56 hS55 0 rfl rfl 20 (by decide) (hg _ k10_66) (fun _ h9 => h9) rfl hnm rfl (by decide +kernel) rfl rfl (Nat.le_of_ble_eq_true rfl) d_MM_init_160 (fun H57 locs57 hP57 hD57 hS57 => ?_)
  clear hP56 hD56 hS55
  replace hP57 : va_P D vwCl ((h0, .inr (13, [.int 0, .ref q5, .ref q16, .ref q27, .ref q38, .ref q49, .ref q60, .int 0, .int 0, .ref q71, .ref q82, .int 0, .int (-1), .ref q98, .ref q109, .ref q120, .int 0, .int 0, .ref q131, .ref q142, .ref q153, .null, .null, .int 0, .null, .null, .null, .null, .null, .int 0, .int 0, .null, .null, .null, .null, .null, .null, .null, .null, .null, .int 0, .null, .null, .null, .null, .null, .null, .null, .int 0])) :: T157) _ := hP57
  replace hD57 : va_D A ((h0, .inr (13, [.int 0, .ref q5, .ref q16, .ref q27, .ref q38, .ref q49, .ref q60, .int 0, .int 0, .ref q71, .ref q82, .int 0, .int (-1), .ref q98, .ref q109, .ref q120, .int 0, .int 0, .ref q131, .ref q142, .ref q153, .null, .null, .int 0, .null, .null, .null, .null, .null, .int 0, .int 0, .null, .null, .null, .null, .null, .null, .null, .null, .null, .int 0, .null, .null, .null, .null, .null, .null, .null, .int 0])) :: T157) := hD57
  refine lv_aload_n hx hb d_MM_init_163 rfl (lv_at hl 0 rfl) ?_
  refine lv_sipush (v := 16400) hx hb d_MM_init_164 (by decide) ?_
  refine zNewa (atype := .long) (ty := .long) (a0 := (16400, .inr (.inl (fun _ => 0)))) (N' := 16400) hx hb rfl (hg _ k3_35) hK hP57 hD57 hS57 hA 3 rfl (fun _ h => by cases h) (fun _ => rfl) (by decide) (by decide) (by decide) (Nat.le_of_ble_eq_true rfl) (Nat.le_of_ble_eq_true rfl) d_MM_init_167 (fun q167 H58 hP58 hD58 hS58 => ?_)
  clear hP57 hD57 hS57
  refine zCons (fun T167 e167 hP59 hD59 => ?_) hP58 hD58
  clear hP58 hD58
  refine va_putF (D := D) (ci := 13) (v := .ref q167) (ty := .array .long) (C := R_MM) (T := T_MM) (N := 49) hx hb hg i_MM t_MM o_MM n_MM hown hK hP59 hD59 hS58 0 rfl rfl 21 (by decide) (hg _ k10_67) (fun _ h9 => h9) rfl hnm rfl (by decide +kernel) rfl rfl (Nat.le_of_ble_eq_true rfl) d_MM_init_169 (fun H60 locs60 hP60 hD60 hS60 => ?_)
  clear hP59 hD59 hS58
  replace hP60 : va_P D vwCl ((h0, .inr (13, [.int 0, .ref q5, .ref q16, .ref q27, .ref q38, .ref q49, .ref q60, .int 0, .int 0, .ref q71, .ref q82, .int 0, .int (-1), .ref q98, .ref q109, .ref q120, .int 0, .int 0, .ref q131, .ref q142, .ref q153, .ref q167, .null, .int 0, .null, .null, .null, .null, .null, .int 0, .int 0, .null, .null, .null, .null, .null, .null, .null, .null, .null, .int 0, .null, .null, .null, .null, .null, .null, .null, .int 0])) :: T167) _ := hP60
  replace hD60 : va_D A ((h0, .inr (13, [.int 0, .ref q5, .ref q16, .ref q27, .ref q38, .ref q49, .ref q60, .int 0, .int 0, .ref q71, .ref q82, .int 0, .int (-1), .ref q98, .ref q109, .ref q120, .int 0, .int 0, .ref q131, .ref q142, .ref q153, .ref q167, .null, .int 0, .null, .null, .null, .null, .null, .int 0, .int 0, .null, .null, .null, .null, .null, .null, .null, .null, .null, .int 0, .null, .null, .null, .null, .null, .null, .null, .int 0])) :: T167) := hD60
  refine lv_aload_n hx hb d_MM_init_172 rfl (lv_at hl 0 rfl) ?_
  refine lv_sipush (v := 16400) hx hb d_MM_init_173 (by decide) ?_
  refine zNewa (atype := .long) (ty := .long) (a0 := (16400, .inr (.inl (fun _ => 0)))) (N' := 16400) hx hb rfl (hg _ k3_35) hK hP60 hD60 hS60 hA 3 rfl (fun _ h => by cases h) (fun _ => rfl) (by decide) (by decide) (by decide) (Nat.le_of_ble_eq_true rfl) (Nat.le_of_ble_eq_true rfl) d_MM_init_176 (fun q176 H61 hP61 hD61 hS61 => ?_)
  clear hP60 hD60 hS60
  refine zCons (fun T176 e176 hP62 hD62 => ?_) hP61 hD61
  clear hP61 hD61
  refine va_putF (D := D) (ci := 13) (v := .ref q176) (ty := .array .long) (C := R_MM) (T := T_MM) (N := 49) hx hb hg i_MM t_MM o_MM n_MM hown hK hP62 hD62 hS61 0 rfl rfl 22 (by decide) (hg _ k10_68) (fun _ h9 => h9) rfl hnm rfl (by decide +kernel) rfl rfl (Nat.le_of_ble_eq_true rfl) d_MM_init_178 (fun H63 locs63 hP63 hD63 hS63 => ?_)
  clear hP62 hD62 hS61
  replace hP63 : va_P D vwCl ((h0, .inr (13, [.int 0, .ref q5, .ref q16, .ref q27, .ref q38, .ref q49, .ref q60, .int 0, .int 0, .ref q71, .ref q82, .int 0, .int (-1), .ref q98, .ref q109, .ref q120, .int 0, .int 0, .ref q131, .ref q142, .ref q153, .ref q167, .ref q176, .int 0, .null, .null, .null, .null, .null, .int 0, .int 0, .null, .null, .null, .null, .null, .null, .null, .null, .null, .int 0, .null, .null, .null, .null, .null, .null, .null, .int 0])) :: T176) _ := hP63
  replace hD63 : va_D A ((h0, .inr (13, [.int 0, .ref q5, .ref q16, .ref q27, .ref q38, .ref q49, .ref q60, .int 0, .int 0, .ref q71, .ref q82, .int 0, .int (-1), .ref q98, .ref q109, .ref q120, .int 0, .int 0, .ref q131, .ref q142, .ref q153, .ref q167, .ref q176, .int 0, .null, .null, .null, .null, .null, .int 0, .int 0, .null, .null, .null, .null, .null, .null, .null, .null, .null, .int 0, .null, .null, .null, .null, .null, .null, .null, .int 0])) :: T176) := hD63
  refine lv_aload_n hx hb d_MM_init_181 rfl (lv_at hl 0 rfl) ?_
  refine va_new (ci := 14) (fs := [.null, .int 0]) (C := R_MN) (T := T_MN) (N := 2) hx hb hg i_MN t_MN o_MN hown (hg _ k8_205) (hg _ k8_206) (hg _ k1_15) hK hP63 hD63 hS63 hA rfl f_MN (Nat.le_of_ble_eq_true rfl) (Nat.le_of_ble_eq_true rfl) d_MM_init_182 (fun q182 H64 hP64 hD64 hS64 => ?_)
  clear hP63 hD63 hS63
  refine lv_dup hx hb d_MM_init_185 rfl ?_
  refine zInit hP64 hD64 hS64 hA (va_runIN (As := []) (rest := [.ref q182, .ref h0]) ⟨hx, hb, hml, hown, hg⟩ (c_MN_init l D tA q182 H64.size) ⟨va_cnB 0 hg (zGood k8_209 rfl) rfl rfl rfl (va_Nw.of rfl (hg _ k8_207)) (hg _ k1_15) (by decide +kernel) ⟨(Nat.le_of_ble_eq_true rfl), (Nat.le_of_ble_eq_true rfl)⟩, rfl, hg _ k8_208⟩ (zPreI hh hK hP64 hD64) rfl rfl hl.1 rfl (lv_room (Nat.le_of_ble_eq_true rfl)) d_MM_init_186 ⟨(Nat.le_of_ble_eq_true rfl), (Nat.le_of_ble_eq_true rfl)⟩) (fun u182 H65 locs65 _ hP65 hD65 hS65 => ?_)
  clear hP64 hD64 hS64
  refine zCons (fun T186 e186 hP66 hD66 => ?_) hP65 hD65
  clear hP65 hD65
  refine va_putF (D := D) (ci := 13) (v := .ref q182) (ty := .object "ChanceArenaModel$Numbers") (C := R_MM) (T := T_MM) (N := 49) hx hb hg i_MM t_MM o_MM n_MM hown hK hP66 hD66 hS65 0 rfl rfl 24 (by decide) (hg _ k10_70) (fun _ h9 => h9) rfl hnm rfl (by decide +kernel) rfl rfl (Nat.le_of_ble_eq_true rfl) d_MM_init_189 (fun H67 locs67 hP67 hD67 hS67 => ?_)
  clear hP66 hD66 hS65
  replace hP67 : va_P D vwCl ((h0, .inr (13, [.int 0, .ref q5, .ref q16, .ref q27, .ref q38, .ref q49, .ref q60, .int 0, .int 0, .ref q71, .ref q82, .int 0, .int (-1), .ref q98, .ref q109, .ref q120, .int 0, .int 0, .ref q131, .ref q142, .ref q153, .ref q167, .ref q176, .int 0, .ref q182, .null, .null, .null, .null, .int 0, .int 0, .null, .null, .null, .null, .null, .null, .null, .null, .null, .int 0, .null, .null, .null, .null, .null, .null, .null, .int 0])) :: T186) _ := hP67
  replace hD67 : va_D A ((h0, .inr (13, [.int 0, .ref q5, .ref q16, .ref q27, .ref q38, .ref q49, .ref q60, .int 0, .int 0, .ref q71, .ref q82, .int 0, .int (-1), .ref q98, .ref q109, .ref q120, .int 0, .int 0, .ref q131, .ref q142, .ref q153, .ref q167, .ref q176, .int 0, .ref q182, .null, .null, .null, .null, .int 0, .int 0, .null, .null, .null, .null, .null, .null, .null, .null, .null, .int 0, .null, .null, .null, .null, .null, .null, .null, .int 0])) :: T186) := hD67
  refine lv_aload_n hx hb d_MM_init_192 rfl (lv_at hl 0 rfl) ?_
  refine lv_bipush (v := 12) hx hb d_MM_init_193 (by decide) ?_
  refine zNewa (atype := .int) (ty := .int) (a0 := (12, .inl (fun _ => 0))) (N' := 12) hx hb rfl (hg _ k1_82) hK hP67 hD67 hS67 hA 0 rfl (fun _ h => by cases h) (fun _ => rfl) (by decide) (by decide) (by decide) (Nat.le_of_ble_eq_true rfl) (Nat.le_of_ble_eq_true rfl) d_MM_init_195 (fun q195 H68 hP68 hD68 hS68 => ?_)
  clear hP67 hD67 hS67
  refine zCons (fun T195 e195 hP69 hD69 => ?_) hP68 hD68
  clear hP68 hD68
  refine va_putF (D := D) (ci := 13) (v := .ref q195) (ty := .array .int) (C := R_MM) (T := T_MM) (N := 49) hx hb hg i_MM t_MM o_MM n_MM hown hK hP69 hD69 hS68 0 rfl rfl 25 (by decide) (hg _ k10_71) (fun _ h9 => h9) rfl hnm rfl (by decide +kernel) rfl rfl (Nat.le_of_ble_eq_true rfl) d_MM_init_197 (fun H70 locs70 hP70 hD70 hS70 => ?_)
  clear hP69 hD69 hS68
  replace hP70 : va_P D vwCl ((h0, .inr (13, [.int 0, .ref q5, .ref q16, .ref q27, .ref q38, .ref q49, .ref q60, .int 0, .int 0, .ref q71, .ref q82, .int 0, .int (-1), .ref q98, .ref q109, .ref q120, .int 0, .int 0, .ref q131, .ref q142, .ref q153, .ref q167, .ref q176, .int 0, .ref q182, .ref q195, .null, .null, .null, .int 0, .int 0, .null, .null, .null, .null, .null, .null, .null, .null, .null, .int 0, .null, .null, .null, .null, .null, .null, .null, .int 0])) :: T195) _ := hP70
  replace hD70 : va_D A ((h0, .inr (13, [.int 0, .ref q5, .ref q16, .ref q27, .ref q38, .ref q49, .ref q60, .int 0, .int 0, .ref q71, .ref q82, .int 0, .int (-1), .ref q98, .ref q109, .ref q120, .int 0, .int 0, .ref q131, .ref q142, .ref q153, .ref q167, .ref q176, .int 0, .ref q182, .ref q195, .null, .null, .null, .int 0, .int 0, .null, .null, .null, .null, .null, .null, .null, .null, .null, .int 0, .null, .null, .null, .null, .null, .null, .null, .int 0])) :: T195) := hD70
  refine lv_aload_n hx hb d_MM_init_200 rfl (lv_at hl 0 rfl) ?_
  refine lv_bipush (v := 60) hx hb d_MM_init_201 (by decide) ?_
  refine zNewa (atype := .boolean) (ty := .boolean) (a0 := (60, .inl (fun _ => 0))) (N' := 60) hx hb rfl (hg _ k1_162) hK hP70 hD70 hS70 hA 1 rfl (fun _ h => by cases h) (fun _ => rfl) (by decide) (by decide) (by decide) (Nat.le_of_ble_eq_true rfl) (Nat.le_of_ble_eq_true rfl) d_MM_init_203 (fun q203 H71 hP71 hD71 hS71 => ?_)
  clear hP70 hD70 hS70
  refine zCons (fun T203 e203 hP72 hD72 => ?_) hP71 hD71
  clear hP71 hD71
  refine va_putF (D := D) (ci := 13) (v := .ref q203) (ty := .array .boolean) (C := R_MM) (T := T_MM) (N := 49) hx hb hg i_MM t_MM o_MM n_MM hown hK hP72 hD72 hS71 0 rfl rfl 26 (by decide) (hg _ k10_72) (fun _ h9 => h9) rfl hnm rfl (by decide +kernel) rfl rfl (Nat.le_of_ble_eq_true rfl) d_MM_init_205 (fun H73 locs73 hP73 hD73 hS73 => ?_)
  clear hP72 hD72 hS71
  replace hP73 : va_P D vwCl ((h0, .inr (13, [.int 0, .ref q5, .ref q16, .ref q27, .ref q38, .ref q49, .ref q60, .int 0, .int 0, .ref q71, .ref q82, .int 0, .int (-1), .ref q98, .ref q109, .ref q120, .int 0, .int 0, .ref q131, .ref q142, .ref q153, .ref q167, .ref q176, .int 0, .ref q182, .ref q195, .ref q203, .null, .null, .int 0, .int 0, .null, .null, .null, .null, .null, .null, .null, .null, .null, .int 0, .null, .null, .null, .null, .null, .null, .null, .int 0])) :: T203) _ := hP73
  replace hD73 : va_D A ((h0, .inr (13, [.int 0, .ref q5, .ref q16, .ref q27, .ref q38, .ref q49, .ref q60, .int 0, .int 0, .ref q71, .ref q82, .int 0, .int (-1), .ref q98, .ref q109, .ref q120, .int 0, .int 0, .ref q131, .ref q142, .ref q153, .ref q167, .ref q176, .int 0, .ref q182, .ref q195, .ref q203, .null, .null, .int 0, .int 0, .null, .null, .null, .null, .null, .null, .null, .null, .null, .int 0, .null, .null, .null, .null, .null, .null, .null, .int 0])) :: T203) := hD73
  refine lv_aload_n hx hb d_MM_init_208 rfl (lv_at hl 0 rfl) ?_
  refine lv_bipush (v := 60) hx hb d_MM_init_209 (by decide) ?_
  refine zNewa (atype := .long) (ty := .long) (a0 := (60, .inr (.inl (fun _ => 0)))) (N' := 60) hx hb rfl (hg _ k3_35) hK hP73 hD73 hS73 hA 3 rfl (fun _ h => by cases h) (fun _ => rfl) (by decide) (by decide) (by decide) (Nat.le_of_ble_eq_true rfl) (Nat.le_of_ble_eq_true rfl) d_MM_init_211 (fun q211 H74 hP74 hD74 hS74 => ?_)
  clear hP73 hD73 hS73
  refine zCons (fun T211 e211 hP75 hD75 => ?_) hP74 hD74
  clear hP74 hD74
  refine va_putF (D := D) (ci := 13) (v := .ref q211) (ty := .array .long) (C := R_MM) (T := T_MM) (N := 49) hx hb hg i_MM t_MM o_MM n_MM hown hK hP75 hD75 hS74 0 rfl rfl 27 (by decide) (hg _ k10_73) (fun _ h9 => h9) rfl hnm rfl (by decide +kernel) rfl rfl (Nat.le_of_ble_eq_true rfl) d_MM_init_213 (fun H76 locs76 hP76 hD76 hS76 => ?_)
  clear hP75 hD75 hS74
  replace hP76 : va_P D vwCl ((h0, .inr (13, [.int 0, .ref q5, .ref q16, .ref q27, .ref q38, .ref q49, .ref q60, .int 0, .int 0, .ref q71, .ref q82, .int 0, .int (-1), .ref q98, .ref q109, .ref q120, .int 0, .int 0, .ref q131, .ref q142, .ref q153, .ref q167, .ref q176, .int 0, .ref q182, .ref q195, .ref q203, .ref q211, .null, .int 0, .int 0, .null, .null, .null, .null, .null, .null, .null, .null, .null, .int 0, .null, .null, .null, .null, .null, .null, .null, .int 0])) :: T211) _ := hP76
  replace hD76 : va_D A ((h0, .inr (13, [.int 0, .ref q5, .ref q16, .ref q27, .ref q38, .ref q49, .ref q60, .int 0, .int 0, .ref q71, .ref q82, .int 0, .int (-1), .ref q98, .ref q109, .ref q120, .int 0, .int 0, .ref q131, .ref q142, .ref q153, .ref q167, .ref q176, .int 0, .ref q182, .ref q195, .ref q203, .ref q211, .null, .int 0, .int 0, .null, .null, .null, .null, .null, .null, .null, .null, .null, .int 0, .null, .null, .null, .null, .null, .null, .null, .int 0])) :: T211) := hD76
  refine lv_aload_n hx hb d_MM_init_216 rfl (lv_at hl 0 rfl) ?_
  refine lv_bipush (v := 60) hx hb d_MM_init_217 (by decide) ?_
  refine zNewa (atype := .long) (ty := .long) (a0 := (60, .inr (.inl (fun _ => 0)))) (N' := 60) hx hb rfl (hg _ k3_35) hK hP76 hD76 hS76 hA 3 rfl (fun _ h => by cases h) (fun _ => rfl) (by decide) (by decide) (by decide) (Nat.le_of_ble_eq_true rfl) (Nat.le_of_ble_eq_true rfl) d_MM_init_219 (fun q219 H77 hP77 hD77 hS77 => ?_)
  clear hP76 hD76 hS76
  refine zCons (fun T219 e219 hP78 hD78 => ?_) hP77 hD77
  clear hP77 hD77
  refine va_putF (D := D) (ci := 13) (v := .ref q219) (ty := .array .long) (C := R_MM) (T := T_MM) (N := 49) hx hb hg i_MM t_MM o_MM n_MM hown hK hP78 hD78 hS77 0 rfl rfl 28 (by decide) (hg _ k10_74) (fun _ h9 => h9) rfl hnm rfl (by decide +kernel) rfl rfl (Nat.le_of_ble_eq_true rfl) d_MM_init_221 (fun H79 locs79 hP79 hD79 hS79 => ?_)
  clear hP78 hD78 hS77
  replace hP79 : va_P D vwCl ((h0, .inr (13, [.int 0, .ref q5, .ref q16, .ref q27, .ref q38, .ref q49, .ref q60, .int 0, .int 0, .ref q71, .ref q82, .int 0, .int (-1), .ref q98, .ref q109, .ref q120, .int 0, .int 0, .ref q131, .ref q142, .ref q153, .ref q167, .ref q176, .int 0, .ref q182, .ref q195, .ref q203, .ref q211, .ref q219, .int 0, .int 0, .null, .null, .null, .null, .null, .null, .null, .null, .null, .int 0, .null, .null, .null, .null, .null, .null, .null, .int 0])) :: T219) _ := hP79
  replace hD79 : va_D A ((h0, .inr (13, [.int 0, .ref q5, .ref q16, .ref q27, .ref q38, .ref q49, .ref q60, .int 0, .int 0, .ref q71, .ref q82, .int 0, .int (-1), .ref q98, .ref q109, .ref q120, .int 0, .int 0, .ref q131, .ref q142, .ref q153, .ref q167, .ref q176, .int 0, .ref q182, .ref q195, .ref q203, .ref q211, .ref q219, .int 0, .int 0, .null, .null, .null, .null, .null, .null, .null, .null, .null, .int 0, .null, .null, .null, .null, .null, .null, .null, .int 0])) :: T219) := hD79
  refine lv_aload_n hx hb d_MM_init_224 rfl (lv_at hl 0 rfl) ?_
  refine lv_iconst (v := -1) hx hb d_MM_init_225 (by decide) ?_
  refine va_put (D := D) (ci := 13) (v := .int (-1)) (ty := .int) (C := R_MM) (T := T_MM) (N := 49) hx hb hg i_MM t_MM o_MM n_MM hown hK hP79 hD79 hS79 0 rfl rfl 30 (by decide) (hg _ k10_76) (fun _ h9 => h9) rfl (by decide +kernel) rfl rfl (Nat.le_of_ble_eq_true rfl) d_MM_init_226 (fun H80 locs80 hP80 hD80 hS80 => ?_)
  clear hP79 hD79 hS79
  replace hP80 : va_P D vwCl ((h0, .inr (13, [.int 0, .ref q5, .ref q16, .ref q27, .ref q38, .ref q49, .ref q60, .int 0, .int 0, .ref q71, .ref q82, .int 0, .int (-1), .ref q98, .ref q109, .ref q120, .int 0, .int 0, .ref q131, .ref q142, .ref q153, .ref q167, .ref q176, .int 0, .ref q182, .ref q195, .ref q203, .ref q211, .ref q219, .int 0, .int (-1), .null, .null, .null, .null, .null, .null, .null, .null, .null, .int 0, .null, .null, .null, .null, .null, .null, .null, .int 0])) :: T219) _ := hP80
  replace hD80 : va_D A ((h0, .inr (13, [.int 0, .ref q5, .ref q16, .ref q27, .ref q38, .ref q49, .ref q60, .int 0, .int 0, .ref q71, .ref q82, .int 0, .int (-1), .ref q98, .ref q109, .ref q120, .int 0, .int 0, .ref q131, .ref q142, .ref q153, .ref q167, .ref q176, .int 0, .ref q182, .ref q195, .ref q203, .ref q211, .ref q219, .int 0, .int (-1), .null, .null, .null, .null, .null, .null, .null, .null, .null, .int 0, .null, .null, .null, .null, .null, .null, .null, .int 0])) :: T219) := hD80
  refine lv_aload_n hx hb d_MM_init_229 rfl (lv_at hl 0 rfl) ?_
  refine lv_sipush (v := 6144) hx hb d_MM_init_230 (by decide) ?_
  refine zNewa (atype := .int) (ty := .int) (a0 := (6144, .inl (fun _ => 0))) (N' := 6144) hx hb rfl (hg _ k1_82) hK hP80 hD80 hS80 hA 0 rfl (fun _ h => by cases h) (fun _ => rfl) (by decide) (by decide) (by decide) (Nat.le_of_ble_eq_true rfl) (Nat.le_of_ble_eq_true rfl) d_MM_init_233 (fun q233 H81 hP81 hD81 hS81 => ?_)
  clear hP80 hD80 hS80
  refine zCons (fun T233 e233 hP82 hD82 => ?_) hP81 hD81
  clear hP81 hD81
  refine va_putF (D := D) (ci := 13) (v := .ref q233) (ty := .array .int) (C := R_MM) (T := T_MM) (N := 49) hx hb hg i_MM t_MM o_MM n_MM hown hK hP82 hD82 hS81 0 rfl rfl 31 (by decide) (hg _ k10_77) (fun _ h9 => h9) rfl hnm rfl (by decide +kernel) rfl rfl (Nat.le_of_ble_eq_true rfl) d_MM_init_235 (fun H83 locs83 hP83 hD83 hS83 => ?_)
  clear hP82 hD82 hS81
  replace hP83 : va_P D vwCl ((h0, .inr (13, [.int 0, .ref q5, .ref q16, .ref q27, .ref q38, .ref q49, .ref q60, .int 0, .int 0, .ref q71, .ref q82, .int 0, .int (-1), .ref q98, .ref q109, .ref q120, .int 0, .int 0, .ref q131, .ref q142, .ref q153, .ref q167, .ref q176, .int 0, .ref q182, .ref q195, .ref q203, .ref q211, .ref q219, .int 0, .int (-1), .ref q233, .null, .null, .null, .null, .null, .null, .null, .null, .int 0, .null, .null, .null, .null, .null, .null, .null, .int 0])) :: T233) _ := hP83
  replace hD83 : va_D A ((h0, .inr (13, [.int 0, .ref q5, .ref q16, .ref q27, .ref q38, .ref q49, .ref q60, .int 0, .int 0, .ref q71, .ref q82, .int 0, .int (-1), .ref q98, .ref q109, .ref q120, .int 0, .int 0, .ref q131, .ref q142, .ref q153, .ref q167, .ref q176, .int 0, .ref q182, .ref q195, .ref q203, .ref q211, .ref q219, .int 0, .int (-1), .ref q233, .null, .null, .null, .null, .null, .null, .null, .null, .int 0, .null, .null, .null, .null, .null, .null, .null, .int 0])) :: T233) := hD83
  refine lv_aload_n hx hb d_MM_init_238 rfl (lv_at hl 0 rfl) ?_
  refine lv_sipush (v := 512) hx hb d_MM_init_239 (by decide) ?_
  refine zNewa (atype := .int) (ty := .int) (a0 := (512, .inl (fun _ => 0))) (N' := 512) hx hb rfl (hg _ k1_82) hK hP83 hD83 hS83 hA 0 rfl (fun _ h => by cases h) (fun _ => rfl) (by decide) (by decide) (by decide) (Nat.le_of_ble_eq_true rfl) (Nat.le_of_ble_eq_true rfl) d_MM_init_242 (fun q242 H84 hP84 hD84 hS84 => ?_)
  clear hP83 hD83 hS83
  refine zCons (fun T242 e242 hP85 hD85 => ?_) hP84 hD84
  clear hP84 hD84
  refine va_putF (D := D) (ci := 13) (v := .ref q242) (ty := .array .int) (C := R_MM) (T := T_MM) (N := 49) hx hb hg i_MM t_MM o_MM n_MM hown hK hP85 hD85 hS84 0 rfl rfl 32 (by decide) (hg _ k10_78) (fun _ h9 => h9) rfl hnm rfl (by decide +kernel) rfl rfl (Nat.le_of_ble_eq_true rfl) d_MM_init_244 (fun H86 locs86 hP86 hD86 hS86 => ?_)
  clear hP85 hD85 hS84
  replace hP86 : va_P D vwCl ((h0, .inr (13, [.int 0, .ref q5, .ref q16, .ref q27, .ref q38, .ref q49, .ref q60, .int 0, .int 0, .ref q71, .ref q82, .int 0, .int (-1), .ref q98, .ref q109, .ref q120, .int 0, .int 0, .ref q131, .ref q142, .ref q153, .ref q167, .ref q176, .int 0, .ref q182, .ref q195, .ref q203, .ref q211, .ref q219, .int 0, .int (-1), .ref q233, .ref q242, .null, .null, .null, .null, .null, .null, .null, .int 0, .null, .null, .null, .null, .null, .null, .null, .int 0])) :: T242) _ := hP86
  replace hD86 : va_D A ((h0, .inr (13, [.int 0, .ref q5, .ref q16, .ref q27, .ref q38, .ref q49, .ref q60, .int 0, .int 0, .ref q71, .ref q82, .int 0, .int (-1), .ref q98, .ref q109, .ref q120, .int 0, .int 0, .ref q131, .ref q142, .ref q153, .ref q167, .ref q176, .int 0, .ref q182, .ref q195, .ref q203, .ref q211, .ref q219, .int 0, .int (-1), .ref q233, .ref q242, .null, .null, .null, .null, .null, .null, .null, .int 0, .null, .null, .null, .null, .null, .null, .null, .int 0])) :: T242) := hD86
  refine lv_aload_n hx hb d_MM_init_247 rfl (lv_at hl 0 rfl) ?_
  refine lv_sipush (v := 512) hx hb d_MM_init_248 (by decide) ?_
  refine zNewa (atype := .int) (ty := .int) (a0 := (512, .inl (fun _ => 0))) (N' := 512) hx hb rfl (hg _ k1_82) hK hP86 hD86 hS86 hA 0 rfl (fun _ h => by cases h) (fun _ => rfl) (by decide) (by decide) (by decide) (Nat.le_of_ble_eq_true rfl) (Nat.le_of_ble_eq_true rfl) d_MM_init_251 (fun q251 H87 hP87 hD87 hS87 => ?_)
  clear hP86 hD86 hS86
  refine zCons (fun T251 e251 hP88 hD88 => ?_) hP87 hD87
  clear hP87 hD87
  refine va_putF (D := D) (ci := 13) (v := .ref q251) (ty := .array .int) (C := R_MM) (T := T_MM) (N := 49) hx hb hg i_MM t_MM o_MM n_MM hown hK hP88 hD88 hS87 0 rfl rfl 33 (by decide) (hg _ k10_79) (fun _ h9 => h9) rfl hnm rfl (by decide +kernel) rfl rfl (Nat.le_of_ble_eq_true rfl) d_MM_init_253 (fun H89 locs89 hP89 hD89 hS89 => ?_)
  clear hP88 hD88 hS87
  replace hP89 : va_P D vwCl ((h0, .inr (13, [.int 0, .ref q5, .ref q16, .ref q27, .ref q38, .ref q49, .ref q60, .int 0, .int 0, .ref q71, .ref q82, .int 0, .int (-1), .ref q98, .ref q109, .ref q120, .int 0, .int 0, .ref q131, .ref q142, .ref q153, .ref q167, .ref q176, .int 0, .ref q182, .ref q195, .ref q203, .ref q211, .ref q219, .int 0, .int (-1), .ref q233, .ref q242, .ref q251, .null, .null, .null, .null, .null, .null, .int 0, .null, .null, .null, .null, .null, .null, .null, .int 0])) :: T251) _ := hP89
  replace hD89 : va_D A ((h0, .inr (13, [.int 0, .ref q5, .ref q16, .ref q27, .ref q38, .ref q49, .ref q60, .int 0, .int 0, .ref q71, .ref q82, .int 0, .int (-1), .ref q98, .ref q109, .ref q120, .int 0, .int 0, .ref q131, .ref q142, .ref q153, .ref q167, .ref q176, .int 0, .ref q182, .ref q195, .ref q203, .ref q211, .ref q219, .int 0, .int (-1), .ref q233, .ref q242, .ref q251, .null, .null, .null, .null, .null, .null, .int 0, .null, .null, .null, .null, .null, .null, .null, .int 0])) :: T251) := hD89
  refine lv_aload_n hx hb d_MM_init_256 rfl (lv_at hl 0 rfl) ?_
  refine lv_sipush (v := 512) hx hb d_MM_init_257 (by decide) ?_
  refine zNewa (atype := .int) (ty := .int) (a0 := (512, .inl (fun _ => 0))) (N' := 512) hx hb rfl (hg _ k1_82) hK hP89 hD89 hS89 hA 0 rfl (fun _ h => by cases h) (fun _ => rfl) (by decide) (by decide) (by decide) (Nat.le_of_ble_eq_true rfl) (Nat.le_of_ble_eq_true rfl) d_MM_init_260 (fun q260 H90 hP90 hD90 hS90 => ?_)
  clear hP89 hD89 hS89
  refine zCons (fun T260 e260 hP91 hD91 => ?_) hP90 hD90
  clear hP90 hD90
  refine va_putF (D := D) (ci := 13) (v := .ref q260) (ty := .array .int) (C := R_MM) (T := T_MM) (N := 49) hx hb hg i_MM t_MM o_MM n_MM hown hK hP91 hD91 hS90 0 rfl rfl 34 (by decide) (hg _ k10_80) (fun _ h9 => h9) rfl hnm rfl (by decide +kernel) rfl rfl (Nat.le_of_ble_eq_true rfl) d_MM_init_262 (fun H92 locs92 hP92 hD92 hS92 => ?_)
  clear hP91 hD91 hS90
  replace hP92 : va_P D vwCl ((h0, .inr (13, [.int 0, .ref q5, .ref q16, .ref q27, .ref q38, .ref q49, .ref q60, .int 0, .int 0, .ref q71, .ref q82, .int 0, .int (-1), .ref q98, .ref q109, .ref q120, .int 0, .int 0, .ref q131, .ref q142, .ref q153, .ref q167, .ref q176, .int 0, .ref q182, .ref q195, .ref q203, .ref q211, .ref q219, .int 0, .int (-1), .ref q233, .ref q242, .ref q251, .ref q260, .null, .null, .null, .null, .null, .int 0, .null, .null, .null, .null, .null, .null, .null, .int 0])) :: T260) _ := hP92
  replace hD92 : va_D A ((h0, .inr (13, [.int 0, .ref q5, .ref q16, .ref q27, .ref q38, .ref q49, .ref q60, .int 0, .int 0, .ref q71, .ref q82, .int 0, .int (-1), .ref q98, .ref q109, .ref q120, .int 0, .int 0, .ref q131, .ref q142, .ref q153, .ref q167, .ref q176, .int 0, .ref q182, .ref q195, .ref q203, .ref q211, .ref q219, .int 0, .int (-1), .ref q233, .ref q242, .ref q251, .ref q260, .null, .null, .null, .null, .null, .int 0, .null, .null, .null, .null, .null, .null, .null, .int 0])) :: T260) := hD92
  refine lv_aload_n hx hb d_MM_init_265 rfl (lv_at hl 0 rfl) ?_
  refine va_new (ci := 14) (fs := [.null, .int 0]) (C := R_MN) (T := T_MN) (N := 2) hx hb hg i_MN t_MN o_MN hown (hg _ k8_205) (hg _ k8_206) (hg _ k1_15) hK hP92 hD92 hS92 hA rfl f_MN (Nat.le_of_ble_eq_true rfl) (Nat.le_of_ble_eq_true rfl) d_MM_init_266 (fun q266 H93 hP93 hD93 hS93 => ?_)
  clear hP92 hD92 hS92
  refine lv_dup hx hb d_MM_init_269 rfl ?_
  refine zInit hP93 hD93 hS93 hA (va_runIN (As := []) (rest := [.ref q266, .ref h0]) ⟨hx, hb, hml, hown, hg⟩ (c_MN_init l D tA q266 H93.size) ⟨va_cnB 0 hg (zGood k8_209 rfl) rfl rfl rfl (va_Nw.of rfl (hg _ k8_207)) (hg _ k1_15) (by decide +kernel) ⟨(Nat.le_of_ble_eq_true rfl), (Nat.le_of_ble_eq_true rfl)⟩, rfl, hg _ k8_208⟩ (zPreI hh hK hP93 hD93) rfl rfl hl.1 rfl (lv_room (Nat.le_of_ble_eq_true rfl)) d_MM_init_270 ⟨(Nat.le_of_ble_eq_true rfl), (Nat.le_of_ble_eq_true rfl)⟩) (fun u266 H94 locs94 _ hP94 hD94 hS94 => ?_)
  clear hP93 hD93 hS93
  refine zCons (fun T270 e270 hP95 hD95 => ?_) hP94 hD94
  clear hP94 hD94
  refine va_putF (D := D) (ci := 13) (v := .ref q266) (ty := .object "ChanceArenaModel$Numbers") (C := R_MM) (T := T_MM) (N := 49) hx hb hg i_MM t_MM o_MM n_MM hown hK hP95 hD95 hS94 0 rfl rfl 35 (by decide) (hg _ k10_81) (fun _ h9 => h9) rfl hnm rfl (by decide +kernel) rfl rfl (Nat.le_of_ble_eq_true rfl) d_MM_init_273 (fun H96 locs96 hP96 hD96 hS96 => ?_)
  clear hP95 hD95 hS94
  replace hP96 : va_P D vwCl ((h0, .inr (13, [.int 0, .ref q5, .ref q16, .ref q27, .ref q38, .ref q49, .ref q60, .int 0, .int 0, .ref q71, .ref q82, .int 0, .int (-1), .ref q98, .ref q109, .ref q120, .int 0, .int 0, .ref q131, .ref q142, .ref q153, .ref q167, .ref q176, .int 0, .ref q182, .ref q195, .ref q203, .ref q211, .ref q219, .int 0, .int (-1), .ref q233, .ref q242, .ref q251, .ref q260, .ref q266, .null, .null, .null, .null, .int 0, .null, .null, .null, .null, .null, .null, .null, .int 0])) :: T270) _ := hP96
  replace hD96 : va_D A ((h0, .inr (13, [.int 0, .ref q5, .ref q16, .ref q27, .ref q38, .ref q49, .ref q60, .int 0, .int 0, .ref q71, .ref q82, .int 0, .int (-1), .ref q98, .ref q109, .ref q120, .int 0, .int 0, .ref q131, .ref q142, .ref q153, .ref q167, .ref q176, .int 0, .ref q182, .ref q195, .ref q203, .ref q211, .ref q219, .int 0, .int (-1), .ref q233, .ref q242, .ref q251, .ref q260, .ref q266, .null, .null, .null, .null, .int 0, .null, .null, .null, .null, .null, .null, .null, .int 0])) :: T270) := hD96
  refine lv_aload_n hx hb d_MM_init_276 rfl (lv_at hl 0 rfl) ?_
  refine va_new (ci := 14) (fs := [.null, .int 0]) (C := R_MN) (T := T_MN) (N := 2) hx hb hg i_MN t_MN o_MN hown (hg _ k8_205) (hg _ k8_206) (hg _ k1_15) hK hP96 hD96 hS96 hA rfl f_MN (Nat.le_of_ble_eq_true rfl) (Nat.le_of_ble_eq_true rfl) d_MM_init_277 (fun q277 H97 hP97 hD97 hS97 => ?_)
  clear hP96 hD96 hS96
  refine lv_dup hx hb d_MM_init_280 rfl ?_
  refine zInit hP97 hD97 hS97 hA (va_runIN (As := []) (rest := [.ref q277, .ref h0]) ⟨hx, hb, hml, hown, hg⟩ (c_MN_init l D tA q277 H97.size) ⟨va_cnB 0 hg (zGood k8_209 rfl) rfl rfl rfl (va_Nw.of rfl (hg _ k8_207)) (hg _ k1_15) (by decide +kernel) ⟨(Nat.le_of_ble_eq_true rfl), (Nat.le_of_ble_eq_true rfl)⟩, rfl, hg _ k8_208⟩ (zPreI hh hK hP97 hD97) rfl rfl hl.1 rfl (lv_room (Nat.le_of_ble_eq_true rfl)) d_MM_init_281 ⟨(Nat.le_of_ble_eq_true rfl), (Nat.le_of_ble_eq_true rfl)⟩) (fun u277 H98 locs98 _ hP98 hD98 hS98 => ?_)
  clear hP97 hD97 hS97
  refine zCons (fun T281 e281 hP99 hD99 => ?_) hP98 hD98
  clear hP98 hD98
  refine va_putF (D := D) (ci := 13) (v := .ref q277) (ty := .object "ChanceArenaModel$Numbers") (C := R_MM) (T := T_MM) (N := 49) hx hb hg i_MM t_MM o_MM n_MM hown hK hP99 hD99 hS98 0 rfl rfl 36 (by decide) (hg _ k10_82) (fun _ h9 => h9) rfl hnm rfl (by decide +kernel) rfl rfl (Nat.le_of_ble_eq_true rfl) d_MM_init_284 (fun H100 locs100 hP100 hD100 hS100 => ?_)
  clear hP99 hD99 hS98
  replace hP100 : va_P D vwCl ((h0, .inr (13, [.int 0, .ref q5, .ref q16, .ref q27, .ref q38, .ref q49, .ref q60, .int 0, .int 0, .ref q71, .ref q82, .int 0, .int (-1), .ref q98, .ref q109, .ref q120, .int 0, .int 0, .ref q131, .ref q142, .ref q153, .ref q167, .ref q176, .int 0, .ref q182, .ref q195, .ref q203, .ref q211, .ref q219, .int 0, .int (-1), .ref q233, .ref q242, .ref q251, .ref q260, .ref q266, .ref q277, .null, .null, .null, .int 0, .null, .null, .null, .null, .null, .null, .null, .int 0])) :: T281) _ := hP100
  replace hD100 : va_D A ((h0, .inr (13, [.int 0, .ref q5, .ref q16, .ref q27, .ref q38, .ref q49, .ref q60, .int 0, .int 0, .ref q71, .ref q82, .int 0, .int (-1), .ref q98, .ref q109, .ref q120, .int 0, .int 0, .ref q131, .ref q142, .ref q153, .ref q167, .ref q176, .int 0, .ref q182, .ref q195, .ref q203, .ref q211, .ref q219, .int 0, .int (-1), .ref q233, .ref q242, .ref q251, .ref q260, .ref q266, .ref q277, .null, .null, .null, .int 0, .null, .null, .null, .null, .null, .null, .null, .int 0])) :: T281) := hD100
  refine lv_aload_n hx hb d_MM_init_287 rfl (lv_at hl 0 rfl) ?_
  refine va_new (ci := 14) (fs := [.null, .int 0]) (C := R_MN) (T := T_MN) (N := 2) hx hb hg i_MN t_MN o_MN hown (hg _ k8_205) (hg _ k8_206) (hg _ k1_15) hK hP100 hD100 hS100 hA rfl f_MN (Nat.le_of_ble_eq_true rfl) (Nat.le_of_ble_eq_true rfl) d_MM_init_288 (fun q288 H101 hP101 hD101 hS101 => ?_)
  clear hP100 hD100 hS100
  refine lv_dup hx hb d_MM_init_291 rfl ?_
  refine zInit hP101 hD101 hS101 hA (va_runIN (As := []) (rest := [.ref q288, .ref h0]) ⟨hx, hb, hml, hown, hg⟩ (c_MN_init l D tA q288 H101.size) ⟨va_cnB 0 hg (zGood k8_209 rfl) rfl rfl rfl (va_Nw.of rfl (hg _ k8_207)) (hg _ k1_15) (by decide +kernel) ⟨(Nat.le_of_ble_eq_true rfl), (Nat.le_of_ble_eq_true rfl)⟩, rfl, hg _ k8_208⟩ (zPreI hh hK hP101 hD101) rfl rfl hl.1 rfl (lv_room (Nat.le_of_ble_eq_true rfl)) d_MM_init_292 ⟨(Nat.le_of_ble_eq_true rfl), (Nat.le_of_ble_eq_true rfl)⟩) (fun u288 H102 locs102 _ hP102 hD102 hS102 => ?_)
  clear hP101 hD101 hS101
  refine zCons (fun T292 e292 hP103 hD103 => ?_) hP102 hD102
  clear hP102 hD102
  refine va_putF (D := D) (ci := 13) (v := .ref q288) (ty := .object "ChanceArenaModel$Numbers") (C := R_MM) (T := T_MM) (N := 49) hx hb hg i_MM t_MM o_MM n_MM hown hK hP103 hD103 hS102 0 rfl rfl 37 (by decide) (hg _ k10_83) (fun _ h9 => h9) rfl hnm rfl (by decide +kernel) rfl rfl (Nat.le_of_ble_eq_true rfl) d_MM_init_295 (fun H104 locs104 hP104 hD104 hS104 => ?_)
  clear hP103 hD103 hS102
  replace hP104 : va_P D vwCl ((h0, .inr (13, [.int 0, .ref q5, .ref q16, .ref q27, .ref q38, .ref q49, .ref q60, .int 0, .int 0, .ref q71, .ref q82, .int 0, .int (-1), .ref q98, .ref q109, .ref q120, .int 0, .int 0, .ref q131, .ref q142, .ref q153, .ref q167, .ref q176, .int 0, .ref q182, .ref q195, .ref q203, .ref q211, .ref q219, .int 0, .int (-1), .ref q233, .ref q242, .ref q251, .ref q260, .ref q266, .ref q277, .ref q288, .null, .null, .int 0, .null, .null, .null, .null, .null, .null, .null, .int 0])) :: T292) _ := hP104
  replace hD104 : va_D A ((h0, .inr (13, [.int 0, .ref q5, .ref q16, .ref q27, .ref q38, .ref q49, .ref q60, .int 0, .int 0, .ref q71, .ref q82, .int 0, .int (-1), .ref q98, .ref q109, .ref q120, .int 0, .int 0, .ref q131, .ref q142, .ref q153, .ref q167, .ref q176, .int 0, .ref q182, .ref q195, .ref q203, .ref q211, .ref q219, .int 0, .int (-1), .ref q233, .ref q242, .ref q251, .ref q260, .ref q266, .ref q277, .ref q288, .null, .null, .int 0, .null, .null, .null, .null, .null, .null, .null, .int 0])) :: T292) := hD104
  refine lv_aload_n hx hb d_MM_init_298 rfl (lv_at hl 0 rfl) ?_
  refine va_new (ci := 14) (fs := [.null, .int 0]) (C := R_MN) (T := T_MN) (N := 2) hx hb hg i_MN t_MN o_MN hown (hg _ k8_205) (hg _ k8_206) (hg _ k1_15) hK hP104 hD104 hS104 hA rfl f_MN (Nat.le_of_ble_eq_true rfl) (Nat.le_of_ble_eq_true rfl) d_MM_init_299 (fun q299 H105 hP105 hD105 hS105 => ?_)
  clear hP104 hD104 hS104
  refine lv_dup hx hb d_MM_init_302 rfl ?_
  refine zInit hP105 hD105 hS105 hA (va_runIN (As := []) (rest := [.ref q299, .ref h0]) ⟨hx, hb, hml, hown, hg⟩ (c_MN_init l D tA q299 H105.size) ⟨va_cnB 0 hg (zGood k8_209 rfl) rfl rfl rfl (va_Nw.of rfl (hg _ k8_207)) (hg _ k1_15) (by decide +kernel) ⟨(Nat.le_of_ble_eq_true rfl), (Nat.le_of_ble_eq_true rfl)⟩, rfl, hg _ k8_208⟩ (zPreI hh hK hP105 hD105) rfl rfl hl.1 rfl (lv_room (Nat.le_of_ble_eq_true rfl)) d_MM_init_303 ⟨(Nat.le_of_ble_eq_true rfl), (Nat.le_of_ble_eq_true rfl)⟩) (fun u299 H106 locs106 _ hP106 hD106 hS106 => ?_)
  clear hP105 hD105 hS105
  refine zCons (fun T303 e303 hP107 hD107 => ?_) hP106 hD106
  clear hP106 hD106
  refine va_putF (D := D) (ci := 13) (v := .ref q299) (ty := .object "ChanceArenaModel$Numbers") (C := R_MM) (T := T_MM) (N := 49) hx hb hg i_MM t_MM o_MM n_MM hown hK hP107 hD107 hS106 0 rfl rfl 38 (by decide) (hg _ k10_84) (fun _ h9 => h9) rfl hnm rfl (by decide +kernel) rfl rfl (Nat.le_of_ble_eq_true rfl) d_MM_init_306 (fun H108 locs108 hP108 hD108 hS108 => ?_)
  clear hP107 hD107 hS106
  replace hP108 : va_P D vwCl ((h0, .inr (13, [.int 0, .ref q5, .ref q16, .ref q27, .ref q38, .ref q49, .ref q60, .int 0, .int 0, .ref q71, .ref q82, .int 0, .int (-1), .ref q98, .ref q109, .ref q120, .int 0, .int 0, .ref q131, .ref q142, .ref q153, .ref q167, .ref q176, .int 0, .ref q182, .ref q195, .ref q203, .ref q211, .ref q219, .int 0, .int (-1), .ref q233, .ref q242, .ref q251, .ref q260, .ref q266, .ref q277, .ref q288, .ref q299, .null, .int 0, .null, .null, .null, .null, .null, .null, .null, .int 0])) :: T303) _ := hP108
  replace hD108 : va_D A ((h0, .inr (13, [.int 0, .ref q5, .ref q16, .ref q27, .ref q38, .ref q49, .ref q60, .int 0, .int 0, .ref q71, .ref q82, .int 0, .int (-1), .ref q98, .ref q109, .ref q120, .int 0, .int 0, .ref q131, .ref q142, .ref q153, .ref q167, .ref q176, .int 0, .ref q182, .ref q195, .ref q203, .ref q211, .ref q219, .int 0, .int (-1), .ref q233, .ref q242, .ref q251, .ref q260, .ref q266, .ref q277, .ref q288, .ref q299, .null, .int 0, .null, .null, .null, .null, .null, .null, .null, .int 0])) :: T303) := hD108
  refine lv_aload_n hx hb d_MM_init_309 rfl (lv_at hl 0 rfl) ?_
  refine va_new (ci := 16) (fs := [.null, .int 0, .int 0, .int 0, .null, .null, .null, .null, .null, .null, .null, .null, .null, .null, .null, .null, .null, .int 0, .null, .null, .null, .null, .null, .null, .int 0, .null, .null, .null, .null, .null, .null, .null]) (C := R_MS) (T := T_MS) (N := 32) hx hb hg i_MS t_MS o_MS hown (hg _ k9_110) (hg _ k9_111) (hg _ k1_17) hK hP108 hD108 hS108 hA rfl f_MS (Nat.le_of_ble_eq_true rfl) (Nat.le_of_ble_eq_true rfl) d_MM_init_310 (fun q310 H109 hP109 hD109 hS109 => ?_)
  clear hP108 hD108 hS108
  refine lv_dup hx hb d_MM_init_313 rfl ?_
  refine zInit hP109 hD109 hS109 hA (va_runI (As := []) (rest := [.ref q310, .ref h0]) ⟨hx, hb, hml, hown, hg⟩ (c_MS_init l D tA q310 H109.size) (cwI 0 hg (zGood k9_114 rfl) rfl rfl rfl (hg _ k1_17) (hg _ k9_112) (hg _ k9_113) rfl (by decide +kernel) ⟨(Nat.le_of_ble_eq_true rfl), (Nat.le_of_ble_eq_true rfl)⟩) (zPreI hh hK hP109 hD109) rfl rfl hl.1 rfl (lv_room (Nat.le_of_ble_eq_true rfl)) d_MM_init_314 ⟨(Nat.le_of_ble_eq_true rfl), (Nat.le_of_ble_eq_true rfl)⟩) (fun u310 H110 locs110 _ hP110 hD110 hS110 => ?_)
  clear hP109 hD109 hS109
  refine zCons (fun T314 e314 hP111 hD111 => ?_) hP110 hD110
  clear hP110 hD110
  refine va_putF (D := D) (ci := 13) (v := .ref q310) (ty := .object "ChanceArenaModel$Solver") (C := R_MM) (T := T_MM) (N := 49) hx hb hg i_MM t_MM o_MM n_MM hown hK hP111 hD111 hS110 0 rfl rfl 39 (by decide) (hg _ k10_85) (fun _ h9 => h9) rfl hnm rfl (by decide +kernel) rfl rfl (Nat.le_of_ble_eq_true rfl) d_MM_init_317 (fun H112 locs112 hP112 hD112 hS112 => ?_)
  clear hP111 hD111 hS110
  replace hP112 : va_P D vwCl ((h0, .inr (13, [.int 0, .ref q5, .ref q16, .ref q27, .ref q38, .ref q49, .ref q60, .int 0, .int 0, .ref q71, .ref q82, .int 0, .int (-1), .ref q98, .ref q109, .ref q120, .int 0, .int 0, .ref q131, .ref q142, .ref q153, .ref q167, .ref q176, .int 0, .ref q182, .ref q195, .ref q203, .ref q211, .ref q219, .int 0, .int (-1), .ref q233, .ref q242, .ref q251, .ref q260, .ref q266, .ref q277, .ref q288, .ref q299, .ref q310, .int 0, .null, .null, .null, .null, .null, .null, .null, .int 0])) :: T314) _ := hP112
  replace hD112 : va_D A ((h0, .inr (13, [.int 0, .ref q5, .ref q16, .ref q27, .ref q38, .ref q49, .ref q60, .int 0, .int 0, .ref q71, .ref q82, .int 0, .int (-1), .ref q98, .ref q109, .ref q120, .int 0, .int 0, .ref q131, .ref q142, .ref q153, .ref q167, .ref q176, .int 0, .ref q182, .ref q195, .ref q203, .ref q211, .ref q219, .int 0, .int (-1), .ref q233, .ref q242, .ref q251, .ref q260, .ref q266, .ref q277, .ref q288, .ref q299, .ref q310, .int 0, .null, .null, .null, .null, .null, .null, .null, .int 0])) :: T314) := hD112
  refine lv_aload_n hx hb d_MM_init_320 rfl (lv_at hl 0 rfl) ?_
  refine lv_sipush (v := 4096) hx hb d_MM_init_321 (by decide) ?_
  refine zNewa (atype := .int) (ty := .int) (a0 := (4096, .inl (fun _ => 0))) (N' := 4096) hx hb rfl (hg _ k1_82) hK hP112 hD112 hS112 hA 0 rfl (fun _ h => by cases h) (fun _ => rfl) (by decide) (by decide) (by decide) (Nat.le_of_ble_eq_true rfl) (Nat.le_of_ble_eq_true rfl) d_MM_init_324 (fun q324 H113 hP113 hD113 hS113 => ?_)
  clear hP112 hD112 hS112
  refine zCons (fun T324 e324 hP114 hD114 => ?_) hP113 hD113
  clear hP113 hD113
  refine va_putF (D := D) (ci := 13) (v := .ref q324) (ty := .array .int) (C := R_MM) (T := T_MM) (N := 49) hx hb hg i_MM t_MM o_MM n_MM hown hK hP114 hD114 hS113 0 rfl rfl 41 (by decide) (hg _ k10_87) (fun _ h9 => h9) rfl hnm rfl (by decide +kernel) rfl rfl (Nat.le_of_ble_eq_true rfl) d_MM_init_326 (fun H115 locs115 hP115 hD115 hS115 => ?_)
  clear hP114 hD114 hS113
  replace hP115 : va_P D vwCl ((h0, .inr (13, [.int 0, .ref q5, .ref q16, .ref q27, .ref q38, .ref q49, .ref q60, .int 0, .int 0, .ref q71, .ref q82, .int 0, .int (-1), .ref q98, .ref q109, .ref q120, .int 0, .int 0, .ref q131, .ref q142, .ref q153, .ref q167, .ref q176, .int 0, .ref q182, .ref q195, .ref q203, .ref q211, .ref q219, .int 0, .int (-1), .ref q233, .ref q242, .ref q251, .ref q260, .ref q266, .ref q277, .ref q288, .ref q299, .ref q310, .int 0, .ref q324, .null, .null, .null, .null, .null, .null, .int 0])) :: T324) _ := hP115
  replace hD115 : va_D A ((h0, .inr (13, [.int 0, .ref q5, .ref q16, .ref q27, .ref q38, .ref q49, .ref q60, .int 0, .int 0, .ref q71, .ref q82, .int 0, .int (-1), .ref q98, .ref q109, .ref q120, .int 0, .int 0, .ref q131, .ref q142, .ref q153, .ref q167, .ref q176, .int 0, .ref q182, .ref q195, .ref q203, .ref q211, .ref q219, .int 0, .int (-1), .ref q233, .ref q242, .ref q251, .ref q260, .ref q266, .ref q277, .ref q288, .ref q299, .ref q310, .int 0, .ref q324, .null, .null, .null, .null, .null, .null, .int 0])) :: T324) := hD115
  refine lv_aload_n hx hb d_MM_init_329 rfl (lv_at hl 0 rfl) ?_
  refine lv_sipush (v := 4096) hx hb d_MM_init_330 (by decide) ?_
  refine zNewa (atype := .long) (ty := .long) (a0 := (4096, .inr (.inl (fun _ => 0)))) (N' := 4096) hx hb rfl (hg _ k3_35) hK hP115 hD115 hS115 hA 3 rfl (fun _ h => by cases h) (fun _ => rfl) (by decide) (by decide) (by decide) (Nat.le_of_ble_eq_true rfl) (Nat.le_of_ble_eq_true rfl) d_MM_init_333 (fun q333 H116 hP116 hD116 hS116 => ?_)
  clear hP115 hD115 hS115
  refine zCons (fun T333 e333 hP117 hD117 => ?_) hP116 hD116
  clear hP116 hD116
  refine va_putF (D := D) (ci := 13) (v := .ref q333) (ty := .array .long) (C := R_MM) (T := T_MM) (N := 49) hx hb hg i_MM t_MM o_MM n_MM hown hK hP117 hD117 hS116 0 rfl rfl 42 (by decide) (hg _ k10_88) (fun _ h9 => h9) rfl hnm rfl (by decide +kernel) rfl rfl (Nat.le_of_ble_eq_true rfl) d_MM_init_335 (fun H118 locs118 hP118 hD118 hS118 => ?_)
  clear hP117 hD117 hS116
  replace hP118 : va_P D vwCl ((h0, .inr (13, [.int 0, .ref q5, .ref q16, .ref q27, .ref q38, .ref q49, .ref q60, .int 0, .int 0, .ref q71, .ref q82, .int 0, .int (-1), .ref q98, .ref q109, .ref q120, .int 0, .int 0, .ref q131, .ref q142, .ref q153, .ref q167, .ref q176, .int 0, .ref q182, .ref q195, .ref q203, .ref q211, .ref q219, .int 0, .int (-1), .ref q233, .ref q242, .ref q251, .ref q260, .ref q266, .ref q277, .ref q288, .ref q299, .ref q310, .int 0, .ref q324, .ref q333, .null, .null, .null, .null, .null, .int 0])) :: T333) _ := hP118
  replace hD118 : va_D A ((h0, .inr (13, [.int 0, .ref q5, .ref q16, .ref q27, .ref q38, .ref q49, .ref q60, .int 0, .int 0, .ref q71, .ref q82, .int 0, .int (-1), .ref q98, .ref q109, .ref q120, .int 0, .int 0, .ref q131, .ref q142, .ref q153, .ref q167, .ref q176, .int 0, .ref q182, .ref q195, .ref q203, .ref q211, .ref q219, .int 0, .int (-1), .ref q233, .ref q242, .ref q251, .ref q260, .ref q266, .ref q277, .ref q288, .ref q299, .ref q310, .int 0, .ref q324, .ref q333, .null, .null, .null, .null, .null, .int 0])) :: T333) := hD118
  refine lv_aload_n hx hb d_MM_init_338 rfl (lv_at hl 0 rfl) ?_
  refine lv_sipush (v := 4096) hx hb d_MM_init_339 (by decide) ?_
  refine zNewa (atype := .long) (ty := .long) (a0 := (4096, .inr (.inl (fun _ => 0)))) (N' := 4096) hx hb rfl (hg _ k3_35) hK hP118 hD118 hS118 hA 3 rfl (fun _ h => by cases h) (fun _ => rfl) (by decide) (by decide) (by decide) (Nat.le_of_ble_eq_true rfl) (Nat.le_of_ble_eq_true rfl) d_MM_init_342 (fun q342 H119 hP119 hD119 hS119 => ?_)
  clear hP118 hD118 hS118
  refine zCons (fun T342 e342 hP120 hD120 => ?_) hP119 hD119
  clear hP119 hD119
  refine va_putF (D := D) (ci := 13) (v := .ref q342) (ty := .array .long) (C := R_MM) (T := T_MM) (N := 49) hx hb hg i_MM t_MM o_MM n_MM hown hK hP120 hD120 hS119 0 rfl rfl 43 (by decide) (hg _ k10_89) (fun _ h9 => h9) rfl hnm rfl (by decide +kernel) rfl rfl (Nat.le_of_ble_eq_true rfl) d_MM_init_344 (fun H121 locs121 hP121 hD121 hS121 => ?_)
  clear hP120 hD120 hS119
  replace hP121 : va_P D vwCl ((h0, .inr (13, [.int 0, .ref q5, .ref q16, .ref q27, .ref q38, .ref q49, .ref q60, .int 0, .int 0, .ref q71, .ref q82, .int 0, .int (-1), .ref q98, .ref q109, .ref q120, .int 0, .int 0, .ref q131, .ref q142, .ref q153, .ref q167, .ref q176, .int 0, .ref q182, .ref q195, .ref q203, .ref q211, .ref q219, .int 0, .int (-1), .ref q233, .ref q242, .ref q251, .ref q260, .ref q266, .ref q277, .ref q288, .ref q299, .ref q310, .int 0, .ref q324, .ref q333, .ref q342, .null, .null, .null, .null, .int 0])) :: T342) _ := hP121
  replace hD121 : va_D A ((h0, .inr (13, [.int 0, .ref q5, .ref q16, .ref q27, .ref q38, .ref q49, .ref q60, .int 0, .int 0, .ref q71, .ref q82, .int 0, .int (-1), .ref q98, .ref q109, .ref q120, .int 0, .int 0, .ref q131, .ref q142, .ref q153, .ref q167, .ref q176, .int 0, .ref q182, .ref q195, .ref q203, .ref q211, .ref q219, .int 0, .int (-1), .ref q233, .ref q242, .ref q251, .ref q260, .ref q266, .ref q277, .ref q288, .ref q299, .ref q310, .int 0, .ref q324, .ref q333, .ref q342, .null, .null, .null, .null, .int 0])) :: T342) := hD121
  refine lv_aload_n hx hb d_MM_init_347 rfl (lv_at hl 0 rfl) ?_
  refine lv_bipush (v := 12) hx hb d_MM_init_348 (by decide) ?_
  refine zNewa (atype := .int) (ty := .int) (a0 := (12, .inl (fun _ => 0))) (N' := 12) hx hb rfl (hg _ k1_82) hK hP121 hD121 hS121 hA 0 rfl (fun _ h => by cases h) (fun _ => rfl) (by decide) (by decide) (by decide) (Nat.le_of_ble_eq_true rfl) (Nat.le_of_ble_eq_true rfl) d_MM_init_350 (fun q350 H122 hP122 hD122 hS122 => ?_)
  clear hP121 hD121 hS121
  refine zCons (fun T350 e350 hP123 hD123 => ?_) hP122 hD122
  clear hP122 hD122
  refine va_putF (D := D) (ci := 13) (v := .ref q350) (ty := .array .int) (C := R_MM) (T := T_MM) (N := 49) hx hb hg i_MM t_MM o_MM n_MM hown hK hP123 hD123 hS122 0 rfl rfl 44 (by decide) (hg _ k10_90) (fun _ h9 => h9) rfl hnm rfl (by decide +kernel) rfl rfl (Nat.le_of_ble_eq_true rfl) d_MM_init_352 (fun H124 locs124 hP124 hD124 hS124 => ?_)
  clear hP123 hD123 hS122
  replace hP124 : va_P D vwCl ((h0, .inr (13, [.int 0, .ref q5, .ref q16, .ref q27, .ref q38, .ref q49, .ref q60, .int 0, .int 0, .ref q71, .ref q82, .int 0, .int (-1), .ref q98, .ref q109, .ref q120, .int 0, .int 0, .ref q131, .ref q142, .ref q153, .ref q167, .ref q176, .int 0, .ref q182, .ref q195, .ref q203, .ref q211, .ref q219, .int 0, .int (-1), .ref q233, .ref q242, .ref q251, .ref q260, .ref q266, .ref q277, .ref q288, .ref q299, .ref q310, .int 0, .ref q324, .ref q333, .ref q342, .ref q350, .null, .null, .null, .int 0])) :: T350) _ := hP124
  replace hD124 : va_D A ((h0, .inr (13, [.int 0, .ref q5, .ref q16, .ref q27, .ref q38, .ref q49, .ref q60, .int 0, .int 0, .ref q71, .ref q82, .int 0, .int (-1), .ref q98, .ref q109, .ref q120, .int 0, .int 0, .ref q131, .ref q142, .ref q153, .ref q167, .ref q176, .int 0, .ref q182, .ref q195, .ref q203, .ref q211, .ref q219, .int 0, .int (-1), .ref q233, .ref q242, .ref q251, .ref q260, .ref q266, .ref q277, .ref q288, .ref q299, .ref q310, .int 0, .ref q324, .ref q333, .ref q342, .ref q350, .null, .null, .null, .int 0])) :: T350) := hD124
  refine lv_aload_n hx hb d_MM_init_355 rfl (lv_at hl 0 rfl) ?_
  refine lv_bipush (v := 8) hx hb d_MM_init_356 (by decide) ?_
  refine zNewa (atype := .long) (ty := .long) (a0 := (8, .inr (.inl (fun _ => 0)))) (N' := 8) hx hb rfl (hg _ k3_35) hK hP124 hD124 hS124 hA 3 rfl (fun _ h => by cases h) (fun _ => rfl) (by decide) (by decide) (by decide) (Nat.le_of_ble_eq_true rfl) (Nat.le_of_ble_eq_true rfl) d_MM_init_358 (fun q358 H125 hP125 hD125 hS125 => ?_)
  clear hP124 hD124 hS124
  refine zCons (fun T358 e358 hP126 hD126 => ?_) hP125 hD125
  clear hP125 hD125
  refine va_putF (D := D) (ci := 13) (v := .ref q358) (ty := .array .long) (C := R_MM) (T := T_MM) (N := 49) hx hb hg i_MM t_MM o_MM n_MM hown hK hP126 hD126 hS125 0 rfl rfl 45 (by decide) (hg _ k10_91) (fun _ h9 => h9) rfl hnm rfl (by decide +kernel) rfl rfl (Nat.le_of_ble_eq_true rfl) d_MM_init_360 (fun H127 locs127 hP127 hD127 hS127 => ?_)
  clear hP126 hD126 hS125
  replace hP127 : va_P D vwCl ((h0, .inr (13, [.int 0, .ref q5, .ref q16, .ref q27, .ref q38, .ref q49, .ref q60, .int 0, .int 0, .ref q71, .ref q82, .int 0, .int (-1), .ref q98, .ref q109, .ref q120, .int 0, .int 0, .ref q131, .ref q142, .ref q153, .ref q167, .ref q176, .int 0, .ref q182, .ref q195, .ref q203, .ref q211, .ref q219, .int 0, .int (-1), .ref q233, .ref q242, .ref q251, .ref q260, .ref q266, .ref q277, .ref q288, .ref q299, .ref q310, .int 0, .ref q324, .ref q333, .ref q342, .ref q350, .ref q358, .null, .null, .int 0])) :: T358) _ := hP127
  replace hD127 : va_D A ((h0, .inr (13, [.int 0, .ref q5, .ref q16, .ref q27, .ref q38, .ref q49, .ref q60, .int 0, .int 0, .ref q71, .ref q82, .int 0, .int (-1), .ref q98, .ref q109, .ref q120, .int 0, .int 0, .ref q131, .ref q142, .ref q153, .ref q167, .ref q176, .int 0, .ref q182, .ref q195, .ref q203, .ref q211, .ref q219, .int 0, .int (-1), .ref q233, .ref q242, .ref q251, .ref q260, .ref q266, .ref q277, .ref q288, .ref q299, .ref q310, .int 0, .ref q324, .ref q333, .ref q342, .ref q350, .ref q358, .null, .null, .int 0])) :: T358) := hD127
  refine lv_aload_n hx hb d_MM_init_363 rfl (lv_at hl 0 rfl) ?_
  refine lv_bipush (v := 8) hx hb d_MM_init_364 (by decide) ?_
  refine zNewa (atype := .long) (ty := .long) (a0 := (8, .inr (.inl (fun _ => 0)))) (N' := 8) hx hb rfl (hg _ k3_35) hK hP127 hD127 hS127 hA 3 rfl (fun _ h => by cases h) (fun _ => rfl) (by decide) (by decide) (by decide) (Nat.le_of_ble_eq_true rfl) (Nat.le_of_ble_eq_true rfl) d_MM_init_366 (fun q366 H128 hP128 hD128 hS128 => ?_)
  clear hP127 hD127 hS127
  refine zCons (fun T366 e366 hP129 hD129 => ?_) hP128 hD128
  clear hP128 hD128
  refine va_putF (D := D) (ci := 13) (v := .ref q366) (ty := .array .long) (C := R_MM) (T := T_MM) (N := 49) hx hb hg i_MM t_MM o_MM n_MM hown hK hP129 hD129 hS128 0 rfl rfl 46 (by decide) (hg _ k10_92) (fun _ h9 => h9) rfl hnm rfl (by decide +kernel) rfl rfl (Nat.le_of_ble_eq_true rfl) d_MM_init_368 (fun H130 locs130 hP130 hD130 hS130 => ?_)
  clear hP129 hD129 hS128
  replace hP130 : va_P D vwCl ((h0, .inr (13, [.int 0, .ref q5, .ref q16, .ref q27, .ref q38, .ref q49, .ref q60, .int 0, .int 0, .ref q71, .ref q82, .int 0, .int (-1), .ref q98, .ref q109, .ref q120, .int 0, .int 0, .ref q131, .ref q142, .ref q153, .ref q167, .ref q176, .int 0, .ref q182, .ref q195, .ref q203, .ref q211, .ref q219, .int 0, .int (-1), .ref q233, .ref q242, .ref q251, .ref q260, .ref q266, .ref q277, .ref q288, .ref q299, .ref q310, .int 0, .ref q324, .ref q333, .ref q342, .ref q350, .ref q358, .ref q366, .null, .int 0])) :: T366) _ := hP130
  replace hD130 : va_D A ((h0, .inr (13, [.int 0, .ref q5, .ref q16, .ref q27, .ref q38, .ref q49, .ref q60, .int 0, .int 0, .ref q71, .ref q82, .int 0, .int (-1), .ref q98, .ref q109, .ref q120, .int 0, .int 0, .ref q131, .ref q142, .ref q153, .ref q167, .ref q176, .int 0, .ref q182, .ref q195, .ref q203, .ref q211, .ref q219, .int 0, .int (-1), .ref q233, .ref q242, .ref q251, .ref q260, .ref q266, .ref q277, .ref q288, .ref q299, .ref q310, .int 0, .ref q324, .ref q333, .ref q342, .ref q350, .ref q358, .ref q366, .null, .int 0])) :: T366) := hD130
  refine lv_aload_n hx hb d_MM_init_371 rfl (lv_at hl 0 rfl) ?_
  refine lv_sipush (v := 900) hx hb d_MM_init_372 (by decide) ?_
  refine zNewa (atype := .int) (ty := .int) (a0 := (900, .inl (fun _ => 0))) (N' := 900) hx hb rfl (hg _ k1_82) hK hP130 hD130 hS130 hA 0 rfl (fun _ h => by cases h) (fun _ => rfl) (by decide) (by decide) (by decide) (Nat.le_of_ble_eq_true rfl) (Nat.le_of_ble_eq_true rfl) d_MM_init_375 (fun q375 H131 hP131 hD131 hS131 => ?_)
  clear hP130 hD130 hS130
  refine zCons (fun T375 e375 hP132 hD132 => ?_) hP131 hD131
  clear hP131 hD131
  refine va_putF (D := D) (ci := 13) (v := .ref q375) (ty := .array .int) (C := R_MM) (T := T_MM) (N := 49) hx hb hg i_MM t_MM o_MM n_MM hown hK hP132 hD132 hS131 0 rfl rfl 47 (by decide) (hg _ k10_93) (fun _ h9 => h9) rfl hnm rfl (by decide +kernel) rfl rfl (Nat.le_of_ble_eq_true rfl) d_MM_init_377 (fun H133 locs133 hP133 hD133 hS133 => ?_)
  clear hP132 hD132 hS131
  replace hP133 : va_P D vwCl ((h0, .inr (13, [.int 0, .ref q5, .ref q16, .ref q27, .ref q38, .ref q49, .ref q60, .int 0, .int 0, .ref q71, .ref q82, .int 0, .int (-1), .ref q98, .ref q109, .ref q120, .int 0, .int 0, .ref q131, .ref q142, .ref q153, .ref q167, .ref q176, .int 0, .ref q182, .ref q195, .ref q203, .ref q211, .ref q219, .int 0, .int (-1), .ref q233, .ref q242, .ref q251, .ref q260, .ref q266, .ref q277, .ref q288, .ref q299, .ref q310, .int 0, .ref q324, .ref q333, .ref q342, .ref q350, .ref q358, .ref q366, .ref q375, .int 0])) :: T375) _ := hP133
  replace hD133 : va_D A ((h0, .inr (13, [.int 0, .ref q5, .ref q16, .ref q27, .ref q38, .ref q49, .ref q60, .int 0, .int 0, .ref q71, .ref q82, .int 0, .int (-1), .ref q98, .ref q109, .ref q120, .int 0, .int 0, .ref q131, .ref q142, .ref q153, .ref q167, .ref q176, .int 0, .ref q182, .ref q195, .ref q203, .ref q211, .ref q219, .int 0, .int (-1), .ref q233, .ref q242, .ref q251, .ref q260, .ref q266, .ref q277, .ref q288, .ref q299, .ref q310, .int 0, .ref q324, .ref q333, .ref q342, .ref q350, .ref q358, .ref q366, .ref q375, .int 0])) :: T375) := hD133
  refine W.cs (cells' := 21191) (slots' := 603063) rfl rfl ?_
  exact zVret hx hb hr hlocks hP133 hD133 hS133 ((q5, u5), (q16, u16), (q27, u27), (q38, u38), (q49, u49), (q60, u60), (q71, u71), (q82, u82), (q98, u98), (q109, u109), (q120, u120), (q131, u131), (q142, u142), (q153, u153), q167, q176, (q182, u182), q195, q203, q211, q219, q233, q242, q251, q260, (q266, u266), (q277, u277), (q288, u288), (q299, u299), (q310, u310), q324, q333, q342, q350, q358, q366, q375) trivial (by rw [e375, e366, e358, e350, e342, e333, e324, e314, e303, e292, e281, e270, e260, e251, e242, e233, e219, e211, e203, e195, e186, e176, e167, e157, e146, e135, e124, e113, e102, e86, e75, e64, e53, e42, e31, e20, e9]; rfl) d_MM_init_380
end
section
theorem k2_134 : (Jvm.Cond.fieldLink "ChanceArena$Game" (55 : Nat) "ChanceArena$Game" "count" "I") ∈ lw_R := zR (zk_2 _ (List.mem_of_getElem? (i := 134) (by decide +kernel))) rfl
theorem k2_138 : (Jvm.Cond.fieldLink "ChanceArena" (160 : Nat) "ChanceArena$Game" "count" "I") ∈ lw_R := zR (zk_2 _ (List.mem_of_getElem? (i := 138) (by decide +kernel))) rfl
theorem k2_145 : (Jvm.Cond.fieldLink "ChanceArena" (174 : Nat) "ChanceArena$Game" "sorts" "[I") ∈ lw_R := zR (zk_2 _ (List.mem_of_getElem? (i := 145) (by decide +kernel))) rfl
theorem k2_152 : (Jvm.Cond.fieldLink "ChanceArena" (177 : Nat) "ChanceArena$Game" "firstCommand" "[I") ∈ lw_R := zR (zk_2 _ (List.mem_of_getElem? (i := 152) (by decide +kernel))) rfl
theorem k5_120 : (Jvm.Cond.code ({ cls := "ChanceArena", name := "place", desc := "()I" } : Jvm.MethodName) prog_1_method_8_code (1 : Nat) (Option.some Jvm.ClassFile.FieldType.int)) ∈ lw_R := zR (zk_5 _ (List.mem_of_getElem? (i := 120) (by decide +kernel))) rfl
theorem k5_128 : (Jvm.Cond.code ({ cls := "ChanceArena", name := "state", desc := "()I" } : Jvm.MethodName) prog_1_method_11_code (1 : Nat) (Option.some Jvm.ClassFile.FieldType.int)) ∈ lw_R := zR (zk_5 _ (List.mem_of_getElem? (i := 128) (by decide +kernel))) rfl
theorem k5_132 : (Jvm.Cond.code ({ cls := "ChanceArena", name := "states", desc := "()I" } : Jvm.MethodName) prog_1_method_12_code (1 : Nat) (Option.some Jvm.ClassFile.FieldType.int)) ∈ lw_R := zR (zk_5 _ (List.mem_of_getElem? (i := 132) (by decide +kernel))) rfl
theorem k5_136 : (Jvm.Cond.code ({ cls := "ChanceArena", name := "kind", desc := "(I)I" } : Jvm.MethodName) prog_1_method_14_code (2 : Nat) (Option.some Jvm.ClassFile.FieldType.int)) ∈ lw_R := zR (zk_5 _ (List.mem_of_getElem? (i := 136) (by decide +kernel))) rfl
theorem k5_137 : (Jvm.Cond.methodLink "ChanceArena" (163 : Nat) ({ cls := "ChanceArena$Game", name := "hasState", desc := "(I)Z" } : Jvm.MethodName)) ∈ lw_R := zR (zk_5 _ (List.mem_of_getElem? (i := 137) (by decide +kernel))) rfl
theorem k5_138 : (Jvm.Cond.instanceMethod ({ cls := "ChanceArena$Game", name := "hasState", desc := "(I)Z" } : Jvm.MethodName)) ∈ lw_R := zR (zk_5 _ (List.mem_of_getElem? (i := 138) (by decide +kernel))) rfl
theorem k5_139 : (Jvm.Cond.selects "ChanceArena$Game" ({ cls := "ChanceArena$Game", name := "hasState", desc := "(I)Z" } : Jvm.MethodName) ({ cls := "ChanceArena$Game", name := "hasState", desc := "(I)Z" } : Jvm.MethodName)) ∈ lw_R := zR (zk_5 _ (List.mem_of_getElem? (i := 139) (by decide +kernel))) rfl
theorem k5_140 : (Jvm.Cond.code ({ cls := "ChanceArena$Game", name := "hasState", desc := "(I)Z" } : Jvm.MethodName) prog_4_method_3_code (2 : Nat) (Option.some Jvm.ClassFile.FieldType.boolean)) ∈ lw_R := zR (zk_5 _ (List.mem_of_getElem? (i := 140) (by decide +kernel))) rfl
theorem k5_144 : (Jvm.Cond.code ({ cls := "ChanceArena", name := "commands", desc := "(I)I" } : Jvm.MethodName) prog_1_method_15_code (2 : Nat) (Option.some Jvm.ClassFile.FieldType.int)) ∈ lw_R := zR (zk_5 _ (List.mem_of_getElem? (i := 144) (by decide +kernel))) rfl
theorem k5_152 : (Jvm.Cond.code ({ cls := "ChanceArena$Game", name := "commandAt", desc := "(II)I" } : Jvm.MethodName) prog_4_method_4_code (3 : Nat) (Option.some Jvm.ClassFile.FieldType.int)) ∈ lw_R := zR (zk_5 _ (List.mem_of_getElem? (i := 152) (by decide +kernel))) rfl
theorem k5_153 : (Jvm.Cond.methodLink "ChanceArena$Game" (65 : Nat) ({ cls := "ChanceArena$Game", name := "hasState", desc := "(I)Z" } : Jvm.MethodName)) ∈ lw_R := zR (zk_5 _ (List.mem_of_getElem? (i := 153) (by decide +kernel))) rfl
theorem d_CA_place_0 : decode prog_1_method_8_code 0 = .ok (.aload_n 0, 1) := by decide +kernel
theorem d_CA_place_1 : decode prog_1_method_8_code 1 = .ok (.getfield 45, 3) := by decide +kernel
theorem d_CA_place_4 : decode prog_1_method_8_code 4 = .ok (.ireturn, 1) := by decide +kernel
theorem d_CA_state_0 : decode prog_1_method_11_code 0 = .ok (.aload_n 0, 1) := by decide +kernel
theorem d_CA_state_1 : decode prog_1_method_11_code 1 = .ok (.getfield 48, 3) := by decide +kernel
theorem d_CA_state_4 : decode prog_1_method_11_code 4 = .ok (.ireturn, 1) := by decide +kernel
theorem d_CA_states_0 : decode prog_1_method_12_code 0 = .ok (.aload_n 0, 1) := by decide +kernel
theorem d_CA_states_1 : decode prog_1_method_12_code 1 = .ok (.getfield 54, 3) := by decide +kernel
theorem d_CA_states_4 : decode prog_1_method_12_code 4 = .ok (.getfield 160, 3) := by decide +kernel
theorem d_CA_states_7 : decode prog_1_method_12_code 7 = .ok (.ireturn, 1) := by decide +kernel
theorem d_Ga_hasState_0 : decode prog_4_method_3_code 0 = .ok (.iload_n 1, 1) := by decide +kernel
theorem d_Ga_hasState_1 : decode prog_4_method_3_code 1 = .ok (.ifCond .lt 15, 3) := by decide +kernel
theorem d_Ga_hasState_16 : decode prog_4_method_3_code 16 = .ok (.iconst 0, 1) := by decide +kernel
theorem d_Ga_hasState_17 : decode prog_4_method_3_code 17 = .ok (.ireturn, 1) := by decide +kernel
theorem d_Ga_hasState_4 : decode prog_4_method_3_code 4 = .ok (.iload_n 1, 1) := by decide +kernel
theorem d_Ga_hasState_5 : decode prog_4_method_3_code 5 = .ok (.aload_n 0, 1) := by decide +kernel
theorem d_Ga_hasState_6 : decode prog_4_method_3_code 6 = .ok (.getfield 55, 3) := by decide +kernel
theorem d_Ga_hasState_9 : decode prog_4_method_3_code 9 = .ok (.if_icmp .ge 7, 3) := by decide +kernel
theorem d_Ga_hasState_12 : decode prog_4_method_3_code 12 = .ok (.iconst 1, 1) := by decide +kernel
theorem d_Ga_hasState_13 : decode prog_4_method_3_code 13 = .ok (.goto 4, 3) := by decide +kernel
theorem d_Ga_commandAt_0 : decode prog_4_method_4_code 0 = .ok (.aload_n 0, 1) := by decide +kernel
theorem d_Ga_commandAt_1 : decode prog_4_method_4_code 1 = .ok (.iload_n 1, 1) := by decide +kernel
theorem d_Ga_commandAt_2 : decode prog_4_method_4_code 2 = .ok (.invokevirtual 65, 3) := by decide +kernel
theorem d_Ga_commandAt_5 : decode prog_4_method_4_code 5 = .ok (.ifCond .eq 26, 3) := by decide +kernel
theorem d_Ga_commandAt_31 : decode prog_4_method_4_code 31 = .ok (.iconst (-1), 1) := by decide +kernel
theorem d_Ga_commandAt_32 : decode prog_4_method_4_code 32 = .ok (.ireturn, 1) := by decide +kernel
theorem d_Ga_commandAt_8 : decode prog_4_method_4_code 8 = .ok (.iload_n 2, 1) := by decide +kernel
theorem d_Ga_commandAt_9 : decode prog_4_method_4_code 9 = .ok (.ifCond .lt 22, 3) := by decide +kernel
theorem d_Ga_commandAt_12 : decode prog_4_method_4_code 12 = .ok (.iload_n 2, 1) := by decide +kernel
theorem d_Ga_commandAt_13 : decode prog_4_method_4_code 13 = .ok (.aload_n 0, 1) := by decide +kernel
theorem d_Ga_commandAt_14 : decode prog_4_method_4_code 14 = .ok (.getfield 21, 3) := by decide +kernel
theorem d_Ga_commandAt_17 : decode prog_4_method_4_code 17 = .ok (.iload_n 1, 1) := by decide +kernel
theorem d_Ga_commandAt_18 : decode prog_4_method_4_code 18 = .ok (.iconst 1, 1) := by decide +kernel
theorem d_Ga_commandAt_19 : decode prog_4_method_4_code 19 = .ok (.iadd, 1) := by decide +kernel
theorem d_Ga_commandAt_20 : decode prog_4_method_4_code 20 = .ok (.iaload, 1) := by decide +kernel
theorem d_Ga_commandAt_21 : decode prog_4_method_4_code 21 = .ok (.aload_n 0, 1) := by decide +kernel
theorem d_Ga_commandAt_22 : decode prog_4_method_4_code 22 = .ok (.getfield 21, 3) := by decide +kernel
theorem d_Ga_commandAt_25 : decode prog_4_method_4_code 25 = .ok (.iload_n 1, 1) := by decide +kernel
theorem d_Ga_commandAt_26 : decode prog_4_method_4_code 26 = .ok (.iaload, 1) := by decide +kernel
theorem d_Ga_commandAt_27 : decode prog_4_method_4_code 27 = .ok (.isub, 1) := by decide +kernel
theorem d_Ga_commandAt_28 : decode prog_4_method_4_code 28 = .ok (.if_icmp .lt 5, 3) := by decide +kernel
theorem d_Ga_commandAt_33 : decode prog_4_method_4_code 33 = .ok (.aload_n 0, 1) := by decide +kernel
theorem d_Ga_commandAt_34 : decode prog_4_method_4_code 34 = .ok (.getfield 21, 3) := by decide +kernel
theorem d_Ga_commandAt_37 : decode prog_4_method_4_code 37 = .ok (.iload_n 1, 1) := by decide +kernel
theorem d_Ga_commandAt_38 : decode prog_4_method_4_code 38 = .ok (.iaload, 1) := by decide +kernel
theorem d_Ga_commandAt_39 : decode prog_4_method_4_code 39 = .ok (.iload_n 2, 1) := by decide +kernel
theorem d_Ga_commandAt_40 : decode prog_4_method_4_code 40 = .ok (.iadd, 1) := by decide +kernel
theorem d_Ga_commandAt_41 : decode prog_4_method_4_code 41 = .ok (.ireturn, 1) := by decide +kernel
theorem d_CA_kind_0 : decode prog_1_method_14_code 0 = .ok (.aload_n 0, 1) := by decide +kernel
theorem d_CA_kind_1 : decode prog_1_method_14_code 1 = .ok (.getfield 54, 3) := by decide +kernel
theorem d_CA_kind_4 : decode prog_1_method_14_code 4 = .ok (.iload_n 1, 1) := by decide +kernel
theorem d_CA_kind_5 : decode prog_1_method_14_code 5 = .ok (.invokevirtual 163, 3) := by decide +kernel
theorem d_CA_kind_8 : decode prog_1_method_14_code 8 = .ok (.ifCond .eq 15, 3) := by decide +kernel
theorem d_CA_kind_23 : decode prog_1_method_14_code 23 = .ok (.iconst (-1), 1) := by decide +kernel
theorem d_CA_kind_24 : decode prog_1_method_14_code 24 = .ok (.ireturn, 1) := by decide +kernel
theorem d_CA_kind_11 : decode prog_1_method_14_code 11 = .ok (.aload_n 0, 1) := by decide +kernel
theorem d_CA_kind_12 : decode prog_1_method_14_code 12 = .ok (.getfield 54, 3) := by decide +kernel
theorem d_CA_kind_15 : decode prog_1_method_14_code 15 = .ok (.getfield 174, 3) := by decide +kernel
theorem d_CA_kind_18 : decode prog_1_method_14_code 18 = .ok (.iload_n 1, 1) := by decide +kernel
theorem d_CA_kind_19 : decode prog_1_method_14_code 19 = .ok (.iaload, 1) := by decide +kernel
theorem d_CA_kind_20 : decode prog_1_method_14_code 20 = .ok (.goto 4, 3) := by decide +kernel
theorem d_CA_commands_0 : decode prog_1_method_15_code 0 = .ok (.aload_n 0, 1) := by decide +kernel
theorem d_CA_commands_1 : decode prog_1_method_15_code 1 = .ok (.getfield 54, 3) := by decide +kernel
theorem d_CA_commands_4 : decode prog_1_method_15_code 4 = .ok (.iload_n 1, 1) := by decide +kernel
theorem d_CA_commands_5 : decode prog_1_method_15_code 5 = .ok (.invokevirtual 163, 3) := by decide +kernel
theorem d_CA_commands_8 : decode prog_1_method_15_code 8 = .ok (.ifCond .eq 27, 3) := by decide +kernel
theorem d_CA_commands_35 : decode prog_1_method_15_code 35 = .ok (.iconst (-1), 1) := by decide +kernel
theorem d_CA_commands_36 : decode prog_1_method_15_code 36 = .ok (.ireturn, 1) := by decide +kernel
theorem d_CA_commands_11 : decode prog_1_method_15_code 11 = .ok (.aload_n 0, 1) := by decide +kernel
theorem d_CA_commands_12 : decode prog_1_method_15_code 12 = .ok (.getfield 54, 3) := by decide +kernel
theorem d_CA_commands_15 : decode prog_1_method_15_code 15 = .ok (.getfield 177, 3) := by decide +kernel
theorem d_CA_commands_18 : decode prog_1_method_15_code 18 = .ok (.iload_n 1, 1) := by decide +kernel
theorem d_CA_commands_19 : decode prog_1_method_15_code 19 = .ok (.iconst 1, 1) := by decide +kernel
theorem d_CA_commands_20 : decode prog_1_method_15_code 20 = .ok (.iadd, 1) := by decide +kernel
theorem d_CA_commands_21 : decode prog_1_method_15_code 21 = .ok (.iaload, 1) := by decide +kernel
theorem d_CA_commands_22 : decode prog_1_method_15_code 22 = .ok (.aload_n 0, 1) := by decide +kernel
theorem d_CA_commands_23 : decode prog_1_method_15_code 23 = .ok (.getfield 54, 3) := by decide +kernel
theorem d_CA_commands_26 : decode prog_1_method_15_code 26 = .ok (.getfield 177, 3) := by decide +kernel
theorem d_CA_commands_29 : decode prog_1_method_15_code 29 = .ok (.iload_n 1, 1) := by decide +kernel
theorem d_CA_commands_30 : decode prog_1_method_15_code 30 = .ok (.iaload, 1) := by decide +kernel
theorem d_CA_commands_31 : decode prog_1_method_15_code 31 = .ok (.isub, 1) := by decide +kernel
theorem d_CA_commands_32 : decode prog_1_method_15_code 32 = .ok (.goto 4, 3) := by decide +kernel
set_option maxHeartbeats 4000000 in
set_option maxRecDepth 100000 in
theorem c_CA_place (l : Launch) (D : va_G) (tA : Nat → ClassId) (sz : Nat) (h0 : Nat) (fs : List Value) (v : Int32) (hv : fs[7]? = some (.int v)) : zMp l ({ cls := "ChanceArena", name := "place", desc := "()I" } : Jvm.MethodName) (zW (Jvm.Cond.code ({ cls := "ChanceArena", name := "place", desc := "()I" } : Jvm.MethodName) prog_1_method_8_code (1 : Nat) (Option.some Jvm.ClassFile.FieldType.int))) { frames := 0, cells := 0, slots := 0, locals := 0 } [.ref h0] D tA [(h0, .inr (0, fs))] sz (fun r => r = v) := by
  refine zOpen (Wm := []) (fun A => va_Qi (fun r (_ : Unit) => (fun r => r = v) r) (fun _ _ => True) A) (lv := [(0, .ref h0)]) (by decide) rfl (Nat.le_of_ble_eq_true rfl) rfl ?_
  intro p e s m below meth c A ls hx hb hr hml hh hg hown hlocks hnm hK hA hP hD0 hAw hS hl
  refine lv_aload_n hx hb d_CA_place_0 rfl (lv_at hl 0 rfl) ?_
  refine va_get (D := D) (ci := 0) (v := .int v) (C := R_CA) (T := T_CA) (N := 19) hx hb hg i_CA hown hK hP 0 rfl rfl 7 (by decide) (hg _ k3_182) (fun _ h9 => h9) hv d_CA_place_1 ?_
  exact zPret (post := fun r => r = v) (v := v) hx hb hr rfl hlocks hS (rfl) d_CA_place_4
set_option maxHeartbeats 4000000 in
set_option maxRecDepth 100000 in
theorem c_CA_state (l : Launch) (D : va_G) (tA : Nat → ClassId) (sz : Nat) (h0 : Nat) (fs : List Value) (v : Int32) (hv : fs[8]? = some (.int v)) : zMp l ({ cls := "ChanceArena", name := "state", desc := "()I" } : Jvm.MethodName) (zW (Jvm.Cond.code ({ cls := "ChanceArena", name := "state", desc := "()I" } : Jvm.MethodName) prog_1_method_11_code (1 : Nat) (Option.some Jvm.ClassFile.FieldType.int))) { frames := 0, cells := 0, slots := 0, locals := 0 } [.ref h0] D tA [(h0, .inr (0, fs))] sz (fun r => r = v) := by
  refine zOpen (Wm := []) (fun A => va_Qi (fun r (_ : Unit) => (fun r => r = v) r) (fun _ _ => True) A) (lv := [(0, .ref h0)]) (by decide) rfl (Nat.le_of_ble_eq_true rfl) rfl ?_
  intro p e s m below meth c A ls hx hb hr hml hh hg hown hlocks hnm hK hA hP hD0 hAw hS hl
  refine lv_aload_n hx hb d_CA_state_0 rfl (lv_at hl 0 rfl) ?_
  refine va_get (D := D) (ci := 0) (v := .int v) (C := R_CA) (T := T_CA) (N := 19) hx hb hg i_CA hown hK hP 0 rfl rfl 8 (by decide) (hg _ k3_183) (fun _ h9 => h9) hv d_CA_state_1 ?_
  exact zPret (post := fun r => r = v) (v := v) hx hb hr rfl hlocks hS (rfl) d_CA_state_4
set_option maxHeartbeats 4000000 in
set_option maxRecDepth 100000 in
theorem c_CA_states (l : Launch) (D : va_G) (tA : Nat → ClassId) (sz : Nat) (h0 g0 : Nat) (fs gs : List Value) (v : Int32) (hgm : fs[9]? = some (.ref g0)) (hv : gs[0]? = some (.int v)) : zMp l ({ cls := "ChanceArena", name := "states", desc := "()I" } : Jvm.MethodName) (zW (Jvm.Cond.code ({ cls := "ChanceArena", name := "states", desc := "()I" } : Jvm.MethodName) prog_1_method_12_code (1 : Nat) (Option.some Jvm.ClassFile.FieldType.int))) { frames := 0, cells := 0, slots := 0, locals := 0 } [.ref h0] D tA [(h0, .inr (0, fs)), (g0, .inr (6, gs))] sz (fun r => r = v) := by
  refine zOpen (Wm := []) (fun A => va_Qi (fun r (_ : Unit) => (fun r => r = v) r) (fun _ _ => True) A) (lv := [(0, .ref h0)]) (by decide) rfl (Nat.le_of_ble_eq_true rfl) rfl ?_
  intro p e s m below meth c A ls hx hb hr hml hh hg hown hlocks hnm hK hA hP hD0 hAw hS hl
  refine lv_aload_n hx hb d_CA_states_0 rfl (lv_at hl 0 rfl) ?_
  refine va_get (D := D) (ci := 0) (v := .ref g0) (C := R_CA) (T := T_CA) (N := 19) hx hb hg i_CA hown hK hP 0 rfl rfl 9 (by decide) (hg _ k3_184) (fun _ h9 => h9) hgm d_CA_states_1 ?_
  refine va_get (D := D) (ci := 6) (v := .int v) (C := R_Ga) (T := T_Ga) (N := 19) hx hb hg i_Ga hown hK hP 1 rfl rfl 0 (by decide) (hg _ k2_138) (fun _ h9 => h9) hv d_CA_states_4 ?_
  exact zPret (post := fun r => r = v) (v := v) hx hb hr rfl hlocks hS (rfl) d_CA_states_7
set_option maxHeartbeats 4000000 in
set_option maxRecDepth 100000 in
theorem c_Ga_hasState (l : Launch) (D : va_G) (tA : Nat → ClassId) (sz : Nat) (h0 : Nat) (fs : List Value) (v k : Int32) (hv : fs[0]? = some (.int v)) : zMp l ({ cls := "ChanceArena$Game", name := "hasState", desc := "(I)Z" } : Jvm.MethodName) (zW (Jvm.Cond.code ({ cls := "ChanceArena$Game", name := "hasState", desc := "(I)Z" } : Jvm.MethodName) prog_4_method_3_code (2 : Nat) (Option.some Jvm.ClassFile.FieldType.boolean))) { frames := 0, cells := 0, slots := 0, locals := 0 } [.ref h0, .int k] D tA [(h0, .inr (6, fs))] sz (fun r => r = if 0 ≤ k ∧ k < v then 1 else 0) := by
  refine zOpen (Wm := []) (fun A => va_Qi (fun r (_ : Unit) => (fun r => r = if 0 ≤ k ∧ k < v then 1 else 0) r) (fun _ _ => True) A) (lv := [(0, .ref h0), (1, .int k)]) (by decide) rfl (Nat.le_of_ble_eq_true rfl) rfl ?_
  intro p e s m below meth c A ls hx hb hr hml hh hg hown hlocks hnm hK hA hP hD0 hAw hS hl
  refine lv_iload_n hx hb d_Ga_hasState_0 rfl (lv_at hl 1 rfl) ?_
  refine lv_if_lt (tgt := 16) hx hb d_Ga_hasState_1 (by decide) (fun c1 => ?_) (fun c1 => ?_)
  · refine lv_iconst (v := 0) hx hb d_Ga_hasState_16 (by decide) ?_
    exact zPret (post := fun r => r = if 0 ≤ k ∧ k < v then 1 else 0) (v := 0) hx hb hr rfl hlocks hS ((if_neg (fun h => absurd c1 (Int32.not_lt.mpr h.1))).symm) d_Ga_hasState_17
  · refine lv_iload_n hx hb d_Ga_hasState_4 rfl (lv_at hl 1 rfl) ?_
    refine lv_aload_n hx hb d_Ga_hasState_5 rfl (lv_at hl 0 rfl) ?_
    refine va_get (D := D) (ci := 6) (v := .int v) (C := R_Ga) (T := T_Ga) (N := 19) hx hb hg i_Ga hown hK hP 0 rfl rfl 0 (by decide) (hg _ k2_134) (fun _ h9 => h9) hv d_Ga_hasState_6 ?_
    refine lv_icmp_ge (tgt := 16) hx hb d_Ga_hasState_9 (by decide) (fun c9 => ?_) (fun c9 => ?_)
    · refine lv_iconst (v := 0) hx hb d_Ga_hasState_16 (by decide) ?_
      exact zPret (post := fun r => r = if 0 ≤ k ∧ k < v then 1 else 0) (v := 0) hx hb hr rfl hlocks hS ((if_neg (fun h => absurd c9 (Int32.not_le.mpr h.2))).symm) d_Ga_hasState_17
    · refine lv_iconst (v := 1) hx hb d_Ga_hasState_12 (by decide) ?_
      refine lv_goto (tgt := 17) hx hb d_Ga_hasState_13 (by decide) ?_
      exact zPret (post := fun r => r = if 0 ≤ k ∧ k < v then 1 else 0) (v := 1) hx hb hr rfl hlocks hS ((if_pos ⟨Int32.not_lt.mp c1, Int32.not_le.mp c9⟩).symm) d_Ga_hasState_17
theorem zHS {r k v : Int32} (h : r = if 0 ≤ k ∧ k < v then 1 else 0) (h0 : ¬ r = 0) : 0 ≤ k ∧ k < v := by
  by_cases hc : 0 ≤ k ∧ k < v
  · exact hc
  · rw [if_neg hc] at h; exact absurd h h0
theorem zIx {k : Int32} {n N : Nat} (h : 0 ≤ k ∧ k < nI n) (hn : n ≤ N) (hN : N < 2 ^ 31) : ∃ j : Nat, j < n ∧ k = nI j ∧ vp_in k N ∧ vp_in (k + 1) (N + 1) ∧ vp_in k (N + 1) := by
  obtain ⟨j, hj, rfl⟩ := nI_of (Int32.not_lt.mpr h.1)
  have hlt : j < n := (nI_ltI hj (by omega)).mp h.2
  refine ⟨j, hlt, rfl, vp_in_nI (by omega) hN, ?_, ?_⟩
  · rw [nI_1]; exact (vp_in_iff.mpr (by rw [nI_toInt (by omega)]; omega))
  · exact (vp_in_iff.mpr (by rw [nI_toInt (by omega)]; omega))
set_option maxHeartbeats 4000000 in
set_option maxRecDepth 100000 in
theorem c_Ga_commandAt (l : Launch) (D : va_G) (tA : Nat → ClassId) (sz : Nat) (h0 fa : Nat) (fs : List Value) (cn : Nat) (k i : Int32) (ff : Nat → Int32) (hcn : cn ≤ 512) (hv : fs[0]? = some (.int (nI cn))) (hf : fs[4]? = some (.ref fa)) : zMp l ({ cls := "ChanceArena$Game", name := "commandAt", desc := "(II)I" } : Jvm.MethodName) (zW (Jvm.Cond.code ({ cls := "ChanceArena$Game", name := "commandAt", desc := "(II)I" } : Jvm.MethodName) prog_4_method_4_code (3 : Nat) (Option.some Jvm.ClassFile.FieldType.int))) { frames := 1, cells := 0, slots := 0, locals := 22 } [.ref h0, .int k, .int i] D tA [(h0, .inr (6, fs)), (fa, .inl (tA 0, 513, .inl ff))] sz (fun r => r = if (0 ≤ k ∧ k < nI cn) ∧ 0 ≤ i ∧ i < ff (k + 1).toNatClampNeg - ff k.toNatClampNeg then ff k.toNatClampNeg + i else -1) := by
  refine zOpen (Wm := []) (fun A => va_Qi (fun r (_ : Unit) => (fun r => r = if (0 ≤ k ∧ k < nI cn) ∧ 0 ≤ i ∧ i < ff (k + 1).toNatClampNeg - ff k.toNatClampNeg then ff k.toNatClampNeg + i else -1) r) (fun _ _ => True) A) (lv := [(0, .ref h0), (1, .int k), (2, .int i)]) (by decide) rfl (Nat.le_of_ble_eq_true rfl) rfl ?_
  intro p e s m below meth c A ls hx hb hr hml hh hg hown hlocks hnm hK hA hP hD0 hAw hS hl
  refine lv_aload_n hx hb d_Ga_commandAt_0 rfl (lv_at hl 0 rfl) ?_
  refine lv_iload_n hx hb d_Ga_commandAt_1 rfl (lv_at hl 1 rfl) ?_
  refine zCallp hP hS hA (va_runV (As := [.int k]) (rest := []) ⟨hx, hb, hml, hown, hg⟩ (c_Ga_hasState l D tA _ h0 fs (nI cn) k hv) (zV 1 hg k5_153 k5_138 k5_139 k1_7 k5_140 rfl rfl (by decide +kernel) ⟨(Nat.le_of_ble_eq_true rfl), (Nat.le_of_ble_eq_true rfl)⟩) (zPreV hh hK hP hD0 [0] (by decide) rfl (ci := 6) rfl 0 rfl) rfl rfl hl.1 rfl (lv_room (Nat.le_of_ble_eq_true rfl)) d_Ga_commandAt_2 ⟨(Nat.le_of_ble_eq_true rfl), (Nat.le_of_ble_eq_true rfl)⟩) (fun r2 H locs er2 hP hS => ?_)
  refine lv_if_eq (tgt := 31) hx hb d_Ga_commandAt_5 (by decide) (fun c5 => ?_) (fun c5 => ?_)
  · refine lv_iconst (v := (-1)) hx hb d_Ga_commandAt_31 (by decide) ?_
    exact zPret (post := fun r => r = if (0 ≤ k ∧ k < nI cn) ∧ 0 ≤ i ∧ i < ff (k + 1).toNatClampNeg - ff k.toNatClampNeg then ff k.toNatClampNeg + i else -1) (v := (-1)) hx hb hr rfl hlocks hS ((if_neg (fun h => absurd (er2.trans (if_pos h.1)) (by rw [c5]; decide))).symm) d_Ga_commandAt_32
  · refine lv_iload_n hx hb d_Ga_commandAt_8 rfl (lv_at hl 2 rfl) ?_
    refine lv_if_lt (tgt := 31) hx hb d_Ga_commandAt_9 (by decide) (fun c9 => ?_) (fun c9 => ?_)
    · refine lv_iconst (v := (-1)) hx hb d_Ga_commandAt_31 (by decide) ?_
      exact zPret (post := fun r => r = if (0 ≤ k ∧ k < nI cn) ∧ 0 ≤ i ∧ i < ff (k + 1).toNatClampNeg - ff k.toNatClampNeg then ff k.toNatClampNeg + i else -1) (v := (-1)) hx hb hr rfl hlocks hS ((if_neg (fun h => absurd c9 (Int32.not_lt.mpr h.2.1))).symm) d_Ga_commandAt_32
    · refine lv_iload_n hx hb d_Ga_commandAt_12 rfl (lv_at hl 2 rfl) ?_
      refine lv_aload_n hx hb d_Ga_commandAt_13 rfl (lv_at hl 0 rfl) ?_
      refine va_get (D := D) (ci := 6) (v := .ref fa) (C := R_Ga) (T := T_Ga) (N := 19) hx hb hg i_Ga hown hK hP 0 rfl rfl 4 (by decide) (hg _ k2_149) (fun _ h9 => h9) hf d_Ga_commandAt_14 ?_
      refine lv_iload_n hx hb d_Ga_commandAt_17 rfl (lv_at hl 1 rfl) ?_
      refine lv_iconst (v := 1) hx hb d_Ga_commandAt_18 (by decide) ?_
      refine lv_iadd hx hb d_Ga_commandAt_19 ?_
      refine va_iald hx hb hK hP 1 0 rfl rfl ((zIx (zHS er2 c5) hcn (by decide)).choose_spec.2.2.2.1) d_Ga_commandAt_20 ?_
      refine lv_aload_n hx hb d_Ga_commandAt_21 rfl (lv_at hl 0 rfl) ?_
      refine va_get (D := D) (ci := 6) (v := .ref fa) (C := R_Ga) (T := T_Ga) (N := 19) hx hb hg i_Ga hown hK hP 0 rfl rfl 4 (by decide) (hg _ k2_149) (fun _ h9 => h9) hf d_Ga_commandAt_22 ?_
      refine lv_iload_n hx hb d_Ga_commandAt_25 rfl (lv_at hl 1 rfl) ?_
      refine va_iald hx hb hK hP 1 0 rfl rfl ((zIx (zHS er2 c5) hcn (by decide)).choose_spec.2.2.2.2) d_Ga_commandAt_26 ?_
      refine lv_isub hx hb d_Ga_commandAt_27 ?_
      refine lv_icmp_lt (tgt := 33) hx hb d_Ga_commandAt_28 (by decide) (fun c28 => ?_) (fun c28 => ?_)
      · refine lv_aload_n hx hb d_Ga_commandAt_33 rfl (lv_at hl 0 rfl) ?_
        refine va_get (D := D) (ci := 6) (v := .ref fa) (C := R_Ga) (T := T_Ga) (N := 19) hx hb hg i_Ga hown hK hP 0 rfl rfl 4 (by decide) (hg _ k2_149) (fun _ h9 => h9) hf d_Ga_commandAt_34 ?_
        refine lv_iload_n hx hb d_Ga_commandAt_37 rfl (lv_at hl 1 rfl) ?_
        refine va_iald hx hb hK hP 1 0 rfl rfl ((zIx (zHS er2 c5) hcn (by decide)).choose_spec.2.2.2.2) d_Ga_commandAt_38 ?_
        refine lv_iload_n hx hb d_Ga_commandAt_39 rfl (lv_at hl 2 rfl) ?_
        refine lv_iadd hx hb d_Ga_commandAt_40 ?_
        exact zPret (post := fun r => r = if (0 ≤ k ∧ k < nI cn) ∧ 0 ≤ i ∧ i < ff (k + 1).toNatClampNeg - ff k.toNatClampNeg then ff k.toNatClampNeg + i else -1) (v := ((ff (k).toNatClampNeg) + i)) hx hb hr rfl hlocks hS ((if_pos ⟨zHS er2 c5, Int32.not_lt.mp c9, c28⟩).symm) d_Ga_commandAt_41
      · refine lv_iconst (v := (-1)) hx hb d_Ga_commandAt_31 (by decide) ?_
        exact zPret (post := fun r => r = if (0 ≤ k ∧ k < nI cn) ∧ 0 ≤ i ∧ i < ff (k + 1).toNatClampNeg - ff k.toNatClampNeg then ff k.toNatClampNeg + i else -1) (v := (-1)) hx hb hr rfl hlocks hS ((if_neg (fun h => absurd h.2.2 c28)).symm) d_Ga_commandAt_32
set_option maxHeartbeats 4000000 in
set_option maxRecDepth 100000 in
theorem c_CA_kind (l : Launch) (D : va_G) (tA : Nat → ClassId) (sz : Nat) (h0 g0 fa : Nat) (fs gs : List Value) (cn : Nat) (k : Int32) (ff : Nat → Int32) (hcn : cn ≤ 512) (hgm : fs[9]? = some (.ref g0)) (hv : gs[0]? = some (.int (nI cn))) (hf : gs[2]? = some (.ref fa)) : zMp l ({ cls := "ChanceArena", name := "kind", desc := "(I)I" } : Jvm.MethodName) (zW (Jvm.Cond.code ({ cls := "ChanceArena", name := "kind", desc := "(I)I" } : Jvm.MethodName) prog_1_method_14_code (2 : Nat) (Option.some Jvm.ClassFile.FieldType.int))) { frames := 1, cells := 0, slots := 0, locals := 22 } [.ref h0, .int k] D tA [(h0, .inr (0, fs)), (g0, .inr (6, gs)), (fa, .inl (tA 0, 512, .inl ff))] sz (fun r => r = if 0 ≤ k ∧ k < nI cn then ff k.toNatClampNeg else -1) := by
  refine zOpen (Wm := []) (fun A => va_Qi (fun r (_ : Unit) => (fun r => r = if 0 ≤ k ∧ k < nI cn then ff k.toNatClampNeg else -1) r) (fun _ _ => True) A) (lv := [(0, .ref h0), (1, .int k)]) (by decide) rfl (Nat.le_of_ble_eq_true rfl) rfl ?_
  intro p e s m below meth c A ls hx hb hr hml hh hg hown hlocks hnm hK hA hP hD0 hAw hS hl
  refine lv_aload_n hx hb d_CA_kind_0 rfl (lv_at hl 0 rfl) ?_
  refine va_get (D := D) (ci := 0) (v := .ref g0) (C := R_CA) (T := T_CA) (N := 19) hx hb hg i_CA hown hK hP 0 rfl rfl 9 (by decide) (hg _ k3_184) (fun _ h9 => h9) hgm d_CA_kind_1 ?_
  refine lv_iload_n hx hb d_CA_kind_4 rfl (lv_at hl 1 rfl) ?_
  refine zCallp hP hS hA (va_runV (As := [.int k]) (rest := []) ⟨hx, hb, hml, hown, hg⟩ (c_Ga_hasState l D tA _ g0 gs (nI cn) k hv) (zV 1 hg k5_137 k5_138 k5_139 k1_7 k5_140 rfl rfl (by decide +kernel) ⟨(Nat.le_of_ble_eq_true rfl), (Nat.le_of_ble_eq_true rfl)⟩) (zPreV hh hK hP hD0 [1] (by decide) rfl (ci := 6) rfl 0 rfl) rfl rfl hl.1 rfl (lv_room (Nat.le_of_ble_eq_true rfl)) d_CA_kind_5 ⟨(Nat.le_of_ble_eq_true rfl), (Nat.le_of_ble_eq_true rfl)⟩) (fun r5 H locs er5 hP hS => ?_)
  refine lv_if_eq (tgt := 23) hx hb d_CA_kind_8 (by decide) (fun c8 => ?_) (fun c8 => ?_)
  · refine lv_iconst (v := (-1)) hx hb d_CA_kind_23 (by decide) ?_
    exact zPret (post := fun r => r = if 0 ≤ k ∧ k < nI cn then ff k.toNatClampNeg else -1) (v := (-1)) hx hb hr rfl hlocks hS ((if_neg (fun h => absurd (er5.trans (if_pos h)) (by rw [c8]; decide))).symm) d_CA_kind_24
  · refine lv_aload_n hx hb d_CA_kind_11 rfl (lv_at hl 0 rfl) ?_
    refine va_get (D := D) (ci := 0) (v := .ref g0) (C := R_CA) (T := T_CA) (N := 19) hx hb hg i_CA hown hK hP 0 rfl rfl 9 (by decide) (hg _ k3_184) (fun _ h9 => h9) hgm d_CA_kind_12 ?_
    refine va_get (D := D) (ci := 6) (v := .ref fa) (C := R_Ga) (T := T_Ga) (N := 19) hx hb hg i_Ga hown hK hP 1 rfl rfl 2 (by decide) (hg _ k2_145) (fun _ h9 => h9) hf d_CA_kind_15 ?_
    refine lv_iload_n hx hb d_CA_kind_18 rfl (lv_at hl 1 rfl) ?_
    refine va_iald hx hb hK hP 2 0 rfl rfl ((zIx (zHS er5 c8) hcn (by decide)).choose_spec.2.2.1) d_CA_kind_19 ?_
    refine lv_goto (tgt := 24) hx hb d_CA_kind_20 (by decide) ?_
    exact zPret (post := fun r => r = if 0 ≤ k ∧ k < nI cn then ff k.toNatClampNeg else -1) (v := (ff (k).toNatClampNeg)) hx hb hr rfl hlocks hS ((if_pos (zHS er5 c8)).symm) d_CA_kind_24
set_option maxHeartbeats 4000000 in
set_option maxRecDepth 100000 in
theorem c_CA_commands (l : Launch) (D : va_G) (tA : Nat → ClassId) (sz : Nat) (h0 g0 fa : Nat) (fs gs : List Value) (cn : Nat) (k : Int32) (ff : Nat → Int32) (hcn : cn ≤ 512) (hgm : fs[9]? = some (.ref g0)) (hv : gs[0]? = some (.int (nI cn))) (hf : gs[4]? = some (.ref fa)) : zMp l ({ cls := "ChanceArena", name := "commands", desc := "(I)I" } : Jvm.MethodName) (zW (Jvm.Cond.code ({ cls := "ChanceArena", name := "commands", desc := "(I)I" } : Jvm.MethodName) prog_1_method_15_code (2 : Nat) (Option.some Jvm.ClassFile.FieldType.int))) { frames := 1, cells := 0, slots := 0, locals := 22 } [.ref h0, .int k] D tA [(h0, .inr (0, fs)), (g0, .inr (6, gs)), (fa, .inl (tA 0, 513, .inl ff))] sz (fun r => r = if 0 ≤ k ∧ k < nI cn then ff (k + 1).toNatClampNeg - ff k.toNatClampNeg else -1) := by
  refine zOpen (Wm := []) (fun A => va_Qi (fun r (_ : Unit) => (fun r => r = if 0 ≤ k ∧ k < nI cn then ff (k + 1).toNatClampNeg - ff k.toNatClampNeg else -1) r) (fun _ _ => True) A) (lv := [(0, .ref h0), (1, .int k)]) (by decide) rfl (Nat.le_of_ble_eq_true rfl) rfl ?_
  intro p e s m below meth c A ls hx hb hr hml hh hg hown hlocks hnm hK hA hP hD0 hAw hS hl
  refine lv_aload_n hx hb d_CA_commands_0 rfl (lv_at hl 0 rfl) ?_
  refine va_get (D := D) (ci := 0) (v := .ref g0) (C := R_CA) (T := T_CA) (N := 19) hx hb hg i_CA hown hK hP 0 rfl rfl 9 (by decide) (hg _ k3_184) (fun _ h9 => h9) hgm d_CA_commands_1 ?_
  refine lv_iload_n hx hb d_CA_commands_4 rfl (lv_at hl 1 rfl) ?_
  refine zCallp hP hS hA (va_runV (As := [.int k]) (rest := []) ⟨hx, hb, hml, hown, hg⟩ (c_Ga_hasState l D tA _ g0 gs (nI cn) k hv) (zV 1 hg k5_137 k5_138 k5_139 k1_7 k5_140 rfl rfl (by decide +kernel) ⟨(Nat.le_of_ble_eq_true rfl), (Nat.le_of_ble_eq_true rfl)⟩) (zPreV hh hK hP hD0 [1] (by decide) rfl (ci := 6) rfl 0 rfl) rfl rfl hl.1 rfl (lv_room (Nat.le_of_ble_eq_true rfl)) d_CA_commands_5 ⟨(Nat.le_of_ble_eq_true rfl), (Nat.le_of_ble_eq_true rfl)⟩) (fun r5 H locs er5 hP hS => ?_)
  refine lv_if_eq (tgt := 35) hx hb d_CA_commands_8 (by decide) (fun c8 => ?_) (fun c8 => ?_)
  · refine lv_iconst (v := (-1)) hx hb d_CA_commands_35 (by decide) ?_
    exact zPret (post := fun r => r = if 0 ≤ k ∧ k < nI cn then ff (k + 1).toNatClampNeg - ff k.toNatClampNeg else -1) (v := (-1)) hx hb hr rfl hlocks hS ((if_neg (fun h => absurd (er5.trans (if_pos h)) (by rw [c8]; decide))).symm) d_CA_commands_36
  · refine lv_aload_n hx hb d_CA_commands_11 rfl (lv_at hl 0 rfl) ?_
    refine va_get (D := D) (ci := 0) (v := .ref g0) (C := R_CA) (T := T_CA) (N := 19) hx hb hg i_CA hown hK hP 0 rfl rfl 9 (by decide) (hg _ k3_184) (fun _ h9 => h9) hgm d_CA_commands_12 ?_
    refine va_get (D := D) (ci := 6) (v := .ref fa) (C := R_Ga) (T := T_Ga) (N := 19) hx hb hg i_Ga hown hK hP 1 rfl rfl 4 (by decide) (hg _ k2_152) (fun _ h9 => h9) hf d_CA_commands_15 ?_
    refine lv_iload_n hx hb d_CA_commands_18 rfl (lv_at hl 1 rfl) ?_
    refine lv_iconst (v := 1) hx hb d_CA_commands_19 (by decide) ?_
    refine lv_iadd hx hb d_CA_commands_20 ?_
    refine va_iald hx hb hK hP 2 0 rfl rfl ((zIx (zHS er5 c8) hcn (by decide)).choose_spec.2.2.2.1) d_CA_commands_21 ?_
    refine lv_aload_n hx hb d_CA_commands_22 rfl (lv_at hl 0 rfl) ?_
    refine va_get (D := D) (ci := 0) (v := .ref g0) (C := R_CA) (T := T_CA) (N := 19) hx hb hg i_CA hown hK hP 0 rfl rfl 9 (by decide) (hg _ k3_184) (fun _ h9 => h9) hgm d_CA_commands_23 ?_
    refine va_get (D := D) (ci := 6) (v := .ref fa) (C := R_Ga) (T := T_Ga) (N := 19) hx hb hg i_Ga hown hK hP 1 rfl rfl 4 (by decide) (hg _ k2_152) (fun _ h9 => h9) hf d_CA_commands_26 ?_
    refine lv_iload_n hx hb d_CA_commands_29 rfl (lv_at hl 1 rfl) ?_
    refine va_iald hx hb hK hP 2 0 rfl rfl ((zIx (zHS er5 c8) hcn (by decide)).choose_spec.2.2.2.2) d_CA_commands_30 ?_
    refine lv_isub hx hb d_CA_commands_31 ?_
    refine lv_goto (tgt := 36) hx hb d_CA_commands_32 (by decide) ?_
    exact zPret (post := fun r => r = if 0 ≤ k ∧ k < nI cn then ff (k + 1).toNatClampNeg - ff k.toNatClampNeg else -1) (v := ((ff ((k + 1)).toNatClampNeg) - (ff (k).toNatClampNeg))) hx hb hr rfl hlocks hS ((if_pos (zHS er5 c8)).symm) d_CA_commands_36
end
section
theorem k1_1 : (Jvm.Cond.initialized "ChanceArena") ∈ lw_R := zR (zk_1 _ (List.mem_of_getElem? (i := 1) (by decide +kernel))) rfl
theorem k3_165 : (Jvm.Cond.fieldLink "ChanceArena" (137 : Nat) "ChanceArena$Fractions" "known" "Z") ∈ lw_R := zR (zk_3 _ (List.mem_of_getElem? (i := 165) (by decide +kernel))) rfl
theorem k5_124 : (Jvm.Cond.code ({ cls := "ChanceArena", name := "items", desc := "(I)I" } : Jvm.MethodName) prog_1_method_9_code (2 : Nat) (Option.some Jvm.ClassFile.FieldType.int)) ∈ lw_R := zR (zk_5 _ (List.mem_of_getElem? (i := 124) (by decide +kernel))) rfl
theorem k5_148 : (Jvm.Cond.code ({ cls := "ChanceArena", name := "command", desc := "(II)I" } : Jvm.MethodName) prog_1_method_16_code (4 : Nat) (Option.some Jvm.ClassFile.FieldType.int)) ∈ lw_R := zR (zk_5 _ (List.mem_of_getElem? (i := 148) (by decide +kernel))) rfl
theorem k5_149 : (Jvm.Cond.methodLink "ChanceArena" (180 : Nat) ({ cls := "ChanceArena$Game", name := "commandAt", desc := "(II)I" } : Jvm.MethodName)) ∈ lw_R := zR (zk_5 _ (List.mem_of_getElem? (i := 149) (by decide +kernel))) rfl
theorem k5_150 : (Jvm.Cond.instanceMethod ({ cls := "ChanceArena$Game", name := "commandAt", desc := "(II)I" } : Jvm.MethodName)) ∈ lw_R := zR (zk_5 _ (List.mem_of_getElem? (i := 150) (by decide +kernel))) rfl
theorem k5_151 : (Jvm.Cond.selects "ChanceArena$Game" ({ cls := "ChanceArena$Game", name := "commandAt", desc := "(II)I" } : Jvm.MethodName) ({ cls := "ChanceArena$Game", name := "commandAt", desc := "(II)I" } : Jvm.MethodName)) ∈ lw_R := zR (zk_5 _ (List.mem_of_getElem? (i := 151) (by decide +kernel))) rfl
theorem k5_157 : (Jvm.Cond.code ({ cls := "ChanceArena", name := "branches", desc := "(II)I" } : Jvm.MethodName) prog_1_method_17_code (4 : Nat) (Option.some Jvm.ClassFile.FieldType.int)) ∈ lw_R := zR (zk_5 _ (List.mem_of_getElem? (i := 157) (by decide +kernel))) rfl
theorem k5_161 : (Jvm.Cond.code ({ cls := "ChanceArena", name := "branch", desc := "(IIII)I" } : Jvm.MethodName) prog_1_method_18_code (8 : Nat) (Option.some Jvm.ClassFile.FieldType.int)) ∈ lw_R := zR (zk_5 _ (List.mem_of_getElem? (i := 161) (by decide +kernel))) rfl
theorem k5_166 : (Jvm.Cond.code ({ cls := "ChanceArena", name := "print", desc := "(II)I" } : Jvm.MethodName) prog_1_method_24_code (4 : Nat) (Option.some Jvm.ClassFile.FieldType.int)) ∈ lw_R := zR (zk_5 _ (List.mem_of_getElem? (i := 166) (by decide +kernel))) rfl
theorem k5_167 : (Jvm.Cond.methodLink "ChanceArena" (237 : Nat) ({ cls := "ChanceArena", name := "fractionOf", desc := "(II)LChanceArena$Fraction;" } : Jvm.MethodName)) ∈ lw_R := zR (zk_5 _ (List.mem_of_getElem? (i := 167) (by decide +kernel))) rfl
theorem k5_169 : (Jvm.Cond.instanceMethod ({ cls := "ChanceArena", name := "fractionOf", desc := "(II)LChanceArena$Fraction;" } : Jvm.MethodName)) ∈ lw_R := zR (zk_5 _ (List.mem_of_getElem? (i := 169) (by decide +kernel))) rfl
theorem k5_170 : (Jvm.Cond.code ({ cls := "ChanceArena", name := "fractionOf", desc := "(II)LChanceArena$Fraction;" } : Jvm.MethodName) prog_1_method_25_code (4 : Nat) (Option.some (Jvm.ClassFile.FieldType.object "ChanceArena$Fraction"))) ∈ lw_R := zR (zk_5 _ (List.mem_of_getElem? (i := 170) (by decide +kernel))) rfl
theorem k7_95 : (Jvm.Cond.code ({ cls := "ChanceArena", name := "character", desc := "(I)I" } : Jvm.MethodName) prog_1_method_27_code (2 : Nat) (Option.some Jvm.ClassFile.FieldType.int)) ∈ lw_R := zR (zk_7 _ (List.mem_of_getElem? (i := 95) (by decide +kernel))) rfl
theorem k7_99 : (Jvm.Cond.code ({ cls := "ChanceArena", name := "compare", desc := "(IIII)I" } : Jvm.MethodName) prog_1_method_28_code (7 : Nat) (Option.some Jvm.ClassFile.FieldType.int)) ∈ lw_R := zR (zk_7 _ (List.mem_of_getElem? (i := 99) (by decide +kernel))) rfl
theorem k7_111 : (Jvm.Cond.code ({ cls := "ChanceArena", name := "billionths", desc := "(II)I" } : Jvm.MethodName) prog_1_method_29_code (4 : Nat) (Option.some Jvm.ClassFile.FieldType.int)) ∈ lw_R := zR (zk_7 _ (List.mem_of_getElem? (i := 111) (by decide +kernel))) rfl
theorem k7_120 : (Jvm.Cond.code ({ cls := "ChanceArena", name := "choice", desc := "(I)I" } : Jvm.MethodName) prog_1_method_30_code (2 : Nat) (Option.some Jvm.ClassFile.FieldType.int)) ∈ lw_R := zR (zk_7 _ (List.mem_of_getElem? (i := 120) (by decide +kernel))) rfl
theorem k7_124 : (Jvm.Cond.code ({ cls := "ChanceArena", name := "rank", desc := "(I)I" } : Jvm.MethodName) prog_1_method_31_code (2 : Nat) (Option.some Jvm.ClassFile.FieldType.int)) ∈ lw_R := zR (zk_7 _ (List.mem_of_getElem? (i := 124) (by decide +kernel))) rfl
theorem k7_128 : (Jvm.Cond.code ({ cls := "ChanceArena", name := "next", desc := "(II)I" } : Jvm.MethodName) prog_1_method_32_code (4 : Nat) (Option.some Jvm.ClassFile.FieldType.int)) ∈ lw_R := zR (zk_7 _ (List.mem_of_getElem? (i := 128) (by decide +kernel))) rfl
theorem k7_136 : (Jvm.Cond.code ({ cls := "ChanceArena", name := "check", desc := "()I" } : Jvm.MethodName) prog_1_method_33_code (1 : Nat) (Option.some Jvm.ClassFile.FieldType.int)) ∈ lw_R := zR (zk_7 _ (List.mem_of_getElem? (i := 136) (by decide +kernel))) rfl
theorem d_CA_command_0 : decode prog_1_method_16_code 0 = .ok (.aload_n 0, 1) := by decide +kernel
theorem d_CA_command_1 : decode prog_1_method_16_code 1 = .ok (.getfield 54, 3) := by decide +kernel
theorem d_CA_command_4 : decode prog_1_method_16_code 4 = .ok (.iload_n 1, 1) := by decide +kernel
theorem d_CA_command_5 : decode prog_1_method_16_code 5 = .ok (.iload_n 2, 1) := by decide +kernel
theorem d_CA_command_6 : decode prog_1_method_16_code 6 = .ok (.invokevirtual 180, 3) := by decide +kernel
theorem d_CA_command_9 : decode prog_1_method_16_code 9 = .ok (.istore_n 3, 1) := by decide +kernel
theorem d_CA_command_10 : decode prog_1_method_16_code 10 = .ok (.iload_n 3, 1) := by decide +kernel
theorem d_CA_command_11 : decode prog_1_method_16_code 11 = .ok (.iconst (-1), 1) := by decide +kernel
theorem d_CA_command_12 : decode prog_1_method_16_code 12 = .ok (.if_icmp .ne 7, 3) := by decide +kernel
theorem d_CA_command_15 : decode prog_1_method_16_code 15 = .ok (.iconst (-1), 1) := by decide +kernel
theorem d_CA_command_16 : decode prog_1_method_16_code 16 = .ok (.goto 12, 3) := by decide +kernel
theorem d_CA_command_28 : decode prog_1_method_16_code 28 = .ok (.ireturn, 1) := by decide +kernel
theorem d_CA_branches_0 : decode prog_1_method_17_code 0 = .ok (.aload_n 0, 1) := by decide +kernel
theorem d_CA_branches_1 : decode prog_1_method_17_code 1 = .ok (.getfield 54, 3) := by decide +kernel
theorem d_CA_branches_4 : decode prog_1_method_17_code 4 = .ok (.iload_n 1, 1) := by decide +kernel
theorem d_CA_branches_5 : decode prog_1_method_17_code 5 = .ok (.iload_n 2, 1) := by decide +kernel
theorem d_CA_branches_6 : decode prog_1_method_17_code 6 = .ok (.invokevirtual 180, 3) := by decide +kernel
theorem d_CA_branches_9 : decode prog_1_method_17_code 9 = .ok (.istore_n 3, 1) := by decide +kernel
theorem d_CA_branches_10 : decode prog_1_method_17_code 10 = .ok (.iload_n 3, 1) := by decide +kernel
theorem d_CA_branches_11 : decode prog_1_method_17_code 11 = .ok (.iconst (-1), 1) := by decide +kernel
theorem d_CA_branches_12 : decode prog_1_method_17_code 12 = .ok (.if_icmp .ne 7, 3) := by decide +kernel
theorem d_CA_branches_15 : decode prog_1_method_17_code 15 = .ok (.iconst (-1), 1) := by decide +kernel
theorem d_CA_branches_16 : decode prog_1_method_17_code 16 = .ok (.goto 24, 3) := by decide +kernel
theorem d_CA_branches_40 : decode prog_1_method_17_code 40 = .ok (.ireturn, 1) := by decide +kernel
theorem d_CA_branch_0 : decode prog_1_method_18_code 0 = .ok (.aload_n 0, 1) := by decide +kernel
theorem d_CA_branch_1 : decode prog_1_method_18_code 1 = .ok (.getfield 54, 3) := by decide +kernel
theorem d_CA_branch_4 : decode prog_1_method_18_code 4 = .ok (.iload_n 1, 1) := by decide +kernel
theorem d_CA_branch_5 : decode prog_1_method_18_code 5 = .ok (.iload_n 2, 1) := by decide +kernel
theorem d_CA_branch_6 : decode prog_1_method_18_code 6 = .ok (.invokevirtual 180, 3) := by decide +kernel
theorem d_CA_branch_9 : decode prog_1_method_18_code 9 = .ok (.istore 5, 2) := by decide +kernel
theorem d_CA_branch_11 : decode prog_1_method_18_code 11 = .ok (.iload 5, 2) := by decide +kernel
theorem d_CA_branch_13 : decode prog_1_method_18_code 13 = .ok (.iconst (-1), 1) := by decide +kernel
theorem d_CA_branch_14 : decode prog_1_method_18_code 14 = .ok (.if_icmp .eq 34, 3) := by decide +kernel
theorem d_CA_branch_48 : decode prog_1_method_18_code 48 = .ok (.iconst (-1), 1) := by decide +kernel
theorem d_CA_branch_49 : decode prog_1_method_18_code 49 = .ok (.ireturn, 1) := by decide +kernel
theorem d_CA_next_0 : decode prog_1_method_32_code 0 = .ok (.aload_n 0, 1) := by decide +kernel
theorem d_CA_next_1 : decode prog_1_method_32_code 1 = .ok (.getfield 54, 3) := by decide +kernel
theorem d_CA_next_4 : decode prog_1_method_32_code 4 = .ok (.iload_n 1, 1) := by decide +kernel
theorem d_CA_next_5 : decode prog_1_method_32_code 5 = .ok (.invokevirtual 163, 3) := by decide +kernel
theorem d_CA_next_8 : decode prog_1_method_32_code 8 = .ok (.ifCond .eq 7, 3) := by decide +kernel
theorem d_CA_next_15 : decode prog_1_method_32_code 15 = .ok (.iconst (-1), 1) := by decide +kernel
theorem d_CA_next_16 : decode prog_1_method_32_code 16 = .ok (.ireturn, 1) := by decide +kernel
theorem d_CA_choice_0 : decode prog_1_method_30_code 0 = .ok (.aload_n 0, 1) := by decide +kernel
theorem d_CA_choice_1 : decode prog_1_method_30_code 1 = .ok (.getfield 70, 3) := by decide +kernel
theorem d_CA_choice_4 : decode prog_1_method_30_code 4 = .ok (.getfield 137, 3) := by decide +kernel
theorem d_CA_choice_7 : decode prog_1_method_30_code 7 = .ok (.ifCond .eq 26, 3) := by decide +kernel
theorem d_CA_choice_33 : decode prog_1_method_30_code 33 = .ok (.iconst (-1), 1) := by decide +kernel
theorem d_CA_choice_34 : decode prog_1_method_30_code 34 = .ok (.ireturn, 1) := by decide +kernel
theorem d_CA_rank_0 : decode prog_1_method_31_code 0 = .ok (.aload_n 0, 1) := by decide +kernel
theorem d_CA_rank_1 : decode prog_1_method_31_code 1 = .ok (.getfield 70, 3) := by decide +kernel
theorem d_CA_rank_4 : decode prog_1_method_31_code 4 = .ok (.getfield 137, 3) := by decide +kernel
theorem d_CA_rank_7 : decode prog_1_method_31_code 7 = .ok (.ifCond .eq 26, 3) := by decide +kernel
theorem d_CA_rank_33 : decode prog_1_method_31_code 33 = .ok (.iconst (-1), 1) := by decide +kernel
theorem d_CA_rank_34 : decode prog_1_method_31_code 34 = .ok (.ireturn, 1) := by decide +kernel
theorem d_CA_check_0 : decode prog_1_method_33_code 0 = .ok (.aload_n 0, 1) := by decide +kernel
theorem d_CA_check_1 : decode prog_1_method_33_code 1 = .ok (.getfield 70, 3) := by decide +kernel
theorem d_CA_check_4 : decode prog_1_method_33_code 4 = .ok (.getfield 137, 3) := by decide +kernel
theorem d_CA_check_7 : decode prog_1_method_33_code 7 = .ok (.ifCond .ne 5, 3) := by decide +kernel
theorem d_CA_check_10 : decode prog_1_method_33_code 10 = .ok (.iconst (-1), 1) := by decide +kernel
theorem d_CA_check_11 : decode prog_1_method_33_code 11 = .ok (.ireturn, 1) := by decide +kernel
theorem d_CA_items_0 : decode prog_1_method_9_code 0 = .ok (.aload_n 0, 1) := by decide +kernel
theorem d_CA_items_1 : decode prog_1_method_9_code 1 = .ok (.getfield 41, 3) := by decide +kernel
theorem d_CA_items_4 : decode prog_1_method_9_code 4 = .ok (.ifCond .ne 5, 3) := by decide +kernel
theorem d_CA_items_7 : decode prog_1_method_9_code 7 = .ok (.iconst (-1), 1) := by decide +kernel
theorem d_CA_items_8 : decode prog_1_method_9_code 8 = .ok (.ireturn, 1) := by decide +kernel
theorem d_CA_character_0 : decode prog_1_method_27_code 0 = .ok (.iload_n 1, 1) := by decide +kernel
theorem d_CA_character_1 : decode prog_1_method_27_code 1 = .ok (.ifCond .lt 11, 3) := by decide +kernel
theorem d_CA_character_12 : decode prog_1_method_27_code 12 = .ok (.iconst (-1), 1) := by decide +kernel
theorem d_CA_character_13 : decode prog_1_method_27_code 13 = .ok (.goto 9, 3) := by decide +kernel
theorem d_CA_character_22 : decode prog_1_method_27_code 22 = .ok (.ireturn, 1) := by decide +kernel
theorem d_CA_character_4 : decode prog_1_method_27_code 4 = .ok (.iload_n 1, 1) := by decide +kernel
theorem d_CA_character_5 : decode prog_1_method_27_code 5 = .ok (.aload_n 0, 1) := by decide +kernel
theorem d_CA_character_6 : decode prog_1_method_27_code 6 = .ok (.getfield 100, 3) := by decide +kernel
theorem d_CA_character_9 : decode prog_1_method_27_code 9 = .ok (.if_icmp .lt 7, 3) := by decide +kernel
theorem d_CA_character_16 : decode prog_1_method_27_code 16 = .ok (.aload_n 0, 1) := by decide +kernel
theorem d_CA_character_17 : decode prog_1_method_27_code 17 = .ok (.getfield 97, 3) := by decide +kernel
theorem d_CA_character_20 : decode prog_1_method_27_code 20 = .ok (.iload_n 1, 1) := by decide +kernel
theorem d_CA_character_21 : decode prog_1_method_27_code 21 = .ok (.caload, 1) := by decide +kernel
theorem d_CA_fractionOf_0 : decode prog_1_method_25_code 0 = .ok (.iload_n 2, 1) := by decide +kernel
theorem d_CA_fractionOf_1 : decode prog_1_method_25_code 1 = .ok (.ifCond .ne 10, 3) := by decide +kernel
theorem d_CA_fractionOf_11 : decode prog_1_method_25_code 11 = .ok (.iload_n 2, 1) := by decide +kernel
theorem d_CA_fractionOf_12 : decode prog_1_method_25_code 12 = .ok (.iconst 1, 1) := by decide +kernel
theorem d_CA_fractionOf_13 : decode prog_1_method_25_code 13 = .ok (.if_icmp .ne 10, 3) := by decide +kernel
theorem d_CA_fractionOf_23 : decode prog_1_method_25_code 23 = .ok (.iload_n 2, 1) := by decide +kernel
theorem d_CA_fractionOf_24 : decode prog_1_method_25_code 24 = .ok (.iconst 2, 1) := by decide +kernel
theorem d_CA_fractionOf_25 : decode prog_1_method_25_code 25 = .ok (.if_icmp .ne 10, 3) := by decide +kernel
theorem d_CA_fractionOf_35 : decode prog_1_method_25_code 35 = .ok (.aconst_null, 1) := by decide +kernel
theorem d_CA_fractionOf_36 : decode prog_1_method_25_code 36 = .ok (.astore_n 3, 1) := by decide +kernel
theorem d_CA_fractionOf_37 : decode prog_1_method_25_code 37 = .ok (.aload_n 3, 1) := by decide +kernel
theorem d_CA_fractionOf_38 : decode prog_1_method_25_code 38 = .ok (.ifnull 21, 3) := by decide +kernel
theorem d_CA_fractionOf_59 : decode prog_1_method_25_code 59 = .ok (.aconst_null, 1) := by decide +kernel
theorem d_CA_fractionOf_60 : decode prog_1_method_25_code 60 = .ok (.goto 9, 3) := by decide +kernel
theorem d_CA_fractionOf_69 : decode prog_1_method_25_code 69 = .ok (.areturn, 1) := by decide +kernel
theorem d_CA_fractionOf_28 : decode prog_1_method_25_code 28 = .ok (.aload_n 0, 1) := by decide +kernel
theorem d_CA_fractionOf_29 : decode prog_1_method_25_code 29 = .ok (.getfield 80, 3) := by decide +kernel
theorem d_CA_fractionOf_32 : decode prog_1_method_25_code 32 = .ok (.goto 4, 3) := by decide +kernel
theorem d_CA_fractionOf_41 : decode prog_1_method_25_code 41 = .ok (.aload_n 3, 1) := by decide +kernel
theorem d_CA_fractionOf_42 : decode prog_1_method_25_code 42 = .ok (.getfield 137, 3) := by decide +kernel
theorem d_CA_fractionOf_45 : decode prog_1_method_25_code 45 = .ok (.ifCond .eq 14, 3) := by decide +kernel
theorem d_CA_fractionOf_16 : decode prog_1_method_25_code 16 = .ok (.aload_n 0, 1) := by decide +kernel
theorem d_CA_fractionOf_17 : decode prog_1_method_25_code 17 = .ok (.getfield 74, 3) := by decide +kernel
theorem d_CA_fractionOf_20 : decode prog_1_method_25_code 20 = .ok (.goto 16, 3) := by decide +kernel
theorem d_CA_fractionOf_4 : decode prog_1_method_25_code 4 = .ok (.aload_n 0, 1) := by decide +kernel
theorem d_CA_fractionOf_5 : decode prog_1_method_25_code 5 = .ok (.getfield 70, 3) := by decide +kernel
theorem d_CA_fractionOf_8 : decode prog_1_method_25_code 8 = .ok (.goto 28, 3) := by decide +kernel
theorem d_CA_print_0 : decode prog_1_method_24_code 0 = .ok (.aload_n 0, 1) := by decide +kernel
theorem d_CA_print_1 : decode prog_1_method_24_code 1 = .ok (.iload_n 1, 1) := by decide +kernel
theorem d_CA_print_2 : decode prog_1_method_24_code 2 = .ok (.iload_n 2, 1) := by decide +kernel
theorem d_CA_print_3 : decode prog_1_method_24_code 3 = .ok (.invokevirtual 237, 3) := by decide +kernel
theorem ks_CA_fractionOf : Cond.selects "ChanceArena" ({ cls := "ChanceArena", name := "fractionOf", desc := "(II)LChanceArena$Fraction;" } : Jvm.MethodName) ({ cls := "ChanceArena", name := "fractionOf", desc := "(II)LChanceArena$Fraction;" } : Jvm.MethodName) ∈ lw_R := zR (List.mem_append_left _ (List.mem_of_getElem? (i := 42) (by decide +kernel))) rfl
theorem d_CA_print_6 : decode prog_1_method_24_code 6 = .ok (.astore_n 3, 1) := by decide +kernel
theorem d_CA_print_7 : decode prog_1_method_24_code 7 = .ok (.aload_n 3, 1) := by decide +kernel
theorem d_CA_print_8 : decode prog_1_method_24_code 8 = .ok (.ifnonnull 5, 3) := by decide +kernel
theorem d_CA_print_11 : decode prog_1_method_24_code 11 = .ok (.iconst (-1), 1) := by decide +kernel
theorem d_CA_print_12 : decode prog_1_method_24_code 12 = .ok (.ireturn, 1) := by decide +kernel
theorem d_CA_billionths_0 : decode prog_1_method_29_code 0 = .ok (.aload_n 0, 1) := by decide +kernel
theorem d_CA_billionths_1 : decode prog_1_method_29_code 1 = .ok (.iload_n 1, 1) := by decide +kernel
theorem d_CA_billionths_2 : decode prog_1_method_29_code 2 = .ok (.iload_n 2, 1) := by decide +kernel
theorem d_CA_billionths_3 : decode prog_1_method_29_code 3 = .ok (.invokevirtual 237, 3) := by decide +kernel
theorem d_CA_billionths_6 : decode prog_1_method_29_code 6 = .ok (.astore_n 3, 1) := by decide +kernel
theorem d_CA_billionths_7 : decode prog_1_method_29_code 7 = .ok (.aload_n 3, 1) := by decide +kernel
theorem d_CA_billionths_8 : decode prog_1_method_29_code 8 = .ok (.ifnonnull 5, 3) := by decide +kernel
theorem d_CA_billionths_11 : decode prog_1_method_29_code 11 = .ok (.iconst (-1), 1) := by decide +kernel
theorem d_CA_billionths_12 : decode prog_1_method_29_code 12 = .ok (.ireturn, 1) := by decide +kernel
theorem d_CA_compare_0 : decode prog_1_method_28_code 0 = .ok (.aload_n 0, 1) := by decide +kernel
theorem d_CA_compare_1 : decode prog_1_method_28_code 1 = .ok (.iload_n 1, 1) := by decide +kernel
theorem d_CA_compare_2 : decode prog_1_method_28_code 2 = .ok (.iload_n 2, 1) := by decide +kernel
theorem d_CA_compare_3 : decode prog_1_method_28_code 3 = .ok (.invokevirtual 237, 3) := by decide +kernel
theorem d_CA_compare_6 : decode prog_1_method_28_code 6 = .ok (.astore 5, 2) := by decide +kernel
theorem d_CA_compare_8 : decode prog_1_method_28_code 8 = .ok (.aload_n 0, 1) := by decide +kernel
theorem d_CA_compare_9 : decode prog_1_method_28_code 9 = .ok (.iload_n 3, 1) := by decide +kernel
theorem d_CA_compare_10 : decode prog_1_method_28_code 10 = .ok (.iload 4, 2) := by decide +kernel
theorem d_CA_compare_12 : decode prog_1_method_28_code 12 = .ok (.invokevirtual 237, 3) := by decide +kernel
theorem d_CA_compare_15 : decode prog_1_method_28_code 15 = .ok (.astore 6, 2) := by decide +kernel
theorem d_CA_compare_17 : decode prog_1_method_28_code 17 = .ok (.aload 5, 2) := by decide +kernel
theorem d_CA_compare_19 : decode prog_1_method_28_code 19 = .ok (.ifnull 8, 3) := by decide +kernel
theorem d_CA_compare_27 : decode prog_1_method_28_code 27 = .ok (.bipush (-2), 2) := by decide +kernel
theorem d_CA_compare_29 : decode prog_1_method_28_code 29 = .ok (.goto 17, 3) := by decide +kernel
theorem d_CA_compare_46 : decode prog_1_method_28_code 46 = .ok (.ireturn, 1) := by decide +kernel
/-- a reader that answers a reference or null -/
abbrev zMq (l : Launch) (y : MethodName) (ws : List Cond) (rm : Room) (av : List Value) (D : va_G) (tA : Nat → ClassId) (W0 : va_W) (sz : Nat) (post : Option Nat → Prop) : Prop :=
  Met l y ws rm (va_Pc av (zPre D tA W0 sz)) (va_Qq (fun r (_ : Unit) => post r) (fun _ _ => True) (va_A [] sz)) 0 0 (va_A [] sz)
theorem zCalln {p : Program} {l : Launch} {e : Env} {R : Room} {s : State} {m : MethodId} {args : Array Value} {below : List Frame} {meth : Method} {c : Code} {H : Heap} {locs : List Loc} {cells slots : Nat} {Q : State → Prop} {D : va_G} {A : Nat → Prop} {ws : va_W} {a : Array Value} {pc : Nat} {ls : Array Slot} {rest st0 : List Value}
    (hP : va_P D vwCl ws H) (hS : va_S A s.heap H locs) (hA : ∀ q, s.heap.size ≤ q → A q)
    (hr : va_Run p l e R s m args below meth c H locs cells slots 0 0 (F0 m pc ls st0) rest (va_Qq (fun r (_ : Unit) => r = none) (fun _ _ => True) (va_A [] H.size) a) (va_A [] H.size))
    (kk : ∀ (H1 : Heap) (locs1 : List Loc), va_P D vwCl ws H1 → va_S A s.heap H1 locs1 → W p l e R s m args below meth c H1 locs1 cells slots Q (F0 m (pc + 3) ls (.null :: rest))) :
    W p l e R s m args below meth c H locs cells slots Q (F0 m pc ls st0) := by
  have hn : ∀ q : Nat, va_A [] H.size q → H.size ≤ q := fun q h => h.elim (fun ⟨k, e9, h9⟩ => by simp at h9) id
  have hFc : ∀ q, va_A [] H.size q → A q := fun q h => hA q (Nat.le_trans hS.1 (hn q h))
  refine va_callq hr hS (fun q _ h => hFc q h) hFc (fun r u t H1 locs1 ht hvm hw hB hz1 hk1 hS1 => ?_)
  subst hw
  exact kk H1 locs1 (hP.kept (fun k q hq => hk1 q.1 (va_at.lt (hP k q hq)) (fun h => absurd (hn q.1 h) (Nat.not_le.mpr (va_at.lt (hP k q hq)))))) hS1
theorem zNo {k : Int32} (h : 0 ≤ k ∧ k < nI 0) : False := absurd h.2 (Int32.not_lt.mpr h.1)
theorem zHS0 {r k : Int32} (h : r = if 0 ≤ k ∧ k < nI 0 then 1 else 0) : r = 0 := by rw [h, if_neg (fun h => zNo h)]
theorem zCA0 {r k : Int32} {P : Prop} [Decidable P] {x : Int32} (h : r = if (0 ≤ k ∧ k < nI 0) ∧ P then x else -1) : r = -1 := by rw [h, if_neg (fun h => zNo h.1)]
set_option maxHeartbeats 4000000 in
set_option maxRecDepth 100000 in
theorem c_CA_command_0 (l : Launch) (D : va_G) (tA : Nat → ClassId) (sz : Nat) (h0 g0 : Nat) (fs gs : List Value) (hgm : fs[9]? = some (.ref g0)) (hv : gs[0]? = some (.int (nI 0))) (fa : Nat) (ff : Nat → Int32) (hf : gs[4]? = some (.ref fa)) (k i : Int32) : zMp l ({ cls := "ChanceArena", name := "command", desc := "(II)I" } : Jvm.MethodName) (zW (Jvm.Cond.code ({ cls := "ChanceArena", name := "command", desc := "(II)I" } : Jvm.MethodName) prog_1_method_16_code (4 : Nat) (Option.some Jvm.ClassFile.FieldType.int))) { frames := 2, cells := 0, slots := 0, locals := 44 } [.ref h0, .int k, .int i] D tA [(h0, .inr (0, fs)), (g0, .inr (6, gs)), (fa, .inl (tA 0, 513, .inl ff))] sz (fun r => r = -1) := by
  refine zOpen (Wm := []) (fun A => va_Qi (fun r (_ : Unit) => (fun r => r = -1) r) (fun _ _ => True) A) (lv := [(0, .ref h0), (1, .int k), (2, .int i)]) (by decide) rfl (Nat.le_of_ble_eq_true rfl) rfl ?_
  intro p e s m below meth c A ls hx hb hr hml hh hg hown hlocks hnm hK hA hP hD0 hAw hS hl
  refine lv_aload_n hx hb d_CA_command_0 rfl (lv_at hl 0 rfl) ?_
  refine va_get (D := D) (ci := 0) (v := .ref g0) (C := R_CA) (T := T_CA) (N := 19) hx hb hg i_CA hown hK hP 0 rfl rfl 9 (by decide) (hg _ k3_184) (fun _ h9 => h9) hgm d_CA_command_1 ?_
  refine lv_iload_n hx hb d_CA_command_4 rfl (lv_at hl 1 rfl) ?_
  refine lv_iload_n hx hb d_CA_command_5 rfl (lv_at hl 2 rfl) ?_
  refine zCallp hP hS hA (va_runV (As := [.int k, .int i]) (rest := []) ⟨hx, hb, hml, hown, hg⟩ (c_Ga_commandAt l D tA _ g0 fa gs 0 k i ff (by decide) hv hf) (zV 2 hg k5_149 k5_150 k5_151 k1_7 k5_152 rfl rfl (by decide +kernel) ⟨(Nat.le_of_ble_eq_true rfl), (Nat.le_of_ble_eq_true rfl)⟩) (zPreV hh hK hP hD0 [1, 2] (by decide) rfl (ci := 6) rfl 0 rfl) rfl rfl hl.1 rfl (lv_room (Nat.le_of_ble_eq_true rfl)) d_CA_command_6 ⟨(Nat.le_of_ble_eq_true rfl), (Nat.le_of_ble_eq_true rfl)⟩) (fun r6 H locs er6 hP hS => ?_)
  refine lv_istore_n (lv' := [(3, .int r6), (0, .ref h0), (1, .int k), (2, .int i)]) hx hb d_CA_command_9 rfl hl (by decide) rfl (fun ls hl => ?_)
  refine lv_iload_n hx hb d_CA_command_10 rfl (lv_at hl 0 rfl) ?_
  refine lv_iconst (v := (-1)) hx hb d_CA_command_11 (by decide) ?_
  refine lv_icmp_ne (tgt := 19) hx hb d_CA_command_12 (by decide) (fun c12 => absurd (zCA0 er6) c12) (fun c12 => ?_)
  refine lv_iconst (v := (-1)) hx hb d_CA_command_15 (by decide) ?_
  refine lv_goto (tgt := 28) hx hb d_CA_command_16 (by decide) ?_
  exact zPret (post := fun r => r = -1) (v := (-1)) hx hb hr rfl hlocks hS (rfl) d_CA_command_28
set_option maxHeartbeats 4000000 in
set_option maxRecDepth 100000 in
theorem c_CA_branches_0 (l : Launch) (D : va_G) (tA : Nat → ClassId) (sz : Nat) (h0 g0 : Nat) (fs gs : List Value) (hgm : fs[9]? = some (.ref g0)) (hv : gs[0]? = some (.int (nI 0))) (fa : Nat) (ff : Nat → Int32) (hf : gs[4]? = some (.ref fa)) (k i : Int32) : zMp l ({ cls := "ChanceArena", name := "branches", desc := "(II)I" } : Jvm.MethodName) (zW (Jvm.Cond.code ({ cls := "ChanceArena", name := "branches", desc := "(II)I" } : Jvm.MethodName) prog_1_method_17_code (4 : Nat) (Option.some Jvm.ClassFile.FieldType.int))) { frames := 2, cells := 0, slots := 0, locals := 44 } [.ref h0, .int k, .int i] D tA [(h0, .inr (0, fs)), (g0, .inr (6, gs)), (fa, .inl (tA 0, 513, .inl ff))] sz (fun r => r = -1) := by
  refine zOpen (Wm := []) (fun A => va_Qi (fun r (_ : Unit) => (fun r => r = -1) r) (fun _ _ => True) A) (lv := [(0, .ref h0), (1, .int k), (2, .int i)]) (by decide) rfl (Nat.le_of_ble_eq_true rfl) rfl ?_
  intro p e s m below meth c A ls hx hb hr hml hh hg hown hlocks hnm hK hA hP hD0 hAw hS hl
  refine lv_aload_n hx hb d_CA_branches_0 rfl (lv_at hl 0 rfl) ?_
  refine va_get (D := D) (ci := 0) (v := .ref g0) (C := R_CA) (T := T_CA) (N := 19) hx hb hg i_CA hown hK hP 0 rfl rfl 9 (by decide) (hg _ k3_184) (fun _ h9 => h9) hgm d_CA_branches_1 ?_
  refine lv_iload_n hx hb d_CA_branches_4 rfl (lv_at hl 1 rfl) ?_
  refine lv_iload_n hx hb d_CA_branches_5 rfl (lv_at hl 2 rfl) ?_
  refine zCallp hP hS hA (va_runV (As := [.int k, .int i]) (rest := []) ⟨hx, hb, hml, hown, hg⟩ (c_Ga_commandAt l D tA _ g0 fa gs 0 k i ff (by decide) hv hf) (zV 2 hg k5_149 k5_150 k5_151 k1_7 k5_152 rfl rfl (by decide +kernel) ⟨(Nat.le_of_ble_eq_true rfl), (Nat.le_of_ble_eq_true rfl)⟩) (zPreV hh hK hP hD0 [1, 2] (by decide) rfl (ci := 6) rfl 0 rfl) rfl rfl hl.1 rfl (lv_room (Nat.le_of_ble_eq_true rfl)) d_CA_branches_6 ⟨(Nat.le_of_ble_eq_true rfl), (Nat.le_of_ble_eq_true rfl)⟩) (fun r6 H locs er6 hP hS => ?_)
  refine lv_istore_n (lv' := [(3, .int r6), (0, .ref h0), (1, .int k), (2, .int i)]) hx hb d_CA_branches_9 rfl hl (by decide) rfl (fun ls hl => ?_)
  refine lv_iload_n hx hb d_CA_branches_10 rfl (lv_at hl 0 rfl) ?_
  refine lv_iconst (v := (-1)) hx hb d_CA_branches_11 (by decide) ?_
  refine lv_icmp_ne (tgt := 19) hx hb d_CA_branches_12 (by decide) (fun c12 => absurd (zCA0 er6) c12) (fun c12 => ?_)
  refine lv_iconst (v := (-1)) hx hb d_CA_branches_15 (by decide) ?_
  refine lv_goto (tgt := 40) hx hb d_CA_branches_16 (by decide) ?_
  exact zPret (post := fun r => r = -1) (v := (-1)) hx hb hr rfl hlocks hS (rfl) d_CA_branches_40
set_option maxHeartbeats 4000000 in
set_option maxRecDepth 100000 in
theorem c_CA_branch_0 (l : Launch) (D : va_G) (tA : Nat → ClassId) (sz : Nat) (h0 g0 : Nat) (fs gs : List Value) (hgm : fs[9]? = some (.ref g0)) (hv : gs[0]? = some (.int (nI 0))) (fa : Nat) (ff : Nat → Int32) (hf : gs[4]? = some (.ref fa)) (k i j w : Int32) : zMp l ({ cls := "ChanceArena", name := "branch", desc := "(IIII)I" } : Jvm.MethodName) (zW (Jvm.Cond.code ({ cls := "ChanceArena", name := "branch", desc := "(IIII)I" } : Jvm.MethodName) prog_1_method_18_code (8 : Nat) (Option.some Jvm.ClassFile.FieldType.int))) { frames := 2, cells := 0, slots := 0, locals := 44 } [.ref h0, .int k, .int i, .int j, .int w] D tA [(h0, .inr (0, fs)), (g0, .inr (6, gs)), (fa, .inl (tA 0, 513, .inl ff))] sz (fun r => r = -1) := by
  refine zOpen (Wm := []) (fun A => va_Qi (fun r (_ : Unit) => (fun r => r = -1) r) (fun _ _ => True) A) (lv := [(0, .ref h0), (1, .int k), (2, .int i), (3, .int j), (4, .int w)]) (by decide) rfl (Nat.le_of_ble_eq_true rfl) rfl ?_
  intro p e s m below meth c A ls hx hb hr hml hh hg hown hlocks hnm hK hA hP hD0 hAw hS hl
  refine lv_aload_n hx hb d_CA_branch_0 rfl (lv_at hl 0 rfl) ?_
  refine va_get (D := D) (ci := 0) (v := .ref g0) (C := R_CA) (T := T_CA) (N := 19) hx hb hg i_CA hown hK hP 0 rfl rfl 9 (by decide) (hg _ k3_184) (fun _ h9 => h9) hgm d_CA_branch_1 ?_
  refine lv_iload_n hx hb d_CA_branch_4 rfl (lv_at hl 1 rfl) ?_
  refine lv_iload_n hx hb d_CA_branch_5 rfl (lv_at hl 2 rfl) ?_
  refine zCallp hP hS hA (va_runV (As := [.int k, .int i]) (rest := []) ⟨hx, hb, hml, hown, hg⟩ (c_Ga_commandAt l D tA _ g0 fa gs 0 k i ff (by decide) hv hf) (zV 2 hg k5_149 k5_150 k5_151 k1_7 k5_152 rfl rfl (by decide +kernel) ⟨(Nat.le_of_ble_eq_true rfl), (Nat.le_of_ble_eq_true rfl)⟩) (zPreV hh hK hP hD0 [1, 2] (by decide) rfl (ci := 6) rfl 0 rfl) rfl rfl hl.1 rfl (lv_room (Nat.le_of_ble_eq_true rfl)) d_CA_branch_6 ⟨(Nat.le_of_ble_eq_true rfl), (Nat.le_of_ble_eq_true rfl)⟩) (fun r6 H locs er6 hP hS => ?_)
  refine lv_istore (lv' := [(5, .int r6), (0, .ref h0), (1, .int k), (2, .int i), (3, .int j), (4, .int w)]) hx hb d_CA_branch_9 hl (by decide) rfl (fun ls hl => ?_)
  refine lv_iload hx hb d_CA_branch_11 (lv_at hl 0 rfl) ?_
  refine lv_iconst (v := (-1)) hx hb d_CA_branch_13 (by decide) ?_
  refine lv_icmp_eq (tgt := 48) hx hb d_CA_branch_14 (by decide) (fun c14 => ?_) (fun c14 => absurd (zCA0 er6) c14)
  refine lv_iconst (v := (-1)) hx hb d_CA_branch_48 (by decide) ?_
  exact zPret (post := fun r => r = -1) (v := (-1)) hx hb hr rfl hlocks hS (rfl) d_CA_branch_49
set_option maxHeartbeats 4000000 in
set_option maxRecDepth 100000 in
theorem c_CA_next_0 (l : Launch) (D : va_G) (tA : Nat → ClassId) (sz : Nat) (h0 g0 : Nat) (fs gs : List Value) (hgm : fs[9]? = some (.ref g0)) (hv : gs[0]? = some (.int (nI 0))) (k d : Int32) : zMp l ({ cls := "ChanceArena", name := "next", desc := "(II)I" } : Jvm.MethodName) (zW (Jvm.Cond.code ({ cls := "ChanceArena", name := "next", desc := "(II)I" } : Jvm.MethodName) prog_1_method_32_code (4 : Nat) (Option.some Jvm.ClassFile.FieldType.int))) { frames := 1, cells := 0, slots := 0, locals := 22 } [.ref h0, .int k, .int d] D tA [(h0, .inr (0, fs)), (g0, .inr (6, gs))] sz (fun r => r = -1) := by
  refine zOpen (Wm := []) (fun A => va_Qi (fun r (_ : Unit) => (fun r => r = -1) r) (fun _ _ => True) A) (lv := [(0, .ref h0), (1, .int k), (2, .int d)]) (by decide) rfl (Nat.le_of_ble_eq_true rfl) rfl ?_
  intro p e s m below meth c A ls hx hb hr hml hh hg hown hlocks hnm hK hA hP hD0 hAw hS hl
  refine lv_aload_n hx hb d_CA_next_0 rfl (lv_at hl 0 rfl) ?_
  refine va_get (D := D) (ci := 0) (v := .ref g0) (C := R_CA) (T := T_CA) (N := 19) hx hb hg i_CA hown hK hP 0 rfl rfl 9 (by decide) (hg _ k3_184) (fun _ h9 => h9) hgm d_CA_next_1 ?_
  refine lv_iload_n hx hb d_CA_next_4 rfl (lv_at hl 1 rfl) ?_
  refine zCallp hP hS hA (va_runV (As := [.int k]) (rest := []) ⟨hx, hb, hml, hown, hg⟩ (c_Ga_hasState l D tA _ g0 gs (nI 0) k hv) (zV 1 hg k5_137 k5_138 k5_139 k1_7 k5_140 rfl rfl (by decide +kernel) ⟨(Nat.le_of_ble_eq_true rfl), (Nat.le_of_ble_eq_true rfl)⟩) (zPreV hh hK hP hD0 [1] (by decide) rfl (ci := 6) rfl 0 rfl) rfl rfl hl.1 rfl (lv_room (Nat.le_of_ble_eq_true rfl)) d_CA_next_5 ⟨(Nat.le_of_ble_eq_true rfl), (Nat.le_of_ble_eq_true rfl)⟩) (fun r5 H locs er5 hP hS => ?_)
  refine lv_if_eq (tgt := 15) hx hb d_CA_next_8 (by decide) (fun c8 => ?_) (fun c8 => absurd (zHS0 er5) c8)
  refine lv_iconst (v := (-1)) hx hb d_CA_next_15 (by decide) ?_
  exact zPret (post := fun r => r = -1) (v := (-1)) hx hb hr rfl hlocks hS (rfl) d_CA_next_16
set_option maxHeartbeats 4000000 in
set_option maxRecDepth 100000 in
theorem c_CA_choice_0 (l : Launch) (D : va_G) (tA : Nat → ClassId) (sz : Nat) (h0 : Nat) (fs : List Value) (v0 : Nat) (vs : List Value) (hvl : fs[11]? = some (.ref v0)) (hkv : vs[1]? = some (.int 0)) (k : Int32) : zMp l ({ cls := "ChanceArena", name := "choice", desc := "(I)I" } : Jvm.MethodName) (zW (Jvm.Cond.code ({ cls := "ChanceArena", name := "choice", desc := "(I)I" } : Jvm.MethodName) prog_1_method_30_code (2 : Nat) (Option.some Jvm.ClassFile.FieldType.int))) { frames := 0, cells := 0, slots := 0, locals := 0 } [.ref h0, .int k] D tA [(h0, .inr (0, fs)), (v0, .inr (12, vs))] sz (fun r => r = -1) := by
  refine zOpen (Wm := []) (fun A => va_Qi (fun r (_ : Unit) => (fun r => r = -1) r) (fun _ _ => True) A) (lv := [(0, .ref h0), (1, .int k)]) (by decide) rfl (Nat.le_of_ble_eq_true rfl) rfl ?_
  intro p e s m below meth c A ls hx hb hr hml hh hg hown hlocks hnm hK hA hP hD0 hAw hS hl
  refine lv_aload_n hx hb d_CA_choice_0 rfl (lv_at hl 0 rfl) ?_
  refine va_get (D := D) (ci := 0) (v := .ref v0) (C := R_CA) (T := T_CA) (N := 19) hx hb hg i_CA hown hK hP 0 rfl rfl 11 (by decide) (hg _ k3_186) (fun _ h9 => h9) hvl d_CA_choice_1 ?_
  refine va_get (D := D) (ci := 12) (v := .int 0) (C := R_Fs) (T := T_Fs) (N := 2) hx hb hg i_Fs hown hK hP 1 rfl rfl 1 (by decide) (hg _ k3_165) (fun _ h9 => h9) hkv d_CA_choice_4 ?_
  refine lv_if_eq (tgt := 33) hx hb d_CA_choice_7 (by decide) (fun c7 => ?_) (fun c7 => absurd rfl c7)
  refine lv_iconst (v := (-1)) hx hb d_CA_choice_33 (by decide) ?_
  exact zPret (post := fun r => r = -1) (v := (-1)) hx hb hr rfl hlocks hS (rfl) d_CA_choice_34
set_option maxHeartbeats 4000000 in
set_option maxRecDepth 100000 in
theorem c_CA_rank_0 (l : Launch) (D : va_G) (tA : Nat → ClassId) (sz : Nat) (h0 : Nat) (fs : List Value) (v0 : Nat) (vs : List Value) (hvl : fs[11]? = some (.ref v0)) (hkv : vs[1]? = some (.int 0)) (k : Int32) : zMp l ({ cls := "ChanceArena", name := "rank", desc := "(I)I" } : Jvm.MethodName) (zW (Jvm.Cond.code ({ cls := "ChanceArena", name := "rank", desc := "(I)I" } : Jvm.MethodName) prog_1_method_31_code (2 : Nat) (Option.some Jvm.ClassFile.FieldType.int))) { frames := 0, cells := 0, slots := 0, locals := 0 } [.ref h0, .int k] D tA [(h0, .inr (0, fs)), (v0, .inr (12, vs))] sz (fun r => r = -1) := by
  refine zOpen (Wm := []) (fun A => va_Qi (fun r (_ : Unit) => (fun r => r = -1) r) (fun _ _ => True) A) (lv := [(0, .ref h0), (1, .int k)]) (by decide) rfl (Nat.le_of_ble_eq_true rfl) rfl ?_
  intro p e s m below meth c A ls hx hb hr hml hh hg hown hlocks hnm hK hA hP hD0 hAw hS hl
  refine lv_aload_n hx hb d_CA_rank_0 rfl (lv_at hl 0 rfl) ?_
  refine va_get (D := D) (ci := 0) (v := .ref v0) (C := R_CA) (T := T_CA) (N := 19) hx hb hg i_CA hown hK hP 0 rfl rfl 11 (by decide) (hg _ k3_186) (fun _ h9 => h9) hvl d_CA_rank_1 ?_
  refine va_get (D := D) (ci := 12) (v := .int 0) (C := R_Fs) (T := T_Fs) (N := 2) hx hb hg i_Fs hown hK hP 1 rfl rfl 1 (by decide) (hg _ k3_165) (fun _ h9 => h9) hkv d_CA_rank_4 ?_
  refine lv_if_eq (tgt := 33) hx hb d_CA_rank_7 (by decide) (fun c7 => ?_) (fun c7 => absurd rfl c7)
  refine lv_iconst (v := (-1)) hx hb d_CA_rank_33 (by decide) ?_
  exact zPret (post := fun r => r = -1) (v := (-1)) hx hb hr rfl hlocks hS (rfl) d_CA_rank_34
set_option maxHeartbeats 4000000 in
set_option maxRecDepth 100000 in
theorem c_CA_check_0 (l : Launch) (D : va_G) (tA : Nat → ClassId) (sz : Nat) (h0 : Nat) (fs : List Value) (v0 : Nat) (vs : List Value) (hvl : fs[11]? = some (.ref v0)) (hkv : vs[1]? = some (.int 0)) : zMp l ({ cls := "ChanceArena", name := "check", desc := "()I" } : Jvm.MethodName) (zW (Jvm.Cond.code ({ cls := "ChanceArena", name := "check", desc := "()I" } : Jvm.MethodName) prog_1_method_33_code (1 : Nat) (Option.some Jvm.ClassFile.FieldType.int))) { frames := 0, cells := 0, slots := 0, locals := 0 } [.ref h0] D tA [(h0, .inr (0, fs)), (v0, .inr (12, vs))] sz (fun r => r = -1) := by
  refine zOpen (Wm := []) (fun A => va_Qi (fun r (_ : Unit) => (fun r => r = -1) r) (fun _ _ => True) A) (lv := [(0, .ref h0)]) (by decide) rfl (Nat.le_of_ble_eq_true rfl) rfl ?_
  intro p e s m below meth c A ls hx hb hr hml hh hg hown hlocks hnm hK hA hP hD0 hAw hS hl
  refine lv_aload_n hx hb d_CA_check_0 rfl (lv_at hl 0 rfl) ?_
  refine va_get (D := D) (ci := 0) (v := .ref v0) (C := R_CA) (T := T_CA) (N := 19) hx hb hg i_CA hown hK hP 0 rfl rfl 11 (by decide) (hg _ k3_186) (fun _ h9 => h9) hvl d_CA_check_1 ?_
  refine va_get (D := D) (ci := 12) (v := .int 0) (C := R_Fs) (T := T_Fs) (N := 2) hx hb hg i_Fs hown hK hP 1 rfl rfl 1 (by decide) (hg _ k3_165) (fun _ h9 => h9) hkv d_CA_check_4 ?_
  refine lv_if_ne (tgt := 12) hx hb d_CA_check_7 (by decide) (fun c7 => absurd rfl c7) (fun c7 => ?_)
  refine lv_iconst (v := (-1)) hx hb d_CA_check_10 (by decide) ?_
  exact zPret (post := fun r => r = -1) (v := (-1)) hx hb hr rfl hlocks hS (rfl) d_CA_check_11
set_option maxHeartbeats 4000000 in
set_option maxRecDepth 100000 in
theorem c_CA_items_0 (l : Launch) (D : va_G) (tA : Nat → ClassId) (sz : Nat) (h0 : Nat) (fs : List Value) (w : Int32) (ht : fs[6]? = some (.int 0)) : zMp l ({ cls := "ChanceArena", name := "items", desc := "(I)I" } : Jvm.MethodName) (zW (Jvm.Cond.code ({ cls := "ChanceArena", name := "items", desc := "(I)I" } : Jvm.MethodName) prog_1_method_9_code (2 : Nat) (Option.some Jvm.ClassFile.FieldType.int))) { frames := 0, cells := 0, slots := 0, locals := 0 } [.ref h0, .int w] D tA [(h0, .inr (0, fs))] sz (fun r => r = -1) := by
  refine zOpen (Wm := []) (fun A => va_Qi (fun r (_ : Unit) => (fun r => r = -1) r) (fun _ _ => True) A) (lv := [(0, .ref h0), (1, .int w)]) (by decide) rfl (Nat.le_of_ble_eq_true rfl) rfl ?_
  intro p e s m below meth c A ls hx hb hr hml hh hg hown hlocks hnm hK hA hP hD0 hAw hS hl
  refine lv_aload_n hx hb d_CA_items_0 rfl (lv_at hl 0 rfl) ?_
  refine va_get (D := D) (ci := 0) (v := .int 0) (C := R_CA) (T := T_CA) (N := 19) hx hb hg i_CA hown hK hP 0 rfl rfl 6 (by decide) (hg _ k3_181) (fun _ h9 => h9) ht d_CA_items_1 ?_
  refine lv_if_ne (tgt := 9) hx hb d_CA_items_4 (by decide) (fun c4 => absurd rfl c4) (fun c4 => ?_)
  refine lv_iconst (v := (-1)) hx hb d_CA_items_7 (by decide) ?_
  exact zPret (post := fun r => r = -1) (v := (-1)) hx hb hr rfl hlocks hS (rfl) d_CA_items_8
set_option maxHeartbeats 4000000 in
set_option maxRecDepth 100000 in
theorem c_CA_character (l : Launch) (D : va_G) (tA : Nat → ClassId) (sz : Nat) (h0 pa : Nat) (fs : List Value) (n : Nat) (i : Int32) (ff : Nat → Int32) (hn : n ≤ 400) (hl0 : fs[18]? = some (.int (nI n))) (hp0 : fs[17]? = some (.ref pa)) : zMp l ({ cls := "ChanceArena", name := "character", desc := "(I)I" } : Jvm.MethodName) (zW (Jvm.Cond.code ({ cls := "ChanceArena", name := "character", desc := "(I)I" } : Jvm.MethodName) prog_1_method_27_code (2 : Nat) (Option.some Jvm.ClassFile.FieldType.int))) { frames := 0, cells := 0, slots := 0, locals := 0 } [.ref h0, .int i] D tA [(h0, .inr (0, fs)), (pa, .inl (tA 2, 400, .inl ff))] sz (fun r => r = if 0 ≤ i ∧ i < nI n then ff i.toNatClampNeg else -1) := by
  refine zOpen (Wm := []) (fun A => va_Qi (fun r (_ : Unit) => (fun r => r = if 0 ≤ i ∧ i < nI n then ff i.toNatClampNeg else -1) r) (fun _ _ => True) A) (lv := [(0, .ref h0), (1, .int i)]) (by decide) rfl (Nat.le_of_ble_eq_true rfl) rfl ?_
  intro p e s m below meth c A ls hx hb hr hml hh hg hown hlocks hnm hK hA hP hD0 hAw hS hl
  refine lv_iload_n hx hb d_CA_character_0 rfl (lv_at hl 1 rfl) ?_
  refine lv_if_lt (tgt := 12) hx hb d_CA_character_1 (by decide) (fun c1 => ?_) (fun c1 => ?_)
  · refine lv_iconst (v := (-1)) hx hb d_CA_character_12 (by decide) ?_
    refine lv_goto (tgt := 22) hx hb d_CA_character_13 (by decide) ?_
    exact zPret (post := fun r => r = if 0 ≤ i ∧ i < nI n then ff i.toNatClampNeg else -1) (v := (-1)) hx hb hr rfl hlocks hS ((if_neg (fun h => absurd c1 (Int32.not_lt.mpr h.1))).symm) d_CA_character_22
  · refine lv_iload_n hx hb d_CA_character_4 rfl (lv_at hl 1 rfl) ?_
    refine lv_aload_n hx hb d_CA_character_5 rfl (lv_at hl 0 rfl) ?_
    refine va_get (D := D) (ci := 0) (v := .int (nI n)) (C := R_CA) (T := T_CA) (N := 19) hx hb hg i_CA hown hK hP 0 rfl rfl 18 (by decide) (hg _ k3_193) (fun _ h9 => h9) hl0 d_CA_character_6 ?_
    refine lv_icmp_lt (tgt := 16) hx hb d_CA_character_9 (by decide) (fun c9 => ?_) (fun c9 => ?_)
    · refine lv_aload_n hx hb d_CA_character_16 rfl (lv_at hl 0 rfl) ?_
      refine va_get (D := D) (ci := 0) (v := .ref pa) (C := R_CA) (T := T_CA) (N := 19) hx hb hg i_CA hown hK hP 0 rfl rfl 17 (by decide) (hg _ k3_192) (fun _ h9 => h9) hp0 d_CA_character_17 ?_
      refine lv_iload_n hx hb d_CA_character_20 rfl (lv_at hl 1 rfl) ?_
      refine va_cald hx hb hK hP 1 2 rfl rfl ((zIx (n := n) ⟨Int32.not_lt.mp c1, c9⟩ hn (by decide)).choose_spec.2.2.1) d_CA_character_21 ?_
      exact zPret (post := fun r => r = if 0 ≤ i ∧ i < nI n then ff i.toNatClampNeg else -1) (v := (ff (i).toNatClampNeg)) hx hb hr rfl hlocks hS ((if_pos ⟨Int32.not_lt.mp c1, c9⟩).symm) d_CA_character_22
    · refine lv_iconst (v := (-1)) hx hb d_CA_character_12 (by decide) ?_
      refine lv_goto (tgt := 22) hx hb d_CA_character_13 (by decide) ?_
      exact zPret (post := fun r => r = if 0 ≤ i ∧ i < nI n then ff i.toNatClampNeg else -1) (v := (-1)) hx hb hr rfl hlocks hS ((if_neg (fun h => absurd h.2 c9)).symm) d_CA_character_22
set_option maxHeartbeats 4000000 in
set_option maxRecDepth 100000 in
theorem c_CA_fractionOf_0 (l : Launch) (D : va_G) (tA : Nat → ClassId) (sz : Nat) (h0 : Nat) (fs : List Value) (a0 : Nat) (as : List Value) (ha : fs[11]? = some (.ref a0)) (hka : as[1]? = some (.int 0)) (b0 : Nat) (bs : List Value) (hb9 : fs[12]? = some (.ref b0)) (hkb : bs[1]? = some (.int 0)) (c0 : Nat) (cs : List Value) (hc : fs[14]? = some (.ref c0)) (hkc : cs[1]? = some (.int 0)) (k w : Int32) : zMq l ({ cls := "ChanceArena", name := "fractionOf", desc := "(II)LChanceArena$Fraction;" } : Jvm.MethodName) (zW (Jvm.Cond.code ({ cls := "ChanceArena", name := "fractionOf", desc := "(II)LChanceArena$Fraction;" } : Jvm.MethodName) prog_1_method_25_code (4 : Nat) (Option.some (Jvm.ClassFile.FieldType.object "ChanceArena$Fraction")))) { frames := 0, cells := 0, slots := 0, locals := 0 } [.ref h0, .int k, .int w] D tA [(h0, .inr (0, fs)), (a0, .inr (12, as)), (b0, .inr (12, bs)), (c0, .inr (12, cs))] sz (fun r => r = none) := by
  refine zOpen (Wm := []) (fun A => va_Qq (fun r (_ : Unit) => (fun r => r = none) r) (fun _ _ => True) A) (lv := [(0, .ref h0), (1, .int k), (2, .int w)]) (by decide) rfl (Nat.le_of_ble_eq_true rfl) rfl ?_
  intro p e s m below meth c A ls hx hb hr hml hh hg hown hlocks hnm hK hA hP hD0 hAw hS hl
  refine lv_iload_n hx hb d_CA_fractionOf_0 rfl (lv_at hl 2 rfl) ?_
  refine lv_if_ne (tgt := 11) hx hb d_CA_fractionOf_1 (by decide) (fun c1 => ?_) (fun c1 => ?_)
  · refine lv_iload_n hx hb d_CA_fractionOf_11 rfl (lv_at hl 2 rfl) ?_
    refine lv_iconst (v := 1) hx hb d_CA_fractionOf_12 (by decide) ?_
    refine lv_icmp_ne (tgt := 23) hx hb d_CA_fractionOf_13 (by decide) (fun c13 => ?_) (fun c13 => ?_)
    · refine lv_iload_n hx hb d_CA_fractionOf_23 rfl (lv_at hl 2 rfl) ?_
      refine lv_iconst (v := 2) hx hb d_CA_fractionOf_24 (by decide) ?_
      refine lv_icmp_ne (tgt := 35) hx hb d_CA_fractionOf_25 (by decide) (fun c25 => ?_) (fun c25 => ?_)
      · refine lv_null hx hb d_CA_fractionOf_35 ?_
        refine lv_astore_nN (lv' := [(3, .null), (0, .ref h0), (1, .int k), (2, .int w)]) hx hb d_CA_fractionOf_36 rfl hl (by decide) rfl (fun ls hl => ?_)
        refine lv_aload_nN hx hb d_CA_fractionOf_37 rfl (lv_at hl 0 rfl) ?_
        refine lv_ifnullN (tgt := 59) hx hb d_CA_fractionOf_38 (by decide) ?_
        refine lv_null hx hb d_CA_fractionOf_59 ?_
        refine lv_goto (tgt := 69) hx hb d_CA_fractionOf_60 (by decide) ?_
        exact W.aret (v := .null) hx hb hr (Or.inl ⟨_, rfl⟩) (Or.inl rfl) (fun t ht hW => ⟨⟨none, (), rfl, rfl, trivial⟩, hS.F ht⟩) hS.2.2 d_CA_fractionOf_69
      · refine lv_aload_n hx hb d_CA_fractionOf_28 rfl (lv_at hl 0 rfl) ?_
        refine va_get (D := D) (ci := 0) (v := .ref c0) (C := R_CA) (T := T_CA) (N := 19) hx hb hg i_CA hown hK hP 0 rfl rfl 14 (by decide) (hg _ k3_189) (fun _ h9 => h9) hc d_CA_fractionOf_29 ?_
        refine lv_goto (tgt := 36) hx hb d_CA_fractionOf_32 (by decide) ?_
        refine lv_astore_n (lv' := [(3, .ref c0), (0, .ref h0), (1, .int k), (2, .int w)]) hx hb d_CA_fractionOf_36 rfl hl (by decide) rfl (fun ls hl => ?_)
        refine lv_aload_n hx hb d_CA_fractionOf_37 rfl (lv_at hl 0 rfl) ?_
        refine lv_ifnull hx hb d_CA_fractionOf_38 ?_
        refine lv_aload_n hx hb d_CA_fractionOf_41 rfl (lv_at hl 0 rfl) ?_
        refine va_get (D := D) (ci := 12) (v := .int 0) (C := R_Fs) (T := T_Fs) (N := 2) hx hb hg i_Fs hown hK hP 3 rfl rfl 1 (by decide) (hg _ k3_165) (fun _ h9 => h9) hkc d_CA_fractionOf_42 ?_
        refine lv_if_eq (tgt := 59) hx hb d_CA_fractionOf_45 (by decide) (fun c45 => ?_) (fun c45 => absurd rfl c45)
        refine lv_null hx hb d_CA_fractionOf_59 ?_
        refine lv_goto (tgt := 69) hx hb d_CA_fractionOf_60 (by decide) ?_
        exact W.aret (v := .null) hx hb hr (Or.inl ⟨_, rfl⟩) (Or.inl rfl) (fun t ht hW => ⟨⟨none, (), rfl, rfl, trivial⟩, hS.F ht⟩) hS.2.2 d_CA_fractionOf_69
    · refine lv_aload_n hx hb d_CA_fractionOf_16 rfl (lv_at hl 0 rfl) ?_
      refine va_get (D := D) (ci := 0) (v := .ref b0) (C := R_CA) (T := T_CA) (N := 19) hx hb hg i_CA hown hK hP 0 rfl rfl 12 (by decide) (hg _ k3_187) (fun _ h9 => h9) hb9 d_CA_fractionOf_17 ?_
      refine lv_goto (tgt := 36) hx hb d_CA_fractionOf_20 (by decide) ?_
      refine lv_astore_n (lv' := [(3, .ref b0), (0, .ref h0), (1, .int k), (2, .int w)]) hx hb d_CA_fractionOf_36 rfl hl (by decide) rfl (fun ls hl => ?_)
      refine lv_aload_n hx hb d_CA_fractionOf_37 rfl (lv_at hl 0 rfl) ?_
      refine lv_ifnull hx hb d_CA_fractionOf_38 ?_
      refine lv_aload_n hx hb d_CA_fractionOf_41 rfl (lv_at hl 0 rfl) ?_
      refine va_get (D := D) (ci := 12) (v := .int 0) (C := R_Fs) (T := T_Fs) (N := 2) hx hb hg i_Fs hown hK hP 2 rfl rfl 1 (by decide) (hg _ k3_165) (fun _ h9 => h9) hkb d_CA_fractionOf_42 ?_
      refine lv_if_eq (tgt := 59) hx hb d_CA_fractionOf_45 (by decide) (fun c45 => ?_) (fun c45 => absurd rfl c45)
      refine lv_null hx hb d_CA_fractionOf_59 ?_
      refine lv_goto (tgt := 69) hx hb d_CA_fractionOf_60 (by decide) ?_
      exact W.aret (v := .null) hx hb hr (Or.inl ⟨_, rfl⟩) (Or.inl rfl) (fun t ht hW => ⟨⟨none, (), rfl, rfl, trivial⟩, hS.F ht⟩) hS.2.2 d_CA_fractionOf_69
  · refine lv_aload_n hx hb d_CA_fractionOf_4 rfl (lv_at hl 0 rfl) ?_
    refine va_get (D := D) (ci := 0) (v := .ref a0) (C := R_CA) (T := T_CA) (N := 19) hx hb hg i_CA hown hK hP 0 rfl rfl 11 (by decide) (hg _ k3_186) (fun _ h9 => h9) ha d_CA_fractionOf_5 ?_
    refine lv_goto (tgt := 36) hx hb d_CA_fractionOf_8 (by decide) ?_
    refine lv_astore_n (lv' := [(3, .ref a0), (0, .ref h0), (1, .int k), (2, .int w)]) hx hb d_CA_fractionOf_36 rfl hl (by decide) rfl (fun ls hl => ?_)
    refine lv_aload_n hx hb d_CA_fractionOf_37 rfl (lv_at hl 0 rfl) ?_
    refine lv_ifnull hx hb d_CA_fractionOf_38 ?_
    refine lv_aload_n hx hb d_CA_fractionOf_41 rfl (lv_at hl 0 rfl) ?_
    refine va_get (D := D) (ci := 12) (v := .int 0) (C := R_Fs) (T := T_Fs) (N := 2) hx hb hg i_Fs hown hK hP 1 rfl rfl 1 (by decide) (hg _ k3_165) (fun _ h9 => h9) hka d_CA_fractionOf_42 ?_
    refine lv_if_eq (tgt := 59) hx hb d_CA_fractionOf_45 (by decide) (fun c45 => ?_) (fun c45 => absurd rfl c45)
    refine lv_null hx hb d_CA_fractionOf_59 ?_
    refine lv_goto (tgt := 69) hx hb d_CA_fractionOf_60 (by decide) ?_
    exact W.aret (v := .null) hx hb hr (Or.inl ⟨_, rfl⟩) (Or.inl rfl) (fun t ht hW => ⟨⟨none, (), rfl, rfl, trivial⟩, hS.F ht⟩) hS.2.2 d_CA_fractionOf_69
set_option maxHeartbeats 4000000 in
set_option maxRecDepth 100000 in
theorem c_CA_print_0 (l : Launch) (D : va_G) (tA : Nat → ClassId) (sz : Nat) (h0 : Nat) (fs : List Value) (a0 : Nat) (as : List Value) (ha : fs[11]? = some (.ref a0)) (hka : as[1]? = some (.int 0)) (b0 : Nat) (bs : List Value) (hb9 : fs[12]? = some (.ref b0)) (hkb : bs[1]? = some (.int 0)) (c0 : Nat) (cs : List Value) (hc : fs[14]? = some (.ref c0)) (hkc : cs[1]? = some (.int 0)) (k w : Int32) : zMp l ({ cls := "ChanceArena", name := "print", desc := "(II)I" } : Jvm.MethodName) (zW (Jvm.Cond.code ({ cls := "ChanceArena", name := "print", desc := "(II)I" } : Jvm.MethodName) prog_1_method_24_code (4 : Nat) (Option.some Jvm.ClassFile.FieldType.int))) { frames := 1, cells := 0, slots := 0, locals := 23 } [.ref h0, .int k, .int w] D tA [(h0, .inr (0, fs)), (a0, .inr (12, as)), (b0, .inr (12, bs)), (c0, .inr (12, cs))] sz (fun r => r = -1) := by
  refine zOpen (Wm := []) (fun A => va_Qi (fun r (_ : Unit) => (fun r => r = -1) r) (fun _ _ => True) A) (lv := [(0, .ref h0), (1, .int k), (2, .int w)]) (by decide) rfl (Nat.le_of_ble_eq_true rfl) rfl ?_
  intro p e s m below meth c A ls hx hb hr hml hh hg hown hlocks hnm hK hA hP hD0 hAw hS hl
  refine lv_aload_n hx hb d_CA_print_0 rfl (lv_at hl 0 rfl) ?_
  refine lv_iload_n hx hb d_CA_print_1 rfl (lv_at hl 1 rfl) ?_
  refine lv_iload_n hx hb d_CA_print_2 rfl (lv_at hl 2 rfl) ?_
  refine zCalln hP hS hA (va_runV (As := [.int k, .int w]) (rest := []) ⟨hx, hb, hml, hown, hg⟩ (c_CA_fractionOf_0 l D tA _ h0 fs a0 as ha hka b0 bs hb9 hkb c0 cs hc hkc k w) (zV 2 hg k5_167 k5_169 ks_CA_fractionOf k1_1 k5_170 rfl rfl (by decide +kernel) ⟨(Nat.le_of_ble_eq_true rfl), (Nat.le_of_ble_eq_true rfl)⟩) (zPreV hh hK hP hD0 [0, 1, 2, 3] (by decide) rfl (ci := 0) rfl 0 rfl) rfl rfl hl.1 rfl (lv_room (Nat.le_of_ble_eq_true rfl)) d_CA_print_3 ⟨(Nat.le_of_ble_eq_true rfl), (Nat.le_of_ble_eq_true rfl)⟩) (fun H locs hP hS => ?_)
  refine lv_astore_nN (lv' := [(3, .null), (0, .ref h0), (1, .int k), (2, .int w)]) hx hb d_CA_print_6 rfl hl (by decide) rfl (fun ls hl => ?_)
  refine lv_aload_nN hx hb d_CA_print_7 rfl (lv_at hl 0 rfl) ?_
  refine lv_ifnonnullN hx hb d_CA_print_8 ?_
  refine lv_iconst (v := (-1)) hx hb d_CA_print_11 (by decide) ?_
  exact zPret (post := fun r => r = -1) (v := (-1)) hx hb hr rfl hlocks hS (rfl) d_CA_print_12
set_option maxHeartbeats 4000000 in
set_option maxRecDepth 100000 in
theorem c_CA_billionths_0 (l : Launch) (D : va_G) (tA : Nat → ClassId) (sz : Nat) (h0 : Nat) (fs : List Value) (a0 : Nat) (as : List Value) (ha : fs[11]? = some (.ref a0)) (hka : as[1]? = some (.int 0)) (b0 : Nat) (bs : List Value) (hb9 : fs[12]? = some (.ref b0)) (hkb : bs[1]? = some (.int 0)) (c0 : Nat) (cs : List Value) (hc : fs[14]? = some (.ref c0)) (hkc : cs[1]? = some (.int 0)) (k w : Int32) : zMp l ({ cls := "ChanceArena", name := "billionths", desc := "(II)I" } : Jvm.MethodName) (zW (Jvm.Cond.code ({ cls := "ChanceArena", name := "billionths", desc := "(II)I" } : Jvm.MethodName) prog_1_method_29_code (4 : Nat) (Option.some Jvm.ClassFile.FieldType.int))) { frames := 1, cells := 0, slots := 0, locals := 23 } [.ref h0, .int k, .int w] D tA [(h0, .inr (0, fs)), (a0, .inr (12, as)), (b0, .inr (12, bs)), (c0, .inr (12, cs))] sz (fun r => r = -1) := by
  refine zOpen (Wm := []) (fun A => va_Qi (fun r (_ : Unit) => (fun r => r = -1) r) (fun _ _ => True) A) (lv := [(0, .ref h0), (1, .int k), (2, .int w)]) (by decide) rfl (Nat.le_of_ble_eq_true rfl) rfl ?_
  intro p e s m below meth c A ls hx hb hr hml hh hg hown hlocks hnm hK hA hP hD0 hAw hS hl
  refine lv_aload_n hx hb d_CA_billionths_0 rfl (lv_at hl 0 rfl) ?_
  refine lv_iload_n hx hb d_CA_billionths_1 rfl (lv_at hl 1 rfl) ?_
  refine lv_iload_n hx hb d_CA_billionths_2 rfl (lv_at hl 2 rfl) ?_
  refine zCalln hP hS hA (va_runV (As := [.int k, .int w]) (rest := []) ⟨hx, hb, hml, hown, hg⟩ (c_CA_fractionOf_0 l D tA _ h0 fs a0 as ha hka b0 bs hb9 hkb c0 cs hc hkc k w) (zV 2 hg k5_167 k5_169 ks_CA_fractionOf k1_1 k5_170 rfl rfl (by decide +kernel) ⟨(Nat.le_of_ble_eq_true rfl), (Nat.le_of_ble_eq_true rfl)⟩) (zPreV hh hK hP hD0 [0, 1, 2, 3] (by decide) rfl (ci := 0) rfl 0 rfl) rfl rfl hl.1 rfl (lv_room (Nat.le_of_ble_eq_true rfl)) d_CA_billionths_3 ⟨(Nat.le_of_ble_eq_true rfl), (Nat.le_of_ble_eq_true rfl)⟩) (fun H locs hP hS => ?_)
  refine lv_astore_nN (lv' := [(3, .null), (0, .ref h0), (1, .int k), (2, .int w)]) hx hb d_CA_billionths_6 rfl hl (by decide) rfl (fun ls hl => ?_)
  refine lv_aload_nN hx hb d_CA_billionths_7 rfl (lv_at hl 0 rfl) ?_
  refine lv_ifnonnullN hx hb d_CA_billionths_8 ?_
  refine lv_iconst (v := (-1)) hx hb d_CA_billionths_11 (by decide) ?_
  exact zPret (post := fun r => r = -1) (v := (-1)) hx hb hr rfl hlocks hS (rfl) d_CA_billionths_12
set_option maxHeartbeats 4000000 in
set_option maxRecDepth 100000 in
theorem c_CA_compare_0 (l : Launch) (D : va_G) (tA : Nat → ClassId) (sz : Nat) (h0 : Nat) (fs : List Value) (a0 : Nat) (as : List Value) (ha : fs[11]? = some (.ref a0)) (hka : as[1]? = some (.int 0)) (b0 : Nat) (bs : List Value) (hb9 : fs[12]? = some (.ref b0)) (hkb : bs[1]? = some (.int 0)) (c0 : Nat) (cs : List Value) (hc : fs[14]? = some (.ref c0)) (hkc : cs[1]? = some (.int 0)) (k w k2 w2 : Int32) : zMp l ({ cls := "ChanceArena", name := "compare", desc := "(IIII)I" } : Jvm.MethodName) (zW (Jvm.Cond.code ({ cls := "ChanceArena", name := "compare", desc := "(IIII)I" } : Jvm.MethodName) prog_1_method_28_code (7 : Nat) (Option.some Jvm.ClassFile.FieldType.int))) { frames := 1, cells := 0, slots := 0, locals := 23 } [.ref h0, .int k, .int w, .int k2, .int w2] D tA [(h0, .inr (0, fs)), (a0, .inr (12, as)), (b0, .inr (12, bs)), (c0, .inr (12, cs))] sz (fun r => r = -2) := by
  refine zOpen (Wm := []) (fun A => va_Qi (fun r (_ : Unit) => (fun r => r = -2) r) (fun _ _ => True) A) (lv := [(0, .ref h0), (1, .int k), (2, .int w), (3, .int k2), (4, .int w2)]) (by decide) rfl (Nat.le_of_ble_eq_true rfl) rfl ?_
  intro p e s m below meth c A ls hx hb hr hml hh hg hown hlocks hnm hK hA hP hD0 hAw hS hl
  refine lv_aload_n hx hb d_CA_compare_0 rfl (lv_at hl 0 rfl) ?_
  refine lv_iload_n hx hb d_CA_compare_1 rfl (lv_at hl 1 rfl) ?_
  refine lv_iload_n hx hb d_CA_compare_2 rfl (lv_at hl 2 rfl) ?_
  refine zCalln hP hS hA (va_runV (As := [.int k, .int w]) (rest := []) ⟨hx, hb, hml, hown, hg⟩ (c_CA_fractionOf_0 l D tA _ h0 fs a0 as ha hka b0 bs hb9 hkb c0 cs hc hkc k w) (zV 2 hg k5_167 k5_169 ks_CA_fractionOf k1_1 k5_170 rfl rfl (by decide +kernel) ⟨(Nat.le_of_ble_eq_true rfl), (Nat.le_of_ble_eq_true rfl)⟩) (zPreV hh hK hP hD0 [0, 1, 2, 3] (by decide) rfl (ci := 0) rfl 0 rfl) rfl rfl hl.1 rfl (lv_room (Nat.le_of_ble_eq_true rfl)) d_CA_compare_3 ⟨(Nat.le_of_ble_eq_true rfl), (Nat.le_of_ble_eq_true rfl)⟩) (fun H locs hP hS => ?_)
  refine lv_astoreN (lv' := [(5, .null), (0, .ref h0), (1, .int k), (2, .int w), (3, .int k2), (4, .int w2)]) hx hb d_CA_compare_6 hl (by decide) rfl (fun ls hl => ?_)
  refine lv_aload_n hx hb d_CA_compare_8 rfl (lv_at hl 1 rfl) ?_
  refine lv_iload_n hx hb d_CA_compare_9 rfl (lv_at hl 4 rfl) ?_
  refine lv_iload hx hb d_CA_compare_10 (lv_at hl 5 rfl) ?_
  refine zCalln hP hS hA (va_runV (As := [.int k2, .int w2]) (rest := []) ⟨hx, hb, hml, hown, hg⟩ (c_CA_fractionOf_0 l D tA _ h0 fs a0 as ha hka b0 bs hb9 hkb c0 cs hc hkc k2 w2) (zV 2 hg k5_167 k5_169 ks_CA_fractionOf k1_1 k5_170 rfl rfl (by decide +kernel) ⟨(Nat.le_of_ble_eq_true rfl), (Nat.le_of_ble_eq_true rfl)⟩) (zPreV hh hK hP hD0 [0, 1, 2, 3] (by decide) rfl (ci := 0) rfl 0 rfl) rfl rfl hl.1 rfl (lv_room (Nat.le_of_ble_eq_true rfl)) d_CA_compare_12 ⟨(Nat.le_of_ble_eq_true rfl), (Nat.le_of_ble_eq_true rfl)⟩) (fun H locs hP hS => ?_)
  refine lv_astoreN (lv' := [(6, .null), (5, .null), (0, .ref h0), (1, .int k), (2, .int w), (3, .int k2), (4, .int w2)]) hx hb d_CA_compare_15 hl (by decide) rfl (fun ls hl => ?_)
  refine lv_aloadN hx hb d_CA_compare_17 (lv_at hl 1 rfl) ?_
  refine lv_ifnullN (tgt := 27) hx hb d_CA_compare_19 (by decide) ?_
  refine lv_bipush (v := (-2)) hx hb d_CA_compare_27 (by decide) ?_
  refine lv_goto (tgt := 46) hx hb d_CA_compare_29 (by decide) ?_
  exact zPret (post := fun r => r = -2) (v := (-2)) hx hb hr rfl hlocks hS (rfl) d_CA_compare_46
end
section
/-! Methods that may throw: a contract over both ends (xM), the throw itself, a call in a method with handlers. -/
section Throws
variable {p : Program} {l : Launch} {e : Env} {R : Room} {s : State} {m : MethodId} {args : Array Value} {below : List Frame} {meth : Method} {c : Code} {H : Heap} {locs : List Loc} {cells slots : Nat} {Q : State → Prop}
def xM (l : Launch) (y : MethodName) (ws : List Cond) (rm : Room) (Pc : Array Value → State → Prop) (Qc : Array Value → State → Outcome → State → Prop) (mc ms : Nat) (free : Addr → Prop) : Prop :=
  MetFree l y (headSpec ws rm) Pc (fun _ _ _ _ _ => True) (fun a st o t => Qc a st o t ∧ ∃ L, (st.WarmedH t.vm ∧ st.sameButNew ({ t with vm := st.vm } : State) L mc ms) ∧ ∀ q ∈ L, free q.base)
def xQ (below : List Frame) (Qc : Array Value → State → Outcome → State → Prop) (a : Array Value) (s : State) (mc ms : Nat) (free : Addr → Prop) : State → Prop := fun t =>
  ∃ o, t.status = .running ∧ Ended t below o ∧ Qc a s o t ∧ ∃ L, (s.WarmedH t.vm ∧ s.sameButNew ({ t with vm := s.vm } : State) L mc ms) ∧ ∀ q ∈ L, free q.base
theorem xToQ {Qc : Array Value → State → Outcome → State → Prop} {a : Array Value} {mc ms : Nat} {free : Addr → Prop} {g : JFrame} (h : W p l e R s m args below meth c H locs cells slots (MQ below Qc a s mc ms free) g) : W p l e R s m args below meth c H locs cells slots (xQ below Qc a s mc ms free) g := by
  intro T hT X
  obtain ⟨t, a1, o, b1, b2, b3, L, hF, hL⟩ := h T hT X
  exact ⟨t, a1, o, b1, b2, b3, L, hF.2, hL⟩
theorem xOfW {y : MethodName} {ws ws' : List Cond} {rm : Room} {Pc : Array Value → State → Prop} {Qc : Array Value → State → Outcome → State → Prop} {mc ms : Nat} {free : Addr → Prop} {cc : ByteArray} {maxL : Nat} {ret : Option FieldType}
    (hy : plainName y.cls = true) (hw : ws = Cond.code y cc maxL ret :: ws')
    (body : ∀ p e s m args below meth c s₁, BodyLoose p l y (headSpec ws rm) cc maxL ret e s m args below meth c s₁ → c.maxLocals = maxL → Pc args s →
      W p l e (headSpec ws rm).room s m args below meth c s.heap [] 0 0 (xQ below Qc args s mc ms free) (entryFrame m args maxL)) : xM l y ws rm Pc Qc mc ms free := by
  refine MetFree.of_bodyS (code := cc) (maxLocals := maxL) (ret := ret) hy ?_ ?_
  · intro args s m h hn
    obtain ⟨meth, c, h1, h2, h3, h4, h5, h6, -, -⟩ := Cond.code_spec hn (atoms_spec (ws := ws) h _ (by rw [hw]; exact List.mem_cons_self))
    exact ⟨meth, c, h1, h2, h3, h4, h5, h6⟩
  · intro p e s m args below meth c s₁ B hml hP _
    have hh0 : s₁.heap = s.heap := by rw [B.state]; rfl
    obtain ⟨t, a1, o, b1, b2, b3⟩ := body p e s m args below meth c s₁ B hml hP s₁ hh0 (Stand.of_body B)
    exact ⟨t, o, a1, b1, b2, ⟨b3.1, b3.2⟩⟩
/-- new, dup, <init>, athrow: the method throws; nothing was written before -/
theorem xThrow {cc : ByteArray} {Qc : Array Value → State → Outcome → State → Prop} {free : Addr → Prop} {own cls : String} {names : List String} {ic ix pc nL : Nat} {ls : Array Slot} (hexec : p.tables.exec = Jvm.exec) (hb : c.code = cc) (htr : e.platform.stackTraces = false) (hml : c.maxLocals = nL) (hls : ls.size = nL)
    (hown : s.vm.findClass own = some m.cls) (hlocks : meth.locks = false) (hcls : Bundle.fit cls = true) (hnames : ∀ n ∈ names, Bundle.fit n = true) (h : ∀ a ∈ Bundle.ownAtoms0 own ic cls names, a.before args s = true)
    (hclink : (Cond.classLink own ix cls).before args s = true) (hini : (Cond.initialized cls).before args s = true) (hout : ∀ x ∈ c.exceptionTable.toList, covers x (pc + 7) = false) (hsz : s.heap.size ≤ H.size)
    (hd0 : decode cc pc = .ok (.new ix, 3)) (hd3 : decode cc (pc + 3) = .ok (.dup, 1)) (hd4 : decode cc (pc + 4) = .ok (.invokespecial ic, 3)) (hd7 : decode cc (pc + 7) = .ok (.athrow, 1))
    (hcells : cells + 1 ≤ R.cells) (hslots : slots + 6 ≤ R.slots) (hRf : names.length + 3 < R.frames) (hRl : 8 + (13 * (names.length + 1) + 41) ≤ R.locals)
    (hq : ∀ (t : State) (ce : Cell), t.heap[H.size]? = some ce → ce.vm = .none → s.vm.findClass cls = some ce.cls → (∀ (q : Nat) (c0 : Cell), s.heap[q]? = some c0 → t.heap[q]? = some c0) → s.heap.size ≤ t.heap.size → s.WarmedH t.vm → Qc args s (.threw H.size) t) :
    W p l e R s m args below meth c H [] cells slots (xQ below Qc args s (cells + 1) (slots + 6) free) (F0 m pc ls []) := by
  refine W.newc hexec hb hown hclink (h (.instantiable cls 6) (by simp [Bundle.ownAtoms0])) hini rfl hd0 hcells hslots (fun cC kC h1 h2 h3 h4 => ?_)
  refine lv_dup hexec hb hd3 rfl ?_
  intro T hT X
  obtain ⟨U, st, hrun, hend, hW, hsame, ce, hce, hoc⟩ := X.ctorThrow0 hexec htr hown hcls hnames h (by simp) (a := H.size) h1 h2 (by rw [hT]; simp) hsz (g := F0 m (pc + 3 + 1) ls [.ref H.size, .ref H.size]) rfl (by rw [hml]; exact hls) rfl rfl (rest := []) rfl (by rw [hb]; exact hd4) (by rw [hb]; exact hd7) hout hRf (by
    have h9 : 2 * (F0 m (pc + 3 + 1) ls [Value.ref H.size, Value.ref H.size]).monitorRoom + (([Value.ref H.size] : List Value).map fun v => v.category).sum ≤ 8 := lv_room (Nat.le_of_ble_eq_true rfl)
    omega) hlocks
  exact ⟨U, st, .threw H.size, hrun, hend, hq U ce hce hoc.vm hoc.cls (fun q c0 hq => hsame.old_cell hq) hsame.2.1 hW, [], ⟨hW, hsame⟩, by simp⟩
end Throws
section Catches
variable {p : Program} {l : Launch} {e : Env} {R : Room} {s : State} {m : MethodId} {args : Array Value} {below : List Frame} {meth : Method} {c : Code} {H : Heap} {locs : List Loc} {cells slots : Nat} {Q : State → Prop}
/-- a call that comes back or throws -/
theorem xCallV {y : MethodName} {bytes cc : ByteArray} {maxL nL mc ms n index pc : Nat} {ret : Option FieldType} {ws : List Cond} {rm : Room} {Pc : Array Value → State → Prop} {Qc : Array Value → State → Outcome → State → Prop} {free : Addr → Prop} {Ts : List Cond} {own C : String} {b : Addr} {As rest : List Value} {ls : Array Slot}
    (S : CallFix p m c cc nL s args Ts own) (hM : xM l y ws rm Pc Qc mc ms free) (cw : CallW R s args own C index y bytes maxL ret ws rm mc ms n) (hp : PreV s H C b Pc As)
    (hn : As.length = n) (hsize : ls.size = nL) (hWr : 2 * (F0 m pc ls rest).monitorRoom + (rest.map fun v => v.category).sum ≤ 8) (hdg : decode cc pc = .ok (.invokevirtual index, 3)) (hf : cells + mc ≤ R.cells ∧ slots + ms ≤ R.slots)
    (kr : ∀ (v : Option Value) (st₀ t : State) (L : List Loc), st₀.heap = H → s.WarmedH st₀.vm → (∀ q ∈ L, free q.base) → s.WarmedH t.vm → Qc (Value.ref b :: As).toArray st₀ (.returned v) t → W p l e R s m args below meth c t.heap (locs ++ L) (cells + mc) (slots + ms) Q (F0 m (pc + 3) ls (v.toList ++ rest)))
    (kt : ∀ (x : Addr) (st₀ t : State) (L : List Loc), st₀.heap = H → s.WarmedH st₀.vm → (∀ q ∈ L, free q.base) → s.WarmedH t.vm → Qc (Value.ref b :: As).toArray st₀ (.threw x) t → ∀ T' : State, T'.heap = t.heap → Stand p l e R s m args below meth c T' (locs ++ L) (cells + mc) (slots + ms) → ∃ tt, Steps p.tables e below ((T'.setTop (F0 m pc ls rest)).pushFrame (.throwing x)) tt ∧ Q tt) :
    W p l e R s m args below meth c H locs cells slots Q (F0 m pc ls (As.reverse ++ .ref b :: rest)) := by
  obtain ⟨hexec, hb, hml, hown, hts⟩ := S
  obtain ⟨⟨hrc, hrs, hfr, hlo, hws, hcw, hcode, hini, hy, hlen, hlink⟩, hinst, hsel⟩ := cw
  obtain ⟨hbl, ⟨cellB, hcell, hobj, hcls⟩, hPc⟩ := hp
  intro T hT X
  obtain ⟨mk, methM, hnamed, hmethM, hstM, habM⟩ := Cond.instanceMethod_spec hinst
  obtain ⟨methM', cM, hmethM', -, -, -, -, -, -, hsigM⟩ := Cond.code_spec hnamed hcode
  cases hmethM.symm.trans hmethM'
  obtain ⟨c2, r2, m2, q1, q2, q3, q4, kP, hkP, hkPi⟩ := Cond.selects_spec hsel
  cases hcls.symm.trans q1
  cases (State.methodFound?_of_named hnamed hy).symm.trans q2
  cases hnamed.symm.trans q3
  have hselP : selectMethod e.platform s.vm cellB.cls mk = .method mk := by rw [Launch.admits_selectMethod X.admits]; exact q4
  obtain ⟨vm₁, X₁, hstep₁⟩ := X.invokevirtual hexec hown hlink hnamed hmethM hstM hkP hkPi hy (a := b) (cell := cellB) (by rw [hT]; exact hcell)
    (fun z h => by rw [h] at hobj; cases hobj) hselP hmethM habM hkP hkPi (g := F0 m pc ls (As.reverse ++ .ref b :: rest)) rfl (argsL := As) (rest := rest) (by rw [hn]; exact hlen _ hsigM) rfl (by rw [hb]; exact hdg)
  have hUh : (T.setVm vm₁).heap = H := hT
  generalize T.setVm vm₁ = U at X₁ hstep₁ hUh
  have hnU := X₁.named hnamed
  have hcU : (Cond.code y bytes maxL ret).before (Value.ref b :: As).toArray U = true := hws _ hcw _ _ X₁.warmed
  have hiU : (Cond.initialized y.cls).before (Value.ref b :: As).toArray U = true := word_at X₁.warmed (Or.inl (by first | rfl | simp [Cond.onTables, Cond.keeps, Cond.steady])) hini
  obtain ⟨methY, cY, hmY, hcY, -, hlY, -, -, -, -⟩ := Cond.code_spec hnU hcU
  obtain ⟨kY, hkY, -⟩ := className_of_methodNamed hnU
  have hinitY : kY.init = .initialized := Cond.initialized_spec (findClass_of_methodNamed hnU) hkY hiU
  have hAt : At U (F0 m pc ls rest).method c below := X₁.here
  have hdg' : decode c.code (F0 m pc ls rest).pc = .ok (.invokevirtual index, 3) := by rw [hb]; exact hdg
  have happ : (headSpec ws rm).appliesLoose y e.platform (U.calling (F0 m pc ls rest) mk (Value.ref b :: As).toArray) = true :=
    Spec.appliesLoose_calling (g := F0 m pc ls rest) hAt hdg' hnU hkY hinitY
      (X₁.room_calling (g := F0 m pc ls rest) (R' := rm) (by rw [hml]; exact hsize) hmY hcY hfr (by rw [hlY]; have h9 : 2 * (F0 m pc ls rest).monitorRoom + ((F0 m pc ls rest).stack.map fun v => v.category).sum ≤ 8 := hWr; omega) (by rw [hrc]; exact hf.1) (by rw [hrs]; exact hf.2)) (atoms_intro fun w hw => hws w hw _ _ X₁.warmed)
  obtain ⟨mid, hmid⟩ := hAt.above
  have hfr9 : (U.setTop (F0 m pc ls rest)).frames = (.java (F0 m pc ls rest) :: mid) ++ below := by rw [State.frames_setTop' _ hAt.top, hmid]; rfl
  obtain ⟨o, s₂, hsteps, -, hend, hq⟩ := Steps.callFree hM p X₁.admits X₁.cas X₁.clock (acts := []) hfr9 happ (hbl _ _ _ _ (hPc U hUh X₁.warmed)) trivial
  rw [State.frames_setTop' _ hAt.top, X₁.tail] at hend
  obtain ⟨hqc, L, ⟨hW2, hsame⟩, hL⟩ := hq
  have hw2 : s.WarmedH s₂.vm := State.WarmedH.trans X₁.warmed hW2
  have hst0 : (U.calling (F0 m pc ls rest) mk (Value.ref b :: As).toArray).heap = H := hUh
  have run : ∀ tg, Steps p.tables e below s₂ tg → Steps p.tables e below (T.setTop (F0 m pc ls (As.reverse ++ .ref b :: rest))) tg := fun tg h => hstep₁ _ fun acts => by rw [doInvoke_state]; exact hsteps.trans h
  cases o with
  | returned v =>
    obtain ⟨T', X', hw', -, he⟩ := X₁.outOf (g := F0 m pc ls rest) rfl hdg' hend hW2 hsame
    have hTt : T'.heap = s₂.heap := by rw [he]; rfl
    obtain ⟨t, a1, b1⟩ := kr v _ s₂ L hst0 X₁.warmed hL hw2 hqc T' hTt X'
    exact ⟨t, run _ (by rw [he]; exact a1), b1⟩
  | threw x =>
    obtain ⟨T', X', hw', -, he⟩ := X₁.outOfThrown (g := F0 m pc ls rest) rfl hend hW2 hsame
    have hTt : T'.heap = s₂.heap := by rw [he]; rfl
    obtain ⟨t, a1, b1⟩ := kt x _ s₂ L hst0 X₁.warmed hL hw2 hqc T' hTt X'
    exact ⟨t, run _ (by rw [he]; exact a1), b1⟩
end Catches
end
section
/-! What a throw asks of two statics of Throwable: they lie in a cell that nobody here writes. -/
/-- the static C.n : d holds null or a reference, in a cell below lim -/
def zS (C n d : String) (lim : Nat) (U : State) (H : Heap) : Prop := ∃ (c : ClassId) (k : Class) (i : Nat) (f : Field) (a : Nat) (cell : Cell) (v : Value), U.vm.findClass C = some c ∧ U.fieldFound? C n d = some (c, k, i, f) ∧ f.isStatic = true ∧ k.statics = some a ∧ H[a]? = some cell ∧ cell.vm.isStatics = true ∧ cell.cls = c ∧ f.slot < cell.slots.size ∧ k.staticTypes[f.slot]? = some f.type ∧ cell.slots[f.slot]? = some v ∧ v.isRef = true ∧ a < lim
theorem zS.moved {C n d : String} {lim : Nat} {u U : State} {H : Heap} (hvm : u.vm.Alike U.vm) (h : zS C n d lim u H) : zS C n d lim U H := by
  obtain ⟨c, k, i, f, a, cell, v, h1, h2, h3, h4, h5, h6, h7, h8, h9, h10⟩ := h
  obtain ⟨k9, hi9, he⟩ := State.fieldFound?_setVm hvm h2
  exact ⟨c, k9, i, f, a, cell, v, by rw [hvm.findClass]; exact h1, hi9, h3, by rw [he]; exact h4, h5, h6, h7, h8, by rw [he]; exact h9, h10⟩
theorem zS.kept {C n d : String} {lim : Nat} {U : State} {H H1 : Heap} (h : zS C n d lim U H) (hq : ∀ a : Nat, a < lim → H1[a]? = H[a]?) : zS C n d lim U H1 := by
  obtain ⟨c, k, i, f, a, cell, v, h1, h2, h3, h4, h5, h6, h7, h8, h9, h10, h11, h12⟩ := h
  exact ⟨c, k, i, f, a, cell, v, h1, h2, h3, h4, by rw [hq a h12]; exact h5, h6, h7, h8, h9, h10, h11, h12⟩
theorem zS.lays {C n d : String} {lim : Nat} {s : State} {args : Array Value} (h : zS C n d lim s s.heap) : (Cond.laysStatic C n d).before args s = true := by
  obtain ⟨c, k, i, f, a, cell, v, h1, h2, h3, h4, h5, h6, h7, h8, h9, -⟩ := h
  show (Cond.laysStatic C n d).holds args s none s [] = true
  exact Cond.laysStatic_of h1 h2 h3 h4 h5 h6 h7 h8 h9
theorem zS.isRef {C n d : String} {lim : Nat} {s : State} {args : Array Value} (h : zS C n d lim s s.heap) : (Cond.isRef (.static C n d)).before args s = true := by
  obtain ⟨c, k, i, f, a, cell, v, h1, h2, h3, h4, h5, h6, h7, h8, h9, h10, h11, -⟩ := h
  have he : (Term.static C n d).eval args s none [] s = some v := by
    simp [Term.eval, State.fieldNamed?, h2, h3, h4, h5, h6, h10]
  simp only [Cond.before, Cond.holds, Cond.value, he]
  cases v <;> simp_all [Value.isRef]
theorem zS.of {C n d : String} {s : State} {args : Array Value} (hl : (Cond.laysStatic C n d).before args s = true) (h : (Cond.isRef (.static C n d)).before args s = true) : zS C n d s.heap.size s s.heap := by
  obtain ⟨c, k, i, f, a, cell, h1, h2, h3, h4, h5, h6, h7, h8, h9⟩ := Cond.laysStatic_spec hl
  cases hv : (Term.static C n d).eval args s none [] s with
  | none => simp [Cond.before, Cond.holds, Cond.value, hv] at h
  | some v =>
    obtain ⟨hst9, a9, cell9, ha9, hcell9, -, hslot⟩ := Term.static_spec h2 hv
    cases h4.symm.trans ha9
    cases h5.symm.trans hcell9
    refine ⟨c, k, i, f, a, cell, v, h1, h2, h3, h4, h5, h6, h7, h8, h9, hslot, ?_, (Array.getElem?_eq_some_iff.mp h5).1⟩
    simp only [Cond.before, Cond.holds, Cond.value, hv] at h
    cases v <;> simp_all [Value.isRef]
/-- both statics -/
def zS2 (lim : Nat) (U : State) (H : Heap) : Prop := zS Bundle.tN "UNASSIGNED_STACK" Bundle.steD lim U H ∧ zS Bundle.tN "SUPPRESSED_SENTINEL" Bundle.listD lim U H
theorem zS2.moved {lim : Nat} {u U : State} {H : Heap} (hvm : u.vm.Alike U.vm) (h : zS2 lim u H) : zS2 lim U H := ⟨h.1.moved hvm, h.2.moved hvm⟩
theorem zS2.kept {lim : Nat} {U : State} {H H1 : Heap} (h : zS2 lim U H) (hq : ∀ a : Nat, a < lim → H1[a]? = H[a]?) : zS2 lim U H1 := ⟨h.1.kept hq, h.2.kept hq⟩
def zSpec : List Cond := [.isRef (.static Bundle.tN "UNASSIGNED_STACK" Bundle.steD), .isRef (.static Bundle.tN "SUPPRESSED_SENTINEL" Bundle.listD), .laysStatic Bundle.tN "UNASSIGNED_STACK" Bundle.steD, .laysStatic Bundle.tN "SUPPRESSED_SENTINEL" Bundle.listD]
theorem zS2.words {lim : Nat} {s : State} {args : Array Value} (h : zS2 lim s s.heap) : ∀ w ∈ zSpec, w.before args s = true := by
  intro w hw
  simp only [zSpec, List.mem_cons, List.not_mem_nil, or_false] at hw
  rcases hw with rfl | rfl | rfl | rfl
  · exact h.1.isRef
  · exact h.2.isRef
  · exact h.1.lays
  · exact h.2.lays
abbrev zRun2 : List String := ["java/lang/RuntimeException", "java/lang/Exception"]
set_option maxRecDepth 100000 in
theorem zA_IAE : ∀ w ∈ Bundle.ownAtoms0 "ChanceArena" 119 "java/lang/IllegalArgumentException" zRun2, w ∈ zSpec ∨ (w ∈ tables_1 ∧ zRide w = true) := by decide +kernel
end
section
/-! A contract of a method that throws (on the state that its start describes). -/
set_option maxRecDepth 100000 in
theorem zA_ISE : ∀ w ∈ Bundle.ownAtoms0 "ChanceArena" 151 "java/lang/IllegalStateException" zRun2, w ∈ zSpec ∨ (w ∈ tables_1 ∧ zRide w = true) := by decide +kernel
set_option maxRecDepth 100000 in
theorem zA_IOB : ∀ w ∈ Bundle.ownAtoms0 "ChanceArena" 169 "java/lang/IndexOutOfBoundsException" zRun2, w ∈ zSpec ∨ (w ∈ tables_1 ∧ zRide w = true) := by decide +kernel
/-- it throws an E of which pE holds; all that was there stays -/
def zQt (pE : String → Prop) : Array Value → State → Outcome → State → Prop := fun _ st oc t => ∃ (E : String) (a : Nat) (ce : Cell), pE E ∧ oc = .threw a ∧ t.heap[a]? = some ce ∧ ce.vm = .none ∧ st.vm.findClass E = some ce.cls ∧ (∀ (q : Nat) (c0 : Cell), st.heap[q]? = some c0 → t.heap[q]? = some c0) ∧ st.heap.size ≤ t.heap.size
def zPreX (D : va_G) (tA : Nat → ClassId) (W0 : va_W) (sz lim : Nat) (U : State) : Prop := zPre D tA W0 sz U ∧ zS2 lim U U.heap
abbrev zMt (l : Launch) (y : MethodName) (ws : List Cond) (rm : Room) (av : List Value) (D : va_G) (tA : Nat → ClassId) (W0 : va_W) (sz lim : Nat) (pE : String → Prop) : Prop :=
  xM l y ws rm (va_Pc av (zPreX D tA W0 sz lim)) (zQt pE) 1 6 (fun _ => False)
theorem zBlindX {av : List Value} {D : va_G} {tA : Nat → ClassId} {W0 : va_W} {sz lim : Nat} : FrameBlind (va_Pc av (zPreX D tA W0 sz lim)) := fun a U g mk q => by
  obtain ⟨q0, q1, q2⟩ := q
  exact ⟨q0, (zBlind a U g mk ⟨q0, q1⟩).2, zS2.moved (u := U) (U := U.calling g mk a) (Vm.Alike.refl U.vm) q2⟩
theorem zOpenX {l : Launch} {y : MethodName} {ws ws' : List Cond} {rm : Room} {av : List Value} {D : va_G} {tA : Nat → ClassId} {W0 : va_W} {sz lim : Nat} {pE : String → Prop} {cc : ByteArray} {maxL : Nat} {ret : Option FieldType} {lv : List (Nat × Value)} (htr : l.stackTraces = false)
    (hy : plainName y.cls = true) (hw : ws = Cond.code y cc maxL ret :: ws') (hlen : (lg_sl av).length ≤ maxL) (hlv : lv_args 0 av = lv)
    (body : ∀ (p : Program) (e : Env) (s : State) (m : MethodId) (below : List Frame) (meth : Method) (c : Code) (ls : Array Slot), p.tables.exec = Jvm.exec → e.platform.stackTraces = false → c.code = cc → c.maxLocals = maxL → (∀ x ∈ c.exceptionTable.toList, False) → zH s → (∀ w ∈ lw_R, w.before av.toArray s = true) → s.vm.findClass y.cls = some m.cls → meth.locks = false → va_K D vwCl (zT tA) s → va_P D vwCl W0 s.heap → va_D (fun _ => True) W0 → zS2 lim s s.heap → va_S (fun q => s.heap.size ≤ q) s.heap s.heap [] → lv_has ls maxL lv →
      W p l e rm s m av.toArray below meth c s.heap [] 0 0 (xQ below (zQt pE) av.toArray s 1 6 (fun _ => False)) (F0 m 0 ls [])) :
    zMt l y ws rm av D tA W0 sz lim pE := by
  refine xOfW (cc := cc) (maxL := maxL) (ret := ret) hy hw ?_
  intro p e s m args below meth c s₁ B hml hv
  obtain ⟨rfl, ⟨hsz, hP, hK, hD0, hh⟩, h2⟩ := hv
  have hl := lv_entry av (n := maxL) hlen
  rw [lg_entry_eq]
  generalize (lg_sl av ++ List.replicate (maxL - (lg_sl av).length) Slot.unset).toArray = ls at hl ⊢
  rw [hlv] at hl
  have ht : ∀ x ∈ c.exceptionTable.toList, False := by
    obtain ⟨meth9, c9, h1, h2, -, -, -, -, h7, -⟩ := Cond.code_spec B.named (atoms_spec (ws := ws) B.pre _ (by rw [hw]; exact List.mem_cons_self))
    cases Option.some.inj (h1.symm.trans B.method)
    cases Option.some.inj (h2.symm.trans (Stand.of_body B).code)
    intro x hx
    rw [Array.isEmpty_iff.mp h7] at hx
    cases hx
  have hpl : e.platform.stackTraces = false := by rw [(Stand.of_body B).admits.platform]; exact htr
  exact body p e s m below meth c ls B.exec hpl B.bytes hml ht hh (hh.use _) (findClass_of_methodNamed B.named) B.notSynchronized hK hP hD0 h2 va_S.rf hl
theorem zThrow {p : Program} {l : Launch} {e : Env} {R : Room} {s : State} {m : MethodId} {args : Array Value} {below : List Frame} {meth : Method} {c : Code} {H : Heap} {locs : List Loc} {pE : String → Prop} {cc : ByteArray} {cls : String} {ic ix pc nL lim : Nat} {ls : Array Slot} (hx : p.tables.exec = Jvm.exec) (htr : e.platform.stackTraces = false) (hb : c.code = cc) (hml : c.maxLocals = nL) (hls : ls.size = nL) (ht : ∀ x ∈ c.exceptionTable.toList, False) (hh : zH s) (hg : ∀ w ∈ lw_R, w.before args s = true) (hown : s.vm.findClass "ChanceArena" = some m.cls) (hlocks : meth.locks = false) (h2 : zS2 lim s s.heap) (hS : va_S (fun q => s.heap.size ≤ q) s.heap H locs)
    (hcls : Bundle.fit cls = true) (hat : ∀ w ∈ Bundle.ownAtoms0 "ChanceArena" ic cls zRun2, w ∈ zSpec ∨ (w ∈ tables_1 ∧ zRide w = true)) (k1 : Cond.classLink "ChanceArena" ix cls ∈ lw_R) (k2 : Cond.initialized cls ∈ lw_R)
    (hd0 : decode cc pc = .ok (.new ix, 3)) (hd3 : decode cc (pc + 3) = .ok (.dup, 1)) (hd4 : decode cc (pc + 4) = .ok (.invokespecial ic, 3)) (hd7 : decode cc (pc + 7) = .ok (.athrow, 1)) (hRc : 1 ≤ R.cells) (hRs : 6 ≤ R.slots) (hRf : 6 ≤ R.frames) (hRl : 88 ≤ R.locals) (hE : pE cls) :
    W p l e R s m args below meth c H locs 0 0 (xQ below (zQt pE) args s 1 6 (fun _ => False)) (F0 m pc ls []) := by
  refine va_forget (fun q hq => hS.2.2 q hq) ?_
  refine xThrow (cells := 0) (slots := 0) (names := zRun2) hx hb htr hml hls hown hlocks hcls (by decide) (fun w hw => (hat w hw).elim (fun h => h2.words w h) (fun h => hh.use _ w (zR (List.mem_append_right _ h.1) h.2))) (hg _ k1) (hg _ k2) (fun x h => absurd (ht x h) id) hS.1 hd0 hd3 hd4 hd7 (by omega) (by omega) (by show 2 + 3 < R.frames; omega) (by show 8 + (13 * (2 + 1) + 41) ≤ R.locals; omega) ?_
  intro t ce h1 h3 h4 h5 h6 h7
  exact ⟨cls, H.size, ce, hE, rfl, h1, h3, h4, h5, h6⟩
end
section
theorem k1_25 : (Jvm.Cond.initialized "java/lang/IllegalArgumentException") ∈ lw_R := zR (zk_1 _ (List.mem_of_getElem? (i := 25) (by decide +kernel))) rfl
theorem k1_33 : (Jvm.Cond.initialized "java/lang/IllegalStateException") ∈ lw_R := zR (zk_1 _ (List.mem_of_getElem? (i := 33) (by decide +kernel))) rfl
theorem k1_34 : (Jvm.Cond.initialized "java/lang/IndexOutOfBoundsException") ∈ lw_R := zR (zk_1 _ (List.mem_of_getElem? (i := 34) (by decide +kernel))) rfl
theorem k7_179 : (Jvm.Cond.code ({ cls := "ChanceArena", name := "end", desc := "(I)I" } : Jvm.MethodName) prog_1_method_5_code (2 : Nat) (Option.some Jvm.ClassFile.FieldType.int)) ∈ lw_R := zR (zk_7 _ (List.mem_of_getElem? (i := 179) (by decide +kernel))) rfl
theorem k7_180 : (Jvm.Cond.classLink "ChanceArena" (117 : Nat) "java/lang/IllegalArgumentException") ∈ lw_R := zR (zk_7 _ (List.mem_of_getElem? (i := 180) (by decide +kernel))) rfl
theorem k7_198 : (Jvm.Cond.code ({ cls := "ChanceArena", name := "explore", desc := "()I" } : Jvm.MethodName) prog_1_method_10_code (2 : Nat) (Option.some Jvm.ClassFile.FieldType.int)) ∈ lw_R := zR (zk_7 _ (List.mem_of_getElem? (i := 198) (by decide +kernel))) rfl
theorem k7_199 : (Jvm.Cond.classLink "ChanceArena" (149 : Nat) "java/lang/IllegalStateException") ∈ lw_R := zR (zk_7 _ (List.mem_of_getElem? (i := 199) (by decide +kernel))) rfl
theorem k8_34 : (Jvm.Cond.code ({ cls := "ChanceArena", name := "variable", desc := "(II)I" } : Jvm.MethodName) prog_1_method_13_code (3 : Nat) (Option.some Jvm.ClassFile.FieldType.int)) ∈ lw_R := zR (zk_8 _ (List.mem_of_getElem? (i := 34) (by decide +kernel))) rfl
theorem k8_35 : (Jvm.Cond.classLink "ChanceArena" (167 : Nat) "java/lang/IndexOutOfBoundsException") ∈ lw_R := zR (zk_8 _ (List.mem_of_getElem? (i := 35) (by decide +kernel))) rfl
theorem k8_56 : (Jvm.Cond.code ({ cls := "ChanceArena", name := "solve", desc := "()I" } : Jvm.MethodName) prog_1_method_19_code (2 : Nat) (Option.some Jvm.ClassFile.FieldType.int)) ∈ lw_R := zR (zk_8 _ (List.mem_of_getElem? (i := 56) (by decide +kernel))) rfl
theorem k8_163 : (Jvm.Cond.code ({ cls := "ChanceArena", name := "within", desc := "(I)I" } : Jvm.MethodName) prog_1_method_20_code (4 : Nat) (Option.some Jvm.ClassFile.FieldType.int)) ∈ lw_R := zR (zk_8 _ (List.mem_of_getElem? (i := 163) (by decide +kernel))) rfl
theorem k8_183 : (Jvm.Cond.code ({ cls := "ChanceArena", name := "choose", desc := "(II)V" } : Jvm.MethodName) prog_1_method_21_code (3 : Nat) (Option.none : Option Jvm.ClassFile.FieldType)) ∈ lw_R := zR (zk_8 _ (List.mem_of_getElem? (i := 183) (by decide +kernel))) rfl
theorem k8_190 : (Jvm.Cond.code ({ cls := "ChanceArena", name := "adopt", desc := "()V" } : Jvm.MethodName) prog_1_method_22_code (2 : Nat) (Option.none : Option Jvm.ClassFile.FieldType)) ∈ lw_R := zR (zk_8 _ (List.mem_of_getElem? (i := 190) (by decide +kernel))) rfl
theorem k8_198 : (Jvm.Cond.code ({ cls := "ChanceArena", name := "judge", desc := "(I)I" } : Jvm.MethodName) prog_1_method_23_code (2 : Nat) (Option.some Jvm.ClassFile.FieldType.int)) ∈ lw_R := zR (zk_8 _ (List.mem_of_getElem? (i := 198) (by decide +kernel))) rfl
theorem d_CA_end_0 : decode prog_1_method_5_code 0 = .ok (.iload_n 1, 1) := by decide +kernel
theorem d_CA_end_1 : decode prog_1_method_5_code 1 = .ok (.ifCond .lt 18, 3) := by decide +kernel
theorem d_CA_end_19 : decode prog_1_method_5_code 19 = .ok (.new 117, 3) := by decide +kernel
theorem d_CA_end_22 : decode prog_1_method_5_code 22 = .ok (.dup, 1) := by decide +kernel
theorem d_CA_end_23 : decode prog_1_method_5_code 23 = .ok (.invokespecial 119, 3) := by decide +kernel
theorem d_CA_end_26 : decode prog_1_method_5_code 26 = .ok (.athrow, 1) := by decide +kernel
theorem d_CA_end_4 : decode prog_1_method_5_code 4 = .ok (.iload_n 1, 1) := by decide +kernel
theorem d_CA_end_5 : decode prog_1_method_5_code 5 = .ok (.bipush 20, 2) := by decide +kernel
theorem d_CA_end_7 : decode prog_1_method_5_code 7 = .ok (.if_icmp .gt 12, 3) := by decide +kernel
theorem d_CA_end_10 : decode prog_1_method_5_code 10 = .ok (.aload_n 0, 1) := by decide +kernel
theorem d_CA_end_11 : decode prog_1_method_5_code 11 = .ok (.getfield 13, 3) := by decide +kernel
theorem d_CA_end_14 : decode prog_1_method_5_code 14 = .ok (.bipush 20, 2) := by decide +kernel
theorem d_CA_end_16 : decode prog_1_method_5_code 16 = .ok (.if_icmp .ge 11, 3) := by decide +kernel
theorem d_CA_explore_0 : decode prog_1_method_10_code 0 = .ok (.aload_n 0, 1) := by decide +kernel
theorem d_CA_explore_1 : decode prog_1_method_10_code 1 = .ok (.getfield 41, 3) := by decide +kernel
theorem d_CA_explore_4 : decode prog_1_method_10_code 4 = .ok (.ifCond .ne 11, 3) := by decide +kernel
theorem d_CA_explore_7 : decode prog_1_method_10_code 7 = .ok (.new 149, 3) := by decide +kernel
theorem d_CA_explore_10 : decode prog_1_method_10_code 10 = .ok (.dup, 1) := by decide +kernel
theorem d_CA_explore_11 : decode prog_1_method_10_code 11 = .ok (.invokespecial 151, 3) := by decide +kernel
theorem d_CA_explore_14 : decode prog_1_method_10_code 14 = .ok (.athrow, 1) := by decide +kernel
theorem d_CA_solve_0 : decode prog_1_method_19_code 0 = .ok (.aload_n 0, 1) := by decide +kernel
theorem d_CA_solve_1 : decode prog_1_method_19_code 1 = .ok (.getfield 54, 3) := by decide +kernel
theorem d_CA_solve_4 : decode prog_1_method_19_code 4 = .ok (.getfield 160, 3) := by decide +kernel
theorem d_CA_solve_7 : decode prog_1_method_19_code 7 = .ok (.ifCond .ne 11, 3) := by decide +kernel
theorem d_CA_solve_10 : decode prog_1_method_19_code 10 = .ok (.new 149, 3) := by decide +kernel
theorem d_CA_solve_13 : decode prog_1_method_19_code 13 = .ok (.dup, 1) := by decide +kernel
theorem d_CA_solve_14 : decode prog_1_method_19_code 14 = .ok (.invokespecial 151, 3) := by decide +kernel
theorem d_CA_solve_17 : decode prog_1_method_19_code 17 = .ok (.athrow, 1) := by decide +kernel
theorem d_CA_adopt_0 : decode prog_1_method_22_code 0 = .ok (.aload_n 0, 1) := by decide +kernel
theorem d_CA_adopt_1 : decode prog_1_method_22_code 1 = .ok (.getfield 70, 3) := by decide +kernel
theorem d_CA_adopt_4 : decode prog_1_method_22_code 4 = .ok (.getfield 137, 3) := by decide +kernel
theorem d_CA_adopt_7 : decode prog_1_method_22_code 7 = .ok (.ifCond .ne 11, 3) := by decide +kernel
theorem d_CA_adopt_10 : decode prog_1_method_22_code 10 = .ok (.new 149, 3) := by decide +kernel
theorem d_CA_adopt_13 : decode prog_1_method_22_code 13 = .ok (.dup, 1) := by decide +kernel
theorem d_CA_adopt_14 : decode prog_1_method_22_code 14 = .ok (.invokespecial 151, 3) := by decide +kernel
theorem d_CA_adopt_17 : decode prog_1_method_22_code 17 = .ok (.athrow, 1) := by decide +kernel
theorem d_CA_variable_0 : decode prog_1_method_13_code 0 = .ok (.aload_n 0, 1) := by decide +kernel
theorem d_CA_variable_1 : decode prog_1_method_13_code 1 = .ok (.getfield 54, 3) := by decide +kernel
theorem d_CA_variable_4 : decode prog_1_method_13_code 4 = .ok (.iload_n 1, 1) := by decide +kernel
theorem d_CA_variable_5 : decode prog_1_method_13_code 5 = .ok (.invokevirtual 163, 3) := by decide +kernel
theorem d_CA_variable_8 : decode prog_1_method_13_code 8 = .ok (.ifCond .eq 18, 3) := by decide +kernel
theorem d_CA_variable_26 : decode prog_1_method_13_code 26 = .ok (.new 167, 3) := by decide +kernel
theorem d_CA_variable_29 : decode prog_1_method_13_code 29 = .ok (.dup, 1) := by decide +kernel
theorem d_CA_variable_30 : decode prog_1_method_13_code 30 = .ok (.invokespecial 169, 3) := by decide +kernel
theorem d_CA_variable_33 : decode prog_1_method_13_code 33 = .ok (.athrow, 1) := by decide +kernel
theorem d_CA_choose_0 : decode prog_1_method_21_code 0 = .ok (.aload_n 0, 1) := by decide +kernel
theorem d_CA_choose_1 : decode prog_1_method_21_code 1 = .ok (.getfield 54, 3) := by decide +kernel
theorem d_CA_choose_4 : decode prog_1_method_21_code 4 = .ok (.iload_n 1, 1) := by decide +kernel
theorem d_CA_choose_5 : decode prog_1_method_21_code 5 = .ok (.iload_n 2, 1) := by decide +kernel
theorem d_CA_choose_6 : decode prog_1_method_21_code 6 = .ok (.invokevirtual 180, 3) := by decide +kernel
theorem d_CA_choose_9 : decode prog_1_method_21_code 9 = .ok (.iconst (-1), 1) := by decide +kernel
theorem d_CA_choose_10 : decode prog_1_method_21_code 10 = .ok (.if_icmp .ne 11, 3) := by decide +kernel
theorem d_CA_choose_13 : decode prog_1_method_21_code 13 = .ok (.new 167, 3) := by decide +kernel
theorem d_CA_choose_16 : decode prog_1_method_21_code 16 = .ok (.dup, 1) := by decide +kernel
theorem d_CA_choose_17 : decode prog_1_method_21_code 17 = .ok (.invokespecial 169, 3) := by decide +kernel
theorem d_CA_choose_20 : decode prog_1_method_21_code 20 = .ok (.athrow, 1) := by decide +kernel
theorem d_CA_within_0 : decode prog_1_method_20_code 0 = .ok (.iload_n 1, 1) := by decide +kernel
theorem d_CA_within_1 : decode prog_1_method_20_code 1 = .ok (.ifCond .lt 9, 3) := by decide +kernel
theorem d_CA_within_10 : decode prog_1_method_20_code 10 = .ok (.new 117, 3) := by decide +kernel
theorem d_CA_within_13 : decode prog_1_method_20_code 13 = .ok (.dup, 1) := by decide +kernel
theorem d_CA_within_14 : decode prog_1_method_20_code 14 = .ok (.invokespecial 119, 3) := by decide +kernel
theorem d_CA_within_17 : decode prog_1_method_20_code 17 = .ok (.athrow, 1) := by decide +kernel
theorem d_CA_within_4 : decode prog_1_method_20_code 4 = .ok (.iload_n 1, 1) := by decide +kernel
theorem d_CA_within_5 : decode prog_1_method_20_code 5 = .ok (.bipush 32, 2) := by decide +kernel
theorem d_CA_within_7 : decode prog_1_method_20_code 7 = .ok (.if_icmp .le 11, 3) := by decide +kernel
theorem d_CA_within_18 : decode prog_1_method_20_code 18 = .ok (.aload_n 0, 1) := by decide +kernel
theorem d_CA_within_19 : decode prog_1_method_20_code 19 = .ok (.getfield 54, 3) := by decide +kernel
theorem d_CA_within_22 : decode prog_1_method_20_code 22 = .ok (.getfield 160, 3) := by decide +kernel
theorem d_CA_within_25 : decode prog_1_method_20_code 25 = .ok (.ifCond .ne 11, 3) := by decide +kernel
theorem d_CA_within_28 : decode prog_1_method_20_code 28 = .ok (.new 149, 3) := by decide +kernel
theorem d_CA_within_31 : decode prog_1_method_20_code 31 = .ok (.dup, 1) := by decide +kernel
theorem d_CA_within_32 : decode prog_1_method_20_code 32 = .ok (.invokespecial 151, 3) := by decide +kernel
theorem d_CA_within_35 : decode prog_1_method_20_code 35 = .ok (.athrow, 1) := by decide +kernel
theorem d_CA_judge_0 : decode prog_1_method_23_code 0 = .ok (.iload_n 1, 1) := by decide +kernel
theorem d_CA_judge_1 : decode prog_1_method_23_code 1 = .ok (.iconst 1, 1) := by decide +kernel
theorem d_CA_judge_2 : decode prog_1_method_23_code 2 = .ok (.if_icmp .eq 16, 3) := by decide +kernel
theorem d_CA_judge_18 : decode prog_1_method_23_code 18 = .ok (.aload_n 0, 1) := by decide +kernel
theorem d_CA_judge_19 : decode prog_1_method_23_code 19 = .ok (.getfield 54, 3) := by decide +kernel
theorem d_CA_judge_22 : decode prog_1_method_23_code 22 = .ok (.getfield 160, 3) := by decide +kernel
theorem d_CA_judge_25 : decode prog_1_method_23_code 25 = .ok (.ifCond .ne 11, 3) := by decide +kernel
theorem d_CA_judge_28 : decode prog_1_method_23_code 28 = .ok (.new 149, 3) := by decide +kernel
theorem d_CA_judge_31 : decode prog_1_method_23_code 31 = .ok (.dup, 1) := by decide +kernel
theorem d_CA_judge_32 : decode prog_1_method_23_code 32 = .ok (.invokespecial 151, 3) := by decide +kernel
theorem d_CA_judge_35 : decode prog_1_method_23_code 35 = .ok (.athrow, 1) := by decide +kernel
theorem d_CA_judge_5 : decode prog_1_method_23_code 5 = .ok (.iload_n 1, 1) := by decide +kernel
theorem d_CA_judge_6 : decode prog_1_method_23_code 6 = .ok (.iconst 2, 1) := by decide +kernel
theorem d_CA_judge_7 : decode prog_1_method_23_code 7 = .ok (.if_icmp .eq 11, 3) := by decide +kernel
theorem d_CA_judge_10 : decode prog_1_method_23_code 10 = .ok (.new 117, 3) := by decide +kernel
theorem d_CA_judge_13 : decode prog_1_method_23_code 13 = .ok (.dup, 1) := by decide +kernel
theorem d_CA_judge_14 : decode prog_1_method_23_code 14 = .ok (.invokespecial 119, 3) := by decide +kernel
theorem d_CA_judge_17 : decode prog_1_method_23_code 17 = .ok (.athrow, 1) := by decide +kernel
set_option maxHeartbeats 4000000 in
set_option maxRecDepth 100000 in
theorem c_CA_end_0 (l : Launch) (htr : l.stackTraces = false) (D : va_G) (tA : Nat → ClassId) (sz lim : Nat) (h0 : Nat) (fs : List Value) (n : Int32) (ht0 : fs[1]? = some (.int 0)) : zMt l ({ cls := "ChanceArena", name := "end", desc := "(I)I" } : Jvm.MethodName) (zW (Jvm.Cond.code ({ cls := "ChanceArena", name := "end", desc := "(I)I" } : Jvm.MethodName) prog_1_method_5_code (2 : Nat) (Option.some Jvm.ClassFile.FieldType.int))) { frames := 6, cells := 1, slots := 6, locals := 88 } [.ref h0, .int n] D tA [(h0, .inr (0, fs))] sz lim (fun E => E = "java/lang/IllegalArgumentException") := by
  refine zOpenX (lv := [(0, .ref h0), (1, .int n)]) htr (by decide) rfl (Nat.le_of_ble_eq_true rfl) rfl ?_
  intro p e s m below meth c ls hx htp hb hml ht hh hg hown hlocks hK hP hD0 h2 hS hl
  have hA : ∀ q, s.heap.size ≤ q → (fun q => s.heap.size ≤ q) q := fun _ h => h
  refine lv_iload_n hx hb d_CA_end_0 rfl (lv_at hl 1 rfl) ?_
  refine lv_if_lt (tgt := 19) hx hb d_CA_end_1 (by decide) (fun c1 => ?_) (fun c1 => ?_)
  · exact zThrow hx htp hb hml hl.1 ht hh hg hown hlocks h2 hS (by decide) zA_IAE k7_180 k1_25 d_CA_end_19 d_CA_end_22 d_CA_end_23 d_CA_end_26 (Nat.le_of_ble_eq_true rfl) (Nat.le_of_ble_eq_true rfl) (Nat.le_of_ble_eq_true rfl) (Nat.le_of_ble_eq_true rfl) (rfl)
  · refine lv_iload_n hx hb d_CA_end_4 rfl (lv_at hl 1 rfl) ?_
    refine lv_bipush (v := 20) hx hb d_CA_end_5 (by decide) ?_
    refine lv_icmp_gt (tgt := 19) hx hb d_CA_end_7 (by decide) (fun c7 => ?_) (fun c7 => ?_)
    · exact zThrow hx htp hb hml hl.1 ht hh hg hown hlocks h2 hS (by decide) zA_IAE k7_180 k1_25 d_CA_end_19 d_CA_end_22 d_CA_end_23 d_CA_end_26 (Nat.le_of_ble_eq_true rfl) (Nat.le_of_ble_eq_true rfl) (Nat.le_of_ble_eq_true rfl) (Nat.le_of_ble_eq_true rfl) (rfl)
    · refine lv_aload_n hx hb d_CA_end_10 rfl (lv_at hl 0 rfl) ?_
      refine va_get (D := D) (ci := 0) (v := .int 0) (C := R_CA) (T := T_CA) (N := 19) hx hb hg i_CA hown hK hP 0 rfl rfl 1 (by decide) (hg _ k3_176) (fun _ h9 => h9) ht0 d_CA_end_11 ?_
      refine lv_bipush (v := 20) hx hb d_CA_end_14 (by decide) ?_
      refine lv_icmp_ge (tgt := 27) hx hb d_CA_end_16 (by decide) (fun c16 => absurd c16 (by decide)) (fun c16 => ?_)
      exact zThrow hx htp hb hml hl.1 ht hh hg hown hlocks h2 hS (by decide) zA_IAE k7_180 k1_25 d_CA_end_19 d_CA_end_22 d_CA_end_23 d_CA_end_26 (Nat.le_of_ble_eq_true rfl) (Nat.le_of_ble_eq_true rfl) (Nat.le_of_ble_eq_true rfl) (Nat.le_of_ble_eq_true rfl) (rfl)
set_option maxHeartbeats 4000000 in
set_option maxRecDepth 100000 in
theorem c_CA_explore_0 (l : Launch) (htr : l.stackTraces = false) (D : va_G) (tA : Nat → ClassId) (sz lim : Nat) (h0 : Nat) (fs : List Value) (ht0 : fs[6]? = some (.int 0)) : zMt l ({ cls := "ChanceArena", name := "explore", desc := "()I" } : Jvm.MethodName) (zW (Jvm.Cond.code ({ cls := "ChanceArena", name := "explore", desc := "()I" } : Jvm.MethodName) prog_1_method_10_code (2 : Nat) (Option.some Jvm.ClassFile.FieldType.int))) { frames := 6, cells := 1, slots := 6, locals := 88 } [.ref h0] D tA [(h0, .inr (0, fs))] sz lim (fun E => E = "java/lang/IllegalStateException") := by
  refine zOpenX (lv := [(0, .ref h0)]) htr (by decide) rfl (Nat.le_of_ble_eq_true rfl) rfl ?_
  intro p e s m below meth c ls hx htp hb hml ht hh hg hown hlocks hK hP hD0 h2 hS hl
  have hA : ∀ q, s.heap.size ≤ q → (fun q => s.heap.size ≤ q) q := fun _ h => h
  refine lv_aload_n hx hb d_CA_explore_0 rfl (lv_at hl 0 rfl) ?_
  refine va_get (D := D) (ci := 0) (v := .int 0) (C := R_CA) (T := T_CA) (N := 19) hx hb hg i_CA hown hK hP 0 rfl rfl 6 (by decide) (hg _ k3_181) (fun _ h9 => h9) ht0 d_CA_explore_1 ?_
  refine lv_if_ne (tgt := 15) hx hb d_CA_explore_4 (by decide) (fun c4 => absurd rfl c4) (fun c4 => ?_)
  exact zThrow hx htp hb hml hl.1 ht hh hg hown hlocks h2 hS (by decide) zA_ISE k7_199 k1_33 d_CA_explore_7 d_CA_explore_10 d_CA_explore_11 d_CA_explore_14 (Nat.le_of_ble_eq_true rfl) (Nat.le_of_ble_eq_true rfl) (Nat.le_of_ble_eq_true rfl) (Nat.le_of_ble_eq_true rfl) (rfl)
set_option maxHeartbeats 4000000 in
set_option maxRecDepth 100000 in
theorem c_CA_solve_0 (l : Launch) (htr : l.stackTraces = false) (D : va_G) (tA : Nat → ClassId) (sz lim : Nat) (h0 g0 : Nat) (fs gs : List Value) (hgm : fs[9]? = some (.ref g0)) (hv : gs[0]? = some (.int 0)) : zMt l ({ cls := "ChanceArena", name := "solve", desc := "()I" } : Jvm.MethodName) (zW (Jvm.Cond.code ({ cls := "ChanceArena", name := "solve", desc := "()I" } : Jvm.MethodName) prog_1_method_19_code (2 : Nat) (Option.some Jvm.ClassFile.FieldType.int))) { frames := 6, cells := 1, slots := 6, locals := 88 } [.ref h0] D tA [(h0, .inr (0, fs)), (g0, .inr (6, gs))] sz lim (fun E => E = "java/lang/IllegalStateException") := by
  refine zOpenX (lv := [(0, .ref h0)]) htr (by decide) rfl (Nat.le_of_ble_eq_true rfl) rfl ?_
  intro p e s m below meth c ls hx htp hb hml ht hh hg hown hlocks hK hP hD0 h2 hS hl
  have hA : ∀ q, s.heap.size ≤ q → (fun q => s.heap.size ≤ q) q := fun _ h => h
  refine lv_aload_n hx hb d_CA_solve_0 rfl (lv_at hl 0 rfl) ?_
  refine va_get (D := D) (ci := 0) (v := .ref g0) (C := R_CA) (T := T_CA) (N := 19) hx hb hg i_CA hown hK hP 0 rfl rfl 9 (by decide) (hg _ k3_184) (fun _ h9 => h9) hgm d_CA_solve_1 ?_
  refine va_get (D := D) (ci := 6) (v := .int 0) (C := R_Ga) (T := T_Ga) (N := 19) hx hb hg i_Ga hown hK hP 1 rfl rfl 0 (by decide) (hg _ k2_138) (fun _ h9 => h9) hv d_CA_solve_4 ?_
  refine lv_if_ne (tgt := 18) hx hb d_CA_solve_7 (by decide) (fun c7 => absurd rfl c7) (fun c7 => ?_)
  exact zThrow hx htp hb hml hl.1 ht hh hg hown hlocks h2 hS (by decide) zA_ISE k7_199 k1_33 d_CA_solve_10 d_CA_solve_13 d_CA_solve_14 d_CA_solve_17 (Nat.le_of_ble_eq_true rfl) (Nat.le_of_ble_eq_true rfl) (Nat.le_of_ble_eq_true rfl) (Nat.le_of_ble_eq_true rfl) (rfl)
set_option maxHeartbeats 4000000 in
set_option maxRecDepth 100000 in
theorem c_CA_adopt_0 (l : Launch) (htr : l.stackTraces = false) (D : va_G) (tA : Nat → ClassId) (sz lim : Nat) (h0 : Nat) (fs : List Value) (v0 : Nat) (vs : List Value) (hvl : fs[11]? = some (.ref v0)) (hkv : vs[1]? = some (.int 0)) : zMt l ({ cls := "ChanceArena", name := "adopt", desc := "()V" } : Jvm.MethodName) (zW (Jvm.Cond.code ({ cls := "ChanceArena", name := "adopt", desc := "()V" } : Jvm.MethodName) prog_1_method_22_code (2 : Nat) (Option.none : Option Jvm.ClassFile.FieldType))) { frames := 6, cells := 1, slots := 6, locals := 88 } [.ref h0] D tA [(h0, .inr (0, fs)), (v0, .inr (12, vs))] sz lim (fun E => E = "java/lang/IllegalStateException") := by
  refine zOpenX (lv := [(0, .ref h0)]) htr (by decide) rfl (Nat.le_of_ble_eq_true rfl) rfl ?_
  intro p e s m below meth c ls hx htp hb hml ht hh hg hown hlocks hK hP hD0 h2 hS hl
  have hA : ∀ q, s.heap.size ≤ q → (fun q => s.heap.size ≤ q) q := fun _ h => h
  refine lv_aload_n hx hb d_CA_adopt_0 rfl (lv_at hl 0 rfl) ?_
  refine va_get (D := D) (ci := 0) (v := .ref v0) (C := R_CA) (T := T_CA) (N := 19) hx hb hg i_CA hown hK hP 0 rfl rfl 11 (by decide) (hg _ k3_186) (fun _ h9 => h9) hvl d_CA_adopt_1 ?_
  refine va_get (D := D) (ci := 12) (v := .int 0) (C := R_Fs) (T := T_Fs) (N := 2) hx hb hg i_Fs hown hK hP 1 rfl rfl 1 (by decide) (hg _ k3_165) (fun _ h9 => h9) hkv d_CA_adopt_4 ?_
  refine lv_if_ne (tgt := 18) hx hb d_CA_adopt_7 (by decide) (fun c7 => absurd rfl c7) (fun c7 => ?_)
  exact zThrow hx htp hb hml hl.1 ht hh hg hown hlocks h2 hS (by decide) zA_ISE k7_199 k1_33 d_CA_adopt_10 d_CA_adopt_13 d_CA_adopt_14 d_CA_adopt_17 (Nat.le_of_ble_eq_true rfl) (Nat.le_of_ble_eq_true rfl) (Nat.le_of_ble_eq_true rfl) (Nat.le_of_ble_eq_true rfl) (rfl)
set_option maxHeartbeats 4000000 in
set_option maxRecDepth 100000 in
theorem c_CA_variable_0 (l : Launch) (htr : l.stackTraces = false) (D : va_G) (tA : Nat → ClassId) (sz lim : Nat) (h0 g0 : Nat) (fs gs : List Value) (hgm : fs[9]? = some (.ref g0)) (hv : gs[0]? = some (.int (nI 0))) (k v : Int32) : zMt l ({ cls := "ChanceArena", name := "variable", desc := "(II)I" } : Jvm.MethodName) (zW (Jvm.Cond.code ({ cls := "ChanceArena", name := "variable", desc := "(II)I" } : Jvm.MethodName) prog_1_method_13_code (3 : Nat) (Option.some Jvm.ClassFile.FieldType.int))) { frames := 6, cells := 1, slots := 6, locals := 88 } [.ref h0, .int k, .int v] D tA [(h0, .inr (0, fs)), (g0, .inr (6, gs))] sz lim (fun E => E = "java/lang/IndexOutOfBoundsException") := by
  refine zOpenX (lv := [(0, .ref h0), (1, .int k), (2, .int v)]) htr (by decide) rfl (Nat.le_of_ble_eq_true rfl) rfl ?_
  intro p e s m below meth c ls hx htp hb hml ht hh hg hown hlocks hK hP hD0 h2 hS hl
  have hA : ∀ q, s.heap.size ≤ q → (fun q => s.heap.size ≤ q) q := fun _ h => h
  refine lv_aload_n hx hb d_CA_variable_0 rfl (lv_at hl 0 rfl) ?_
  refine va_get (D := D) (ci := 0) (v := .ref g0) (C := R_CA) (T := T_CA) (N := 19) hx hb hg i_CA hown hK hP 0 rfl rfl 9 (by decide) (hg _ k3_184) (fun _ h9 => h9) hgm d_CA_variable_1 ?_
  refine lv_iload_n hx hb d_CA_variable_4 rfl (lv_at hl 1 rfl) ?_
  refine zCallp hP hS hA (va_runV (As := [.int k]) (rest := []) ⟨hx, hb, hml, hown, hg⟩ (c_Ga_hasState l D tA _ g0 gs (nI 0) k hv) (zV 1 hg k5_137 k5_138 k5_139 k1_7 k5_140 rfl rfl (by decide +kernel) ⟨(Nat.le_of_ble_eq_true rfl), (Nat.le_of_ble_eq_true rfl)⟩) (zPreV hh hK hP hD0 [1] (by decide) rfl (ci := 6) rfl 0 rfl) rfl rfl hl.1 rfl (lv_room (Nat.le_of_ble_eq_true rfl)) d_CA_variable_5 ⟨(Nat.le_of_ble_eq_true rfl), (Nat.le_of_ble_eq_true rfl)⟩) (fun r5 H locs er5 hP hS => ?_)
  refine lv_if_eq (tgt := 26) hx hb d_CA_variable_8 (by decide) (fun c8 => ?_) (fun c8 => absurd (zHS0 er5) c8)
  exact zThrow hx htp hb hml hl.1 ht hh hg hown hlocks h2 hS (by decide) zA_IOB k8_35 k1_34 d_CA_variable_26 d_CA_variable_29 d_CA_variable_30 d_CA_variable_33 (Nat.le_of_ble_eq_true rfl) (Nat.le_of_ble_eq_true rfl) (Nat.le_of_ble_eq_true rfl) (Nat.le_of_ble_eq_true rfl) (rfl)
set_option maxHeartbeats 4000000 in
set_option maxRecDepth 100000 in
theorem c_CA_choose_0 (l : Launch) (htr : l.stackTraces = false) (D : va_G) (tA : Nat → ClassId) (sz lim : Nat) (h0 g0 : Nat) (fs gs : List Value) (hgm : fs[9]? = some (.ref g0)) (hv : gs[0]? = some (.int (nI 0))) (fa : Nat) (ff : Nat → Int32) (hf : gs[4]? = some (.ref fa)) (k i : Int32) : zMt l ({ cls := "ChanceArena", name := "choose", desc := "(II)V" } : Jvm.MethodName) (zW (Jvm.Cond.code ({ cls := "ChanceArena", name := "choose", desc := "(II)V" } : Jvm.MethodName) prog_1_method_21_code (3 : Nat) (Option.none : Option Jvm.ClassFile.FieldType))) { frames := 6, cells := 1, slots := 6, locals := 88 } [.ref h0, .int k, .int i] D tA [(h0, .inr (0, fs)), (g0, .inr (6, gs)), (fa, .inl (tA 0, 513, .inl ff))] sz lim (fun E => E = "java/lang/IndexOutOfBoundsException") := by
  refine zOpenX (lv := [(0, .ref h0), (1, .int k), (2, .int i)]) htr (by decide) rfl (Nat.le_of_ble_eq_true rfl) rfl ?_
  intro p e s m below meth c ls hx htp hb hml ht hh hg hown hlocks hK hP hD0 h2 hS hl
  have hA : ∀ q, s.heap.size ≤ q → (fun q => s.heap.size ≤ q) q := fun _ h => h
  refine lv_aload_n hx hb d_CA_choose_0 rfl (lv_at hl 0 rfl) ?_
  refine va_get (D := D) (ci := 0) (v := .ref g0) (C := R_CA) (T := T_CA) (N := 19) hx hb hg i_CA hown hK hP 0 rfl rfl 9 (by decide) (hg _ k3_184) (fun _ h9 => h9) hgm d_CA_choose_1 ?_
  refine lv_iload_n hx hb d_CA_choose_4 rfl (lv_at hl 1 rfl) ?_
  refine lv_iload_n hx hb d_CA_choose_5 rfl (lv_at hl 2 rfl) ?_
  refine zCallp hP hS hA (va_runV (As := [.int k, .int i]) (rest := []) ⟨hx, hb, hml, hown, hg⟩ (c_Ga_commandAt l D tA _ g0 fa gs 0 k i ff (by decide) hv hf) (zV 2 hg k5_149 k5_150 k5_151 k1_7 k5_152 rfl rfl (by decide +kernel) ⟨(Nat.le_of_ble_eq_true rfl), (Nat.le_of_ble_eq_true rfl)⟩) (zPreV hh hK hP hD0 [1, 2] (by decide) rfl (ci := 6) rfl 0 rfl) rfl rfl hl.1 rfl (lv_room (Nat.le_of_ble_eq_true rfl)) d_CA_choose_6 ⟨(Nat.le_of_ble_eq_true rfl), (Nat.le_of_ble_eq_true rfl)⟩) (fun r6 H locs er6 hP hS => ?_)
  refine lv_iconst (v := (-1)) hx hb d_CA_choose_9 (by decide) ?_
  refine lv_icmp_ne (tgt := 21) hx hb d_CA_choose_10 (by decide) (fun c10 => absurd (zCA0 er6) c10) (fun c10 => ?_)
  exact zThrow hx htp hb hml hl.1 ht hh hg hown hlocks h2 hS (by decide) zA_IOB k8_35 k1_34 d_CA_choose_13 d_CA_choose_16 d_CA_choose_17 d_CA_choose_20 (Nat.le_of_ble_eq_true rfl) (Nat.le_of_ble_eq_true rfl) (Nat.le_of_ble_eq_true rfl) (Nat.le_of_ble_eq_true rfl) (rfl)
set_option maxHeartbeats 4000000 in
set_option maxRecDepth 100000 in
theorem c_CA_within_0 (l : Launch) (htr : l.stackTraces = false) (D : va_G) (tA : Nat → ClassId) (sz lim : Nat) (h0 g0 : Nat) (fs gs : List Value) (hgm : fs[9]? = some (.ref g0)) (hv : gs[0]? = some (.int 0)) (n : Int32) : zMt l ({ cls := "ChanceArena", name := "within", desc := "(I)I" } : Jvm.MethodName) (zW (Jvm.Cond.code ({ cls := "ChanceArena", name := "within", desc := "(I)I" } : Jvm.MethodName) prog_1_method_20_code (4 : Nat) (Option.some Jvm.ClassFile.FieldType.int))) { frames := 6, cells := 1, slots := 6, locals := 88 } [.ref h0, .int n] D tA [(h0, .inr (0, fs)), (g0, .inr (6, gs))] sz lim (fun E => E = if n < 0 ∨ ¬ n ≤ 32 then "java/lang/IllegalArgumentException" else "java/lang/IllegalStateException") := by
  refine zOpenX (lv := [(0, .ref h0), (1, .int n)]) htr (by decide) rfl (Nat.le_of_ble_eq_true rfl) rfl ?_
  intro p e s m below meth c ls hx htp hb hml ht hh hg hown hlocks hK hP hD0 h2 hS hl
  have hA : ∀ q, s.heap.size ≤ q → (fun q => s.heap.size ≤ q) q := fun _ h => h
  refine lv_iload_n hx hb d_CA_within_0 rfl (lv_at hl 1 rfl) ?_
  refine lv_if_lt (tgt := 10) hx hb d_CA_within_1 (by decide) (fun c1 => ?_) (fun c1 => ?_)
  · exact zThrow hx htp hb hml hl.1 ht hh hg hown hlocks h2 hS (by decide) zA_IAE k7_180 k1_25 d_CA_within_10 d_CA_within_13 d_CA_within_14 d_CA_within_17 (Nat.le_of_ble_eq_true rfl) (Nat.le_of_ble_eq_true rfl) (Nat.le_of_ble_eq_true rfl) (Nat.le_of_ble_eq_true rfl) ((if_pos (Or.inl c1)).symm)
  · refine lv_iload_n hx hb d_CA_within_4 rfl (lv_at hl 1 rfl) ?_
    refine lv_bipush (v := 32) hx hb d_CA_within_5 (by decide) ?_
    refine lv_icmp_le (tgt := 18) hx hb d_CA_within_7 (by decide) (fun c7 => ?_) (fun c7 => ?_)
    · refine lv_aload_n hx hb d_CA_within_18 rfl (lv_at hl 0 rfl) ?_
      refine va_get (D := D) (ci := 0) (v := .ref g0) (C := R_CA) (T := T_CA) (N := 19) hx hb hg i_CA hown hK hP 0 rfl rfl 9 (by decide) (hg _ k3_184) (fun _ h9 => h9) hgm d_CA_within_19 ?_
      refine va_get (D := D) (ci := 6) (v := .int 0) (C := R_Ga) (T := T_Ga) (N := 19) hx hb hg i_Ga hown hK hP 1 rfl rfl 0 (by decide) (hg _ k2_138) (fun _ h9 => h9) hv d_CA_within_22 ?_
      refine lv_if_ne (tgt := 36) hx hb d_CA_within_25 (by decide) (fun c25 => absurd rfl c25) (fun c25 => ?_)
      exact zThrow hx htp hb hml hl.1 ht hh hg hown hlocks h2 hS (by decide) zA_ISE k7_199 k1_33 d_CA_within_28 d_CA_within_31 d_CA_within_32 d_CA_within_35 (Nat.le_of_ble_eq_true rfl) (Nat.le_of_ble_eq_true rfl) (Nat.le_of_ble_eq_true rfl) (Nat.le_of_ble_eq_true rfl) ((if_neg (fun h => h.elim (fun h => c1 h) (fun h => h c7))).symm)
    · exact zThrow hx htp hb hml hl.1 ht hh hg hown hlocks h2 hS (by decide) zA_IAE k7_180 k1_25 d_CA_within_10 d_CA_within_13 d_CA_within_14 d_CA_within_17 (Nat.le_of_ble_eq_true rfl) (Nat.le_of_ble_eq_true rfl) (Nat.le_of_ble_eq_true rfl) (Nat.le_of_ble_eq_true rfl) ((if_pos (Or.inr c7)).symm)
set_option maxHeartbeats 4000000 in
set_option maxRecDepth 100000 in
theorem c_CA_judge_0 (l : Launch) (htr : l.stackTraces = false) (D : va_G) (tA : Nat → ClassId) (sz lim : Nat) (h0 g0 : Nat) (fs gs : List Value) (hgm : fs[9]? = some (.ref g0)) (hv : gs[0]? = some (.int 0)) (n : Int32) : zMt l ({ cls := "ChanceArena", name := "judge", desc := "(I)I" } : Jvm.MethodName) (zW (Jvm.Cond.code ({ cls := "ChanceArena", name := "judge", desc := "(I)I" } : Jvm.MethodName) prog_1_method_23_code (2 : Nat) (Option.some Jvm.ClassFile.FieldType.int))) { frames := 6, cells := 1, slots := 6, locals := 88 } [.ref h0, .int n] D tA [(h0, .inr (0, fs)), (g0, .inr (6, gs))] sz lim (fun E => E = if n = 1 ∨ n = 2 then "java/lang/IllegalStateException" else "java/lang/IllegalArgumentException") := by
  refine zOpenX (lv := [(0, .ref h0), (1, .int n)]) htr (by decide) rfl (Nat.le_of_ble_eq_true rfl) rfl ?_
  intro p e s m below meth c ls hx htp hb hml ht hh hg hown hlocks hK hP hD0 h2 hS hl
  have hA : ∀ q, s.heap.size ≤ q → (fun q => s.heap.size ≤ q) q := fun _ h => h
  refine lv_iload_n hx hb d_CA_judge_0 rfl (lv_at hl 1 rfl) ?_
  refine lv_iconst (v := 1) hx hb d_CA_judge_1 (by decide) ?_
  refine lv_icmp_eq (tgt := 18) hx hb d_CA_judge_2 (by decide) (fun c2 => ?_) (fun c2 => ?_)
  · refine lv_aload_n hx hb d_CA_judge_18 rfl (lv_at hl 0 rfl) ?_
    refine va_get (D := D) (ci := 0) (v := .ref g0) (C := R_CA) (T := T_CA) (N := 19) hx hb hg i_CA hown hK hP 0 rfl rfl 9 (by decide) (hg _ k3_184) (fun _ h9 => h9) hgm d_CA_judge_19 ?_
    refine va_get (D := D) (ci := 6) (v := .int 0) (C := R_Ga) (T := T_Ga) (N := 19) hx hb hg i_Ga hown hK hP 1 rfl rfl 0 (by decide) (hg _ k2_138) (fun _ h9 => h9) hv d_CA_judge_22 ?_
    refine lv_if_ne (tgt := 36) hx hb d_CA_judge_25 (by decide) (fun c25 => absurd rfl c25) (fun c25 => ?_)
    exact zThrow hx htp hb hml hl.1 ht hh hg hown hlocks h2 hS (by decide) zA_ISE k7_199 k1_33 d_CA_judge_28 d_CA_judge_31 d_CA_judge_32 d_CA_judge_35 (Nat.le_of_ble_eq_true rfl) (Nat.le_of_ble_eq_true rfl) (Nat.le_of_ble_eq_true rfl) (Nat.le_of_ble_eq_true rfl) ((if_pos (Or.inl c2)).symm)
  · refine lv_iload_n hx hb d_CA_judge_5 rfl (lv_at hl 1 rfl) ?_
    refine lv_iconst (v := 2) hx hb d_CA_judge_6 (by decide) ?_
    refine lv_icmp_eq (tgt := 18) hx hb d_CA_judge_7 (by decide) (fun c7 => ?_) (fun c7 => ?_)
    · refine lv_aload_n hx hb d_CA_judge_18 rfl (lv_at hl 0 rfl) ?_
      refine va_get (D := D) (ci := 0) (v := .ref g0) (C := R_CA) (T := T_CA) (N := 19) hx hb hg i_CA hown hK hP 0 rfl rfl 9 (by decide) (hg _ k3_184) (fun _ h9 => h9) hgm d_CA_judge_19 ?_
      refine va_get (D := D) (ci := 6) (v := .int 0) (C := R_Ga) (T := T_Ga) (N := 19) hx hb hg i_Ga hown hK hP 1 rfl rfl 0 (by decide) (hg _ k2_138) (fun _ h9 => h9) hv d_CA_judge_22 ?_
      refine lv_if_ne (tgt := 36) hx hb d_CA_judge_25 (by decide) (fun c25 => absurd rfl c25) (fun c25 => ?_)
      exact zThrow hx htp hb hml hl.1 ht hh hg hown hlocks h2 hS (by decide) zA_ISE k7_199 k1_33 d_CA_judge_28 d_CA_judge_31 d_CA_judge_32 d_CA_judge_35 (Nat.le_of_ble_eq_true rfl) (Nat.le_of_ble_eq_true rfl) (Nat.le_of_ble_eq_true rfl) (Nat.le_of_ble_eq_true rfl) ((if_pos (Or.inr c7)).symm)
    · exact zThrow hx htp hb hml hl.1 ht hh hg hown hlocks h2 hS (by decide) zA_IAE k7_180 k1_25 d_CA_judge_10 d_CA_judge_13 d_CA_judge_14 d_CA_judge_17 (Nat.le_of_ble_eq_true rfl) (Nat.le_of_ble_eq_true rfl) (Nat.le_of_ble_eq_true rfl) (Nat.le_of_ble_eq_true rfl) ((if_neg (fun h => h.elim (fun h => c2 h) (fun h => c7 h))).symm)
end
section
/-! An exception that comes out of a call is caught here: the row's class may be resolved by the search itself. -/
def xFinds (e : Env) (s : State) (f : JFrame) (a : Addr) (h : Handler) (vm9 : Vm) : Prop :=
  ∀ (Q : Handler → Pre) (E : CtlPost) (d : Bool) (acts : List Action), wp (findHandler f a) Q E e d acts s ↔ Q h d acts (s.setVm vm9)
section Go
variable {Q : Handler → Pre} {E : CtlPost} {e : Env} {d : Bool} {acts : List Action} {s : State} {f : JFrame} {a : Addr}
/-- a row that covers the place: its class is resolved; the object is of it, or the search goes on -/
theorem xGo {x : ExceptionTableEntry} {t : List ExceptionTableEntry} {c : ClassId} {cell : Cell} (hx : covers x f.pc = true) (h0 : x.catchType ≠ 0)
    (hl : s.vm.ClassLinks e.platform f.method.cls x.catchType c) (hcell : s.heap[a]? = some cell) (hobj : ∀ k, cell.vm ≠ .statics k)
    (hk : ∃ k, s.vm.classes[cell.cls]? = some k) (hc : ∃ k, s.vm.classes[c]? = some k) {b : Bool} (hfit : s.vm.assignable cell.cls c = b) :
    wp (findHandler.go f a (x :: t)) Q E e d acts s ↔ if b = true then Q (.found x.handlerPc) d acts (s.setVm (s.vm.noted f.method.cls x.catchType (.cls c))) else wp (findHandler.go f a t) Q E e d acts (s.setVm (s.vm.noted f.method.cls x.catchType (.cls c))) := by
  simp only [covers] at hx
  obtain ⟨ha, ht⟩ := (resolveClass_links e.toSetting hl).op (op := VmOp.resolveClass f.method.cls x.catchType) rfl
  have hal : s.vm.Alike (s.vm.noted f.method.cls x.catchType (.cls c)) := (Vm.Alike.refl s.vm).noted _ _ _
  obtain ⟨k1, hk1⟩ := hk
  obtain ⟨k2, hk2⟩ := hc
  obtain ⟨k3, hk3, -⟩ := hal.2.2 _ _ hk1
  obtain ⟨k4, hk4, -⟩ := hal.2.2 _ _ hk2
  have hfit9 : (s.vm.noted f.method.cls x.catchType (.cls c)).assignable cell.cls c = b := by rw [hal.assignable]; exact hfit
  cases b <;> simp [findHandler.go, hx, h0, ha, ht, hcell, hobj, hk3, hk4, hfit9, VmOp.dirties, VmOp.acts]
end Go
theorem xStep {e : Env} {s : State} {a : Addr} {f : JFrame} {r : List Frame} {pc : Nat} {vm9 : Vm} (hfind : xFinds e s f a (.found pc) vm9) :
    (stepThrowing e s a (.java f :: r)).Is ((s.setVm vm9).setFrames (.java { f with pc := pc, stack := [.ref a] } :: r)) [] := by
  simp only [stepThrowing, searchFrame, vmDo]
  generalize hr : Sem.go _ e false [] s = res
  obtain ⟨as, rfl, ha⟩ := Sem.eq_ok_of hr (a := Handler.found pc) (s' := s.setVm vm9) (acts' := []) (by simp [hfind _ _ _ _])
  exact ⟨rfl, ha⟩
theorem xSteps {tb : Tables} {e : Env} {s target : State} {g : JFrame} {c : Code} {below : List Frame} {a : Addr} (h : At s g.method c below) {pc : Nat} {vm9 : Vm}
    (hfind : xFinds e ((s.setTop g).pushFrame (.throwing a)) g a (.found pc) vm9) (hrest : Steps tb e below ((s.setVm vm9).setTop { g with pc := pc, stack := [.ref a] }) target) :
    Steps tb e below ((s.setTop g).pushFrame (.throwing a)) target := by
  obtain ⟨hgo, hw⟩ := h.throwing a
  refine Steps.head hgo hw ?_
  rw [stepThread_throwing (frames_entered h.top _), (xStep (s := (s.setTop g).pushFrame (.throwing a)) hfind).1]
  obtain ⟨g₀, hg⟩ := Option.isSome_iff_exists.mp h.top
  obtain ⟨r, hr⟩ := State.topJava?_eq_some.mp hg
  have hr9 : (s.setVm vm9).frames = .java g₀ :: r := hr
  have hff : ∀ (u : State) (F G : List Frame), ((u.setFrames F).setVm vm9).setFrames G = (u.setVm vm9).setFrames G := fun u F G => by
    have h1 : (u.setFrames F).setVm vm9 = (u.setVm vm9).setFrames F := rfl
    rw [h1, State.setFrames_setFrames]
  rw [State.setTop_of_frames _ hr9] at hrest
  rw [hr, List.tail_cons, State.pushFrame, hff, State.setTop_of_frames _ hr, hff]
  exact hrest
section Caught
variable {p : Program} {l : Launch} {e : Env} {R : Room} {s : State} {m : MethodId} {args : Array Value} {below : List Frame} {meth : Method} {c : Code} {T : State} {H : Heap} {locs : List Loc} {cells slots : Nat} {Q : State → Prop}
/-- the first row takes it -/
theorem xCatch1 {own name E : String} {a pc : Nat} {ls : Array Slot} {rest : List Value} (hown : s.vm.findClass own = some m.cls) (x : ExceptionTableEntry) (more : List ExceptionTableEntry) (hsplit : c.exceptionTable.toList = x :: more) (hx : covers x pc = true) (h0 : x.catchType ≠ 0)
    (hlink : (Cond.classLink own x.catchType name).before args s = true) (hcast : (Cond.castable E name).before args s = true) {ce : Cell} (hcell : H[a]? = some ce) (hv : ce.vm = .none) (hE : s.vm.findClass E = some ce.cls)
    (kk : W p l e R s m args below meth c H locs cells slots Q (F0 m x.handlerPc ls [.ref a])) (hT : T.heap = H) (X : Stand p l e R s m args below meth c T locs cells slots) :
    ∃ t, Steps p.tables e below ((T.setTop (F0 m pc ls rest)).pushFrame (.throwing a)) t ∧ Q t := by
  have hpl : e.platform.magicAccessors = ({} : Platform).magicAccessors := by rw [X.admits.platform]
  obtain ⟨c3, cT, hc3, hcT, hasg⟩ := Cond.castable_spec hcast
  cases hE.symm.trans hc3
  obtain ⟨c4, hc4, hcl⟩ := Cond.classLink_spec hown hlink e.platform hpl
  cases hcT.symm.trans hc4
  obtain ⟨dk, _, _, kt, hd, _, _, _, _, hkt, _, hopen⟩ := hcl.here
  have hcl₀ := X.warmed.classLinks hcl
  have hW9 : s.WarmedH (T.vm.noted m.cls x.catchType (.cls cT)) := X.warmed.noted hd hopen (State.rightAt_cls hcl)
  have hal := X.warmed.alike
  obtain ⟨kt9, hkt9, -⟩ := hal.2.2 _ _ hkt
  have hfit : T.vm.assignable ce.cls cT = true := by rw [hal.assignable]; exact hasg
  obtain ⟨t, a1, b1⟩ := kk (T.setVm (T.vm.noted m.cls x.catchType (.cls cT))) hT (X.noted hW9)
  refine ⟨t, ?_, b1⟩
  refine xSteps (g := F0 m pc ls rest) X.here ?_ a1
  intro Q9 E9 d9 acts9
  rw [Jvm.W.findHandler_eq (meth := meth) (code := c) X.method' X.code, hsplit]
  rw [xGo (s := (T.setTop (F0 m pc ls rest)).pushFrame (.throwing a)) (f := F0 m pc ls rest) (c := cT) (cell := ce) (b := true) hx h0 hcl₀ (by show T.heap[a]? = _; rw [hT]; exact hcell) (VmData.ne_statics_of (by rw [hv]; rfl)) (Vm.classAt_of_assignable hfit ⟨kt9, hkt9⟩) ⟨kt9, hkt9⟩ hfit]
  rw [if_pos rfl]
  exact Iff.rfl
/-- the first row doesn't take it, the second does -/
theorem xCatch2 {own name1 name E : String} {a pc : Nat} {ls : Array Slot} {rest : List Value} (hown : s.vm.findClass own = some m.cls) (x1 x : ExceptionTableEntry) (more : List ExceptionTableEntry) (hsplit : c.exceptionTable.toList = x1 :: x :: more) (hx1 : covers x1 pc = true) (h01 : x1.catchType ≠ 0) (hx : covers x pc = true) (h0 : x.catchType ≠ 0)
    (hlink1 : (Cond.classLink own x1.catchType name1).before args s = true) (hno : va_Nc E name1 s) (hlink : (Cond.classLink own x.catchType name).before args s = true) (hcast : (Cond.castable E name).before args s = true) {ce : Cell} (hcell : H[a]? = some ce) (hv : ce.vm = .none) (hE : s.vm.findClass E = some ce.cls)
    (kk : W p l e R s m args below meth c H locs cells slots Q (F0 m x.handlerPc ls [.ref a])) (hT : T.heap = H) (X : Stand p l e R s m args below meth c T locs cells slots) :
    ∃ t, Steps p.tables e below ((T.setTop (F0 m pc ls rest)).pushFrame (.throwing a)) t ∧ Q t := by
  have hpl : e.platform.magicAccessors = ({} : Platform).magicAccessors := by rw [X.admits.platform]
  obtain ⟨c3, cT, hc3, hcT, hasg⟩ := Cond.castable_spec hcast
  cases hE.symm.trans hc3
  obtain ⟨c4, hc4, hcl⟩ := Cond.classLink_spec hown hlink e.platform hpl
  cases hcT.symm.trans hc4
  obtain ⟨c5, hc5, hcl1⟩ := Cond.classLink_spec hown hlink1 e.platform hpl
  obtain ⟨a8, b8, n1, n2, n3⟩ := hno
  cases n1.symm.trans hE
  cases n2.symm.trans hc5
  obtain ⟨dk1, _, _, kt1, hd1, _, _, _, _, hkt1, _, hopen1⟩ := hcl1.here
  obtain ⟨dk, _, _, kt, hd, _, _, _, _, hkt, _, hopen⟩ := hcl.here
  have hcl₁ := X.warmed.classLinks hcl1
  have hW1 : s.WarmedH (T.vm.noted m.cls x1.catchType (.cls c5)) := X.warmed.noted hd1 hopen1 (State.rightAt_cls hcl1)
  have X1 := X.noted hW1
  have hcl₂ : (T.vm.noted m.cls x1.catchType (.cls c5)).ClassLinks e.platform m.cls x.catchType cT := X1.warmed.classLinks hcl
  have hW2 : s.WarmedH ((T.vm.noted m.cls x1.catchType (.cls c5)).noted m.cls x.catchType (.cls cT)) := X1.warmed.noted hd hopen (State.rightAt_cls hcl)
  obtain ⟨k1, hk1, -⟩ := X.warmed.alike.2.2 _ _ hkt1
  have hal : s.vm.Alike (T.vm.noted m.cls x1.catchType (.cls c5)) := hW1.alike
  obtain ⟨k2, hk2, -⟩ := hal.2.2 _ _ hkt
  have hfit1 : T.vm.assignable ce.cls c5 = false := by rw [X.warmed.alike.assignable]; exact n3
  have hfit2 : (T.vm.noted m.cls x1.catchType (.cls c5)).assignable ce.cls cT = true := by rw [hal.assignable]; exact hasg
  obtain ⟨kc, hkc, -⟩ := Vm.findClass_spec hE
  obtain ⟨kc1, hkc1, -⟩ := X.warmed.alike.2.2 _ _ hkc
  obtain ⟨t, a1, b1⟩ := kk (T.setVm ((T.vm.noted m.cls x1.catchType (.cls c5)).noted m.cls x.catchType (.cls cT))) hT (X.noted hW2)
  refine ⟨t, ?_, b1⟩
  refine xSteps (g := F0 m pc ls rest) X.here ?_ a1
  intro Q9 E9 d9 acts9
  rw [Jvm.W.findHandler_eq (meth := meth) (code := c) X.method' X.code, hsplit]
  rw [xGo (s := (T.setTop (F0 m pc ls rest)).pushFrame (.throwing a)) (f := F0 m pc ls rest) (c := c5) (cell := ce) (b := false) hx1 h01 hcl₁ (by show T.heap[a]? = _; rw [hT]; exact hcell) (VmData.ne_statics_of (by rw [hv]; rfl)) ⟨kc1, hkc1⟩ ⟨k1, hk1⟩ hfit1]
  rw [if_neg (by decide)]
  rw [xGo (f := F0 m pc ls rest) (c := cT) (cell := ce) (b := true) hx h0 hcl₂ (by show T.heap[a]? = _; rw [hT]; exact hcell) (VmData.ne_statics_of (by rw [hv]; rfl)) (Vm.classAt_of_assignable hfit2 ⟨k2, hk2⟩) ⟨k2, hk2⟩ hfit2]
  rw [if_pos rfl]
  exact Iff.rfl
end Caught
end
section
/-! The law's helpers: a call that throws, caught. -/
theorem zOpenW {l : Launch} {y : MethodName} {ws ws' : List Cond} {rm : Room} {av : List Value} {D : va_G} {tA : Nat → ClassId} {W0 : va_W} {sz lim : Nat} {post : Int32 → Prop} {cc : ByteArray} {maxL : Nat} {ret : Option FieldType} {hs : List (Nat × Nat × Nat × Nat)} {lv : List (Nat × Value)}
    (hy : plainName y.cls = true) (hw : ws = Cond.codeWith y cc maxL ret hs :: ws') (hlen : (lg_sl av).length ≤ maxL) (hlv : lv_args 0 av = lv)
    (body : ∀ (p : Program) (e : Env) (s : State) (m : MethodId) (below : List Frame) (meth : Method) (c : Code) (A : Nat → Prop) (ls : Array Slot), p.tables.exec = Jvm.exec → c.code = cc → meth.sig.returnType = ret → c.maxLocals = maxL → c.exceptionTable.toList = tableOf hs → zH s → (∀ w ∈ lw_R, w.before av.toArray s = true) → s.vm.findClass y.cls = some m.cls → meth.locks = false → va_K D vwCl (zT tA) s → (∀ q, s.heap.size ≤ q → A q) → va_P D vwCl W0 s.heap → va_D (fun _ => True) W0 → zS2 lim s s.heap → va_S A s.heap s.heap [] → lv_has ls maxL lv →
      W p l e rm s m av.toArray below meth c s.heap [] 0 0 (MQ below (va_Qi (fun r (_ : Unit) => post r) (fun _ _ => True) A) av.toArray s 1 6 A) (F0 m 0 ls [])) :
    Met l y ws rm (va_Pc av (zPreX D tA W0 sz lim)) (va_Qi (fun r (_ : Unit) => post r) (fun _ _ => True) (va_A [] sz)) 1 6 (va_A [] sz) := by
  refine va_MetW (cc := cc) (maxL := maxL) (ret := ret) (hh := hs) hy hw ?_
  intro p e s m args below meth c s₁ B hml hv
  obtain ⟨rfl, ⟨hsz, hP, hK, hD0, hh⟩, h2⟩ := hv
  subst hsz
  have hl := lv_entry av (n := maxL) hlen
  rw [lg_entry_eq]
  generalize (lg_sl av ++ List.replicate (maxL - (lg_sl av).length) Slot.unset).toArray = ls at hl ⊢
  rw [hlv] at hl
  have ht : c.exceptionTable.toList = tableOf hs := by
    obtain ⟨m9, meth9, c9, hn9, h1, h2, -, -, h6, -⟩ := Cond.codeWith_spec (atoms_spec (ws := ws) B.pre _ (by rw [hw]; exact List.mem_cons_self))
    cases Option.some.inj (hn9.symm.trans B.named)
    cases Option.some.inj (h1.symm.trans B.method)
    cases Option.some.inj (h2.symm.trans (Stand.of_body B).code)
    rw [← h6, table_eq]
  exact body p e s m below meth c _ ls B.exec B.bytes B.returns hml ht hh (hh.use _) (findClass_of_methodNamed B.named) B.notSynchronized hK (fun q h => Or.inr h) hP hD0 h2 va_S.rf hl
section Help
variable {p : Program} {l : Launch} {e : Env} {R : Room} {s : State} {m : MethodId} {args : Array Value} {below : List Frame} {meth : Method} {c : Code} {H : Heap} {locs : List Loc} {cells slots : Nat} {Q : State → Prop}
theorem zPreVX {D : va_G} {tA : Nat → ClassId} {A : Nat → Prop} {ws wc : va_W} {b lim : Nat} {As : List Value} (hh : zH s) (hK : va_K D vwCl (zT tA) s) (h2 : zS2 lim s H) (hP : va_P D vwCl ws H) (hD : va_D A ws) (isC : List Nat) (hn : va_nd isC = true) (hC : isC.map (fun i => ws[i]?) = wc.map some) {ci : Nat} {r : vw_C} (hc : vwCl[ci]? = some r) (q0 : Nat) {fs : List Value} (he : wc[q0]? = some (b, .inr (ci, fs))) : PreV s H r.1 b (va_Pc (.ref b :: As) (zPreX D tA wc H.size lim)) As :=
  ⟨zBlindX, va_recv hK (zPc hP isC hC) hc he, fun U hU hW => ⟨rfl, ⟨by rw [hU], by rw [hU]; exact zPc hP isC hC, va_K.moved hW.alike hK, (hD.sub isC hn hC).weaken (fun _ _ _ _ => trivial), zH.moved hW hh⟩, by rw [hU]; exact h2.moved hW.alike⟩⟩
theorem zCallX {y : MethodName} {bytes cc : ByteArray} {maxL nL n index pc lim : Nat} {ret : Option FieldType} {ws : List Cond} {rm : Room} {Ts : List Cond} {own C : String} {b : Addr} {As rest : List Value} {ls : Array Slot} {D : va_G} {tA : Nat → ClassId} {A : Nat → Prop} {wc : va_W} {pE : String → Prop}
    (S : CallFix p m c cc nL s args Ts own) (hM : zMt l y ws rm (.ref b :: As) D tA wc H.size lim pE) (cw : CallW R s args own C index y bytes maxL ret ws rm 1 6 n) (hp : PreV s H C b (va_Pc (.ref b :: As) (zPreX D tA wc H.size lim)) As)
    (hn : As.length = n) (hsize : ls.size = nL) (hWr : 2 * (F0 m pc ls rest).monitorRoom + (rest.map fun v => v.category).sum ≤ 8) (hdg : decode cc pc = .ok (.invokevirtual index, 3)) (hf : cells + 1 ≤ R.cells ∧ slots + 6 ≤ R.slots) (hS : va_S A s.heap H locs)
    (kt : ∀ (E : String) (a : Nat) (ce : Cell) (H1 : Heap) (locs1 : List Loc), pE E → H1[a]? = some ce → ce.vm = .none → s.vm.findClass E = some ce.cls → va_S A s.heap H1 locs1 → ∀ T9 : State, T9.heap = H1 → Stand p l e R s m args below meth c T9 locs1 (cells + 1) (slots + 6) → ∃ tt, Steps p.tables e below ((T9.setTop (F0 m pc ls rest)).pushFrame (.throwing a)) tt ∧ Q tt) :
    W p l e R s m args below meth c H locs cells slots Q (F0 m pc ls (As.reverse ++ .ref b :: rest)) := by
  refine xCallV S hM cw hp hn hsize hWr hdg hf (fun v st₀ t L h0 hwm hL hw hq => ?_) (fun x st₀ t L h0 hwm hL hw hq T9 hT9 X9 => ?_)
  · obtain ⟨E, a, ce, -, ho, -⟩ := hq
    cases ho
  · obtain ⟨E, a, ce, hpE, ho, hce, hv, hcl, hkeep, hsz⟩ := hq
    cases ho
    refine kt E _ ce t.heap (locs ++ L) hpE hce hv (by rw [← hwm.alike.findClass]; exact hcl) ⟨Nat.le_trans hS.1 (by rw [← h0]; exact hsz), fun q h1 h2 => ?_, fun z hz => (List.mem_append.mp hz).elim (hS.2.2 z) (fun h => (hL z h).elim)⟩ T9 hT9 X9
    have hlt : q < H.size := Nat.lt_of_lt_of_le h1 hS.1
    have hc0 : H[q]? = some H[q] := Array.getElem?_eq_getElem hlt
    rw [← hS.2.1 q h1 h2, hc0]
    exact hkeep q _ (by rw [h0]; exact hc0)
end Help
end
