section
-- ===== PART A: goes FIRST, ahead of the names: the tables' words, and 'selects' of the private methods out of them =====
/-- a private method of a class that the tables say can be made, by its rows of tables_1 -/
def lw_okq (q : MethodName × Nat) : Prop := (q.1.cls ≠ "java/lang/invoke/MethodHandle" ∧ q.1.cls ≠ "java/lang/invoke/VarHandle") ∧ Cond.instantiable q.1.cls q.2 ∈ tables_1 ∧ Cond.privateMethod q.1 ∈ tables_1 ∧ Cond.instanceMethod q.1 ∈ tables_1
theorem lw_p0 : lw_okq (⟨"BrokenLoaves$Road", "holds", "(II)Z"⟩, 20) := ⟨⟨by decide +kernel, by decide +kernel⟩, List.mem_of_getElem? (i := 74) (by decide +kernel), List.mem_of_getElem? (i := 464) (by decide +kernel), List.mem_of_getElem? (i := 465) (by decide +kernel)⟩
theorem lw_p1 : lw_okq (⟨"BrokenLoaves$Road", "compared", "(III)I"⟩, 20) := ⟨⟨by decide +kernel, by decide +kernel⟩, List.mem_of_getElem? (i := 74) (by decide +kernel), List.mem_of_getElem? (i := 471) (by decide +kernel), List.mem_of_getElem? (i := 472) (by decide +kernel)⟩
theorem lw_p2 : lw_okq (⟨"BrokenLoaves$Road", "valueOf", "(I)I"⟩, 20) := ⟨⟨by decide +kernel, by decide +kernel⟩, List.mem_of_getElem? (i := 74) (by decide +kernel), List.mem_of_getElem? (i := 475) (by decide +kernel), List.mem_of_getElem? (i := 476) (by decide +kernel)⟩
theorem lw_p3 : lw_okq (⟨"BrokenLoaves$RuleText", "splitTape", "()V"⟩, 9) := ⟨⟨by decide +kernel, by decide +kernel⟩, List.mem_of_getElem? (i := 201) (by decide +kernel), List.mem_of_getElem? (i := 560) (by decide +kernel), List.mem_of_getElem? (i := 561) (by decide +kernel)⟩
theorem lw_p4 : lw_okq (⟨"BrokenLoaves$RuleText", "wordAt", "(II)I"⟩, 9) := ⟨⟨by decide +kernel, by decide +kernel⟩, List.mem_of_getElem? (i := 201) (by decide +kernel), List.mem_of_getElem? (i := 568) (by decide +kernel), List.mem_of_getElem? (i := 569) (by decide +kernel)⟩
theorem lw_p5 : lw_okq (⟨"BrokenLoaves$RuleText", "isWordAt", "(Ljava/lang/String;II)Z"⟩, 9) := ⟨⟨by decide +kernel, by decide +kernel⟩, List.mem_of_getElem? (i := 201) (by decide +kernel), List.mem_of_getElem? (i := 593) (by decide +kernel), List.mem_of_getElem? (i := 594) (by decide +kernel)⟩
theorem lw_p6 : lw_okq (⟨"BrokenLoaves$RuleText", "addToken", "(II)V"⟩, 9) := ⟨⟨by decide +kernel, by decide +kernel⟩, List.mem_of_getElem? (i := 201) (by decide +kernel), List.mem_of_getElem? (i := 645) (by decide +kernel), List.mem_of_getElem? (i := 646) (by decide +kernel)⟩
theorem lw_p7 : lw_okq (⟨"BrokenLoaves$RuleText", "numberAt", "(II)I"⟩, 9) := ⟨⟨by decide +kernel, by decide +kernel⟩, List.mem_of_getElem? (i := 201) (by decide +kernel), List.mem_of_getElem? (i := 652) (by decide +kernel), List.mem_of_getElem? (i := 653) (by decide +kernel)⟩
theorem lw_p8 : lw_okq (⟨"BrokenLoaves$RuleText", "token", "()I"⟩, 9) := ⟨⟨by decide +kernel, by decide +kernel⟩, List.mem_of_getElem? (i := 201) (by decide +kernel), List.mem_of_getElem? (i := 656) (by decide +kernel), List.mem_of_getElem? (i := 657) (by decide +kernel)⟩
theorem lw_p9 : lw_okq (⟨"BrokenLoaves$RuleText", "readRule", "()Z"⟩, 9) := ⟨⟨by decide +kernel, by decide +kernel⟩, List.mem_of_getElem? (i := 201) (by decide +kernel), List.mem_of_getElem? (i := 660) (by decide +kernel), List.mem_of_getElem? (i := 661) (by decide +kernel)⟩
theorem lw_p10 : lw_okq (⟨"BrokenLoaves$RuleText", "put", "(I)V"⟩, 9) := ⟨⟨by decide +kernel, by decide +kernel⟩, List.mem_of_getElem? (i := 201) (by decide +kernel), List.mem_of_getElem? (i := 664) (by decide +kernel), List.mem_of_getElem? (i := 665) (by decide +kernel)⟩
theorem lw_p11 : lw_okq (⟨"BrokenLoaves$RuleText", "readAny", "(I)Z"⟩, 9) := ⟨⟨by decide +kernel, by decide +kernel⟩, List.mem_of_getElem? (i := 201) (by decide +kernel), List.mem_of_getElem? (i := 668) (by decide +kernel), List.mem_of_getElem? (i := 669) (by decide +kernel)⟩
theorem lw_p12 : lw_okq (⟨"BrokenLoaves$RuleText", "readEach", "(I)Z"⟩, 9) := ⟨⟨by decide +kernel, by decide +kernel⟩, List.mem_of_getElem? (i := 201) (by decide +kernel), List.mem_of_getElem? (i := 672) (by decide +kernel), List.mem_of_getElem? (i := 673) (by decide +kernel)⟩
theorem lw_p13 : lw_okq (⟨"BrokenLoaves$RuleText", "readOne", "(I)Z"⟩, 9) := ⟨⟨by decide +kernel, by decide +kernel⟩, List.mem_of_getElem? (i := 201) (by decide +kernel), List.mem_of_getElem? (i := 676) (by decide +kernel), List.mem_of_getElem? (i := 677) (by decide +kernel)⟩
theorem lw_p14 : lw_okq (⟨"BrokenLoaves$RuleText", "readComparison", "()Z"⟩, 9) := ⟨⟨by decide +kernel, by decide +kernel⟩, List.mem_of_getElem? (i := 201) (by decide +kernel), List.mem_of_getElem? (i := 680) (by decide +kernel), List.mem_of_getElem? (i := 681) (by decide +kernel)⟩
theorem lw_p15 : lw_okq (⟨"BrokenLoaves$Road", "breakWith", "(LBrokenLoaves$Course;II)I"⟩, 20) := ⟨⟨by decide +kernel, by decide +kernel⟩, List.mem_of_getElem? (i := 74) (by decide +kernel), List.mem_of_getElem? (i := 718) (by decide +kernel), List.mem_of_getElem? (i := 719) (by decide +kernel)⟩
def lw_privs_1 : List (MethodName × Nat) := [(⟨"BrokenLoaves$Road", "holds", "(II)Z"⟩, 20), (⟨"BrokenLoaves$Road", "compared", "(III)I"⟩, 20), (⟨"BrokenLoaves$Road", "valueOf", "(I)I"⟩, 20), (⟨"BrokenLoaves$RuleText", "splitTape", "()V"⟩, 9), (⟨"BrokenLoaves$RuleText", "wordAt", "(II)I"⟩, 9), (⟨"BrokenLoaves$RuleText", "isWordAt", "(Ljava/lang/String;II)Z"⟩, 9), (⟨"BrokenLoaves$RuleText", "addToken", "(II)V"⟩, 9), (⟨"BrokenLoaves$RuleText", "numberAt", "(II)I"⟩, 9), (⟨"BrokenLoaves$RuleText", "token", "()I"⟩, 9), (⟨"BrokenLoaves$RuleText", "readRule", "()Z"⟩, 9), (⟨"BrokenLoaves$RuleText", "put", "(I)V"⟩, 9), (⟨"BrokenLoaves$RuleText", "readAny", "(I)Z"⟩, 9), (⟨"BrokenLoaves$RuleText", "readEach", "(I)Z"⟩, 9), (⟨"BrokenLoaves$RuleText", "readOne", "(I)Z"⟩, 9), (⟨"BrokenLoaves$RuleText", "readComparison", "()Z"⟩, 9), (⟨"BrokenLoaves$Road", "breakWith", "(LBrokenLoaves$Course;II)I"⟩, 20)]
theorem lw_r1 : ∀ q ∈ lw_privs_1, lw_okq q := List.forall_mem_cons.mpr ⟨lw_p0, List.forall_mem_cons.mpr ⟨lw_p1, List.forall_mem_cons.mpr ⟨lw_p2, List.forall_mem_cons.mpr ⟨lw_p3, List.forall_mem_cons.mpr ⟨lw_p4, List.forall_mem_cons.mpr ⟨lw_p5, List.forall_mem_cons.mpr ⟨lw_p6, List.forall_mem_cons.mpr ⟨lw_p7, List.forall_mem_cons.mpr ⟨lw_p8, List.forall_mem_cons.mpr ⟨lw_p9, List.forall_mem_cons.mpr ⟨lw_p10, List.forall_mem_cons.mpr ⟨lw_p11, List.forall_mem_cons.mpr ⟨lw_p12, List.forall_mem_cons.mpr ⟨lw_p13, List.forall_mem_cons.mpr ⟨lw_p14, List.forall_mem_cons.mpr ⟨lw_p15, fun _ h => absurd h List.not_mem_nil⟩⟩⟩⟩⟩⟩⟩⟩⟩⟩⟩⟩⟩⟩⟩⟩
theorem lw_p16 : lw_okq (⟨"BrokenLoaves", "worthOfRest", "(I)I"⟩, 15) := ⟨⟨by decide +kernel, by decide +kernel⟩, List.mem_of_getElem? (i := 23) (by decide +kernel), List.mem_of_getElem? (i := 732) (by decide +kernel), List.mem_of_getElem? (i := 733) (by decide +kernel)⟩
theorem lw_p17 : lw_okq (⟨"BrokenLoaves", "startAhead", "()I"⟩, 15) := ⟨⟨by decide +kernel, by decide +kernel⟩, List.mem_of_getElem? (i := 23) (by decide +kernel), List.mem_of_getElem? (i := 736) (by decide +kernel), List.mem_of_getElem? (i := 737) (by decide +kernel)⟩
theorem lw_p18 : lw_okq (⟨"BrokenLoaves", "mostWorthBy", "([III)I"⟩, 15) := ⟨⟨by decide +kernel, by decide +kernel⟩, List.mem_of_getElem? (i := 23) (by decide +kernel), List.mem_of_getElem? (i := 757) (by decide +kernel), List.mem_of_getElem? (i := 758) (by decide +kernel)⟩
theorem lw_p19 : lw_okq (⟨"BrokenLoaves", "countTables", "()I"⟩, 15) := ⟨⟨by decide +kernel, by decide +kernel⟩, List.mem_of_getElem? (i := 23) (by decide +kernel), List.mem_of_getElem? (i := 777) (by decide +kernel), List.mem_of_getElem? (i := 778) (by decide +kernel)⟩
theorem lw_p20 : lw_okq (⟨"BrokenLoaves$Road", "isCloseToAny", "(II)Z"⟩, 20) := ⟨⟨by decide +kernel, by decide +kernel⟩, List.mem_of_getElem? (i := 74) (by decide +kernel), List.mem_of_getElem? (i := 785) (by decide +kernel), List.mem_of_getElem? (i := 786) (by decide +kernel)⟩
theorem lw_p21 : lw_okq (⟨"BrokenLoaves$Planner", "start", "(I)V"⟩, 11) := ⟨⟨by decide +kernel, by decide +kernel⟩, List.mem_of_getElem? (i := 239) (by decide +kernel), List.mem_of_getElem? (i := 817) (by decide +kernel), List.mem_of_getElem? (i := 818) (by decide +kernel)⟩
theorem lw_p22 : lw_okq (⟨"BrokenLoaves$Planner", "tryActs", "(II)V"⟩, 11) := ⟨⟨by decide +kernel, by decide +kernel⟩, List.mem_of_getElem? (i := 239) (by decide +kernel), List.mem_of_getElem? (i := 824) (by decide +kernel), List.mem_of_getElem? (i := 825) (by decide +kernel)⟩
theorem lw_p23 : lw_okq (⟨"BrokenLoaves$Planner", "weighPlan", "(LBrokenLoaves$Course;I)V"⟩, 11) := ⟨⟨by decide +kernel, by decide +kernel⟩, List.mem_of_getElem? (i := 239) (by decide +kernel), List.mem_of_getElem? (i := 828) (by decide +kernel), List.mem_of_getElem? (i := 829) (by decide +kernel)⟩
theorem lw_p24 : lw_okq (⟨"BrokenLoaves", "isSetOfPeople", "(I)Z"⟩, 15) := ⟨⟨by decide +kernel, by decide +kernel⟩, List.mem_of_getElem? (i := 23) (by decide +kernel), List.mem_of_getElem? (i := 846) (by decide +kernel), List.mem_of_getElem? (i := 847) (by decide +kernel)⟩
theorem lw_p25 : lw_okq (⟨"BrokenLoaves$Planner", "valueFrom", "(I)I"⟩, 11) := ⟨⟨by decide +kernel, by decide +kernel⟩, List.mem_of_getElem? (i := 239) (by decide +kernel), List.mem_of_getElem? (i := 869) (by decide +kernel), List.mem_of_getElem? (i := 870) (by decide +kernel)⟩
theorem lw_p26 : lw_okq (⟨"BrokenLoaves$Road", "lastReported", "()I"⟩, 20) := ⟨⟨by decide +kernel, by decide +kernel⟩, List.mem_of_getElem? (i := 74) (by decide +kernel), List.mem_of_getElem? (i := 896) (by decide +kernel), List.mem_of_getElem? (i := 897) (by decide +kernel)⟩
theorem lw_p27 : lw_okq (⟨"BrokenLoaves$Road", "reportsAgainstDay", "(III)I"⟩, 20) := ⟨⟨by decide +kernel, by decide +kernel⟩, List.mem_of_getElem? (i := 74) (by decide +kernel), List.mem_of_getElem? (i := 900) (by decide +kernel), List.mem_of_getElem? (i := 901) (by decide +kernel)⟩
theorem lw_p28 : lw_okq (⟨"BrokenLoaves", "actByChance", "(I)I"⟩, 15) := ⟨⟨by decide +kernel, by decide +kernel⟩, List.mem_of_getElem? (i := 23) (by decide +kernel), List.mem_of_getElem? (i := 935) (by decide +kernel), List.mem_of_getElem? (i := 936) (by decide +kernel)⟩
theorem lw_p29 : lw_okq (⟨"BrokenLoaves", "isInRows", "(II)Z"⟩, 15) := ⟨⟨by decide +kernel, by decide +kernel⟩, List.mem_of_getElem? (i := 23) (by decide +kernel), List.mem_of_getElem? (i := 954) (by decide +kernel), List.mem_of_getElem? (i := 955) (by decide +kernel)⟩
theorem lw_p30 : lw_okq (⟨"BrokenLoaves", "hasItem", "(II)Z"⟩, 15) := ⟨⟨by decide +kernel, by decide +kernel⟩, List.mem_of_getElem? (i := 23) (by decide +kernel), List.mem_of_getElem? (i := 981) (by decide +kernel), List.mem_of_getElem? (i := 982) (by decide +kernel)⟩
theorem lw_p31 : lw_okq (⟨"BrokenLoaves", "refusalAs", "(II)I"⟩, 15) := ⟨⟨by decide +kernel, by decide +kernel⟩, List.mem_of_getElem? (i := 23) (by decide +kernel), List.mem_of_getElem? (i := 992) (by decide +kernel), List.mem_of_getElem? (i := 993) (by decide +kernel)⟩
def lw_privs_2 : List (MethodName × Nat) := [(⟨"BrokenLoaves", "worthOfRest", "(I)I"⟩, 15), (⟨"BrokenLoaves", "startAhead", "()I"⟩, 15), (⟨"BrokenLoaves", "mostWorthBy", "([III)I"⟩, 15), (⟨"BrokenLoaves", "countTables", "()I"⟩, 15), (⟨"BrokenLoaves$Road", "isCloseToAny", "(II)Z"⟩, 20), (⟨"BrokenLoaves$Planner", "start", "(I)V"⟩, 11), (⟨"BrokenLoaves$Planner", "tryActs", "(II)V"⟩, 11), (⟨"BrokenLoaves$Planner", "weighPlan", "(LBrokenLoaves$Course;I)V"⟩, 11), (⟨"BrokenLoaves", "isSetOfPeople", "(I)Z"⟩, 15), (⟨"BrokenLoaves$Planner", "valueFrom", "(I)I"⟩, 11), (⟨"BrokenLoaves$Road", "lastReported", "()I"⟩, 20), (⟨"BrokenLoaves$Road", "reportsAgainstDay", "(III)I"⟩, 20), (⟨"BrokenLoaves", "actByChance", "(I)I"⟩, 15), (⟨"BrokenLoaves", "isInRows", "(II)Z"⟩, 15), (⟨"BrokenLoaves", "hasItem", "(II)Z"⟩, 15), (⟨"BrokenLoaves", "refusalAs", "(II)I"⟩, 15)]
theorem lw_r2 : ∀ q ∈ lw_privs_2, lw_okq q := List.forall_mem_cons.mpr ⟨lw_p16, List.forall_mem_cons.mpr ⟨lw_p17, List.forall_mem_cons.mpr ⟨lw_p18, List.forall_mem_cons.mpr ⟨lw_p19, List.forall_mem_cons.mpr ⟨lw_p20, List.forall_mem_cons.mpr ⟨lw_p21, List.forall_mem_cons.mpr ⟨lw_p22, List.forall_mem_cons.mpr ⟨lw_p23, List.forall_mem_cons.mpr ⟨lw_p24, List.forall_mem_cons.mpr ⟨lw_p25, List.forall_mem_cons.mpr ⟨lw_p26, List.forall_mem_cons.mpr ⟨lw_p27, List.forall_mem_cons.mpr ⟨lw_p28, List.forall_mem_cons.mpr ⟨lw_p29, List.forall_mem_cons.mpr ⟨lw_p30, List.forall_mem_cons.mpr ⟨lw_p31, fun _ h => absurd h List.not_mem_nil⟩⟩⟩⟩⟩⟩⟩⟩⟩⟩⟩⟩⟩⟩⟩⟩
theorem lw_p32 : lw_okq (⟨"BrokenLoaves", "putPerson", "(II)I"⟩, 15) := ⟨⟨by decide +kernel, by decide +kernel⟩, List.mem_of_getElem? (i := 23) (by decide +kernel), List.mem_of_getElem? (i := 1011) (by decide +kernel), List.mem_of_getElem? (i := 1012) (by decide +kernel)⟩
theorem lw_p33 : lw_okq (⟨"BrokenLoaves", "putRow", "(II)I"⟩, 15) := ⟨⟨by decide +kernel, by decide +kernel⟩, List.mem_of_getElem? (i := 23) (by decide +kernel), List.mem_of_getElem? (i := 1015) (by decide +kernel), List.mem_of_getElem? (i := 1016) (by decide +kernel)⟩
theorem lw_p34 : lw_okq (⟨"BrokenLoaves", "personOn", "(I)I"⟩, 15) := ⟨⟨by decide +kernel, by decide +kernel⟩, List.mem_of_getElem? (i := 23) (by decide +kernel), List.mem_of_getElem? (i := 1023) (by decide +kernel), List.mem_of_getElem? (i := 1024) (by decide +kernel)⟩
theorem lw_p35 : lw_okq (⟨"BrokenLoavesModel", "next", "()V"⟩, 39) := ⟨⟨by decide +kernel, by decide +kernel⟩, List.mem_of_getElem? (i := 1148) (by decide +kernel), List.mem_of_getElem? (i := 1285) (by decide +kernel), List.mem_of_getElem? (i := 1286) (by decide +kernel)⟩
theorem lw_p36 : lw_okq (⟨"BrokenLoavesModel", "byteAt", "(I)I"⟩, 39) := ⟨⟨by decide +kernel, by decide +kernel⟩, List.mem_of_getElem? (i := 1148) (by decide +kernel), List.mem_of_getElem? (i := 1289) (by decide +kernel), List.mem_of_getElem? (i := 1290) (by decide +kernel)⟩
theorem lw_p37 : lw_okq (⟨"BrokenLoavesModel", "readsName", "()V"⟩, 39) := ⟨⟨by decide +kernel, by decide +kernel⟩, List.mem_of_getElem? (i := 1148) (by decide +kernel), List.mem_of_getElem? (i := 1293) (by decide +kernel), List.mem_of_getElem? (i := 1294) (by decide +kernel)⟩
theorem lw_p38 : lw_okq (⟨"BrokenLoavesModel", "isNameOf", "(I)Z"⟩, 39) := ⟨⟨by decide +kernel, by decide +kernel⟩, List.mem_of_getElem? (i := 1148) (by decide +kernel), List.mem_of_getElem? (i := 1297) (by decide +kernel), List.mem_of_getElem? (i := 1298) (by decide +kernel)⟩
theorem lw_p39 : lw_okq (⟨"BrokenLoavesModel", "readsNumber", "()V"⟩, 39) := ⟨⟨by decide +kernel, by decide +kernel⟩, List.mem_of_getElem? (i := 1148) (by decide +kernel), List.mem_of_getElem? (i := 1301) (by decide +kernel), List.mem_of_getElem? (i := 1302) (by decide +kernel)⟩
theorem lw_p40 : lw_okq (⟨"BrokenLoavesModel", "readsRule", "(I)Z"⟩, 39) := ⟨⟨by decide +kernel, by decide +kernel⟩, List.mem_of_getElem? (i := 1148) (by decide +kernel), List.mem_of_getElem? (i := 1305) (by decide +kernel), List.mem_of_getElem? (i := 1306) (by decide +kernel)⟩
theorem lw_p41 : lw_okq (⟨"BrokenLoavesModel", "takes", "(I)Z"⟩, 39) := ⟨⟨by decide +kernel, by decide +kernel⟩, List.mem_of_getElem? (i := 1148) (by decide +kernel), List.mem_of_getElem? (i := 1309) (by decide +kernel), List.mem_of_getElem? (i := 1310) (by decide +kernel)⟩
theorem lw_p42 : lw_okq (⟨"BrokenLoavesModel", "readsCondition", "()Z"⟩, 39) := ⟨⟨by decide +kernel, by decide +kernel⟩, List.mem_of_getElem? (i := 1148) (by decide +kernel), List.mem_of_getElem? (i := 1313) (by decide +kernel), List.mem_of_getElem? (i := 1314) (by decide +kernel)⟩
theorem lw_p43 : lw_okq (⟨"BrokenLoavesModel", "readsAll", "()Z"⟩, 39) := ⟨⟨by decide +kernel, by decide +kernel⟩, List.mem_of_getElem? (i := 1148) (by decide +kernel), List.mem_of_getElem? (i := 1317) (by decide +kernel), List.mem_of_getElem? (i := 1318) (by decide +kernel)⟩
theorem lw_p44 : lw_okq (⟨"BrokenLoavesModel", "readsOne", "()Z"⟩, 39) := ⟨⟨by decide +kernel, by decide +kernel⟩, List.mem_of_getElem? (i := 1148) (by decide +kernel), List.mem_of_getElem? (i := 1321) (by decide +kernel), List.mem_of_getElem? (i := 1322) (by decide +kernel)⟩
theorem lw_p45 : lw_okq (⟨"BrokenLoavesModel", "readsWithin", "()Z"⟩, 39) := ⟨⟨by decide +kernel, by decide +kernel⟩, List.mem_of_getElem? (i := 1148) (by decide +kernel), List.mem_of_getElem? (i := 1325) (by decide +kernel), List.mem_of_getElem? (i := 1326) (by decide +kernel)⟩
theorem lw_p46 : lw_okq (⟨"BrokenLoavesModel", "readsLike", "()Z"⟩, 39) := ⟨⟨by decide +kernel, by decide +kernel⟩, List.mem_of_getElem? (i := 1148) (by decide +kernel), List.mem_of_getElem? (i := 1329) (by decide +kernel), List.mem_of_getElem? (i := 1330) (by decide +kernel)⟩
theorem lw_p47 : lw_okq (⟨"BrokenLoavesModel", "readsValue", "()Z"⟩, 39) := ⟨⟨by decide +kernel, by decide +kernel⟩, List.mem_of_getElem? (i := 1148) (by decide +kernel), List.mem_of_getElem? (i := 1333) (by decide +kernel), List.mem_of_getElem? (i := 1334) (by decide +kernel)⟩
def lw_privs_3 : List (MethodName × Nat) := [(⟨"BrokenLoaves", "putPerson", "(II)I"⟩, 15), (⟨"BrokenLoaves", "putRow", "(II)I"⟩, 15), (⟨"BrokenLoaves", "personOn", "(I)I"⟩, 15), (⟨"BrokenLoavesModel", "next", "()V"⟩, 39), (⟨"BrokenLoavesModel", "byteAt", "(I)I"⟩, 39), (⟨"BrokenLoavesModel", "readsName", "()V"⟩, 39), (⟨"BrokenLoavesModel", "isNameOf", "(I)Z"⟩, 39), (⟨"BrokenLoavesModel", "readsNumber", "()V"⟩, 39), (⟨"BrokenLoavesModel", "readsRule", "(I)Z"⟩, 39), (⟨"BrokenLoavesModel", "takes", "(I)Z"⟩, 39), (⟨"BrokenLoavesModel", "readsCondition", "()Z"⟩, 39), (⟨"BrokenLoavesModel", "readsAll", "()Z"⟩, 39), (⟨"BrokenLoavesModel", "readsOne", "()Z"⟩, 39), (⟨"BrokenLoavesModel", "readsWithin", "()Z"⟩, 39), (⟨"BrokenLoavesModel", "readsLike", "()Z"⟩, 39), (⟨"BrokenLoavesModel", "readsValue", "()Z"⟩, 39)]
theorem lw_r3 : ∀ q ∈ lw_privs_3, lw_okq q := List.forall_mem_cons.mpr ⟨lw_p32, List.forall_mem_cons.mpr ⟨lw_p33, List.forall_mem_cons.mpr ⟨lw_p34, List.forall_mem_cons.mpr ⟨lw_p35, List.forall_mem_cons.mpr ⟨lw_p36, List.forall_mem_cons.mpr ⟨lw_p37, List.forall_mem_cons.mpr ⟨lw_p38, List.forall_mem_cons.mpr ⟨lw_p39, List.forall_mem_cons.mpr ⟨lw_p40, List.forall_mem_cons.mpr ⟨lw_p41, List.forall_mem_cons.mpr ⟨lw_p42, List.forall_mem_cons.mpr ⟨lw_p43, List.forall_mem_cons.mpr ⟨lw_p44, List.forall_mem_cons.mpr ⟨lw_p45, List.forall_mem_cons.mpr ⟨lw_p46, List.forall_mem_cons.mpr ⟨lw_p47, fun _ h => absurd h List.not_mem_nil⟩⟩⟩⟩⟩⟩⟩⟩⟩⟩⟩⟩⟩⟩⟩⟩
theorem lw_p48 : lw_okq (⟨"BrokenLoavesModel", "lays", "(I)V"⟩, 39) := ⟨⟨by decide +kernel, by decide +kernel⟩, List.mem_of_getElem? (i := 1148) (by decide +kernel), List.mem_of_getElem? (i := 1337) (by decide +kernel), List.mem_of_getElem? (i := 1338) (by decide +kernel)⟩
theorem lw_p49 : lw_okq (⟨"BrokenLoavesModel", "puts", "(III)V"⟩, 39) := ⟨⟨by decide +kernel, by decide +kernel⟩, List.mem_of_getElem? (i := 1148) (by decide +kernel), List.mem_of_getElem? (i := 1354) (by decide +kernel), List.mem_of_getElem? (i := 1355) (by decide +kernel)⟩
theorem lw_p50 : lw_okq (⟨"BrokenLoavesModel", "isPerson", "(I)Z"⟩, 39) := ⟨⟨by decide +kernel, by decide +kernel⟩, List.mem_of_getElem? (i := 1148) (by decide +kernel), List.mem_of_getElem? (i := 1362) (by decide +kernel), List.mem_of_getElem? (i := 1363) (by decide +kernel)⟩
theorem lw_p51 : lw_okq (⟨"BrokenLoavesModel", "stillOf", "(I)I"⟩, 39) := ⟨⟨by decide +kernel, by decide +kernel⟩, List.mem_of_getElem? (i := 1148) (by decide +kernel), List.mem_of_getElem? (i := 1366) (by decide +kernel), List.mem_of_getElem? (i := 1367) (by decide +kernel)⟩
theorem lw_p52 : lw_okq (⟨"BrokenLoavesModel", "get", "(II)I"⟩, 39) := ⟨⟨by decide +kernel, by decide +kernel⟩, List.mem_of_getElem? (i := 1148) (by decide +kernel), List.mem_of_getElem? (i := 1370) (by decide +kernel), List.mem_of_getElem? (i := 1371) (by decide +kernel)⟩
theorem lw_p53 : lw_okq (⟨"BrokenLoavesModel", "eatsOf", "(I)I"⟩, 39) := ⟨⟨by decide +kernel, by decide +kernel⟩, List.mem_of_getElem? (i := 1148) (by decide +kernel), List.mem_of_getElem? (i := 1377) (by decide +kernel), List.mem_of_getElem? (i := 1378) (by decide +kernel)⟩
theorem lw_p54 : lw_okq (⟨"BrokenLoavesModel", "willOf", "(I)I"⟩, 39) := ⟨⟨by decide +kernel, by decide +kernel⟩, List.mem_of_getElem? (i := 1148) (by decide +kernel), List.mem_of_getElem? (i := 1381) (by decide +kernel), List.mem_of_getElem? (i := 1382) (by decide +kernel)⟩
theorem lw_p55 : lw_okq (⟨"BrokenLoavesModel", "ruleOf", "(II)I"⟩, 39) := ⟨⟨by decide +kernel, by decide +kernel⟩, List.mem_of_getElem? (i := 1148) (by decide +kernel), List.mem_of_getElem? (i := 1385) (by decide +kernel), List.mem_of_getElem? (i := 1386) (by decide +kernel)⟩
theorem lw_p56 : lw_okq (⟨"BrokenLoavesModel", "holdsFor", "(II)Z"⟩, 39) := ⟨⟨by decide +kernel, by decide +kernel⟩, List.mem_of_getElem? (i := 1148) (by decide +kernel), List.mem_of_getElem? (i := 1395) (by decide +kernel), List.mem_of_getElem? (i := 1396) (by decide +kernel)⟩
theorem lw_p57 : lw_okq (⟨"BrokenLoavesModel", "knownOf", "(II)I"⟩, 39) := ⟨⟨by decide +kernel, by decide +kernel⟩, List.mem_of_getElem? (i := 1148) (by decide +kernel), List.mem_of_getElem? (i := 1399) (by decide +kernel), List.mem_of_getElem? (i := 1400) (by decide +kernel)⟩
theorem lw_p58 : lw_okq (⟨"BrokenLoavesModel", "isTaken", "(I)Z"⟩, 39) := ⟨⟨by decide +kernel, by decide +kernel⟩, List.mem_of_getElem? (i := 1148) (by decide +kernel), List.mem_of_getElem? (i := 1406) (by decide +kernel), List.mem_of_getElem? (i := 1407) (by decide +kernel)⟩
theorem lw_p59 : lw_okq (⟨"BrokenLoavesModel", "becomes", "(II)I"⟩, 39) := ⟨⟨by decide +kernel, by decide +kernel⟩, List.mem_of_getElem? (i := 1148) (by decide +kernel), List.mem_of_getElem? (i := 1414) (by decide +kernel), List.mem_of_getElem? (i := 1415) (by decide +kernel)⟩
theorem lw_p60 : lw_okq (⟨"BrokenLoavesModel", "isOver", "()Z"⟩, 39) := ⟨⟨by decide +kernel, by decide +kernel⟩, List.mem_of_getElem? (i := 1148) (by decide +kernel), List.mem_of_getElem? (i := 1450) (by decide +kernel), List.mem_of_getElem? (i := 1451) (by decide +kernel)⟩
theorem lw_p61 : lw_okq (⟨"BrokenLoavesModel", "those", "(I)I"⟩, 39) := ⟨⟨by decide +kernel, by decide +kernel⟩, List.mem_of_getElem? (i := 1148) (by decide +kernel), List.mem_of_getElem? (i := 1454) (by decide +kernel), List.mem_of_getElem? (i := 1455) (by decide +kernel)⟩
theorem lw_p62 : lw_okq (⟨"BrokenLoavesModel", "goesBy", "(I)I"⟩, 39) := ⟨⟨by decide +kernel, by decide +kernel⟩, List.mem_of_getElem? (i := 1148) (by decide +kernel), List.mem_of_getElem? (i := 1462) (by decide +kernel), List.mem_of_getElem? (i := 1463) (by decide +kernel)⟩
theorem lw_p63 : lw_okq (⟨"BrokenLoavesModel", "restOne", "()I"⟩, 39) := ⟨⟨by decide +kernel, by decide +kernel⟩, List.mem_of_getElem? (i := 1148) (by decide +kernel), List.mem_of_getElem? (i := 1472) (by decide +kernel), List.mem_of_getElem? (i := 1473) (by decide +kernel)⟩
def lw_privs_4 : List (MethodName × Nat) := [(⟨"BrokenLoavesModel", "lays", "(I)V"⟩, 39), (⟨"BrokenLoavesModel", "puts", "(III)V"⟩, 39), (⟨"BrokenLoavesModel", "isPerson", "(I)Z"⟩, 39), (⟨"BrokenLoavesModel", "stillOf", "(I)I"⟩, 39), (⟨"BrokenLoavesModel", "get", "(II)I"⟩, 39), (⟨"BrokenLoavesModel", "eatsOf", "(I)I"⟩, 39), (⟨"BrokenLoavesModel", "willOf", "(I)I"⟩, 39), (⟨"BrokenLoavesModel", "ruleOf", "(II)I"⟩, 39), (⟨"BrokenLoavesModel", "holdsFor", "(II)Z"⟩, 39), (⟨"BrokenLoavesModel", "knownOf", "(II)I"⟩, 39), (⟨"BrokenLoavesModel", "isTaken", "(I)Z"⟩, 39), (⟨"BrokenLoavesModel", "becomes", "(II)I"⟩, 39), (⟨"BrokenLoavesModel", "isOver", "()Z"⟩, 39), (⟨"BrokenLoavesModel", "those", "(I)I"⟩, 39), (⟨"BrokenLoavesModel", "goesBy", "(I)I"⟩, 39), (⟨"BrokenLoavesModel", "restOne", "()I"⟩, 39)]
theorem lw_r4 : ∀ q ∈ lw_privs_4, lw_okq q := List.forall_mem_cons.mpr ⟨lw_p48, List.forall_mem_cons.mpr ⟨lw_p49, List.forall_mem_cons.mpr ⟨lw_p50, List.forall_mem_cons.mpr ⟨lw_p51, List.forall_mem_cons.mpr ⟨lw_p52, List.forall_mem_cons.mpr ⟨lw_p53, List.forall_mem_cons.mpr ⟨lw_p54, List.forall_mem_cons.mpr ⟨lw_p55, List.forall_mem_cons.mpr ⟨lw_p56, List.forall_mem_cons.mpr ⟨lw_p57, List.forall_mem_cons.mpr ⟨lw_p58, List.forall_mem_cons.mpr ⟨lw_p59, List.forall_mem_cons.mpr ⟨lw_p60, List.forall_mem_cons.mpr ⟨lw_p61, List.forall_mem_cons.mpr ⟨lw_p62, List.forall_mem_cons.mpr ⟨lw_p63, fun _ h => absurd h List.not_mem_nil⟩⟩⟩⟩⟩⟩⟩⟩⟩⟩⟩⟩⟩⟩⟩⟩
theorem lw_p64 : lw_okq (⟨"BrokenLoavesModel", "meets", "(I)I"⟩, 39) := ⟨⟨by decide +kernel, by decide +kernel⟩, List.mem_of_getElem? (i := 1148) (by decide +kernel), List.mem_of_getElem? (i := 1476) (by decide +kernel), List.mem_of_getElem? (i := 1477) (by decide +kernel)⟩
theorem lw_p65 : lw_okq (⟨"BrokenLoavesModel", "feeds", "(I)I"⟩, 39) := ⟨⟨by decide +kernel, by decide +kernel⟩, List.mem_of_getElem? (i := 1148) (by decide +kernel), List.mem_of_getElem? (i := 1480) (by decide +kernel), List.mem_of_getElem? (i := 1481) (by decide +kernel)⟩
theorem lw_p66 : lw_okq (⟨"BrokenLoavesModel", "layDown", "()V"⟩, 39) := ⟨⟨by decide +kernel, by decide +kernel⟩, List.mem_of_getElem? (i := 1148) (by decide +kernel), List.mem_of_getElem? (i := 1488) (by decide +kernel), List.mem_of_getElem? (i := 1489) (by decide +kernel)⟩
theorem lw_p67 : lw_okq (⟨"BrokenLoavesModel", "restOf", "(I)I"⟩, 39) := ⟨⟨by decide +kernel, by decide +kernel⟩, List.mem_of_getElem? (i := 1148) (by decide +kernel), List.mem_of_getElem? (i := 1492) (by decide +kernel), List.mem_of_getElem? (i := 1493) (by decide +kernel)⟩
theorem lw_p68 : lw_okq (⟨"BrokenLoavesModel", "layBack", "()V"⟩, 39) := ⟨⟨by decide +kernel, by decide +kernel⟩, List.mem_of_getElem? (i := 1148) (by decide +kernel), List.mem_of_getElem? (i := 1496) (by decide +kernel), List.mem_of_getElem? (i := 1497) (by decide +kernel)⟩
theorem lw_p69 : lw_okq (⟨"BrokenLoavesModel", "bestFor", "(III)I"⟩, 39) := ⟨⟨by decide +kernel, by decide +kernel⟩, List.mem_of_getElem? (i := 1148) (by decide +kernel), List.mem_of_getElem? (i := 1508) (by decide +kernel), List.mem_of_getElem? (i := 1509) (by decide +kernel)⟩
theorem lw_p70 : lw_okq (⟨"BrokenLoavesModel", "tableOf", "(I)I"⟩, 39) := ⟨⟨by decide +kernel, by decide +kernel⟩, List.mem_of_getElem? (i := 1148) (by decide +kernel), List.mem_of_getElem? (i := 1528) (by decide +kernel), List.mem_of_getElem? (i := 1529) (by decide +kernel)⟩
theorem lw_p71 : lw_okq (⟨"BrokenLoavesModel", "areClose", "(II)Z"⟩, 39) := ⟨⟨by decide +kernel, by decide +kernel⟩, List.mem_of_getElem? (i := 1148) (by decide +kernel), List.mem_of_getElem? (i := 1532) (by decide +kernel), List.mem_of_getElem? (i := 1533) (by decide +kernel)⟩
theorem lw_p72 : lw_okq (⟨"BrokenLoavesModel", "goesRound", "(IIII)V"⟩, 39) := ⟨⟨by decide +kernel, by decide +kernel⟩, List.mem_of_getElem? (i := 1148) (by decide +kernel), List.mem_of_getElem? (i := 1540) (by decide +kernel), List.mem_of_getElem? (i := 1541) (by decide +kernel)⟩
theorem lw_p73 : lw_okq (⟨"BrokenLoavesModel", "triesAll", "(II)V"⟩, 39) := ⟨⟨by decide +kernel, by decide +kernel⟩, List.mem_of_getElem? (i := 1148) (by decide +kernel), List.mem_of_getElem? (i := 1551) (by decide +kernel), List.mem_of_getElem? (i := 1552) (by decide +kernel)⟩
theorem lw_p74 : lw_okq (⟨"BrokenLoavesModel", "daysOf", "(I)I"⟩, 39) := ⟨⟨by decide +kernel, by decide +kernel⟩, List.mem_of_getElem? (i := 1148) (by decide +kernel), List.mem_of_getElem? (i := 1555) (by decide +kernel), List.mem_of_getElem? (i := 1556) (by decide +kernel)⟩
theorem lw_p75 : lw_okq (⟨"BrokenLoavesModel", "goesPlans", "(IIIII)V"⟩, 39) := ⟨⟨by decide +kernel, by decide +kernel⟩, List.mem_of_getElem? (i := 1148) (by decide +kernel), List.mem_of_getElem? (i := 1559) (by decide +kernel), List.mem_of_getElem? (i := 1560) (by decide +kernel)⟩
theorem lw_p76 : lw_okq (⟨"BrokenLoavesModel", "endsPlan", "(IIII)V"⟩, 39) := ⟨⟨by decide +kernel, by decide +kernel⟩, List.mem_of_getElem? (i := 1148) (by decide +kernel), List.mem_of_getElem? (i := 1563) (by decide +kernel), List.mem_of_getElem? (i := 1564) (by decide +kernel)⟩
theorem lw_p77 : lw_okq (⟨"BrokenLoavesModel", "saves", "(I)V"⟩, 39) := ⟨⟨by decide +kernel, by decide +kernel⟩, List.mem_of_getElem? (i := 1148) (by decide +kernel), List.mem_of_getElem? (i := 1567) (by decide +kernel), List.mem_of_getElem? (i := 1568) (by decide +kernel)⟩
theorem lw_p78 : lw_okq (⟨"BrokenLoavesModel", "restores", "(I)V"⟩, 39) := ⟨⟨by decide +kernel, by decide +kernel⟩, List.mem_of_getElem? (i := 1148) (by decide +kernel), List.mem_of_getElem? (i := 1571) (by decide +kernel), List.mem_of_getElem? (i := 1572) (by decide +kernel)⟩
theorem lw_p79 : lw_okq (⟨"BrokenLoavesModel", "isSet", "(I)Z"⟩, 39) := ⟨⟨by decide +kernel, by decide +kernel⟩, List.mem_of_getElem? (i := 1148) (by decide +kernel), List.mem_of_getElem? (i := 1587) (by decide +kernel), List.mem_of_getElem? (i := 1588) (by decide +kernel)⟩
def lw_privs_5 : List (MethodName × Nat) := [(⟨"BrokenLoavesModel", "meets", "(I)I"⟩, 39), (⟨"BrokenLoavesModel", "feeds", "(I)I"⟩, 39), (⟨"BrokenLoavesModel", "layDown", "()V"⟩, 39), (⟨"BrokenLoavesModel", "restOf", "(I)I"⟩, 39), (⟨"BrokenLoavesModel", "layBack", "()V"⟩, 39), (⟨"BrokenLoavesModel", "bestFor", "(III)I"⟩, 39), (⟨"BrokenLoavesModel", "tableOf", "(I)I"⟩, 39), (⟨"BrokenLoavesModel", "areClose", "(II)Z"⟩, 39), (⟨"BrokenLoavesModel", "goesRound", "(IIII)V"⟩, 39), (⟨"BrokenLoavesModel", "triesAll", "(II)V"⟩, 39), (⟨"BrokenLoavesModel", "daysOf", "(I)I"⟩, 39), (⟨"BrokenLoavesModel", "goesPlans", "(IIIII)V"⟩, 39), (⟨"BrokenLoavesModel", "endsPlan", "(IIII)V"⟩, 39), (⟨"BrokenLoavesModel", "saves", "(I)V"⟩, 39), (⟨"BrokenLoavesModel", "restores", "(I)V"⟩, 39), (⟨"BrokenLoavesModel", "isSet", "(I)Z"⟩, 39)]
theorem lw_r5 : ∀ q ∈ lw_privs_5, lw_okq q := List.forall_mem_cons.mpr ⟨lw_p64, List.forall_mem_cons.mpr ⟨lw_p65, List.forall_mem_cons.mpr ⟨lw_p66, List.forall_mem_cons.mpr ⟨lw_p67, List.forall_mem_cons.mpr ⟨lw_p68, List.forall_mem_cons.mpr ⟨lw_p69, List.forall_mem_cons.mpr ⟨lw_p70, List.forall_mem_cons.mpr ⟨lw_p71, List.forall_mem_cons.mpr ⟨lw_p72, List.forall_mem_cons.mpr ⟨lw_p73, List.forall_mem_cons.mpr ⟨lw_p74, List.forall_mem_cons.mpr ⟨lw_p75, List.forall_mem_cons.mpr ⟨lw_p76, List.forall_mem_cons.mpr ⟨lw_p77, List.forall_mem_cons.mpr ⟨lw_p78, List.forall_mem_cons.mpr ⟨lw_p79, fun _ h => absurd h List.not_mem_nil⟩⟩⟩⟩⟩⟩⟩⟩⟩⟩⟩⟩⟩⟩⟩⟩
theorem lw_p80 : lw_okq (⟨"BrokenLoavesModel", "playedFrom", "(II)I"⟩, 39) := ⟨⟨by decide +kernel, by decide +kernel⟩, List.mem_of_getElem? (i := 1148) (by decide +kernel), List.mem_of_getElem? (i := 1599) (by decide +kernel), List.mem_of_getElem? (i := 1600) (by decide +kernel)⟩
theorem lw_p81 : lw_okq (⟨"BrokenLoavesModel", "fitting", "(I)I"⟩, 39) := ⟨⟨by decide +kernel, by decide +kernel⟩, List.mem_of_getElem? (i := 1148) (by decide +kernel), List.mem_of_getElem? (i := 1619) (by decide +kernel), List.mem_of_getElem? (i := 1620) (by decide +kernel)⟩
theorem lw_p82 : lw_okq (⟨"BrokenLoavesModel", "tellsStranger", "(III)V"⟩, 39) := ⟨⟨by decide +kernel, by decide +kernel⟩, List.mem_of_getElem? (i := 1148) (by decide +kernel), List.mem_of_getElem? (i := 1623) (by decide +kernel), List.mem_of_getElem? (i := 1624) (by decide +kernel)⟩
theorem lw_p83 : lw_okq (⟨"BrokenLoavesModel", "isSo", "(I)Z"⟩, 39) := ⟨⟨by decide +kernel, by decide +kernel⟩, List.mem_of_getElem? (i := 1148) (by decide +kernel), List.mem_of_getElem? (i := 1627) (by decide +kernel), List.mem_of_getElem? (i := 1628) (by decide +kernel)⟩
theorem lw_p84 : lw_okq (⟨"BrokenLoavesModel", "byLot", "()I"⟩, 39) := ⟨⟨by decide +kernel, by decide +kernel⟩, List.mem_of_getElem? (i := 1148) (by decide +kernel), List.mem_of_getElem? (i := 1643) (by decide +kernel), List.mem_of_getElem? (i := 1644) (by decide +kernel)⟩
theorem lw_p85 : lw_okq (⟨"BrokenLoavesModel", "isRow", "(II)Z"⟩, 39) := ⟨⟨by decide +kernel, by decide +kernel⟩, List.mem_of_getElem? (i := 1148) (by decide +kernel), List.mem_of_getElem? (i := 1660) (by decide +kernel), List.mem_of_getElem? (i := 1661) (by decide +kernel)⟩
theorem lw_p86 : lw_okq (⟨"BrokenLoavesModel", "isAct", "(I)Z"⟩, 39) := ⟨⟨by decide +kernel, by decide +kernel⟩, List.mem_of_getElem? (i := 1148) (by decide +kernel), List.mem_of_getElem? (i := 1672) (by decide +kernel), List.mem_of_getElem? (i := 1673) (by decide +kernel)⟩
theorem lw_p87 : lw_okq (⟨"BrokenLoavesModel", "lacks", "(II)I"⟩, 39) := ⟨⟨by decide +kernel, by decide +kernel⟩, List.mem_of_getElem? (i := 1148) (by decide +kernel), List.mem_of_getElem? (i := 1694) (by decide +kernel), List.mem_of_getElem? (i := 1695) (by decide +kernel)⟩
theorem lw_p88 : lw_okq (⟨"BrokenLoavesModel", "isItem", "(III)Z"⟩, 39) := ⟨⟨by decide +kernel, by decide +kernel⟩, List.mem_of_getElem? (i := 1148) (by decide +kernel), List.mem_of_getElem? (i := 1702) (by decide +kernel), List.mem_of_getElem? (i := 1703) (by decide +kernel)⟩
theorem lw_p89 : lw_okq (⟨"BrokenLoavesModel", "heldOn", "(I)I"⟩, 39) := ⟨⟨by decide +kernel, by decide +kernel⟩, List.mem_of_getElem? (i := 1148) (by decide +kernel), List.mem_of_getElem? (i := 1718) (by decide +kernel), List.mem_of_getElem? (i := 1719) (by decide +kernel)⟩
theorem lw_p90 : lw_okq (⟨"BrokenLoavesModel", "hailsAs", "(II)I"⟩, 39) := ⟨⟨by decide +kernel, by decide +kernel⟩, List.mem_of_getElem? (i := 1148) (by decide +kernel), List.mem_of_getElem? (i := 1726) (by decide +kernel), List.mem_of_getElem? (i := 1727) (by decide +kernel)⟩
theorem lw_p91 : lw_okq (⟨"BrokenLoavesModel", "starts", "(I)V"⟩, 39) := ⟨⟨by decide +kernel, by decide +kernel⟩, List.mem_of_getElem? (i := 1148) (by decide +kernel), List.mem_of_getElem? (i := 1730) (by decide +kernel), List.mem_of_getElem? (i := 1731) (by decide +kernel)⟩
theorem lw_p92 : lw_okq (⟨"BrokenLoavesModel", "sharesAs", "(II)I"⟩, 39) := ⟨⟨by decide +kernel, by decide +kernel⟩, List.mem_of_getElem? (i := 1148) (by decide +kernel), List.mem_of_getElem? (i := 1734) (by decide +kernel), List.mem_of_getElem? (i := 1735) (by decide +kernel)⟩
theorem lw_p93 : lw_okq (⟨"BrokenLoavesModel", "weighsAs", "(II)I"⟩, 39) := ⟨⟨by decide +kernel, by decide +kernel⟩, List.mem_of_getElem? (i := 1148) (by decide +kernel), List.mem_of_getElem? (i := 1738) (by decide +kernel), List.mem_of_getElem? (i := 1739) (by decide +kernel)⟩
theorem lw_p94 : lw_okq (⟨"BrokenLoavesModel", "blessesAs", "(II)I"⟩, 39) := ⟨⟨by decide +kernel, by decide +kernel⟩, List.mem_of_getElem? (i := 1148) (by decide +kernel), List.mem_of_getElem? (i := 1742) (by decide +kernel), List.mem_of_getElem? (i := 1743) (by decide +kernel)⟩
def lw_privs_6 : List (MethodName × Nat) := [(⟨"BrokenLoavesModel", "playedFrom", "(II)I"⟩, 39), (⟨"BrokenLoavesModel", "fitting", "(I)I"⟩, 39), (⟨"BrokenLoavesModel", "tellsStranger", "(III)V"⟩, 39), (⟨"BrokenLoavesModel", "isSo", "(I)Z"⟩, 39), (⟨"BrokenLoavesModel", "byLot", "()I"⟩, 39), (⟨"BrokenLoavesModel", "isRow", "(II)Z"⟩, 39), (⟨"BrokenLoavesModel", "isAct", "(I)Z"⟩, 39), (⟨"BrokenLoavesModel", "lacks", "(II)I"⟩, 39), (⟨"BrokenLoavesModel", "isItem", "(III)Z"⟩, 39), (⟨"BrokenLoavesModel", "heldOn", "(I)I"⟩, 39), (⟨"BrokenLoavesModel", "hailsAs", "(II)I"⟩, 39), (⟨"BrokenLoavesModel", "starts", "(I)V"⟩, 39), (⟨"BrokenLoavesModel", "sharesAs", "(II)I"⟩, 39), (⟨"BrokenLoavesModel", "weighsAs", "(II)I"⟩, 39), (⟨"BrokenLoavesModel", "blessesAs", "(II)I"⟩, 39)]
theorem lw_r6 : ∀ q ∈ lw_privs_6, lw_okq q := List.forall_mem_cons.mpr ⟨lw_p80, List.forall_mem_cons.mpr ⟨lw_p81, List.forall_mem_cons.mpr ⟨lw_p82, List.forall_mem_cons.mpr ⟨lw_p83, List.forall_mem_cons.mpr ⟨lw_p84, List.forall_mem_cons.mpr ⟨lw_p85, List.forall_mem_cons.mpr ⟨lw_p86, List.forall_mem_cons.mpr ⟨lw_p87, List.forall_mem_cons.mpr ⟨lw_p88, List.forall_mem_cons.mpr ⟨lw_p89, List.forall_mem_cons.mpr ⟨lw_p90, List.forall_mem_cons.mpr ⟨lw_p91, List.forall_mem_cons.mpr ⟨lw_p92, List.forall_mem_cons.mpr ⟨lw_p93, List.forall_mem_cons.mpr ⟨lw_p94, fun _ h => absurd h List.not_mem_nil⟩⟩⟩⟩⟩⟩⟩⟩⟩⟩⟩⟩⟩⟩⟩
def lw_privs : List (MethodName × Nat) := lw_privs_1 ++ (lw_privs_2 ++ (lw_privs_3 ++ (lw_privs_4 ++ (lw_privs_5 ++ (lw_privs_6)))))
def lw_tbl : List Cond := k2_sels lw_privs ++ tables_1
theorem lw_privs_ok : ∀ q ∈ lw_privs, lw_okq q := by
  show ∀ q ∈ lw_privs_1 ++ (lw_privs_2 ++ (lw_privs_3 ++ (lw_privs_4 ++ (lw_privs_5 ++ (lw_privs_6))))), lw_okq q
  exact List.forall_mem_append.mpr ⟨lw_r1, List.forall_mem_append.mpr ⟨lw_r2, List.forall_mem_append.mpr ⟨lw_r3, List.forall_mem_append.mpr ⟨lw_r4, List.forall_mem_append.mpr ⟨lw_r5, lw_r6⟩⟩⟩⟩⟩

def RX0 : String := "BrokenLoaves$Bishop"
def TX0 : u_T := fun k => match k with
  | _ => ("", "", "", false)
def tyX0 : Nat → FieldType := fun k => match k with
  | _ => .int
abbrev wsX00 : List Cond := u_ws RX0 TX0 0
theorem nmX0 : ∀ a, a < 0 → ∀ b, b < 0 → a ≠ b → (TX0 a).2.1 ≠ (TX0 b).2.1 := by decide +kernel
theorem tyX0_ok : ∀ k, k < 0 → parseFieldDescriptor (TX0 k).2.2.1 = some (tyX0 k) := by decide +kernel
def RX1 : String := "BrokenLoaves$Course"
def TX1 : u_T := fun k => match k with
  | 0 => ("BrokenLoaves$Course", "day", "I", false)
  | 1 => ("BrokenLoaves$Course", "snow", "I", false)
  | 2 => ("BrokenLoaves$Course", "loaf", "I", false)
  | 3 => ("BrokenLoaves$Course", "score", "I", false)
  | 4 => ("BrokenLoaves$Course", "met", "I", false)
  | _ => ("BrokenLoaves$Course", "fed", "I", false)
def tyX1 : Nat → FieldType := fun k => match k with
  | 0 => .int
  | 1 => .int
  | 2 => .int
  | 3 => .int
  | 4 => .int
  | _ => .int
abbrev wsX10 : List Cond := u_ws RX1 TX1 6
theorem nmX1 : ∀ a, a < 6 → ∀ b, b < 6 → a ≠ b → (TX1 a).2.1 ≠ (TX1 b).2.1 := by decide +kernel
theorem tyX1_ok : ∀ k, k < 6 → parseFieldDescriptor (TX1 k).2.2.1 = some (tyX1 k) := by decide +kernel
def RX2 : String := "BrokenLoaves$Deed"
def TX2 : u_T := fun k => match k with
  | 0 => ("BrokenLoaves$Deed", "number", "I", false)
  | 1 => ("BrokenLoaves$Deed", "gate", "I", false)
  | 2 => ("BrokenLoaves$Deed", "partedBy0", "Z", false)
  | 3 => ("BrokenLoaves$Deed", "bodies", "[I", true)
  | _ => ("BrokenLoaves$Deed", "count", "I", false)
def tyX2 : Nat → FieldType := fun k => match k with
  | 0 => .int
  | 1 => .int
  | 2 => .boolean
  | 3 => .array .int
  | _ => .int
abbrev wsX20 : List Cond := u_ws RX2 TX2 5
theorem nmX2 : ∀ a, a < 5 → ∀ b, b < 5 → a ≠ b → (TX2 a).2.1 ≠ (TX2 b).2.1 := by decide +kernel
theorem tyX2_ok : ∀ k, k < 5 → parseFieldDescriptor (TX2 k).2.2.1 = some (tyX2 k) := by decide +kernel
def RX3 : String := "BrokenLoaves$Friend"
def TX3 : u_T := fun k => match k with
  | _ => ("", "", "", false)
def tyX3 : Nat → FieldType := fun k => match k with
  | _ => .int
abbrev wsX30 : List Cond := u_ws RX3 TX3 0
theorem nmX3 : ∀ a, a < 0 → ∀ b, b < 0 → a ≠ b → (TX3 a).2.1 ≠ (TX3 b).2.1 := by decide +kernel
theorem tyX3_ok : ∀ k, k < 0 → parseFieldDescriptor (TX3 k).2.2.1 = some (tyX3 k) := by decide +kernel
def RX4 : String := "BrokenLoaves$Person"
def TX4 : u_T := fun k => match k with
  | _ => ("", "", "", false)
def tyX4 : Nat → FieldType := fun k => match k with
  | _ => .int
abbrev wsX40 : List Cond := u_ws RX4 TX4 0
theorem nmX4 : ∀ a, a < 0 → ∀ b, b < 0 → a ≠ b → (TX4 a).2.1 ≠ (TX4 b).2.1 := by decide +kernel
theorem tyX4_ok : ∀ k, k < 0 → parseFieldDescriptor (TX4 k).2.2.1 = some (tyX4 k) := by decide +kernel
def RX5 : String := "BrokenLoaves$Pilgrim"
def TX5 : u_T := fun k => match k with
  | _ => ("", "", "", false)
def tyX5 : Nat → FieldType := fun k => match k with
  | _ => .int
abbrev wsX50 : List Cond := u_ws RX5 TX5 0
theorem nmX5 : ∀ a, a < 0 → ∀ b, b < 0 → a ≠ b → (TX5 a).2.1 ≠ (TX5 b).2.1 := by decide +kernel
theorem tyX5_ok : ∀ k, k < 0 → parseFieldDescriptor (TX5 k).2.2.1 = some (tyX5 k) := by decide +kernel
def RX6 : String := "BrokenLoaves$Planner"
def TX6 : u_T := fun k => match k with
  | 0 => ("BrokenLoaves$Planner", "road", "LBrokenLoaves$Road;", true)
  | 1 => ("BrokenLoaves$Planner", "levels", "[LBrokenLoaves$Course;", true)
  | 2 => ("BrokenLoaves$Planner", "path", "[I", true)
  | 3 => ("BrokenLoaves$Planner", "wanted", "I", false)
  | 4 => ("BrokenLoaves$Planner", "length", "I", false)
  | 5 => ("BrokenLoaves$Planner", "mostWorth", "I", false)
  | 6 => ("BrokenLoaves$Planner", "bestPlans", "I", false)
  | 7 => ("BrokenLoaves$Planner", "first", "[I", true)
  | 8 => ("BrokenLoaves$Planner", "fewestTold", "I", false)
  | 9 => ("BrokenLoaves$Planner", "everFed", "I", false)
  | _ => ("BrokenLoaves$Planner", "opening", "I", false)
def tyX6 : Nat → FieldType := fun k => match k with
  | 0 => .object "BrokenLoaves$Road"
  | 1 => .array (.object "BrokenLoaves$Course")
  | 2 => .array .int
  | 3 => .int
  | 4 => .int
  | 5 => .int
  | 6 => .int
  | 7 => .array .int
  | 8 => .int
  | 9 => .int
  | _ => .int
abbrev wsX60 : List Cond := u_ws RX6 TX6 11
theorem nmX6 : ∀ a, a < 11 → ∀ b, b < 11 → a ≠ b → (TX6 a).2.1 ≠ (TX6 b).2.1 := by decide +kernel
theorem tyX6_ok : ∀ k, k < 11 → parseFieldDescriptor (TX6 k).2.2.1 = some (tyX6 k) := by decide +kernel
def RX7 : String := "BrokenLoaves$Road"
def TX7 : u_T := fun k => match k with
  | 0 => ("BrokenLoaves$Road", "kinds", "[LBrokenLoaves$Person;", true)
  | 1 => ("BrokenLoaves$Road", "now", "LBrokenLoaves$Course;", true)
  | 2 => ("BrokenLoaves$Road", "count", "I", false)
  | 3 => ("BrokenLoaves$Road", "kind", "[I", true)
  | 4 => ("BrokenLoaves$Road", "need", "[I", true)
  | 5 => ("BrokenLoaves$Road", "tale", "[I", true)
  | 6 => ("BrokenLoaves$Road", "gate", "[I", true)
  | 7 => ("BrokenLoaves$Road", "weather", "[I", true)
  | 8 => ("BrokenLoaves$Road", "dust", "[I", true)
  | 9 => ("BrokenLoaves$Road", "takes", "[I", true)
  | 10 => ("BrokenLoaves$Road", "end", "I", false)
  | 11 => ("BrokenLoaves$Road", "z", "I", false)
  | 12 => ("BrokenLoaves$Road", "ruleCount", "I", false)
  | 13 => ("BrokenLoaves$Road", "code", "[I", true)
  | 14 => ("BrokenLoaves$Road", "facts", "[I", true)
  | 15 => ("BrokenLoaves$Road", "reportCount", "I", false)
  | 16 => ("BrokenLoaves$Road", "reportDay", "[I", true)
  | 17 => ("BrokenLoaves$Road", "reportAsked", "[I", true)
  | 18 => ("BrokenLoaves$Road", "reportLeast", "[I", true)
  | _ => ("BrokenLoaves$Road", "reportMost", "[I", true)
def tyX7 : Nat → FieldType := fun k => match k with
  | 0 => .array (.object "BrokenLoaves$Person")
  | 1 => .object "BrokenLoaves$Course"
  | 2 => .int
  | 3 => .array .int
  | 4 => .array .int
  | 5 => .array .int
  | 6 => .array .int
  | 7 => .array .int
  | 8 => .array .int
  | 9 => .array .int
  | 10 => .int
  | 11 => .int
  | 12 => .int
  | 13 => .array .int
  | 14 => .array .int
  | 15 => .int
  | 16 => .array .int
  | 17 => .array .int
  | 18 => .array .int
  | _ => .array .int
abbrev wsX70 : List Cond := u_ws RX7 TX7 20
theorem nmX7 : ∀ a, a < 20 → ∀ b, b < 20 → a ≠ b → (TX7 a).2.1 ≠ (TX7 b).2.1 := by decide +kernel
theorem tyX7_ok : ∀ k, k < 20 → parseFieldDescriptor (TX7 k).2.2.1 = some (tyX7 k) := by decide +kernel
def RX8 : String := "BrokenLoaves$RuleText"
def TX8 : u_T := fun k => match k with
  | 0 => ("BrokenLoaves$RuleText", "tape", "[B", true)
  | 1 => ("BrokenLoaves$RuleText", "length", "I", false)
  | 2 => ("BrokenLoaves$RuleText", "tokens", "[I", true)
  | 3 => ("BrokenLoaves$RuleText", "places", "[I", true)
  | 4 => ("BrokenLoaves$RuleText", "tokenCount", "I", false)
  | 5 => ("BrokenLoaves$RuleText", "at", "I", false)
  | 6 => ("BrokenLoaves$RuleText", "draft", "[I", true)
  | 7 => ("BrokenLoaves$RuleText", "size", "I", false)
  | _ => ("BrokenLoaves$RuleText", "ruleCount", "I", false)
def tyX8 : Nat → FieldType := fun k => match k with
  | 0 => .array .byte
  | 1 => .int
  | 2 => .array .int
  | 3 => .array .int
  | 4 => .int
  | 5 => .int
  | 6 => .array .int
  | 7 => .int
  | _ => .int
abbrev wsX80 : List Cond := u_ws RX8 TX8 9
theorem nmX8 : ∀ a, a < 9 → ∀ b, b < 9 → a ≠ b → (TX8 a).2.1 ≠ (TX8 b).2.1 := by decide +kernel
theorem tyX8_ok : ∀ k, k < 9 → parseFieldDescriptor (TX8 k).2.2.1 = some (tyX8 k) := by decide +kernel
def RX9 : String := "BrokenLoaves$Tramp"
def TX9 : u_T := fun k => match k with
  | _ => ("", "", "", false)
def tyX9 : Nat → FieldType := fun k => match k with
  | _ => .int
abbrev wsX90 : List Cond := u_ws RX9 TX9 0
theorem nmX9 : ∀ a, a < 0 → ∀ b, b < 0 → a ≠ b → (TX9 a).2.1 ≠ (TX9 b).2.1 := by decide +kernel
theorem tyX9_ok : ∀ k, k < 0 → parseFieldDescriptor (TX9 k).2.2.1 = some (tyX9 k) := by decide +kernel
def RX10 : String := "BrokenLoaves$Twin"
def TX10 : u_T := fun k => match k with
  | _ => ("", "", "", false)
def tyX10 : Nat → FieldType := fun k => match k with
  | _ => .int
abbrev wsX100 : List Cond := u_ws RX10 TX10 0
theorem nmX10 : ∀ a, a < 0 → ∀ b, b < 0 → a ≠ b → (TX10 a).2.1 ≠ (TX10 b).2.1 := by decide +kernel
theorem tyX10_ok : ∀ k, k < 0 → parseFieldDescriptor (TX10 k).2.2.1 = some (tyX10 k) := by decide +kernel
def RX11 : String := "BrokenLoaves"
def TX11 : u_T := fun k => match k with
  | 0 => ("BrokenLoaves", "road", "LBrokenLoaves$Road;", true)
  | 1 => ("BrokenLoaves", "kept", "LBrokenLoaves$Road;", true)
  | 2 => ("BrokenLoaves", "anythingKept", "Z", false)
  | 3 => ("BrokenLoaves", "text", "LBrokenLoaves$RuleText;", true)
  | 4 => ("BrokenLoaves", "planner", "LBrokenLoaves$Planner;", true)
  | 5 => ("BrokenLoaves", "ahead", "LBrokenLoaves$Course;", true)
  | 6 => ("BrokenLoaves", "rows", "[I", true)
  | 7 => ("BrokenLoaves", "rowCount", "I", false)
  | 8 => ("BrokenLoaves", "sheetSort", "[I", true)
  | 9 => ("BrokenLoaves", "sheetLength", "[I", true)
  | 10 => ("BrokenLoaves", "sheetItems", "[[I", true)
  | 11 => ("BrokenLoaves", "shelfHolds", "[I", true)
  | 12 => ("BrokenLoaves", "shelfThing", "[I", true)
  | 13 => ("BrokenLoaves", "shelfLength", "[I", true)
  | _ => ("BrokenLoaves", "deed", "LBrokenLoaves$Deed;", true)
def tyX11 : Nat → FieldType := fun k => match k with
  | 0 => .object "BrokenLoaves$Road"
  | 1 => .object "BrokenLoaves$Road"
  | 2 => .boolean
  | 3 => .object "BrokenLoaves$RuleText"
  | 4 => .object "BrokenLoaves$Planner"
  | 5 => .object "BrokenLoaves$Course"
  | 6 => .array .int
  | 7 => .int
  | 8 => .array .int
  | 9 => .array .int
  | 10 => .array (.array .int)
  | 11 => .array .int
  | 12 => .array .int
  | 13 => .array .int
  | _ => .object "BrokenLoaves$Deed"
abbrev wsX110 : List Cond := u_ws RX11 TX11 15
theorem nmX11 : ∀ a, a < 15 → ∀ b, b < 15 → a ≠ b → (TX11 a).2.1 ≠ (TX11 b).2.1 := by decide +kernel
theorem tyX11_ok : ∀ k, k < 15 → parseFieldDescriptor (TX11 k).2.2.1 = some (tyX11 k) := by decide +kernel
def RX12 : String := "BrokenLoavesModel"
def TX12 : u_T := fun k => match k with
  | 0 => ("BrokenLoavesModel", "s", "[I", true)
  | 1 => ("BrokenLoavesModel", "kept", "[I", true)
  | 2 => ("BrokenLoavesModel", "laid", "[I", true)
  | 3 => ("BrokenLoavesModel", "isKept", "Z", false)
  | 4 => ("BrokenLoavesModel", "pile", "[I", true)
  | 5 => ("BrokenLoavesModel", "tape", "[I", true)
  | 6 => ("BrokenLoavesModel", "taped", "I", false)
  | 7 => ("BrokenLoavesModel", "letters", "[C", true)
  | 8 => ("BrokenLoavesModel", "at", "I", false)
  | 9 => ("BrokenLoavesModel", "begun", "I", false)
  | 10 => ("BrokenLoavesModel", "token", "I", false)
  | 11 => ("BrokenLoavesModel", "value", "I", false)
  | 12 => ("BrokenLoavesModel", "opened", "I", false)
  | 13 => ("BrokenLoavesModel", "steps", "I", false)
  | 14 => ("BrokenLoavesModel", "step", "[I", true)
  | 15 => ("BrokenLoavesModel", "read", "[I", true)
  | 16 => ("BrokenLoavesModel", "leastParts", "I", false)
  | 17 => ("BrokenLoavesModel", "firstGone", "I", false)
  | 18 => ("BrokenLoavesModel", "saved", "[I", true)
  | 19 => ("BrokenLoavesModel", "plan", "[I", true)
  | 20 => ("BrokenLoavesModel", "bestPlan", "[I", true)
  | 21 => ("BrokenLoavesModel", "most", "I", false)
  | 22 => ("BrokenLoavesModel", "many", "I", false)
  | 23 => ("BrokenLoavesModel", "few", "I", false)
  | 24 => ("BrokenLoavesModel", "everFed", "I", false)
  | 25 => ("BrokenLoavesModel", "loafThen", "[I", true)
  | 26 => ("BrokenLoavesModel", "snowThen", "[I", true)
  | 27 => ("BrokenLoavesModel", "firstFit", "I", false)
  | 28 => ("BrokenLoavesModel", "rows", "[I", true)
  | 29 => ("BrokenLoavesModel", "rowMany", "I", false)
  | 30 => ("BrokenLoavesModel", "sorts", "[I", true)
  | 31 => ("BrokenLoavesModel", "sizes", "[I", true)
  | 32 => ("BrokenLoavesModel", "number", "[I", true)
  | 33 => ("BrokenLoavesModel", "holds", "[I", true)
  | 34 => ("BrokenLoavesModel", "heldOne", "[I", true)
  | 35 => ("BrokenLoavesModel", "trace", "[I", true)
  | 36 => ("BrokenLoavesModel", "traced", "I", false)
  | 37 => ("BrokenLoavesModel", "own", "I", false)
  | _ => ("BrokenLoavesModel", "isParted", "Z", false)
def tyX12 : Nat → FieldType := fun k => match k with
  | 0 => .array .int
  | 1 => .array .int
  | 2 => .array .int
  | 3 => .boolean
  | 4 => .array .int
  | 5 => .array .int
  | 6 => .int
  | 7 => .array .char
  | 8 => .int
  | 9 => .int
  | 10 => .int
  | 11 => .int
  | 12 => .int
  | 13 => .int
  | 14 => .array .int
  | 15 => .array .int
  | 16 => .int
  | 17 => .int
  | 18 => .array .int
  | 19 => .array .int
  | 20 => .array .int
  | 21 => .int
  | 22 => .int
  | 23 => .int
  | 24 => .int
  | 25 => .array .int
  | 26 => .array .int
  | 27 => .int
  | 28 => .array .int
  | 29 => .int
  | 30 => .array .int
  | 31 => .array .int
  | 32 => .array .int
  | 33 => .array .int
  | 34 => .array .int
  | 35 => .array .int
  | 36 => .int
  | 37 => .int
  | _ => .boolean
abbrev wsX120 : List Cond := u_ws RX12 TX12 39
theorem nmX12 : ∀ a, a < 39 → ∀ b, b < 39 → a ≠ b → (TX12 a).2.1 ≠ (TX12 b).2.1 := by decide +kernel
theorem tyX12_ok : ∀ k, k < 39 → parseFieldDescriptor (TX12 k).2.2.1 = some (tyX12 k) := by decide +kernel
abbrev vwCl : List vw_C := [(RX0, TX0, 0), (RX1, TX1, 6), (RX2, TX2, 5), (RX3, TX3, 0), (RX4, TX4, 0), (RX5, TX5, 0), (RX6, TX6, 11), (RX7, TX7, 20), (RX8, TX8, 9), (RX9, TX9, 0), (RX10, TX10, 0), (RX11, TX11, 15), (RX12, TX12, 39)]
end
section
/-! THE ABSTRACT MACHINE: cells by number, ints as functions, methods by number; what one instruction asks (am_step), and what a judgement closed under it gives -/
abbrev am_I : Type := Nat → Nat → Int32
abbrev am_E : Type := Instr × Nat × Nat × Nat × List Nat × Int32
abbrev am_M : Type := MethodName × ByteArray × Nat × Option FieldType × List (List (Option am_E))
abbrev am_Q : Type := Option Value → am_I → Prop
abbrev am_J : Type := Nat → Nat → Nat → List (Option Value) → List Value → am_I → am_Q → Prop
def am_nth {α : Type} : List α → Nat → Option α
  | [], _ => none
  | a :: _, 0 => some a
  | _ :: l, n + 1 => am_nth l n
def am_set : List (Option Value) → Nat → Value → List (Option Value)
  | [], _, _ => []
  | _ :: l, 0, v => some v :: l
  | x :: l, n + 1, v => x :: am_set l n v
/-- locals at a method's entry -/
def am_exp : List Value → List (Option Value)
  | [] => []
  | v :: l => match v with
    | .long x => some (.long x) :: none :: am_exp l
    | w => some w :: am_exp l
def am_pad : Nat → List (Option Value) → List (Option Value)
  | 0, _ => []
  | n + 1, [] => none :: am_pad n []
  | n + 1, x :: l => x :: am_pad n l
def am_pop : Nat → List Value → List Value → Option (List Value × List Value)
  | 0, st, acc => some (acc, st)
  | n + 1, v :: st, acc => am_pop n st (v :: acc)
  | _ + 1, [], _ => none
def am_cs : List Value → Nat
  | [] => 0
  | v :: l => v.category + am_cs l
def am_mx (x y : Int32) : Int32 := if x < y then y else x
def am_mn (x y : Int32) : Int32 := if y < x then y else x
def am_ab (x : Int32) : Int32 := if 0 ≤ x then x else 0 - x
/-- the two methods that take a long, in their second place -/
def am_lg (b : Nat) : Bool := Nat.beq b 103 || Nat.beq b 198
def am_nol : List Value → Bool
  | [] => true
  | .long _ :: _ => false
  | .double _ :: _ => false
  | _ :: l => am_nol l
def am_argok (b : Nat) (args : List Value) : Bool := match args with
  | [.ref _, .long _, .int _] => am_lg b
  | l => am_nol l
def am_put (I : am_I) (o k : Nat) (v : Int32) : am_I := fun o' k' => if o' = o ∧ k' = k then v else I o' k'
def am_cpy (I : am_I) (o1 p1 o2 p2 n : Nat) : am_I := fun o' k' => if o' = o2 ∧ p2 ≤ k' ∧ k' < p2 + n then I o1 (p1 + (k' - p2)) else I o' k'
/-- the cells: objects by class, arrays by type and length -/
abbrev am_S : Type := Nat ⊕ (FieldType × Nat)
def am_Gl : List am_S := [.inl 11, .inr (.object "BrokenLoaves$Person", 6), .inl 4, .inl 9, .inl 5, .inl 0, .inl 3, .inl 10, .inl 7, .inl 1, .inr (.int, 6), .inr (.int, 6), .inr (.int, 6), .inr (.int, 6), .inr (.int, 16), .inr (.int, 6), .inr (.int, 6), .inr (.int, 200), .inr (.int, 5), .inr (.int, 6), .inr (.int, 6), .inr (.int, 6), .inr (.int, 6), .inl 7, .inl 1, .inr (.int, 6), .inr (.int, 6), .inr (.int, 6), .inr (.int, 6), .inr (.int, 16), .inr (.int, 6), .inr (.int, 6), .inr (.int, 200), .inr (.int, 5), .inr (.int, 6), .inr (.int, 6), .inr (.int, 6), .inr (.int, 6), .inl 8, .inr (.byte, 200), .inr (.int, 200), .inr (.int, 200), .inr (.int, 200), .inl 6, .inr (.object "BrokenLoaves$Course", 5), .inr (.int, 4), .inr (.int, 4), .inl 1, .inl 1, .inl 1, .inl 1, .inl 1, .inl 1, .inr (.int, 12), .inr (.int, 4), .inr (.int, 4), .inr (.array .int, 4), .inr (.int, 40), .inr (.int, 40), .inr (.int, 40), .inr (.int, 40), .inr (.int, 4), .inr (.int, 4), .inr (.int, 4), .inl 2, .inr (.int, 30), .inl 12, .inr (.int, 322), .inr (.int, 322), .inr (.int, 74), .inr (.int, 200), .inr (.int, 200), .inr (.char, 144), .inr (.int, 200), .inr (.int, 24), .inr (.int, 370), .inr (.int, 4), .inr (.int, 4), .inr (.int, 16), .inr (.int, 16), .inr (.int, 12), .inr (.int, 4), .inr (.int, 4), .inr (.int, 160), .inr (.int, 4), .inr (.int, 4), .inr (.int, 30)]
def am_G (o : Nat) : Option am_S := am_nth am_Gl o
abbrev am_n : Nat := 87
/-- which cell a place of a cell refers to: never changed once the objects are made -/
def am_Rl : List (List (Option Nat)) := [[some 8, some 23, none, some 38, some 43, some 52, some 53, none, some 54, some 55, some 56, some 61, some 62, some 63, some 64], [some 2, some 3, some 4, some 5, some 6, some 7], [], [], [], [], [], [], [some 1, some 9, none, some 10, some 11, some 12, some 13, some 14, some 15, some 16, none, none, none, some 17, some 18, none, some 19, some 20, some 21, some 22], [], [], [], [], [], [], [], [], [], [], [], [], [], [], [some 1, some 24, none, some 25, some 26, some 27, some 28, some 29, some 30, some 31, none, none, none, some 32, some 33, none, some 34, some 35, some 36, some 37], [], [], [], [], [], [], [], [], [], [], [], [], [], [], [some 39, none, some 40, some 41, none, none, some 42], [], [], [], [], [some 8, some 44, some 45, none, none, none, none, some 46], [some 47, some 48, some 49, some 50, some 51], [], [], [], [], [], [], [], [], [], [], [], [some 57, some 58, some 59, some 60], [], [], [], [], [], [], [], [none, none, none, some 65], [], [some 67, some 68, some 69, none, some 70, some 71, none, some 72, none, none, none, none, none, none, some 73, some 74, none, none, some 75, some 76, some 77, none, none, none, none, some 78, some 79, none, some 80, none, some 81, some 82, some 83, some 84, some 85, some 86]]
def am_R (o k : Nat) : Option Nat := match am_nth am_Rl o with
  | some l => match am_nth l k with
    | some r => r
    | none => none
  | none => none
/-- fields of a class: 0 an int, 1 a reference, 2 a boolean -/
def am_Fl : List (List Nat) := [[], [0, 0, 0, 0, 0, 0], [0, 0, 2, 1, 0], [], [], [], [1, 1, 1, 0, 0, 0, 0, 1, 0, 0, 0], [1, 1, 0, 1, 1, 1, 1, 1, 1, 1, 0, 0, 0, 1, 1, 0, 1, 1, 1, 1], [1, 0, 1, 1, 0, 0, 1, 0, 0], [], [], [1, 1, 2, 1, 1, 1, 1, 0, 1, 1, 1, 1, 1, 1, 1], [1, 1, 1, 2, 1, 1, 0, 1, 0, 0, 0, 0, 0, 0, 1, 1, 0, 0, 1, 1, 1, 0, 0, 0, 0, 1, 1, 0, 1, 0, 1, 1, 1, 1, 1, 1, 0, 0, 2]]
def am_ft (ci k : Nat) : Nat := match am_nth am_Fl ci with
  | some l => match am_nth l k with
    | some r => r
    | none => 0
  | none => 0
abbrev am_scr : Nat := 200
def am_ins (M : am_M) (pc : Nat) : Option am_E := match am_nth M.2.2.2.2 (pc / 16) with
  | some l => match am_nth l (pc % 16) with
    | some x => x
    | none => none
  | none => none
/-- a text's letters, by its number -/
def am_txt : List (List Int32) := [[112, 101, 114, 115, 111, 110], [116, 114, 97, 109, 112], [112, 105, 108, 103, 114, 105, 109], [98, 105, 115, 104, 111, 112], [102, 114, 105, 101, 110, 100], [100, 111, 117, 98, 108, 101], [98, 114, 101, 97, 107], [112, 97, 115, 115], [115, 104, 117, 116], [105, 102], [111, 114], [97, 110, 100], [110, 111, 116], [100, 97, 121], [116, 97, 108, 101], [115, 116, 114, 97, 110, 103, 101], [115, 110, 111, 119], [110, 117, 109, 98, 101, 114]]
def am_txl (w : Nat) : Nat := match am_nth am_txt w with
  | some l => l.length
  | none => 0
def am_txc (w k : Nat) : Int32 := match am_nth am_txt w with
  | some l => l.getD k 0
  | none => 0

section
variable (mt : Nat → Option am_M) (L : Nat) (xs : Nat → Int32) (Y X : am_J)
def am_call (b : Nat) (args rest : List Value) (d mi n : Nat) (lv : List (Option Value)) (I : am_I) (Q : am_Q) : Prop :=
  match d with
  | 0 => False
  | d' + 1 => match mt b with
    | none => False
    | some M => match Nat.ble (am_cs rest) 8 && (Nat.ble (am_cs args) M.2.2.1 && am_argok b args) with
      | false => False
      | true => Y d' b 0 (am_pad M.2.2.1 (am_exp args)) [] I (fun r I' => X (d' + 1) mi n lv (r.toList ++ rest) I' Q)
def am_sw (ts : List Nat) (v x : Int32) (dflt d mi : Nat) (lv : List (Option Value)) (st : List Value) (I : am_I) (Q : am_Q) : Prop :=
  match ts with
  | [] => X d mi dflt lv st I Q
  | t :: ts => (x = v → X d mi t lv st I Q) ∧ (¬ x = v → am_sw ts (v + 1) x dflt d mi lv st I Q)
def am_bin (f : Int32 → Int32 → Int32) (d mi n : Nat) (lv : List (Option Value)) (st : List Value) (I : am_I) (Q : am_Q) : Prop :=
  match st with
  | .int y :: .int x :: st => X d mi n lv (.int (f x y) :: st) I Q
  | _ => False
def am_br2 (c : Int32 → Int32 → Prop) (a d mi n : Nat) (lv : List (Option Value)) (st : List Value) (I : am_I) (Q : am_Q) : Prop :=
  match st with
  | .int y :: .int x :: st => (c x y → X d mi a lv st I Q) ∧ (¬ c x y → X d mi n lv st I Q)
  | _ => False
def am_br1 (c : Int32 → Prop) (a d mi n : Nat) (lv : List (Option Value)) (st : List Value) (I : am_I) (Q : am_Q) : Prop :=
  match st with
  | .int x :: st => (c x → X d mi a lv st I Q) ∧ (¬ c x → X d mi n lv st I Q)
  | _ => False
def am_ild (a d mi n : Nat) (lv : List (Option Value)) (st : List Value) (I : am_I) (Q : am_Q) : Prop :=
  match am_nth lv a with
  | some (some (.int x)) => X d mi n lv (.int x :: st) I Q
  | _ => False
def am_lld (a d mi n : Nat) (lv : List (Option Value)) (st : List Value) (I : am_I) (Q : am_Q) : Prop :=
  match am_nth lv a with
  | some (some (.long x)) => X d mi n lv (.long x :: st) I Q
  | _ => False
def am_ald (a d mi n : Nat) (lv : List (Option Value)) (st : List Value) (I : am_I) (Q : am_Q) : Prop :=
  match am_nth lv a with
  | some (some (.ref x)) => X d mi n lv (.ref x :: st) I Q
  | _ => False
def am_ist (a d mi n : Nat) (lv : List (Option Value)) (st : List Value) (I : am_I) (Q : am_Q) : Prop :=
  match st with
  | .int x :: st => X d mi n (am_set lv a (.int x)) st I Q
  | _ => False
def am_ast (a d mi n : Nat) (lv : List (Option Value)) (st : List Value) (I : am_I) (Q : am_Q) : Prop :=
  match st with
  | .ref x :: st => X d mi n (am_set lv a (.ref x)) st I Q
  | _ => False
def am_inc (a : Nat) (v : Int32) (d mi n : Nat) (lv : List (Option Value)) (st : List Value) (I : am_I) (Q : am_Q) : Prop :=
  match am_nth lv a with
  | some (some (.int x)) => X d mi n (am_set lv a (.int (x + v))) st I Q
  | _ => False
def am_div (f : Int32 → Int32 → Int32) (d mi n : Nat) (lv : List (Option Value)) (st : List Value) (I : am_I) (Q : am_Q) : Prop :=
  match st with
  | .int y :: .int x :: st => ¬ y = 0 ∧ X d mi n lv (.int (f x y) :: st) I Q
  | _ => False
def am_una (f : Int32 → Int32) (d mi n : Nat) (lv : List (Option Value)) (st : List Value) (I : am_I) (Q : am_Q) : Prop :=
  match st with
  | .int x :: st => X d mi n lv (.int (f x) :: st) I Q
  | _ => False
def am_lbin (f : Int64 → Int64 → Int64) (d mi n : Nat) (lv : List (Option Value)) (st : List Value) (I : am_I) (Q : am_Q) : Prop :=
  match st with
  | .long y :: .long x :: st => X d mi n lv (.long (f x y) :: st) I Q
  | _ => False
def am_lsh (f : Int64 → Int32 → Int64) (d mi n : Nat) (lv : List (Option Value)) (st : List Value) (I : am_I) (Q : am_Q) : Prop :=
  match st with
  | .int y :: .long x :: st => X d mi n lv (.long (f x y) :: st) I Q
  | _ => False
def am_getf (ci k : Nat) (d mi n : Nat) (lv : List (Option Value)) (st : List Value) (I : am_I) (Q : am_Q) : Prop :=
  match st with
  | .ref o :: st => match am_G o with
    | some (.inl c) => match Nat.beq c ci with
      | true => match am_ft ci k with
        | 1 => match am_R o k with
          | some r => X d mi n lv (.ref r :: st) I Q
          | none => False
        | _ => X d mi n lv (.int (I o k) :: st) I Q
      | false => False
    | _ => False
  | _ => False
def am_putf (ci k : Nat) (d mi n : Nat) (lv : List (Option Value)) (st : List Value) (I : am_I) (Q : am_Q) : Prop :=
  match st with
  | .int v :: .ref o :: st => match am_G o with
    | some (.inl c) => match Nat.beq c ci with
      | true => match am_ft ci k with
        | 0 => X d mi n lv st (am_put I o k v) Q
        | 2 => (v = 0 ∨ v = 1) ∧ X d mi n lv st (am_put I o k v) Q
        | _ => False
      | false => False
    | _ => False
  | _ => False
/-- t: 0 an int array's load, 1 a byte array's, 2 a char array's -/
def am_ald1 (t : Nat) (d mi n : Nat) (lv : List (Option Value)) (st : List Value) (I : am_I) (Q : am_Q) : Prop :=
  match st with
  | .int i :: .ref o :: st => match am_G o with
    | some (.inr (.int, w)) => match t with
      | 0 => vp_in i w ∧ X d mi n lv (.int (I o i.toNatClampNeg) :: st) I Q
      | _ => False
    | some (.inr (.byte, w)) => match t with
      | 1 => vp_in i w ∧ X d mi n lv (.int (I o i.toNatClampNeg) :: st) I Q
      | _ => False
    | some (.inr (.char, w)) => match t with
      | 2 => vp_in i w ∧ X d mi n lv (.int (I o i.toNatClampNeg) :: st) I Q
      | _ => False
    | none => match t with
      | 0 => match Nat.beq o am_scr with
        | true => vp_in i L ∧ X d mi n lv (.int (xs i.toNatClampNeg) :: st) I Q
        | false => False
      | _ => False
    | _ => False
  | _ => False
def am_ast1 (t : Nat) (d mi n : Nat) (lv : List (Option Value)) (st : List Value) (I : am_I) (Q : am_Q) : Prop :=
  match st with
  | .int v :: .int i :: .ref o :: st => match am_G o with
    | some (.inr (.int, w)) => match t with
      | 0 => vp_in i w ∧ X d mi n lv st (am_put I o i.toNatClampNeg v) Q
      | _ => False
    | some (.inr (.byte, w)) => match t with
      | 1 => vp_in i w ∧ X d mi n lv st (am_put I o i.toNatClampNeg v.toInt8.toInt32) Q
      | _ => False
    | _ => False
  | _ => False
def am_aald (d mi n : Nat) (lv : List (Option Value)) (st : List Value) (I : am_I) (Q : am_Q) : Prop :=
  match st with
  | .int i :: .ref o :: st => match am_G o with
    | some (.inr (.object _, w)) => vp_in i w ∧ match am_R o i.toNatClampNeg with
      | some r => X d mi n lv (.ref r :: st) I Q
      | none => False
    | some (.inr (.array _, w)) => vp_in i w ∧ match am_R o i.toNatClampNeg with
      | some r => X d mi n lv (.ref r :: st) I Q
      | none => False
    | _ => False
  | _ => False
def am_alen (d mi n : Nat) (lv : List (Option Value)) (st : List Value) (I : am_I) (Q : am_Q) : Prop :=
  match st with
  | .ref o :: st => match am_G o with
    | some (.inr (_, w)) => X d mi n lv (.int (nI w) :: st) I Q
    | none => match Nat.beq o am_scr with
      | true => X d mi n lv (.int (nI L) :: st) I Q
      | false => False
    | _ => False
  | _ => False
def am_ret (a : Nat) (st : List Value) (I : am_I) (Q : am_Q) : Prop :=
  match st with
  | [.int v] => match a with
    | 0 => Q (some (.int v)) I
    | _ => (v = 0 ∨ v = 1) ∧ Q (some (.int v)) I
  | _ => False
def am_aret (st : List Value) (I : am_I) (Q : am_Q) : Prop :=
  match st with
  | [.ref v] => Q (some (.ref v)) I
  | _ => False
def am_vret (st : List Value) (I : am_I) (Q : am_Q) : Prop :=
  match st with
  | [] => Q none I
  | _ => False
def am_inv (a b : Nat) (ts : List Nat) (d mi n : Nat) (lv : List (Option Value)) (st : List Value) (I : am_I) (Q : am_Q) : Prop :=
  match a, ts with
  | 0, [np] => match am_pop np st [] with
    | some (args, rest) => am_call mt Y X b args rest d mi n lv I Q
    | none => False
  | 4, [np] => match am_pop np st [] with
    | some (args, rest) => am_call mt Y X b args rest d mi n lv I Q
    | none => False
  | 1, [np, ci] => match am_pop np st [] with
    | some (args, .ref o :: rest) => match am_G o with
      | some (.inl c) => match Nat.beq c ci with
        | true => am_call mt Y X b (.ref o :: args) rest d mi n lv I Q
        | false => False
      | _ => False
    | _ => False
  | 2, np :: tb => match am_pop np st [] with
    | some (args, .ref o :: rest) => match am_G o with
      | some (.inl c) => match am_nth tb c with
        | some (b' + 1) => am_call mt Y X b' (.ref o :: args) rest d mi n lv I Q
        | _ => False
      | _ => False
    | _ => False
  | 3, [np, _] => match am_pop np st [] with
    | some (args, .ref o :: rest) => match am_G o with
      | some (.inl _) => am_call mt Y X b (.ref o :: args) rest d mi n lv I Q
      | _ => False
    | _ => False
  | 5, [] => match st with
    | .int k :: .int dp :: .ref o2 :: .int sp :: .ref o1 :: rest => match am_G o1 with
      | some (.inr (.int, n1)) => match am_G o2 with
        | some (.inr (.int, n2)) => match d with
          | 0 => False
          | d' + 1 => match Nat.ble (am_cs rest) 8 with
            | true => (0 ≤ sp ∧ 0 ≤ dp ∧ 0 ≤ k ∧ sp.toNatClampNeg + k.toNatClampNeg ≤ n1 ∧ dp.toNatClampNeg + k.toNatClampNeg ≤ n2) ∧ X (d' + 1) mi n lv rest (am_cpy I o1 sp.toNatClampNeg o2 dp.toNatClampNeg k.toNatClampNeg) Q
            | false => False
        | _ => False
      | _ => False
    | _ => False
  | 8, [] => match d with
    | d' + 1 => match st with
      | .int y :: .int x :: rest => match Nat.ble (am_cs rest) 8 with
        | true => X (d' + 1) mi n lv (.int (am_mx x y) :: rest) I Q
        | false => False
      | _ => False
    | _ => False
  | 9, [] => match d with
    | d' + 1 => match st with
      | .int y :: .int x :: rest => match Nat.ble (am_cs rest) 8 with
        | true => X (d' + 1) mi n lv (.int (am_mn x y) :: rest) I Q
        | false => False
      | _ => False
    | _ => False
  | 10, [] => match d with
    | d' + 1 => match st with
      | .int x :: rest => match Nat.ble (am_cs rest) 8 with
        | true => X (d' + 1) mi n lv (.int (am_ab x) :: rest) I Q
        | false => False
      | _ => False
    | _ => False
  | 6, [] => match d with
    | d' + 4 => match st with
      | .ref o :: rest => match Nat.ble (am_cs rest) 8 with
        | true => (1000 ≤ o ∧ o < 1018) ∧ X (d' + 4) mi n lv (.int (nI (am_txl (o - 1000))) :: rest) I Q
        | false => False
      | _ => False
    | _ => False
  | 7, [] => match d with
    | d' + 4 => match st with
      | .int i :: .ref o :: rest => match Nat.ble (am_cs rest) 8 with
        | true => (1000 ≤ o ∧ o < 1018 ∧ vp_in i (am_txl (o - 1000))) ∧ X (d' + 4) mi n lv (.int (am_txc (o - 1000) i.toNatClampNeg) :: rest) I Q
        | false => False
      | _ => False
    | _ => False
  | _, _ => False
def am_step (i : Instr) (n a b : Nat) (ts : List Nat) (v : Int32) (d mi : Nat) (lv : List (Option Value)) (st : List Value) (I : am_I) (Q : am_Q) : Prop :=
  match i with
  | .iconst _ => X d mi n lv (.int v :: st) I Q
  | .bipush _ => X d mi n lv (.int v :: st) I Q
  | .sipush _ => X d mi n lv (.int v :: st) I Q
  | .ldc _ => match a with
    | 0 => X d mi n lv (.int v :: st) I Q
    | _ => X d mi n lv (.ref (1000 + b) :: st) I Q
  | .ldc_w _ => X d mi n lv (.int v :: st) I Q
  | .ldc2_w _ => X d mi n lv (.long (Int64.ofNat b) :: st) I Q
  | .iload _ => am_ild X a d mi n lv st I Q
  | .iload_n _ => am_ild X a d mi n lv st I Q
  | .lload_n _ => am_lld X a d mi n lv st I Q
  | .aload _ => am_ald X a d mi n lv st I Q
  | .aload_n _ => am_ald X a d mi n lv st I Q
  | .istore _ => am_ist X a d mi n lv st I Q
  | .istore_n _ => am_ist X a d mi n lv st I Q
  | .astore _ => am_ast X a d mi n lv st I Q
  | .astore_n _ => am_ast X a d mi n lv st I Q
  | .iinc _ _ => am_inc X a v d mi n lv st I Q
  | .iadd => am_bin X (fun x y => x + y) d mi n lv st I Q
  | .isub => am_bin X (fun x y => x - y) d mi n lv st I Q
  | .imul => am_bin X (fun x y => x * y) d mi n lv st I Q
  | .iand => am_bin X (fun x y => x &&& y) d mi n lv st I Q
  | .ior => am_bin X (fun x y => x ||| y) d mi n lv st I Q
  | .ixor => am_bin X (fun x y => x ^^^ y) d mi n lv st I Q
  | .ishl => am_bin X (fun x y => x <<< (y &&& 31)) d mi n lv st I Q
  | .ishr => am_bin X (fun x y => x >>> (y &&& 31)) d mi n lv st I Q
  | .iushr => am_bin X (fun x y => (x.toUInt32 >>> (y.toUInt32 &&& Int32.toUInt32 31)).toInt32) d mi n lv st I Q
  | .idiv => am_div X (fun x y => x / y) d mi n lv st I Q
  | .irem => am_div X (fun x y => x - x / y * y) d mi n lv st I Q
  | .ineg => am_una X (fun x => -x) d mi n lv st I Q
  | .i2b => am_una X (fun x => x.toInt8.toInt32) d mi n lv st I Q
  | .i2s => am_una X (fun x => x.toInt16.toInt32) d mi n lv st I Q
  | .i2l => match st with
    | .int x :: st => X d mi n lv (.long x.toInt64 :: st) I Q
    | _ => False
  | .l2i => match st with
    | .long x :: st => X d mi n lv (.int x.toInt32 :: st) I Q
    | _ => False
  | .land => am_lbin X (fun x y => x &&& y) d mi n lv st I Q
  | .lor => am_lbin X (fun x y => x ||| y) d mi n lv st I Q
  | .lshl => am_lsh X (fun x y => x <<< (y.toInt64 &&& 63)) d mi n lv st I Q
  | .lshr => am_lsh X (fun x y => x >>> (y.toInt64 &&& 63)) d mi n lv st I Q
  | .lushr => am_lsh X (fun x y => (x.toUInt64 >>> (y.toInt64.toUInt64 &&& Int64.toUInt64 63)).toInt64) d mi n lv st I Q
  | .dup => match st with
    | .int x :: st => X d mi n lv (.int x :: .int x :: st) I Q
    | .ref x :: st => X d mi n lv (.ref x :: .ref x :: st) I Q
    | _ => False
  | .dup2 => match st with
    | .int y :: .ref x :: st => X d mi n lv (.int y :: .ref x :: .int y :: .ref x :: st) I Q
    | _ => False
  | .pop => match st with
    | .int _ :: st => X d mi n lv st I Q
    | .ref _ :: st => X d mi n lv st I Q
    | _ => False
  | .goto _ => X d mi a lv st I Q
  | .ifCond .eq _ => am_br1 X (fun x => x = 0) a d mi n lv st I Q
  | .ifCond .ne _ => am_br1 X (fun x => x = 0) n d mi a lv st I Q
  | .ifCond .lt _ => am_br1 X (fun x => x < 0) a d mi n lv st I Q
  | .ifCond .ge _ => am_br1 X (fun x => 0 ≤ x) a d mi n lv st I Q
  | .ifCond .gt _ => am_br1 X (fun x => 0 < x) a d mi n lv st I Q
  | .ifCond .le _ => am_br1 X (fun x => x ≤ 0) a d mi n lv st I Q
  | .if_icmp .eq _ => am_br2 X (fun x y => x = y) a d mi n lv st I Q
  | .if_icmp .ne _ => am_br2 X (fun x y => x = y) n d mi a lv st I Q
  | .if_icmp .lt _ => am_br2 X (fun x y => x < y) a d mi n lv st I Q
  | .if_icmp .ge _ => am_br2 X (fun x y => y ≤ x) a d mi n lv st I Q
  | .if_icmp .gt _ => am_br2 X (fun x y => y < x) a d mi n lv st I Q
  | .if_icmp .le _ => am_br2 X (fun x y => x ≤ y) a d mi n lv st I Q
  | .tableswitch _ _ _ _ => match st with
    | .int x :: st => am_sw X ts v x a d mi lv st I Q
    | _ => False
  | .getfield _ => am_getf X a b d mi n lv st I Q
  | .putfield _ => am_putf X a b d mi n lv st I Q
  | .iaload => am_ald1 L xs X 0 d mi n lv st I Q
  | .baload => am_ald1 L xs X 1 d mi n lv st I Q
  | .caload => am_ald1 L xs X 2 d mi n lv st I Q
  | .iastore => am_ast1 X 0 d mi n lv st I Q
  | .bastore => am_ast1 X 1 d mi n lv st I Q
  | .aaload => am_aald X d mi n lv st I Q
  | .arraylength => am_alen L X d mi n lv st I Q
  | .ireturn => am_ret a st I Q
  | .areturn => am_aret st I Q
  | .return_ => am_vret st I Q
  | .invokestatic _ => am_inv mt Y X a b ts d mi n lv st I Q
  | .invokevirtual _ => am_inv mt Y X a b ts d mi n lv st I Q
  | .invokespecial _ => am_inv mt Y X a b ts d mi n lv st I Q
  | _ => False
def am_F : am_J := fun d mi pc lv st I Q =>
  match mt mi with
  | none => False
  | some M => match am_ins M pc with
    | none => False
    | some (i, n, a, b, ts, v) => am_step mt L xs Y X i n a b ts v d mi lv st I Q
end
/-- n instructions on -/
def am_N (mt : Nat → Option am_M) (L : Nat) (xs : Nat → Int32) (J : am_J) : Nat → am_J
  | 0 => J
  | n + 1 => am_F mt L xs J (am_N mt L xs J n)
/-- a judgement that is closed: what one instruction asks is enough, and an end may be weakened -/
def am_Cl (mt : Nat → Option am_M) (L : Nat) (xs : Nat → Int32) (J : am_J) : Prop :=
  (∀ d mi pc lv st I Q, am_F mt L xs J J d mi pc lv st I Q → J d mi pc lv st I Q) ∧
  ∀ d mi pc lv st I (Q Q' : am_Q), (∀ r I', Q r I' → Q' r I') → J d mi pc lv st I Q → J d mi pc lv st I Q'
end
section
/-- java/lang/Integer.numberOfTrailingZeros(I)I -/
def mm_0 : am_M := (⟨"java/lang/Integer", "numberOfTrailingZeros", "(I)I"⟩, prog_15_method_48_code, 2, (Option.some FieldType.int), [[some (.iload_n 0, 1, 0, 0, [], 0), some (.iconst (-1), 2, 0, 0, [], (-1)), some (.ixor, 3, 0, 0, [], 0), some (.iload_n 0, 4, 0, 0, [], 0), some (.iconst 1, 5, 0, 0, [], 1), some (.isub, 6, 0, 0, [], 0), some (.iand, 7, 0, 0, [], 0), some (.istore_n 0, 8, 0, 0, [], 0), some (.iload_n 0, 9, 0, 0, [], 0), some (.ifCond .gt 8, 12, 17, 0, [], 0), none, none, some (.iload_n 0, 13, 0, 0, [], 0), some (.bipush 32, 15, 0, 0, [], 32), none, some (.iand, 16, 0, 0, [], 0)],
  [some (.ireturn, 17, 0, 0, [], 0), some (.iconst 1, 18, 0, 0, [], 1), some (.istore_n 1, 19, 1, 0, [], 0), some (.iload_n 0, 20, 0, 0, [], 0), some (.ldc_w 264, 23, 0, 264, [], 65536), none, none, some (.if_icmp .le 11, 26, 34, 0, [], 0), none, none, some (.iinc 1 16, 29, 1, 0, [], 16), none, none, some (.iload_n 0, 30, 0, 0, [], 0), some (.bipush 16, 32, 0, 0, [], 16), none],
  [some (.iushr, 33, 0, 0, [], 0), some (.istore_n 0, 34, 0, 0, [], 0), some (.iload_n 0, 35, 0, 0, [], 0), some (.sipush 256, 38, 0, 0, [], 256), none, none, some (.if_icmp .le 11, 41, 49, 0, [], 0), none, none, some (.iinc 1 8, 44, 1, 0, [], 8), none, none, some (.iload_n 0, 45, 0, 0, [], 0), some (.bipush 8, 47, 0, 0, [], 8), none, some (.iushr, 48, 0, 0, [], 0)],
  [some (.istore_n 0, 49, 0, 0, [], 0), some (.iload_n 0, 50, 0, 0, [], 0), some (.bipush 16, 52, 0, 0, [], 16), none, some (.if_icmp .le 10, 55, 62, 0, [], 0), none, none, some (.iinc 1 4, 58, 1, 0, [], 4), none, none, some (.iload_n 0, 59, 0, 0, [], 0), some (.iconst 4, 60, 0, 0, [], 4), some (.iushr, 61, 0, 0, [], 0), some (.istore_n 0, 62, 0, 0, [], 0), some (.iload_n 0, 63, 0, 0, [], 0), some (.iconst 4, 64, 0, 0, [], 4)],
  [some (.if_icmp .le 10, 67, 74, 0, [], 0), none, none, some (.iinc 1 2, 70, 1, 0, [], 2), none, none, some (.iload_n 0, 71, 0, 0, [], 0), some (.iconst 2, 72, 0, 0, [], 2), some (.iushr, 73, 0, 0, [], 0), some (.istore_n 0, 74, 0, 0, [], 0), some (.iload_n 1, 75, 1, 0, [], 0), some (.iload_n 0, 76, 0, 0, [], 0), some (.iconst 1, 77, 0, 0, [], 1), some (.iushr, 78, 0, 0, [], 0), some (.iadd, 79, 0, 0, [], 0), some (.ireturn, 80, 0, 0, [], 0)]])
/-- java/lang/Integer.bitCount(I)I -/
def mm_1 : am_M := (⟨"java/lang/Integer", "bitCount", "(I)I"⟩, prog_15_method_49_code, 1, (Option.some FieldType.int), [[some (.iload_n 0, 1, 0, 0, [], 0), some (.iload_n 0, 2, 0, 0, [], 0), some (.iconst 1, 3, 0, 0, [], 1), some (.iushr, 4, 0, 0, [], 0), some (.ldc_w 265, 7, 0, 265, [], 1431655765), none, none, some (.iand, 8, 0, 0, [], 0), some (.isub, 9, 0, 0, [], 0), some (.istore_n 0, 10, 0, 0, [], 0), some (.iload_n 0, 11, 0, 0, [], 0), some (.ldc_w 266, 14, 0, 266, [], 858993459), none, none, some (.iand, 15, 0, 0, [], 0), some (.iload_n 0, 16, 0, 0, [], 0)],
  [some (.iconst 2, 17, 0, 0, [], 2), some (.iushr, 18, 0, 0, [], 0), some (.ldc_w 266, 21, 0, 266, [], 858993459), none, none, some (.iand, 22, 0, 0, [], 0), some (.iadd, 23, 0, 0, [], 0), some (.istore_n 0, 24, 0, 0, [], 0), some (.iload_n 0, 25, 0, 0, [], 0), some (.iload_n 0, 26, 0, 0, [], 0), some (.iconst 4, 27, 0, 0, [], 4), some (.iushr, 28, 0, 0, [], 0), some (.iadd, 29, 0, 0, [], 0), some (.ldc_w 267, 32, 0, 267, [], 252645135), none, none],
  [some (.iand, 33, 0, 0, [], 0), some (.istore_n 0, 34, 0, 0, [], 0), some (.iload_n 0, 35, 0, 0, [], 0), some (.iload_n 0, 36, 0, 0, [], 0), some (.bipush 8, 38, 0, 0, [], 8), none, some (.iushr, 39, 0, 0, [], 0), some (.iadd, 40, 0, 0, [], 0), some (.istore_n 0, 41, 0, 0, [], 0), some (.iload_n 0, 42, 0, 0, [], 0), some (.iload_n 0, 43, 0, 0, [], 0), some (.bipush 16, 45, 0, 0, [], 16), none, some (.iushr, 46, 0, 0, [], 0), some (.iadd, 47, 0, 0, [], 0), some (.istore_n 0, 48, 0, 0, [], 0)],
  [some (.iload_n 0, 49, 0, 0, [], 0), some (.bipush 63, 51, 0, 0, [], 63), none, some (.iand, 52, 0, 0, [], 0), some (.ireturn, 53, 0, 0, [], 0)]])
/-- java/util/Arrays.fill([II)V -/
def mm_2 : am_M := (⟨"java/util/Arrays", "fill", "([II)V"⟩, prog_21_method_103_code, 4, (Option.none : Option FieldType), [[some (.iconst 0, 1, 0, 0, [], 0), some (.istore_n 2, 2, 2, 0, [], 0), some (.aload_n 0, 3, 0, 0, [], 0), some (.arraylength, 4, 0, 0, [], 0), some (.istore_n 3, 5, 3, 0, [], 0), some (.iload_n 2, 6, 2, 0, [], 0), some (.iload_n 3, 7, 3, 0, [], 0), some (.if_icmp .ge 13, 10, 20, 0, [], 0), none, none, some (.aload_n 0, 11, 0, 0, [], 0), some (.iload_n 2, 12, 2, 0, [], 0), some (.iload_n 1, 13, 1, 0, [], 0), some (.iastore, 14, 0, 0, [], 0), some (.iinc 2 1, 17, 2, 0, [], 1), none],
  [none, some (.goto (-12), 20, 5, 0, [], 0), none, none, some (.return_, 21, 0, 0, [], 0)]])
/-- BrokenLoaves$Bishop.strange(II)I -/
def mm_3 : am_M := (⟨"BrokenLoaves$Bishop", "strange", "(II)I"⟩, prog_2_method_2_code, 3, (Option.some FieldType.int), [[some (.aload_n 0, 1, 0, 0, [], 0), some (.iload_n 1, 2, 1, 0, [], 0), some (.iload_n 2, 3, 2, 0, [], 0), some (.invokespecial 7, 6, 3, 26, [2, 5], 0), none, none, some (.iload_n 2, 7, 2, 0, [], 0), some (.iconst 2, 8, 0, 0, [], 2), some (.irem, 9, 0, 0, [], 0), some (.ifCond .ne 7, 12, 16, 0, [], 0), none, none, some (.iconst 2, 13, 0, 0, [], 2), some (.goto 4, 16, 17, 0, [], 0), none, none],
  [some (.iconst 0, 17, 0, 0, [], 0), some (.iadd, 18, 0, 0, [], 0), some (.ireturn, 19, 0, 0, [], 0)]])
/-- BrokenLoaves$Bishop.eats(I)I -/
def mm_4 : am_M := (⟨"BrokenLoaves$Bishop", "eats", "(I)I"⟩, prog_2_method_3_code, 2, (Option.some FieldType.int), [[some (.aload_n 0, 1, 0, 0, [], 0), some (.iload_n 1, 2, 1, 0, [], 0), some (.invokespecial 11, 5, 3, 27, [1, 5], 0), none, none, some (.iconst 5, 6, 0, 0, [], 5), some (.iadd, 7, 0, 0, [], 0), some (.ireturn, 8, 0, 0, [], 0)]])
/-- BrokenLoaves$Bishop.hails(ILBrokenLoaves$Deed;)I -/
def mm_5 : am_M := (⟨"BrokenLoaves$Bishop", "hails", "(ILBrokenLoaves$Deed;)I"⟩, prog_2_method_4_code, 3, (Option.some FieldType.int), [[some (.aload_n 2, 1, 2, 0, [], 0), some (.bipush 50, 3, 0, 0, [], 50), none, some (.invokevirtual 15, 6, 1, 16, [1, 2], 0), none, none, some (.aload_n 0, 7, 0, 0, [], 0), some (.iload_n 1, 8, 1, 0, [], 0), some (.aload_n 2, 9, 2, 0, [], 0), some (.invokespecial 21, 12, 3, 22, [2, 5], 0), none, none, some (.bipush 7, 14, 0, 0, [], 7), none, some (.isub, 15, 0, 0, [], 0), some (.ireturn, 16, 0, 0, [], 0)]])
/-- BrokenLoaves$Bishop.blesses(ILBrokenLoaves$Deed;)I -/
def mm_6 : am_M := (⟨"BrokenLoaves$Bishop", "blesses", "(ILBrokenLoaves$Deed;)I"⟩, prog_2_method_5_code, 3, (Option.some FieldType.int), [[some (.aload_n 2, 1, 2, 0, [], 0), some (.bipush 51, 3, 0, 0, [], 51), none, some (.invokevirtual 15, 6, 1, 16, [1, 2], 0), none, none, some (.aload_n 0, 7, 0, 0, [], 0), some (.iload_n 1, 8, 1, 0, [], 0), some (.aload_n 2, 9, 2, 0, [], 0), some (.invokespecial 25, 12, 3, 25, [2, 5], 0), none, none, some (.aload_n 0, 13, 0, 0, [], 0), some (.iconst 1, 14, 0, 0, [], 1), some (.aload_n 2, 15, 2, 0, [], 0), some (.invokevirtual 28, 18, 2, 5, [2, 29, 0, 0, 0, 0, 0, 0, 0, 0, 0, 0, 0, 0], 0)],
  [none, none, some (.ixor, 19, 0, 0, [], 0), some (.ireturn, 20, 0, 0, [], 0)]])
/-- BrokenLoaves$Course.copyFrom(LBrokenLoaves$Course;)V -/
def mm_7 : am_M := (⟨"BrokenLoaves$Course", "copyFrom", "(LBrokenLoaves$Course;)V"⟩, prog_3_method_2_code, 2, (Option.none : Option FieldType), [[some (.aload_n 0, 1, 0, 0, [], 0), some (.aload_n 1, 2, 1, 0, [], 0), some (.getfield 15, 5, 1, 0, [], 0), none, none, some (.putfield 15, 8, 1, 0, [], 0), none, none, some (.aload_n 0, 9, 0, 0, [], 0), some (.aload_n 1, 10, 1, 0, [], 0), some (.getfield 18, 13, 1, 1, [], 0), none, none, some (.putfield 18, 16, 1, 1, [], 0), none, none],
  [some (.aload_n 0, 17, 0, 0, [], 0), some (.aload_n 1, 18, 1, 0, [], 0), some (.getfield 9, 21, 1, 2, [], 0), none, none, some (.putfield 9, 24, 1, 2, [], 0), none, none, some (.aload_n 0, 25, 0, 0, [], 0), some (.aload_n 1, 26, 1, 0, [], 0), some (.getfield 21, 29, 1, 3, [], 0), none, none, some (.putfield 21, 32, 1, 3, [], 0), none, none],
  [some (.aload_n 0, 33, 0, 0, [], 0), some (.aload_n 1, 34, 1, 0, [], 0), some (.getfield 24, 37, 1, 4, [], 0), none, none, some (.putfield 24, 40, 1, 4, [], 0), none, none, some (.aload_n 0, 41, 0, 0, [], 0), some (.aload_n 1, 42, 1, 0, [], 0), some (.getfield 27, 45, 1, 5, [], 0), none, none, some (.putfield 27, 48, 1, 5, [], 0), none, none],
  [some (.return_, 49, 0, 0, [], 0)]])
/-- BrokenLoaves$Course.startAnew()V -/
def mm_8 : am_M := (⟨"BrokenLoaves$Course", "startAnew", "()V"⟩, prog_3_method_3_code, 1, (Option.none : Option FieldType), [[some (.aload_n 0, 1, 0, 0, [], 0), some (.iconst 0, 2, 0, 0, [], 0), some (.putfield 15, 5, 1, 0, [], 0), none, none, some (.aload_n 0, 6, 0, 0, [], 0), some (.iconst 0, 7, 0, 0, [], 0), some (.putfield 18, 10, 1, 1, [], 0), none, none, some (.aload_n 0, 11, 0, 0, [], 0), some (.bipush 12, 13, 0, 0, [], 12), none, some (.putfield 9, 16, 1, 2, [], 0), none, none],
  [some (.aload_n 0, 17, 0, 0, [], 0), some (.iconst 0, 18, 0, 0, [], 0), some (.putfield 21, 21, 1, 3, [], 0), none, none, some (.aload_n 0, 22, 0, 0, [], 0), some (.iconst 0, 23, 0, 0, [], 0), some (.putfield 24, 26, 1, 4, [], 0), none, none, some (.aload_n 0, 27, 0, 0, [], 0), some (.iconst 0, 28, 0, 0, [], 0), some (.putfield 27, 31, 1, 5, [], 0), none, none, some (.return_, 32, 0, 0, [], 0)]])
/-- BrokenLoaves$Course.metOf(I)I -/
def mm_9 : am_M := (⟨"BrokenLoaves$Course", "metOf", "(I)I"⟩, prog_3_method_4_code, 2, (Option.some FieldType.int), [[some (.aload_n 0, 1, 0, 0, [], 0), some (.getfield 24, 4, 1, 4, [], 0), none, none, some (.iconst 4, 5, 0, 0, [], 4), some (.iload_n 1, 6, 1, 0, [], 0), some (.imul, 7, 0, 0, [], 0), some (.iushr, 8, 0, 0, [], 0), some (.bipush 15, 10, 0, 0, [], 15), none, some (.iand, 11, 0, 0, [], 0), some (.ireturn, 12, 0, 0, [], 0)]])
/-- BrokenLoaves$Course.setMet(II)V -/
def mm_10 : am_M := (⟨"BrokenLoaves$Course", "setMet", "(II)V"⟩, prog_3_method_5_code, 3, (Option.none : Option FieldType), [[some (.aload_n 0, 1, 0, 0, [], 0), some (.aload_n 0, 2, 0, 0, [], 0), some (.getfield 24, 5, 1, 4, [], 0), none, none, some (.bipush 15, 7, 0, 0, [], 15), none, some (.iconst 4, 8, 0, 0, [], 4), some (.iload_n 1, 9, 1, 0, [], 0), some (.imul, 10, 0, 0, [], 0), some (.ishl, 11, 0, 0, [], 0), some (.iconst (-1), 12, 0, 0, [], (-1)), some (.ixor, 13, 0, 0, [], 0), some (.iand, 14, 0, 0, [], 0), some (.iload_n 2, 15, 2, 0, [], 0), some (.iconst 4, 16, 0, 0, [], 4)],
  [some (.iload_n 1, 17, 1, 0, [], 0), some (.imul, 18, 0, 0, [], 0), some (.ishl, 19, 0, 0, [], 0), some (.ior, 20, 0, 0, [], 0), some (.putfield 24, 23, 1, 4, [], 0), none, none, some (.return_, 24, 0, 0, [], 0)]])
/-- BrokenLoaves$Course.isFed(I)Z -/
def mm_11 : am_M := (⟨"BrokenLoaves$Course", "isFed", "(I)Z"⟩, prog_3_method_6_code, 2, (Option.some FieldType.boolean), [[some (.aload_n 0, 1, 0, 0, [], 0), some (.getfield 27, 4, 1, 5, [], 0), none, none, some (.iconst 1, 5, 0, 0, [], 1), some (.iload_n 1, 6, 1, 0, [], 0), some (.ishl, 7, 0, 0, [], 0), some (.iand, 8, 0, 0, [], 0), some (.ifCond .eq 7, 11, 15, 0, [], 0), none, none, some (.iconst 1, 12, 0, 0, [], 1), some (.goto 4, 15, 16, 0, [], 0), none, none, some (.iconst 0, 16, 0, 0, [], 0)],
  [some (.ireturn, 17, 2, 0, [], 0)]])
/-- BrokenLoaves$Course.setFed(II)V -/
def mm_12 : am_M := (⟨"BrokenLoaves$Course", "setFed", "(II)V"⟩, prog_3_method_7_code, 3, (Option.none : Option FieldType), [[some (.aload_n 0, 1, 0, 0, [], 0), some (.aload_n 0, 2, 0, 0, [], 0), some (.getfield 27, 5, 1, 5, [], 0), none, none, some (.iconst 1, 6, 0, 0, [], 1), some (.iload_n 1, 7, 1, 0, [], 0), some (.ishl, 8, 0, 0, [], 0), some (.iconst (-1), 9, 0, 0, [], (-1)), some (.ixor, 10, 0, 0, [], 0), some (.iand, 11, 0, 0, [], 0), some (.iload_n 2, 12, 2, 0, [], 0), some (.iload_n 1, 13, 1, 0, [], 0), some (.ishl, 14, 0, 0, [], 0), some (.ior, 15, 0, 0, [], 0), some (.putfield 27, 18, 1, 5, [], 0)],
  [none, none, some (.return_, 19, 0, 0, [], 0)]])
/-- BrokenLoaves$Course.metSet()I -/
def mm_13 : am_M := (⟨"BrokenLoaves$Course", "metSet", "()I"⟩, prog_3_method_8_code, 3, (Option.some FieldType.int), [[some (.iconst 0, 1, 0, 0, [], 0), some (.istore_n 1, 2, 1, 0, [], 0), some (.iconst 0, 3, 0, 0, [], 0), some (.istore_n 2, 4, 2, 0, [], 0), some (.iload_n 2, 5, 2, 0, [], 0), some (.bipush 6, 7, 0, 0, [], 6), none, some (.if_icmp .ge 23, 10, 30, 0, [], 0), none, none, some (.aload_n 0, 11, 0, 0, [], 0), some (.iload_n 2, 12, 2, 0, [], 0), some (.invokevirtual 30, 15, 1, 9, [1, 1], 0), none, none, some (.ifCond .le 9, 18, 24, 0, [], 0)],
  [none, none, some (.iload_n 1, 19, 1, 0, [], 0), some (.iconst 1, 20, 0, 0, [], 1), some (.iload_n 2, 21, 2, 0, [], 0), some (.ishl, 22, 0, 0, [], 0), some (.ior, 23, 0, 0, [], 0), some (.istore_n 1, 24, 1, 0, [], 0), some (.iinc 2 1, 27, 2, 0, [], 1), none, none, some (.goto (-23), 30, 4, 0, [], 0), none, none, some (.iload_n 1, 31, 1, 0, [], 0), some (.ireturn, 32, 0, 0, [], 0)]])
/-- BrokenLoaves$Deed.clear()V -/
def mm_14 : am_M := (⟨"BrokenLoaves$Deed", "clear", "()V"⟩, prog_4_method_2_code, 1, (Option.none : Option FieldType), [[some (.aload_n 0, 1, 0, 0, [], 0), some (.iconst 0, 2, 0, 0, [], 0), some (.putfield 13, 5, 2, 4, [], 0), none, none, some (.aload_n 0, 6, 0, 0, [], 0), some (.iconst 0, 7, 0, 0, [], 0), some (.putfield 17, 10, 2, 2, [], 0), none, none, some (.return_, 11, 0, 0, [], 0)]])
/-- BrokenLoaves$Deed.by(II)V -/
def mm_15 : am_M := (⟨"BrokenLoaves$Deed", "by", "(II)V"⟩, prog_4_method_3_code, 3, (Option.none : Option FieldType), [[some (.aload_n 0, 1, 0, 0, [], 0), some (.iload_n 1, 2, 1, 0, [], 0), some (.putfield 21, 5, 2, 0, [], 0), none, none, some (.aload_n 0, 6, 0, 0, [], 0), some (.iload_n 2, 7, 2, 0, [], 0), some (.putfield 24, 10, 2, 1, [], 0), none, none, some (.return_, 11, 0, 0, [], 0)]])
/-- BrokenLoaves$Deed.began(I)V -/
def mm_16 : am_M := (⟨"BrokenLoaves$Deed", "began", "(I)V"⟩, prog_4_method_4_code, 2, (Option.none : Option FieldType), [[some (.aload_n 0, 1, 0, 0, [], 0), some (.getfield 17, 4, 2, 2, [], 0), none, none, some (.ifCond .ne 35, 7, 39, 0, [], 0), none, none, some (.aload_n 0, 8, 0, 0, [], 0), some (.getfield 13, 11, 2, 4, [], 0), none, none, some (.aload_n 0, 12, 0, 0, [], 0), some (.getfield 7, 15, 2, 3, [], 0), none, none, some (.arraylength, 16, 0, 0, [], 0)],
  [some (.if_icmp .ge 23, 19, 39, 0, [], 0), none, none, some (.aload_n 0, 20, 0, 0, [], 0), some (.getfield 7, 23, 2, 3, [], 0), none, none, some (.aload_n 0, 24, 0, 0, [], 0), some (.getfield 13, 27, 2, 4, [], 0), none, none, some (.iload_n 1, 28, 1, 0, [], 0), some (.iastore, 29, 0, 0, [], 0), some (.aload_n 0, 30, 0, 0, [], 0), some (.dup, 31, 0, 0, [], 0), some (.getfield 13, 34, 2, 4, [], 0)],
  [none, none, some (.iconst 1, 35, 0, 0, [], 1), some (.iadd, 36, 0, 0, [], 0), some (.putfield 13, 39, 2, 4, [], 0), none, none, some (.return_, 40, 0, 0, [], 0)]])
/-- BrokenLoaves$Friend.strange(II)I -/
def mm_17 : am_M := (⟨"BrokenLoaves$Friend", "strange", "(II)I"⟩, prog_5_method_2_code, 3, (Option.some FieldType.int), [[some (.aload_n 0, 1, 0, 0, [], 0), some (.iload_n 1, 2, 1, 0, [], 0), some (.iload_n 2, 3, 2, 0, [], 0), some (.invokespecial 7, 6, 3, 20, [2, 4], 0), none, none, some (.iconst 2, 7, 0, 0, [], 2), some (.idiv, 8, 0, 0, [], 0), some (.ireturn, 9, 0, 0, [], 0)]])
/-- BrokenLoaves$Friend.eats(I)I -/
def mm_18 : am_M := (⟨"BrokenLoaves$Friend", "eats", "(I)I"⟩, prog_5_method_3_code, 2, (Option.some FieldType.int), [[some (.iconst 2, 1, 0, 0, [], 2), some (.aload_n 0, 2, 0, 0, [], 0), some (.iload_n 1, 3, 1, 0, [], 0), some (.invokespecial 11, 6, 3, 21, [1, 4], 0), none, none, some (.imul, 7, 0, 0, [], 0), some (.ireturn, 8, 0, 0, [], 0)]])
/-- BrokenLoaves$Friend.weighs(ILBrokenLoaves$Deed;)I -/
def mm_19 : am_M := (⟨"BrokenLoaves$Friend", "weighs", "(ILBrokenLoaves$Deed;)I"⟩, prog_5_method_4_code, 3, (Option.some FieldType.int), [[some (.aload_n 2, 1, 2, 0, [], 0), some (.bipush 40, 3, 0, 0, [], 40), none, some (.invokevirtual 15, 6, 1, 16, [1, 2], 0), none, none, some (.aload_n 0, 7, 0, 0, [], 0), some (.iload_n 1, 8, 1, 0, [], 0), some (.aload_n 2, 9, 2, 0, [], 0), some (.invokespecial 21, 12, 3, 24, [2, 4], 0), none, none, some (.iconst 2, 13, 0, 0, [], 2), some (.imul, 14, 0, 0, [], 0), some (.ireturn, 15, 0, 0, [], 0)]])
/-- BrokenLoaves$Person.strange(II)I -/
def mm_20 : am_M := (⟨"BrokenLoaves$Person", "strange", "(II)I"⟩, prog_6_method_2_code, 3, (Option.some FieldType.int), [[some (.iload_n 1, 1, 1, 0, [], 0), some (.ireturn, 2, 0, 0, [], 0)]])
/-- BrokenLoaves$Person.eats(I)I -/
def mm_21 : am_M := (⟨"BrokenLoaves$Person", "eats", "(I)I"⟩, prog_6_method_3_code, 2, (Option.some FieldType.int), [[some (.iconst 3, 1, 0, 0, [], 3), some (.ireturn, 2, 0, 0, [], 0)]])
/-- BrokenLoaves$Person.hails(ILBrokenLoaves$Deed;)I -/
def mm_22 : am_M := (⟨"BrokenLoaves$Person", "hails", "(ILBrokenLoaves$Deed;)I"⟩, prog_6_method_4_code, 3, (Option.some FieldType.int), [[some (.aload_n 2, 1, 2, 0, [], 0), some (.bipush 10, 3, 0, 0, [], 10), none, some (.invokevirtual 7, 6, 1, 16, [1, 2], 0), none, none, some (.iload_n 1, 7, 1, 0, [], 0), some (.aload_n 2, 8, 2, 0, [], 0), some (.getfield 13, 11, 2, 0, [], 0), none, none, some (.ixor, 12, 0, 0, [], 0), some (.ireturn, 13, 0, 0, [], 0)]])
/-- BrokenLoaves$Person.shares(ILBrokenLoaves$Deed;)I -/
def mm_23 : am_M := (⟨"BrokenLoaves$Person", "shares", "(ILBrokenLoaves$Deed;)I"⟩, prog_6_method_5_code, 3, (Option.some FieldType.int), [[some (.aload_n 2, 1, 2, 0, [], 0), some (.bipush 11, 3, 0, 0, [], 11), none, some (.invokevirtual 7, 6, 1, 16, [1, 2], 0), none, none, some (.aload_n 0, 7, 0, 0, [], 0), some (.iload_n 1, 8, 1, 0, [], 0), some (.aload_n 2, 9, 2, 0, [], 0), some (.invokevirtual 17, 12, 2, 404, [2, 6, 0, 0, 23, 23, 23, 0, 0, 0, 87, 23, 0, 0], 0), none, none, some (.iconst 3, 13, 0, 0, [], 3), some (.imul, 14, 0, 0, [], 0), some (.ireturn, 15, 0, 0, [], 0)]])
/-- BrokenLoaves$Person.weighs(ILBrokenLoaves$Deed;)I -/
def mm_24 : am_M := (⟨"BrokenLoaves$Person", "weighs", "(ILBrokenLoaves$Deed;)I"⟩, prog_6_method_6_code, 4, (Option.some FieldType.int), [[some (.aload_n 2, 1, 2, 0, [], 0), some (.bipush 12, 3, 0, 0, [], 12), none, some (.invokevirtual 7, 6, 1, 16, [1, 2], 0), none, none, some (.aload_n 2, 7, 2, 0, [], 0), some (.getfield 23, 10, 2, 1, [], 0), none, none, some (.iconst 1, 11, 0, 0, [], 1), some (.iadd, 12, 0, 0, [], 0), some (.aload_n 2, 13, 2, 0, [], 0), some (.getfield 13, 16, 2, 0, [], 0), none, none],
  [some (.isub, 17, 0, 0, [], 0), some (.istore_n 3, 18, 3, 0, [], 0), some (.iload_n 3, 19, 3, 0, [], 0), some (.ifCond .ne 10, 22, 29, 0, [], 0), none, none, some (.aload_n 2, 23, 2, 0, [], 0), some (.iconst 1, 24, 0, 0, [], 1), some (.putfield 26, 27, 2, 2, [], 0), none, none, some (.iconst 0, 28, 0, 0, [], 0), some (.ireturn, 29, 0, 0, [], 0), some (.iload_n 1, 30, 1, 0, [], 0), some (.iload_n 3, 31, 3, 0, [], 0), some (.irem, 32, 0, 0, [], 0)],
  [some (.ireturn, 33, 0, 0, [], 0)]])
/-- BrokenLoaves$Person.blesses(ILBrokenLoaves$Deed;)I -/
def mm_25 : am_M := (⟨"BrokenLoaves$Person", "blesses", "(ILBrokenLoaves$Deed;)I"⟩, prog_6_method_7_code, 3, (Option.some FieldType.int), [[some (.aload_n 2, 1, 2, 0, [], 0), some (.bipush 13, 3, 0, 0, [], 13), none, some (.invokevirtual 7, 6, 1, 16, [1, 2], 0), none, none, some (.aload_n 0, 7, 0, 0, [], 0), some (.iload_n 1, 8, 1, 0, [], 0), some (.aload_n 2, 9, 2, 0, [], 0), some (.invokevirtual 30, 12, 2, 404, [2, 29, 0, 0, 24, 24, 29, 0, 0, 0, 24, 90, 0, 0], 0), none, none, some (.aload_n 0, 13, 0, 0, [], 0), some (.iload_n 1, 14, 1, 0, [], 0), some (.aload_n 2, 15, 2, 0, [], 0), some (.invokevirtual 33, 18, 2, 404, [2, 25, 0, 0, 20, 25, 25, 0, 0, 0, 25, 91, 0, 0], 0)],
  [none, none, some (.isub, 19, 0, 0, [], 0), some (.ireturn, 20, 0, 0, [], 0)]])
/-- BrokenLoaves$Pilgrim.strange(II)I -/
def mm_26 : am_M := (⟨"BrokenLoaves$Pilgrim", "strange", "(II)I"⟩, prog_7_method_2_code, 3, (Option.some FieldType.int), [[some (.aload_n 0, 1, 0, 0, [], 0), some (.iload_n 1, 2, 1, 0, [], 0), some (.iload_n 2, 3, 2, 0, [], 0), some (.invokespecial 7, 6, 3, 20, [2, 4], 0), none, none, some (.iconst 3, 7, 0, 0, [], 3), some (.iadd, 8, 0, 0, [], 0), some (.ireturn, 9, 0, 0, [], 0)]])
/-- BrokenLoaves$Pilgrim.eats(I)I -/
def mm_27 : am_M := (⟨"BrokenLoaves$Pilgrim", "eats", "(I)I"⟩, prog_7_method_3_code, 2, (Option.some FieldType.int), [[some (.aload_n 0, 1, 0, 0, [], 0), some (.iload_n 1, 2, 1, 0, [], 0), some (.invokespecial 11, 5, 3, 21, [1, 4], 0), none, none, some (.iconst 1, 6, 0, 0, [], 1), some (.isub, 7, 0, 0, [], 0), some (.ireturn, 8, 0, 0, [], 0)]])
/-- BrokenLoaves$Pilgrim.shares(ILBrokenLoaves$Deed;)I -/
def mm_28 : am_M := (⟨"BrokenLoaves$Pilgrim", "shares", "(ILBrokenLoaves$Deed;)I"⟩, prog_7_method_4_code, 3, (Option.some FieldType.int), [[some (.aload_n 2, 1, 2, 0, [], 0), some (.bipush 30, 3, 0, 0, [], 30), none, some (.invokevirtual 15, 6, 1, 16, [1, 2], 0), none, none, some (.aload_n 0, 7, 0, 0, [], 0), some (.iload_n 1, 8, 1, 0, [], 0), some (.aload_n 2, 9, 2, 0, [], 0), some (.invokespecial 21, 12, 3, 23, [2, 4], 0), none, none, some (.aload_n 2, 13, 2, 0, [], 0), some (.getfield 25, 16, 2, 1, [], 0), none, none],
  [some (.iadd, 17, 0, 0, [], 0), some (.ireturn, 18, 0, 0, [], 0)]])
/-- BrokenLoaves$Planner.start(I)V -/
def mm_29 : am_M := (⟨"BrokenLoaves$Planner", "start", "(I)V"⟩, prog_8_method_2_code, 2, (Option.none : Option FieldType), [[some (.aload_n 0, 1, 0, 0, [], 0), some (.getfield 11, 4, 6, 1, [], 0), none, none, some (.iconst 0, 5, 0, 0, [], 0), some (.aaload, 6, 0, 0, [], 0), some (.aload_n 0, 7, 0, 0, [], 0), some (.getfield 24, 10, 6, 0, [], 0), none, none, some (.getfield 29, 13, 7, 1, [], 0), none, none, some (.invokevirtual 35, 16, 1, 7, [1, 1], 0), none, none],
  [some (.aload_n 0, 17, 0, 0, [], 0), some (.iload_n 1, 18, 1, 0, [], 0), some (.iconst 4, 19, 0, 0, [], 4), some (.invokestatic 39, 22, 9, 0, [], 0), none, none, some (.aload_n 0, 23, 0, 0, [], 0), some (.getfield 24, 26, 6, 0, [], 0), none, none, some (.aload_n 0, 27, 0, 0, [], 0), some (.getfield 24, 30, 6, 0, [], 0), none, none, some (.getfield 29, 33, 7, 1, [], 0), none],
  [none, some (.invokevirtual 45, 36, 1, 41, [1, 7], 0), none, none, some (.invokestatic 39, 39, 9, 0, [], 0), none, none, some (.putfield 49, 42, 6, 4, [], 0), none, none, some (.return_, 43, 0, 0, [], 0)]])
/-- BrokenLoaves$Planner.tryPlans(II)V -/
def mm_30 : am_M := (⟨"BrokenLoaves$Planner", "tryPlans", "(II)V"⟩, prog_8_method_3_code, 3, (Option.none : Option FieldType), [[some (.aload_n 0, 1, 0, 0, [], 0), some (.iload_n 1, 2, 1, 0, [], 0), some (.invokevirtual 53, 5, 1, 29, [1, 6], 0), none, none, some (.aload_n 0, 6, 0, 0, [], 0), some (.iload_n 2, 7, 2, 0, [], 0), some (.putfield 57, 10, 6, 3, [], 0), none, none, some (.aload_n 0, 11, 0, 0, [], 0), some (.iconst (-1), 12, 0, 0, [], (-1)), some (.putfield 60, 15, 6, 5, [], 0), none, none, some (.aload_n 0, 16, 0, 0, [], 0)],
  [some (.iconst 0, 17, 0, 0, [], 0), some (.putfield 63, 20, 6, 6, [], 0), none, none, some (.aload_n 0, 21, 0, 0, [], 0), some (.iconst (-1), 22, 0, 0, [], (-1)), some (.putfield 66, 25, 6, 8, [], 0), none, none, some (.aload_n 0, 26, 0, 0, [], 0), some (.iconst 0, 27, 0, 0, [], 0), some (.putfield 69, 30, 6, 9, [], 0), none, none, some (.aload_n 0, 31, 0, 0, [], 0), some (.iconst 0, 32, 0, 0, [], 0)],
  [some (.iconst 0, 33, 0, 0, [], 0), some (.invokevirtual 72, 36, 1, 31, [2, 6], 0), none, none, some (.return_, 37, 0, 0, [], 0)]])
/-- BrokenLoaves$Planner.tryActs(II)V -/
def mm_31 : am_M := (⟨"BrokenLoaves$Planner", "tryActs", "(II)V"⟩, prog_8_method_4_code, 5, (Option.none : Option FieldType), [[some (.iload_n 1, 1, 1, 0, [], 0), some (.aload_n 0, 2, 0, 0, [], 0), some (.getfield 49, 5, 6, 4, [], 0), none, none, some (.if_icmp .lt 15, 8, 20, 0, [], 0), none, none, some (.aload_n 0, 9, 0, 0, [], 0), some (.aload_n 0, 10, 0, 0, [], 0), some (.getfield 11, 13, 6, 1, [], 0), none, none, some (.iload_n 1, 14, 1, 0, [], 0), some (.aaload, 15, 0, 0, [], 0), some (.iload_n 2, 16, 2, 0, [], 0)],
  [some (.invokevirtual 76, 19, 1, 32, [2, 6], 0), none, none, some (.return_, 20, 0, 0, [], 0), some (.aload_n 0, 21, 0, 0, [], 0), some (.getfield 11, 24, 6, 1, [], 0), none, none, some (.iload_n 1, 25, 1, 0, [], 0), some (.iconst 1, 26, 0, 0, [], 1), some (.iadd, 27, 0, 0, [], 0), some (.aaload, 28, 0, 0, [], 0), some (.astore_n 3, 29, 3, 0, [], 0), some (.iconst 0, 30, 0, 0, [], 0), some (.istore 4, 32, 4, 0, [], 0), none],
  [some (.iload 4, 34, 4, 0, [], 0), none, some (.aload_n 0, 35, 0, 0, [], 0), some (.getfield 24, 38, 6, 0, [], 0), none, none, some (.getfield 80, 41, 7, 2, [], 0), none, none, some (.if_icmp .gt 57, 44, 98, 0, [], 0), none, none, some (.aload_n 0, 45, 0, 0, [], 0), some (.getfield 17, 48, 6, 2, [], 0), none, none],
  [some (.iload_n 1, 49, 1, 0, [], 0), some (.iload 4, 51, 4, 0, [], 0), none, some (.iastore, 52, 0, 0, [], 0), some (.aload_n 3, 53, 3, 0, [], 0), some (.aload_n 0, 54, 0, 0, [], 0), some (.getfield 11, 57, 6, 1, [], 0), none, none, some (.iload_n 1, 58, 1, 0, [], 0), some (.aaload, 59, 0, 0, [], 0), some (.invokevirtual 35, 62, 1, 7, [1, 1], 0), none, none, some (.aload_n 0, 63, 0, 0, [], 0), some (.getfield 24, 66, 6, 0, [], 0)],
  [none, none, some (.aload_n 3, 67, 3, 0, [], 0), some (.iload 4, 69, 4, 0, [], 0), none, some (.invokevirtual 83, 72, 1, 47, [2, 7], 0), none, none, some (.pop, 73, 0, 0, [], 0), some (.aload_n 0, 74, 0, 0, [], 0), some (.iload_n 1, 75, 1, 0, [], 0), some (.iconst 1, 76, 0, 0, [], 1), some (.iadd, 77, 0, 0, [], 0), some (.iload 4, 79, 4, 0, [], 0), none, some (.ifCond .ne 7, 82, 86, 0, [], 0)],
  [none, none, some (.iload_n 2, 83, 2, 0, [], 0), some (.goto 6, 86, 89, 0, [], 0), none, none, some (.iload_n 2, 87, 2, 0, [], 0), some (.iconst 1, 88, 0, 0, [], 1), some (.iadd, 89, 0, 0, [], 0), some (.invokevirtual 72, 92, 1, 31, [2, 6], 0), none, none, some (.iinc 4 1, 95, 4, 0, [], 1), none, none, some (.goto (-63), 98, 32, 0, [], 0)],
  [none, none, some (.return_, 99, 0, 0, [], 0)]])
/-- BrokenLoaves$Planner.weighPlan(LBrokenLoaves$Course;I)V -/
def mm_32 : am_M := (⟨"BrokenLoaves$Planner", "weighPlan", "(LBrokenLoaves$Course;I)V"⟩, prog_8_method_5_code, 5, (Option.none : Option FieldType), [[some (.aload_n 1, 1, 1, 0, [], 0), some (.getfield 87, 4, 1, 3, [], 0), none, none, some (.aload_n 0, 5, 0, 0, [], 0), some (.getfield 11, 8, 6, 1, [], 0), none, none, some (.iconst 0, 9, 0, 0, [], 0), some (.aaload, 10, 0, 0, [], 0), some (.getfield 87, 13, 1, 3, [], 0), none, none, some (.isub, 14, 0, 0, [], 0), some (.istore_n 3, 15, 3, 0, [], 0), some (.iload_n 3, 16, 3, 0, [], 0)],
  [some (.aload_n 0, 17, 0, 0, [], 0), some (.getfield 60, 20, 6, 5, [], 0), none, none, some (.if_icmp .le 30, 23, 50, 0, [], 0), none, none, some (.aload_n 0, 24, 0, 0, [], 0), some (.iload_n 3, 25, 3, 0, [], 0), some (.putfield 60, 28, 6, 5, [], 0), none, none, some (.aload_n 0, 29, 0, 0, [], 0), some (.iconst 0, 30, 0, 0, [], 0), some (.putfield 63, 33, 6, 6, [], 0), none],
  [none, some (.aload_n 0, 34, 0, 0, [], 0), some (.getfield 17, 37, 6, 2, [], 0), none, none, some (.iconst 0, 38, 0, 0, [], 0), some (.aload_n 0, 39, 0, 0, [], 0), some (.getfield 21, 42, 6, 7, [], 0), none, none, some (.iconst 0, 43, 0, 0, [], 0), some (.aload_n 0, 44, 0, 0, [], 0), some (.getfield 49, 47, 6, 4, [], 0), none, none, some (.invokestatic 90, 50, 5, 0, [], 0)],
  [none, none, some (.iload_n 3, 51, 3, 0, [], 0), some (.aload_n 0, 52, 0, 0, [], 0), some (.getfield 60, 55, 6, 5, [], 0), none, none, some (.if_icmp .ne 13, 58, 68, 0, [], 0), none, none, some (.aload_n 0, 59, 0, 0, [], 0), some (.dup, 60, 0, 0, [], 0), some (.getfield 63, 63, 6, 6, [], 0), none, none, some (.iconst 1, 64, 0, 0, [], 1)],
  [some (.iadd, 65, 0, 0, [], 0), some (.putfield 63, 68, 6, 6, [], 0), none, none, some (.aload_n 0, 69, 0, 0, [], 0), some (.dup, 70, 0, 0, [], 0), some (.getfield 69, 73, 6, 9, [], 0), none, none, some (.aload_n 1, 74, 1, 0, [], 0), some (.getfield 96, 77, 1, 5, [], 0), none, none, some (.ior, 78, 0, 0, [], 0), some (.putfield 69, 81, 6, 9, [], 0), none],
  [none, some (.aload_n 1, 82, 1, 0, [], 0), some (.getfield 96, 85, 1, 5, [], 0), none, none, some (.aload_n 0, 86, 0, 0, [], 0), some (.getfield 57, 89, 6, 3, [], 0), none, none, some (.iand, 90, 0, 0, [], 0), some (.aload_n 0, 91, 0, 0, [], 0), some (.getfield 57, 94, 6, 3, [], 0), none, none, some (.if_icmp .ne 7, 97, 101, 0, [], 0), none],
  [none, some (.iconst 1, 98, 0, 0, [], 1), some (.goto 4, 101, 102, 0, [], 0), none, none, some (.iconst 0, 102, 0, 0, [], 0), some (.istore 4, 104, 4, 0, [], 0), none, some (.iload 4, 106, 4, 0, [], 0), none, some (.ifCond .eq 23, 109, 129, 0, [], 0), none, none, some (.aload_n 0, 110, 0, 0, [], 0), some (.getfield 66, 113, 6, 8, [], 0), none],
  [none, some (.ifCond .lt 11, 116, 124, 0, [], 0), none, none, some (.iload_n 2, 117, 2, 0, [], 0), some (.aload_n 0, 118, 0, 0, [], 0), some (.getfield 66, 121, 6, 8, [], 0), none, none, some (.if_icmp .ge 8, 124, 129, 0, [], 0), none, none, some (.aload_n 0, 125, 0, 0, [], 0), some (.iload_n 2, 126, 2, 0, [], 0), some (.putfield 66, 129, 6, 8, [], 0), none],
  [none, some (.return_, 130, 0, 0, [], 0)]])
/-- BrokenLoaves$Planner.valueOfGame(I)I -/
def mm_33 : am_M := (⟨"BrokenLoaves$Planner", "valueOfGame", "(I)I"⟩, prog_8_method_6_code, 2, (Option.some FieldType.int), [[some (.aload_n 0, 1, 0, 0, [], 0), some (.iload_n 1, 2, 1, 0, [], 0), some (.invokevirtual 53, 5, 1, 29, [1, 6], 0), none, none, some (.aload_n 0, 6, 0, 0, [], 0), some (.iconst 0, 7, 0, 0, [], 0), some (.putfield 99, 10, 6, 10, [], 0), none, none, some (.aload_n 0, 11, 0, 0, [], 0), some (.iconst 0, 12, 0, 0, [], 0), some (.invokevirtual 102, 15, 1, 34, [1, 6], 0), none, none, some (.ireturn, 16, 0, 0, [], 0)]])
/-- BrokenLoaves$Planner.valueFrom(I)I -/
def mm_34 : am_M := (⟨"BrokenLoaves$Planner", "valueFrom", "(I)I"⟩, prog_8_method_7_code, 7, (Option.some FieldType.int), [[some (.iload_n 1, 1, 1, 0, [], 0), some (.aload_n 0, 2, 0, 0, [], 0), some (.getfield 49, 5, 6, 4, [], 0), none, none, some (.if_icmp .lt 5, 8, 10, 0, [], 0), none, none, some (.iconst 0, 9, 0, 0, [], 0), some (.ireturn, 10, 0, 0, [], 0), some (.iload_n 1, 11, 1, 0, [], 0), some (.iconst 2, 12, 0, 0, [], 2), some (.irem, 13, 0, 0, [], 0), some (.ifCond .ne 7, 16, 20, 0, [], 0), none, none],
  [some (.iconst 1, 17, 0, 0, [], 1), some (.goto 4, 20, 21, 0, [], 0), none, none, some (.iconst 0, 21, 0, 0, [], 0), some (.istore_n 2, 22, 2, 0, [], 0), some (.aload_n 0, 23, 0, 0, [], 0), some (.getfield 11, 26, 6, 1, [], 0), none, none, some (.iload_n 1, 27, 1, 0, [], 0), some (.iconst 1, 28, 0, 0, [], 1), some (.iadd, 29, 0, 0, [], 0), some (.aaload, 30, 0, 0, [], 0), some (.astore_n 3, 31, 3, 0, [], 0), some (.iconst 0, 32, 0, 0, [], 0)],
  [some (.istore 4, 34, 4, 0, [], 0), none, some (.iconst 0, 35, 0, 0, [], 0), some (.istore 5, 37, 5, 0, [], 0), none, some (.iload 5, 39, 5, 0, [], 0), none, some (.aload_n 0, 40, 0, 0, [], 0), some (.getfield 24, 43, 6, 0, [], 0), none, none, some (.getfield 80, 46, 7, 2, [], 0), none, none, some (.if_icmp .gt 79, 49, 125, 0, [], 0), none],
  [none, some (.aload_n 3, 50, 3, 0, [], 0), some (.aload_n 0, 51, 0, 0, [], 0), some (.getfield 11, 54, 6, 1, [], 0), none, none, some (.iload_n 1, 55, 1, 0, [], 0), some (.aaload, 56, 0, 0, [], 0), some (.invokevirtual 35, 59, 1, 7, [1, 1], 0), none, none, some (.aload_n 0, 60, 0, 0, [], 0), some (.getfield 24, 63, 6, 0, [], 0), none, none, some (.aload_n 3, 64, 3, 0, [], 0)],
  [some (.iload 5, 66, 5, 0, [], 0), none, some (.invokevirtual 83, 69, 1, 47, [2, 7], 0), none, none, some (.aload_n 0, 70, 0, 0, [], 0), some (.iload_n 1, 71, 1, 0, [], 0), some (.iconst 1, 72, 0, 0, [], 1), some (.iadd, 73, 0, 0, [], 0), some (.invokevirtual 102, 76, 1, 34, [1, 6], 0), none, none, some (.iadd, 77, 0, 0, [], 0), some (.istore 6, 79, 6, 0, [], 0), none, some (.iload 5, 81, 5, 0, [], 0)],
  [none, some (.ifCond .eq 24, 84, 105, 0, [], 0), none, none, some (.iload_n 2, 85, 2, 0, [], 0), some (.ifCond .eq 13, 88, 98, 0, [], 0), none, none, some (.iload 6, 90, 6, 0, [], 0), none, some (.iload 4, 92, 4, 0, [], 0), none, some (.if_icmp .le 27, 95, 119, 0, [], 0), none, none, some (.goto 10, 98, 105, 0, [], 0)],
  [none, none, some (.iload 6, 100, 6, 0, [], 0), none, some (.iload 4, 102, 4, 0, [], 0), none, some (.if_icmp .ge 17, 105, 119, 0, [], 0), none, none, some (.iload 6, 107, 6, 0, [], 0), none, some (.istore 4, 109, 4, 0, [], 0), none, some (.iload_n 1, 110, 1, 0, [], 0), some (.ifCond .ne 9, 113, 119, 0, [], 0), none],
  [none, some (.aload_n 0, 114, 0, 0, [], 0), some (.iload 5, 116, 5, 0, [], 0), none, some (.putfield 99, 119, 6, 10, [], 0), none, none, some (.iinc 5 1, 122, 5, 0, [], 1), none, none, some (.goto (-85), 125, 37, 0, [], 0), none, none, some (.iload 4, 127, 4, 0, [], 0), none, some (.ireturn, 128, 0, 0, [], 0)]])
/-- BrokenLoaves$Road.copyFrom(LBrokenLoaves$Road;)V -/
def mm_35 : am_M := (⟨"BrokenLoaves$Road", "copyFrom", "(LBrokenLoaves$Road;)V"⟩, prog_9_method_2_code, 2, (Option.none : Option FieldType), [[some (.aload_n 0, 1, 0, 0, [], 0), some (.getfield 12, 4, 7, 1, [], 0), none, none, some (.aload_n 1, 5, 1, 0, [], 0), some (.getfield 12, 8, 7, 1, [], 0), none, none, some (.invokevirtual 77, 11, 1, 7, [1, 1], 0), none, none, some (.aload_n 0, 12, 0, 0, [], 0), some (.aload_n 1, 13, 1, 0, [], 0), some (.getfield 81, 16, 7, 2, [], 0), none, none],
  [some (.putfield 81, 19, 7, 2, [], 0), none, none, some (.aload_n 1, 20, 1, 0, [], 0), some (.getfield 18, 23, 7, 3, [], 0), none, none, some (.aload_n 0, 24, 0, 0, [], 0), some (.getfield 18, 27, 7, 3, [], 0), none, none, some (.invokestatic 84, 30, 0, 36, [2], 0), none, none, some (.aload_n 1, 31, 1, 0, [], 0), some (.getfield 22, 34, 7, 4, [], 0)],
  [none, none, some (.aload_n 0, 35, 0, 0, [], 0), some (.getfield 22, 38, 7, 4, [], 0), none, none, some (.invokestatic 84, 41, 0, 36, [2], 0), none, none, some (.aload_n 1, 42, 1, 0, [], 0), some (.getfield 25, 45, 7, 5, [], 0), none, none, some (.aload_n 0, 46, 0, 0, [], 0), some (.getfield 25, 49, 7, 5, [], 0), none],
  [none, some (.invokestatic 84, 52, 0, 36, [2], 0), none, none, some (.aload_n 1, 53, 1, 0, [], 0), some (.getfield 28, 56, 7, 6, [], 0), none, none, some (.aload_n 0, 57, 0, 0, [], 0), some (.getfield 28, 60, 7, 6, [], 0), none, none, some (.invokestatic 84, 63, 0, 36, [2], 0), none, none, some (.aload_n 1, 64, 1, 0, [], 0)],
  [some (.getfield 31, 67, 7, 7, [], 0), none, none, some (.aload_n 0, 68, 0, 0, [], 0), some (.getfield 31, 71, 7, 7, [], 0), none, none, some (.invokestatic 84, 74, 0, 36, [2], 0), none, none, some (.aload_n 1, 75, 1, 0, [], 0), some (.getfield 34, 78, 7, 8, [], 0), none, none, some (.aload_n 0, 79, 0, 0, [], 0), some (.getfield 34, 82, 7, 8, [], 0)],
  [none, none, some (.invokestatic 84, 85, 0, 36, [2], 0), none, none, some (.aload_n 1, 86, 1, 0, [], 0), some (.getfield 37, 89, 7, 9, [], 0), none, none, some (.aload_n 0, 90, 0, 0, [], 0), some (.getfield 37, 93, 7, 9, [], 0), none, none, some (.invokestatic 84, 96, 0, 36, [2], 0), none, none],
  [some (.aload_n 0, 97, 0, 0, [], 0), some (.aload_n 1, 98, 1, 0, [], 0), some (.getfield 40, 101, 7, 10, [], 0), none, none, some (.putfield 40, 104, 7, 10, [], 0), none, none, some (.aload_n 0, 105, 0, 0, [], 0), some (.aload_n 1, 106, 1, 0, [], 0), some (.getfield 44, 109, 7, 11, [], 0), none, none, some (.putfield 44, 112, 7, 11, [], 0), none, none],
  [some (.aload_n 0, 113, 0, 0, [], 0), some (.aload_n 1, 114, 1, 0, [], 0), some (.getfield 47, 117, 7, 13, [], 0), none, none, some (.aload_n 1, 118, 1, 0, [], 0), some (.getfield 88, 121, 7, 12, [], 0), none, none, some (.invokevirtual 91, 124, 1, 37, [2, 7], 0), none, none, some (.aload_n 0, 125, 0, 0, [], 0), some (.aload_n 1, 126, 1, 0, [], 0), some (.getfield 94, 129, 7, 15, [], 0), none],
  [none, some (.putfield 94, 132, 7, 15, [], 0), none, none, some (.aload_n 1, 133, 1, 0, [], 0), some (.getfield 55, 136, 7, 16, [], 0), none, none, some (.aload_n 0, 137, 0, 0, [], 0), some (.getfield 55, 140, 7, 16, [], 0), none, none, some (.invokestatic 84, 143, 0, 36, [2], 0), none, none, some (.aload_n 1, 144, 1, 0, [], 0)],
  [some (.getfield 58, 147, 7, 17, [], 0), none, none, some (.aload_n 0, 148, 0, 0, [], 0), some (.getfield 58, 151, 7, 17, [], 0), none, none, some (.invokestatic 84, 154, 0, 36, [2], 0), none, none, some (.aload_n 1, 155, 1, 0, [], 0), some (.getfield 61, 158, 7, 18, [], 0), none, none, some (.aload_n 0, 159, 0, 0, [], 0), some (.getfield 61, 162, 7, 18, [], 0)],
  [none, none, some (.invokestatic 84, 165, 0, 36, [2], 0), none, none, some (.aload_n 1, 166, 1, 0, [], 0), some (.getfield 64, 169, 7, 19, [], 0), none, none, some (.aload_n 0, 170, 0, 0, [], 0), some (.getfield 64, 173, 7, 19, [], 0), none, none, some (.invokestatic 84, 176, 0, 36, [2], 0), none, none],
  [some (.return_, 177, 0, 0, [], 0)]])
/-- BrokenLoaves$Road.copyRow([I[I)V -/
def mm_36 : am_M := (⟨"BrokenLoaves$Road", "copyRow", "([I[I)V"⟩, prog_9_method_3_code, 2, (Option.none : Option FieldType), [[some (.aload_n 0, 1, 0, 0, [], 0), some (.iconst 0, 2, 0, 0, [], 0), some (.aload_n 1, 3, 1, 0, [], 0), some (.iconst 0, 4, 0, 0, [], 0), some (.aload_n 0, 5, 0, 0, [], 0), some (.arraylength, 6, 0, 0, [], 0), some (.aload_n 1, 7, 1, 0, [], 0), some (.arraylength, 8, 0, 0, [], 0), some (.invokestatic 97, 11, 9, 0, [], 0), none, none, some (.invokestatic 103, 14, 5, 0, [], 0), none, none, some (.return_, 15, 0, 0, [], 0)]])
/-- BrokenLoaves$Road.takeRules([II)V -/
def mm_37 : am_M := (⟨"BrokenLoaves$Road", "takeRules", "([II)V"⟩, prog_9_method_4_code, 3, (Option.none : Option FieldType), [[some (.aload_n 1, 1, 1, 0, [], 0), some (.aload_n 0, 2, 0, 0, [], 0), some (.getfield 47, 5, 7, 13, [], 0), none, none, some (.invokestatic 84, 8, 0, 36, [2], 0), none, none, some (.aload_n 0, 9, 0, 0, [], 0), some (.iload_n 2, 10, 2, 0, [], 0), some (.putfield 88, 13, 7, 12, [], 0), none, none, some (.return_, 14, 0, 0, [], 0)]])
/-- BrokenLoaves$Road.has(I)Z -/
def mm_38 : am_M := (⟨"BrokenLoaves$Road", "has", "(I)Z"⟩, prog_9_method_5_code, 2, (Option.some FieldType.boolean), [[some (.iload_n 1, 1, 1, 0, [], 0), some (.iconst 0, 2, 0, 0, [], 0), some (.aload_n 0, 3, 0, 0, [], 0), some (.getfield 81, 6, 7, 2, [], 0), none, none, some (.iconst 1, 7, 0, 0, [], 1), some (.isub, 8, 0, 0, [], 0), some (.invokestatic 109, 11, 4, 162, [3], 0), none, none, some (.ireturn, 12, 2, 0, [], 0)]])
/-- BrokenLoaves$Road.isAct(I)Z -/
def mm_39 : am_M := (⟨"BrokenLoaves$Road", "isAct", "(I)Z"⟩, prog_9_method_6_code, 2, (Option.some FieldType.boolean), [[some (.iload_n 1, 1, 1, 0, [], 0), some (.iconst 0, 2, 0, 0, [], 0), some (.aload_n 0, 3, 0, 0, [], 0), some (.getfield 81, 6, 7, 2, [], 0), none, none, some (.invokestatic 109, 9, 4, 162, [3], 0), none, none, some (.ireturn, 10, 2, 0, [], 0)]])
/-- BrokenLoaves$Road.isOver(LBrokenLoaves$Course;)Z -/
def mm_40 : am_M := (⟨"BrokenLoaves$Road", "isOver", "(LBrokenLoaves$Course;)Z"⟩, prog_9_method_7_code, 2, (Option.some FieldType.boolean), [[some (.aload_n 1, 1, 1, 0, [], 0), some (.getfield 113, 4, 1, 0, [], 0), none, none, some (.aload_n 0, 5, 0, 0, [], 0), some (.getfield 40, 8, 7, 10, [], 0), none, none, some (.if_icmp .lt 7, 11, 15, 0, [], 0), none, none, some (.iconst 1, 12, 0, 0, [], 1), some (.goto 4, 15, 16, 0, [], 0), none, none, some (.iconst 0, 16, 0, 0, [], 0)],
  [some (.ireturn, 17, 2, 0, [], 0)]])
/-- BrokenLoaves$Road.daysLeft(LBrokenLoaves$Course;)I -/
def mm_41 : am_M := (⟨"BrokenLoaves$Road", "daysLeft", "(LBrokenLoaves$Course;)I"⟩, prog_9_method_8_code, 2, (Option.some FieldType.int), [[some (.iconst 0, 1, 0, 0, [], 0), some (.aload_n 0, 2, 0, 0, [], 0), some (.getfield 40, 5, 7, 10, [], 0), none, none, some (.aload_n 1, 6, 1, 0, [], 0), some (.getfield 113, 9, 1, 0, [], 0), none, none, some (.isub, 10, 0, 0, [], 0), some (.invokestatic 116, 13, 8, 0, [], 0), none, none, some (.ireturn, 14, 0, 0, [], 0)]])
/-- BrokenLoaves$Road.thingOf(I)LBrokenLoaves$Person; -/
def mm_42 : am_M := (⟨"BrokenLoaves$Road", "thingOf", "(I)LBrokenLoaves$Person;"⟩, prog_9_method_9_code, 2, (Option.some (FieldType.object "BrokenLoaves$Person")), [[some (.aload_n 0, 1, 0, 0, [], 0), some (.getfield 67, 4, 7, 0, [], 0), none, none, some (.aload_n 0, 5, 0, 0, [], 0), some (.getfield 18, 8, 7, 3, [], 0), none, none, some (.iload_n 1, 9, 1, 0, [], 0), some (.iaload, 10, 0, 0, [], 0), some (.aaload, 11, 0, 0, [], 0), some (.areturn, 12, 0, 0, [], 0)]])
/-- BrokenLoaves$Road.takesBy(II)Z -/
def mm_43 : am_M := (⟨"BrokenLoaves$Road", "takesBy", "(II)Z"⟩, prog_9_method_10_code, 3, (Option.some FieldType.boolean), [[some (.iload_n 1, 1, 1, 0, [], 0), some (.aload_n 0, 2, 0, 0, [], 0), some (.getfield 37, 5, 7, 9, [], 0), none, none, some (.aload_n 0, 6, 0, 0, [], 0), some (.getfield 28, 9, 7, 6, [], 0), none, none, some (.iload_n 2, 10, 2, 0, [], 0), some (.iaload, 11, 0, 0, [], 0), some (.iaload, 12, 0, 0, [], 0), some (.if_icmp .gt 7, 15, 19, 0, [], 0), none, none, some (.iconst 1, 16, 0, 0, [], 1)],
  [some (.goto 4, 19, 20, 0, [], 0), none, none, some (.iconst 0, 20, 0, 0, [], 0), some (.ireturn, 21, 2, 0, [], 0)]])
/-- BrokenLoaves$Road.strangeStill(LBrokenLoaves$Course;I)I -/
def mm_44 : am_M := (⟨"BrokenLoaves$Road", "strangeStill", "(LBrokenLoaves$Course;I)I"⟩, prog_9_method_11_code, 4, (Option.some FieldType.int), [[some (.aload_n 0, 1, 0, 0, [], 0), some (.iload_n 2, 2, 2, 0, [], 0), some (.invokevirtual 119, 5, 1, 42, [1, 7], 0), none, none, some (.aload_n 0, 6, 0, 0, [], 0), some (.getfield 25, 9, 7, 5, [], 0), none, none, some (.iload_n 2, 10, 2, 0, [], 0), some (.iaload, 11, 0, 0, [], 0), some (.aload_n 1, 12, 1, 0, [], 0), some (.getfield 113, 15, 1, 0, [], 0), none, none, some (.invokevirtual 123, 18, 2, 404, [2, 4, 0, 0, 18, 21, 27, 0, 0, 0, 85, 88, 0, 0], 0)],
  [none, none, some (.aload_n 0, 19, 0, 0, [], 0), some (.getfield 34, 22, 7, 8, [], 0), none, none, some (.aload_n 0, 23, 0, 0, [], 0), some (.getfield 28, 26, 7, 6, [], 0), none, none, some (.iload_n 2, 27, 2, 0, [], 0), some (.iaload, 28, 0, 0, [], 0), some (.iaload, 29, 0, 0, [], 0), some (.iadd, 30, 0, 0, [], 0), some (.istore_n 3, 31, 3, 0, [], 0), some (.iconst 0, 32, 0, 0, [], 0)],
  [some (.iload_n 3, 33, 3, 0, [], 0), some (.iconst 2, 34, 0, 0, [], 2), some (.aload_n 1, 35, 1, 0, [], 0), some (.iload_n 2, 36, 2, 0, [], 0), some (.invokevirtual 128, 39, 1, 9, [1, 1], 0), none, none, some (.imul, 40, 0, 0, [], 0), some (.isub, 41, 0, 0, [], 0), some (.invokestatic 116, 44, 8, 0, [], 0), none, none, some (.ireturn, 45, 0, 0, [], 0)]])
/-- BrokenLoaves$Road.isOrIsUnder(II)Z -/
def mm_45 : am_M := (⟨"BrokenLoaves$Road", "isOrIsUnder", "(II)Z"⟩, prog_9_method_12_code, 2, (Option.some FieldType.boolean), [[some (.iload_n 1, 1, 1, 0, [], 0), some (.ifCond .eq 28, 4, 29, 0, [], 0), none, none, some (.iload_n 0, 5, 0, 0, [], 0), some (.iload_n 1, 6, 1, 0, [], 0), some (.if_icmp .eq 23, 9, 29, 0, [], 0), none, none, some (.iload_n 0, 10, 0, 0, [], 0), some (.iconst 3, 11, 0, 0, [], 3), some (.if_icmp .ne 8, 14, 19, 0, [], 0), none, none, some (.iload_n 1, 15, 1, 0, [], 0), some (.iconst 2, 16, 0, 0, [], 2)],
  [some (.if_icmp .eq 13, 19, 29, 0, [], 0), none, none, some (.iload_n 0, 20, 0, 0, [], 0), some (.iconst 5, 21, 0, 0, [], 5), some (.if_icmp .ne 12, 24, 33, 0, [], 0), none, none, some (.iload_n 1, 25, 1, 0, [], 0), some (.iconst 4, 26, 0, 0, [], 4), some (.if_icmp .ne 7, 29, 33, 0, [], 0), none, none, some (.iconst 1, 30, 0, 0, [], 1), some (.goto 4, 33, 34, 0, [], 0), none],
  [none, some (.iconst 0, 34, 0, 0, [], 0), some (.ireturn, 35, 2, 0, [], 0)]])
/-- BrokenLoaves$Road.snowBehind(II)I -/
def mm_46 : am_M := (⟨"BrokenLoaves$Road", "snowBehind", "(II)I"⟩, prog_9_method_13_code, 4, (Option.some FieldType.int), [[some (.iload_n 1, 1, 1, 0, [], 0), some (.iconst 0, 2, 0, 0, [], 0), some (.bipush 15, 4, 0, 0, [], 15), none, some (.invokestatic 109, 7, 4, 162, [3], 0), none, none, some (.ifCond .ne 5, 10, 12, 0, [], 0), none, none, some (.iload_n 2, 11, 2, 0, [], 0), some (.ireturn, 12, 0, 0, [], 0), some (.aload_n 0, 13, 0, 0, [], 0), some (.getfield 31, 16, 7, 7, [], 0), none, none],
  [some (.iload_n 1, 17, 1, 0, [], 0), some (.iaload, 18, 0, 0, [], 0), some (.iconst 4, 19, 0, 0, [], 4), some (.idiv, 20, 0, 0, [], 0), some (.istore_n 3, 21, 3, 0, [], 0), some (.aload_n 0, 22, 0, 0, [], 0), some (.getfield 31, 25, 7, 7, [], 0), none, none, some (.iload_n 1, 26, 1, 0, [], 0), some (.iaload, 27, 0, 0, [], 0), some (.iconst 4, 28, 0, 0, [], 4), some (.irem, 29, 0, 0, [], 0), some (.tableswitch 67 0 2 #[27, 36, 44], 56, 96, 0, [56, 65, 73], 0), none, none],
  [none, none, none, none, none, none, none, none, none, none, none, none, none, none, none, none],
  [none, none, none, none, none, none, none, none, some (.bipush 9, 58, 0, 0, [], 9), none, some (.iload_n 2, 59, 2, 0, [], 0), some (.iload_n 3, 60, 3, 0, [], 0), some (.iadd, 61, 0, 0, [], 0), some (.invokestatic 97, 64, 9, 0, [], 0), none, none],
  [some (.ireturn, 65, 0, 0, [], 0), some (.iconst 0, 66, 0, 0, [], 0), some (.iload_n 2, 67, 2, 0, [], 0), some (.iload_n 3, 68, 3, 0, [], 0), some (.isub, 69, 0, 0, [], 0), some (.invokestatic 116, 72, 8, 0, [], 0), none, none, some (.ireturn, 73, 0, 0, [], 0), some (.iload_n 2, 74, 2, 0, [], 0), some (.iconst 5, 75, 0, 0, [], 5), some (.if_icmp .ge 13, 78, 88, 0, [], 0), none, none, some (.iconst 5, 79, 0, 0, [], 5), some (.iload_n 2, 80, 2, 0, [], 0)],
  [some (.iload_n 3, 81, 3, 0, [], 0), some (.iadd, 82, 0, 0, [], 0), some (.invokestatic 97, 85, 9, 0, [], 0), none, none, some (.goto 10, 88, 95, 0, [], 0), none, none, some (.iconst 5, 89, 0, 0, [], 5), some (.iload_n 2, 90, 2, 0, [], 0), some (.iload_n 3, 91, 3, 0, [], 0), some (.isub, 92, 0, 0, [], 0), some (.invokestatic 116, 95, 8, 0, [], 0), none, none, some (.ireturn, 96, 0, 0, [], 0)],
  [some (.iload_n 2, 97, 2, 0, [], 0), some (.ireturn, 98, 0, 0, [], 0)]])
/-- BrokenLoaves$Road.goBy(LBrokenLoaves$Course;I)I -/
def mm_47 : am_M := (⟨"BrokenLoaves$Road", "goBy", "(LBrokenLoaves$Course;I)I"⟩, prog_9_method_14_code, 7, (Option.some FieldType.int), [[some (.aload_n 1, 1, 1, 0, [], 0), some (.aload_n 0, 2, 0, 0, [], 0), some (.aload_n 1, 3, 1, 0, [], 0), some (.getfield 113, 6, 1, 0, [], 0), none, none, some (.aload_n 1, 7, 1, 0, [], 0), some (.getfield 132, 10, 1, 1, [], 0), none, none, some (.invokevirtual 135, 13, 1, 46, [2, 7], 0), none, none, some (.putfield 132, 16, 1, 1, [], 0), none, none],
  [some (.iconst 0, 17, 0, 0, [], 0), some (.istore_n 3, 18, 3, 0, [], 0), some (.iload_n 2, 19, 2, 0, [], 0), some (.iconst 1, 20, 0, 0, [], 1), some (.isub, 21, 0, 0, [], 0), some (.istore 4, 23, 4, 0, [], 0), none, some (.aload_n 0, 24, 0, 0, [], 0), some (.iload 4, 26, 4, 0, [], 0), none, some (.invokevirtual 138, 29, 1, 38, [1, 7], 0), none, none, some (.ifCond .eq 84, 32, 113, 0, [], 0), none, none],
  [some (.aload_n 0, 33, 0, 0, [], 0), some (.aload_n 1, 34, 1, 0, [], 0), some (.getfield 132, 37, 1, 1, [], 0), none, none, some (.iload 4, 39, 4, 0, [], 0), none, some (.invokevirtual 142, 42, 1, 43, [2, 7], 0), none, none, some (.ifCond .eq 71, 45, 113, 0, [], 0), none, none, some (.aload_n 0, 46, 0, 0, [], 0), some (.aload_n 1, 47, 1, 0, [], 0), some (.iload 4, 49, 4, 0, [], 0)],
  [none, some (.invokevirtual 146, 52, 1, 44, [2, 7], 0), none, none, some (.istore 5, 54, 5, 0, [], 0), none, some (.aload_n 0, 55, 0, 0, [], 0), some (.aload_n 1, 56, 1, 0, [], 0), some (.iload 4, 58, 4, 0, [], 0), none, some (.iload 5, 60, 5, 0, [], 0), none, some (.invokevirtual 150, 63, 1, 51, [3, 7], 0), none, none, some (.istore 6, 65, 6, 0, [], 0)],
  [none, some (.iload 6, 67, 6, 0, [], 0), none, some (.ifCond .ne 13, 70, 80, 0, [], 0), none, none, some (.aload_n 0, 71, 0, 0, [], 0), some (.aload_n 1, 72, 1, 0, [], 0), some (.iload 4, 74, 4, 0, [], 0), none, some (.iload 5, 76, 5, 0, [], 0), none, some (.invokevirtual 154, 79, 1, 48, [3, 7], 0), none, none, some (.istore_n 3, 80, 3, 0, [], 0)],
  [some (.iload 6, 82, 6, 0, [], 0), none, some (.iconst 1, 83, 0, 0, [], 1), some (.if_icmp .ne 5, 86, 88, 0, [], 0), none, none, some (.iconst 1, 87, 0, 0, [], 1), some (.istore_n 3, 88, 3, 0, [], 0), some (.iload 6, 90, 6, 0, [], 0), none, some (.iconst 2, 91, 0, 0, [], 2), some (.if_icmp .eq 22, 94, 113, 0, [], 0), none, none, some (.aload_n 1, 95, 1, 0, [], 0), some (.iload 4, 97, 4, 0, [], 0)],
  [none, some (.bipush 9, 99, 0, 0, [], 9), none, some (.aload_n 1, 100, 1, 0, [], 0), some (.iload 4, 102, 4, 0, [], 0), none, some (.invokevirtual 128, 105, 1, 9, [1, 1], 0), none, none, some (.iconst 1, 106, 0, 0, [], 1), some (.iadd, 107, 0, 0, [], 0), some (.invokestatic 97, 110, 9, 0, [], 0), none, none, some (.invokevirtual 157, 113, 1, 10, [2, 1], 0), none],
  [none, some (.aload_n 1, 114, 1, 0, [], 0), some (.aload_n 1, 115, 1, 0, [], 0), some (.getfield 161, 118, 1, 2, [], 0), none, none, some (.aload_n 1, 119, 1, 0, [], 0), some (.getfield 132, 122, 1, 1, [], 0), none, none, some (.invokestatic 164, 125, 0, 49, [2], 0), none, none, some (.putfield 161, 128, 1, 2, [], 0), none, none],
  [some (.aload_n 1, 129, 1, 0, [], 0), some (.dup, 130, 0, 0, [], 0), some (.getfield 113, 133, 1, 0, [], 0), none, none, some (.iconst 1, 134, 0, 0, [], 1), some (.iadd, 135, 0, 0, [], 0), some (.putfield 113, 138, 1, 0, [], 0), none, none, some (.aload_n 1, 139, 1, 0, [], 0), some (.dup, 140, 0, 0, [], 0), some (.getfield 167, 143, 1, 3, [], 0), none, none, some (.iload_n 3, 144, 3, 0, [], 0)],
  [some (.iadd, 145, 0, 0, [], 0), some (.putfield 167, 148, 1, 3, [], 0), none, none, some (.iload_n 3, 149, 3, 0, [], 0), some (.ireturn, 150, 0, 0, [], 0)]])
/-- BrokenLoaves$Road.breakWith(LBrokenLoaves$Course;II)I -/
def mm_48 : am_M := (⟨"BrokenLoaves$Road", "breakWith", "(LBrokenLoaves$Course;II)I"⟩, prog_9_method_15_code, 5, (Option.some FieldType.int), [[some (.iload_n 3, 1, 3, 0, [], 0), some (.istore 4, 3, 4, 0, [], 0), none, some (.aload_n 1, 4, 1, 0, [], 0), some (.sipush 999, 7, 0, 0, [], 999), none, none, some (.aload_n 1, 8, 1, 0, [], 0), some (.getfield 161, 11, 1, 2, [], 0), none, none, some (.iload_n 3, 12, 3, 0, [], 0), some (.iadd, 13, 0, 0, [], 0), some (.invokestatic 97, 16, 9, 0, [], 0), none, none],
  [some (.putfield 161, 19, 1, 2, [], 0), none, none, some (.aload_n 1, 20, 1, 0, [], 0), some (.getfield 161, 23, 1, 2, [], 0), none, none, some (.aload_n 0, 24, 0, 0, [], 0), some (.getfield 22, 27, 7, 4, [], 0), none, none, some (.iload_n 2, 28, 2, 0, [], 0), some (.iaload, 29, 0, 0, [], 0), some (.if_icmp .lt 42, 32, 71, 0, [], 0), none, none],
  [some (.aload_n 1, 33, 1, 0, [], 0), some (.iload_n 2, 34, 2, 0, [], 0), some (.invokevirtual 170, 37, 1, 11, [1, 1], 0), none, none, some (.ifCond .ne 6, 40, 43, 0, [], 0), none, none, some (.iinc 4 9, 43, 4, 0, [], 9), none, none, some (.aload_n 1, 44, 1, 0, [], 0), some (.iload_n 2, 45, 2, 0, [], 0), some (.iconst 1, 46, 0, 0, [], 1), some (.invokevirtual 173, 49, 1, 12, [2, 1], 0), none],
  [none, some (.aload_n 1, 50, 1, 0, [], 0), some (.iconst 0, 51, 0, 0, [], 0), some (.aload_n 1, 52, 1, 0, [], 0), some (.getfield 161, 55, 1, 2, [], 0), none, none, some (.aload_n 0, 56, 0, 0, [], 0), some (.iload_n 2, 57, 2, 0, [], 0), some (.invokevirtual 119, 60, 1, 42, [1, 7], 0), none, none, some (.iload_n 2, 61, 2, 0, [], 0), some (.invokevirtual 176, 64, 2, 404, [1, 5, 0, 0, 19, 22, 28, 0, 0, 0, 86, 89, 0, 0], 0), none, none],
  [some (.isub, 65, 0, 0, [], 0), some (.invokestatic 116, 68, 8, 0, [], 0), none, none, some (.putfield 161, 71, 1, 2, [], 0), none, none, some (.iload 4, 73, 4, 0, [], 0), none, some (.ireturn, 74, 0, 0, [], 0)]])
/-- BrokenLoaves$Road.lessByDay(II)I -/
def mm_49 : am_M := (⟨"BrokenLoaves$Road", "lessByDay", "(II)I"⟩, prog_9_method_16_code, 2, (Option.some FieldType.int), [[some (.iconst 0, 1, 0, 0, [], 0), some (.iload_n 0, 2, 0, 0, [], 0), some (.iconst 1, 3, 0, 0, [], 1), some (.isub, 4, 0, 0, [], 0), some (.iload_n 1, 5, 1, 0, [], 0), some (.iconst 3, 6, 0, 0, [], 3), some (.idiv, 7, 0, 0, [], 0), some (.isub, 8, 0, 0, [], 0), some (.invokestatic 116, 11, 8, 0, [], 0), none, none, some (.ireturn, 12, 0, 0, [], 0)]])
/-- BrokenLoaves$Road.restAct(LBrokenLoaves$Course;)I -/
def mm_50 : am_M := (⟨"BrokenLoaves$Road", "restAct", "(LBrokenLoaves$Course;)I"⟩, prog_9_method_17_code, 5, (Option.some FieldType.int), [[some (.aload_n 0, 1, 0, 0, [], 0), some (.aload_n 1, 2, 1, 0, [], 0), some (.getfield 113, 5, 1, 0, [], 0), none, none, some (.aload_n 1, 6, 1, 0, [], 0), some (.getfield 132, 9, 1, 1, [], 0), none, none, some (.invokevirtual 135, 12, 1, 46, [2, 7], 0), none, none, some (.istore_n 2, 13, 2, 0, [], 0), some (.iconst 0, 14, 0, 0, [], 0), some (.istore_n 3, 15, 3, 0, [], 0), some (.iload_n 3, 16, 3, 0, [], 0)],
  [some (.aload_n 0, 17, 0, 0, [], 0), some (.getfield 81, 20, 7, 2, [], 0), none, none, some (.if_icmp .ge 62, 23, 82, 0, [], 0), none, none, some (.aload_n 1, 24, 1, 0, [], 0), some (.iload_n 3, 25, 3, 0, [], 0), some (.invokevirtual 170, 28, 1, 11, [1, 1], 0), none, none, some (.ifCond .ne 16, 31, 44, 0, [], 0), none, none, some (.aload_n 0, 32, 0, 0, [], 0)],
  [some (.iload_n 2, 33, 2, 0, [], 0), some (.iload_n 3, 34, 3, 0, [], 0), some (.invokevirtual 142, 37, 1, 43, [2, 7], 0), none, none, some (.ifCond .eq 7, 40, 44, 0, [], 0), none, none, some (.iconst 1, 41, 0, 0, [], 1), some (.goto 4, 44, 45, 0, [], 0), none, none, some (.iconst 0, 45, 0, 0, [], 0), some (.istore 4, 47, 4, 0, [], 0), none, some (.iload 4, 49, 4, 0, [], 0)],
  [none, some (.ifCond .eq 27, 52, 76, 0, [], 0), none, none, some (.aload_n 1, 53, 1, 0, [], 0), some (.getfield 161, 56, 1, 2, [], 0), none, none, some (.aload_n 0, 57, 0, 0, [], 0), some (.aload_n 1, 58, 1, 0, [], 0), some (.iload_n 3, 59, 3, 0, [], 0), some (.invokevirtual 146, 62, 1, 44, [2, 7], 0), none, none, some (.iadd, 63, 0, 0, [], 0), some (.aload_n 0, 64, 0, 0, [], 0)],
  [some (.getfield 22, 67, 7, 4, [], 0), none, none, some (.iload_n 3, 68, 3, 0, [], 0), some (.iaload, 69, 0, 0, [], 0), some (.if_icmp .lt 7, 72, 76, 0, [], 0), none, none, some (.iload_n 3, 73, 3, 0, [], 0), some (.iconst 1, 74, 0, 0, [], 1), some (.iadd, 75, 0, 0, [], 0), some (.ireturn, 76, 0, 0, [], 0), some (.iinc 3 1, 79, 3, 0, [], 1), none, none, some (.goto (-64), 82, 15, 0, [], 0)],
  [none, none, some (.iconst 0, 83, 0, 0, [], 0), some (.ireturn, 84, 0, 0, [], 0)]])
/-- BrokenLoaves$Road.willOf(LBrokenLoaves$Course;II)I -/
def mm_51 : am_M := (⟨"BrokenLoaves$Road", "willOf", "(LBrokenLoaves$Course;II)I"⟩, prog_9_method_18_code, 7, (Option.some FieldType.int), [[some (.aload_n 0, 1, 0, 0, [], 0), some (.getfield 52, 4, 7, 14, [], 0), none, none, some (.iconst 0, 5, 0, 0, [], 0), some (.aload_n 1, 6, 1, 0, [], 0), some (.getfield 113, 9, 1, 0, [], 0), none, none, some (.iastore, 10, 0, 0, [], 0), some (.aload_n 0, 11, 0, 0, [], 0), some (.getfield 52, 14, 7, 14, [], 0), none, none, some (.iconst 1, 15, 0, 0, [], 1), some (.aload_n 0, 16, 0, 0, [], 0)],
  [some (.getfield 25, 19, 7, 5, [], 0), none, none, some (.iload_n 2, 20, 2, 0, [], 0), some (.iaload, 21, 0, 0, [], 0), some (.iastore, 22, 0, 0, [], 0), some (.aload_n 0, 23, 0, 0, [], 0), some (.getfield 52, 26, 7, 14, [], 0), none, none, some (.iconst 2, 27, 0, 0, [], 2), some (.iload_n 3, 28, 3, 0, [], 0), some (.iastore, 29, 0, 0, [], 0), some (.aload_n 0, 30, 0, 0, [], 0), some (.getfield 52, 33, 7, 14, [], 0), none],
  [none, some (.iconst 3, 34, 0, 0, [], 3), some (.aload_n 1, 35, 1, 0, [], 0), some (.getfield 132, 38, 1, 1, [], 0), none, none, some (.iastore, 39, 0, 0, [], 0), some (.aload_n 0, 40, 0, 0, [], 0), some (.getfield 52, 43, 7, 14, [], 0), none, none, some (.iconst 4, 44, 0, 0, [], 4), some (.iload_n 2, 45, 2, 0, [], 0), some (.iastore, 46, 0, 0, [], 0), some (.iconst 0, 47, 0, 0, [], 0), some (.istore 4, 49, 4, 0, [], 0)],
  [none, some (.iconst 0, 50, 0, 0, [], 0), some (.istore 5, 52, 5, 0, [], 0), none, some (.iload 5, 54, 5, 0, [], 0), none, some (.aload_n 0, 55, 0, 0, [], 0), some (.getfield 88, 58, 7, 12, [], 0), none, none, some (.if_icmp .ge 83, 61, 141, 0, [], 0), none, none, some (.iload 4, 63, 4, 0, [], 0), none, some (.iconst 3, 64, 0, 0, [], 3)],
  [some (.iadd, 65, 0, 0, [], 0), some (.aload_n 0, 66, 0, 0, [], 0), some (.getfield 47, 69, 7, 13, [], 0), none, none, some (.arraylength, 70, 0, 0, [], 0), some (.if_icmp .gt 71, 73, 141, 0, [], 0), none, none, some (.aload_n 0, 74, 0, 0, [], 0), some (.getfield 47, 77, 7, 13, [], 0), none, none, some (.iload 4, 79, 4, 0, [], 0), none, some (.iconst 2, 80, 0, 0, [], 2)],
  [some (.iadd, 81, 0, 0, [], 0), some (.iaload, 82, 0, 0, [], 0), some (.istore 6, 84, 6, 0, [], 0), none, some (.aload_n 0, 85, 0, 0, [], 0), some (.getfield 18, 88, 7, 3, [], 0), none, none, some (.iload_n 2, 89, 2, 0, [], 0), some (.iaload, 90, 0, 0, [], 0), some (.aload_n 0, 91, 0, 0, [], 0), some (.getfield 47, 94, 7, 13, [], 0), none, none, some (.iload 4, 96, 4, 0, [], 0), none],
  [some (.iaload, 97, 0, 0, [], 0), some (.invokestatic 179, 100, 0, 45, [2], 0), none, none, some (.ifCond .eq 26, 103, 126, 0, [], 0), none, none, some (.aload_n 0, 104, 0, 0, [], 0), some (.iload 4, 106, 4, 0, [], 0), none, some (.iconst 3, 107, 0, 0, [], 3), some (.iadd, 108, 0, 0, [], 0), some (.iload 6, 110, 6, 0, [], 0), none, some (.invokevirtual 182, 113, 1, 52, [2, 7], 0), none],
  [none, some (.ifCond .eq 13, 116, 126, 0, [], 0), none, none, some (.aload_n 0, 117, 0, 0, [], 0), some (.getfield 47, 120, 7, 13, [], 0), none, none, some (.iload 4, 122, 4, 0, [], 0), none, some (.iconst 1, 123, 0, 0, [], 1), some (.iadd, 124, 0, 0, [], 0), some (.iaload, 125, 0, 0, [], 0), some (.ireturn, 126, 0, 0, [], 0), some (.iload 4, 128, 4, 0, [], 0), none],
  [some (.iconst 3, 129, 0, 0, [], 3), some (.iload 6, 131, 6, 0, [], 0), none, some (.iadd, 132, 0, 0, [], 0), some (.iadd, 133, 0, 0, [], 0), some (.istore 4, 135, 4, 0, [], 0), none, some (.iinc 5 1, 138, 5, 0, [], 1), none, none, some (.goto (-86), 141, 52, 0, [], 0), none, none, some (.iconst 0, 142, 0, 0, [], 0), some (.ireturn, 143, 0, 0, [], 0)]])
/-- BrokenLoaves$Road.holds(II)Z -/
def mm_52 : am_M := (⟨"BrokenLoaves$Road", "holds", "(II)Z"⟩, prog_9_method_19_code, 8, (Option.some FieldType.boolean), [[some (.iconst 1, 1, 0, 0, [], 1), some (.istore_n 3, 2, 3, 0, [], 0), some (.iload_n 1, 3, 1, 0, [], 0), some (.iload_n 2, 4, 2, 0, [], 0), some (.iadd, 5, 0, 0, [], 0), some (.aload_n 0, 6, 0, 0, [], 0), some (.getfield 47, 9, 7, 13, [], 0), none, none, some (.arraylength, 10, 0, 0, [], 0), some (.invokestatic 97, 13, 9, 0, [], 0), none, none, some (.istore 4, 15, 4, 0, [], 0), none, some (.iload_n 1, 16, 1, 0, [], 0)],
  [some (.istore 5, 18, 5, 0, [], 0), none, some (.iload 5, 20, 5, 0, [], 0), none, some (.iload 4, 22, 4, 0, [], 0), none, some (.if_icmp .ge 116, 25, 138, 0, [], 0), none, none, some (.aload_n 0, 26, 0, 0, [], 0), some (.getfield 47, 29, 7, 13, [], 0), none, none, some (.iload 5, 31, 5, 0, [], 0), none, some (.iaload, 32, 0, 0, [], 0)],
  [some (.istore 6, 34, 6, 0, [], 0), none, some (.iinc 5 1, 37, 5, 0, [], 1), none, none, some (.iload_n 3, 38, 3, 0, [], 0), some (.iconst 1, 39, 0, 0, [], 1), some (.iand, 40, 0, 0, [], 0), some (.istore 7, 42, 7, 0, [], 0), none, some (.iload 6, 44, 6, 0, [], 0), none, some (.sipush 10012, 47, 0, 0, [], 10012), none, none, some (.if_icmp .ne 10, 50, 57, 0, [], 0)],
  [none, none, some (.iload_n 3, 51, 3, 0, [], 0), some (.iconst 1, 52, 0, 0, [], 1), some (.ixor, 53, 0, 0, [], 0), some (.istore_n 3, 54, 3, 0, [], 0), some (.goto 81, 57, 135, 0, [], 0), none, none, some (.iload 6, 59, 6, 0, [], 0), none, some (.sipush 10011, 62, 0, 0, [], 10011), none, none, some (.if_icmp .ne 16, 65, 78, 0, [], 0), none],
  [none, some (.iload_n 3, 66, 3, 0, [], 0), some (.iconst 1, 67, 0, 0, [], 1), some (.iushr, 68, 0, 0, [], 0), some (.iload 7, 70, 7, 0, [], 0), none, some (.bipush (-2), 72, 0, 0, [], (-2)), none, some (.ior, 73, 0, 0, [], 0), some (.iand, 74, 0, 0, [], 0), some (.istore_n 3, 75, 3, 0, [], 0), some (.goto 60, 78, 135, 0, [], 0), none, none, some (.iload 6, 80, 6, 0, [], 0), none],
  [some (.sipush 10010, 83, 0, 0, [], 10010), none, none, some (.if_icmp .ne 13, 86, 96, 0, [], 0), none, none, some (.iload_n 3, 87, 3, 0, [], 0), some (.iconst 1, 88, 0, 0, [], 1), some (.iushr, 89, 0, 0, [], 0), some (.iload 7, 91, 7, 0, [], 0), none, some (.ior, 92, 0, 0, [], 0), some (.istore_n 3, 93, 3, 0, [], 0), some (.goto 42, 96, 135, 0, [], 0), none, none],
  [some (.iload 5, 98, 5, 0, [], 0), none, some (.iconst 1, 99, 0, 0, [], 1), some (.iadd, 100, 0, 0, [], 0), some (.iload 4, 102, 4, 0, [], 0), none, some (.if_icmp .ge 33, 105, 135, 0, [], 0), none, none, some (.iload_n 3, 106, 3, 0, [], 0), some (.iconst 1, 107, 0, 0, [], 1), some (.ishl, 108, 0, 0, [], 0), some (.aload_n 0, 109, 0, 0, [], 0), some (.iload 6, 111, 6, 0, [], 0), none, some (.aload_n 0, 112, 0, 0, [], 0)],
  [some (.getfield 47, 115, 7, 13, [], 0), none, none, some (.iload 5, 117, 5, 0, [], 0), none, some (.iaload, 118, 0, 0, [], 0), some (.aload_n 0, 119, 0, 0, [], 0), some (.getfield 47, 122, 7, 13, [], 0), none, none, some (.iload 5, 124, 5, 0, [], 0), none, some (.iconst 1, 125, 0, 0, [], 1), some (.iadd, 126, 0, 0, [], 0), some (.iaload, 127, 0, 0, [], 0), some (.invokevirtual 185, 130, 1, 53, [3, 7], 0)],
  [none, none, some (.ior, 131, 0, 0, [], 0), some (.istore_n 3, 132, 3, 0, [], 0), some (.iinc 5 2, 135, 5, 0, [], 2), none, none, some (.goto (-117), 138, 18, 0, [], 0), none, none, some (.iload_n 3, 139, 3, 0, [], 0), some (.iconst 1, 140, 0, 0, [], 1), some (.iand, 141, 0, 0, [], 0), some (.ifCond .eq 7, 144, 148, 0, [], 0), none, none],
  [some (.iconst 1, 145, 0, 0, [], 1), some (.goto 4, 148, 149, 0, [], 0), none, none, some (.iconst 0, 149, 0, 0, [], 0), some (.ireturn, 150, 2, 0, [], 0)]])
/-- BrokenLoaves$Road.compared(III)I -/
def mm_53 : am_M := (⟨"BrokenLoaves$Road", "compared", "(III)I"⟩, prog_9_method_20_code, 7, (Option.some FieldType.int), [[some (.aload_n 0, 1, 0, 0, [], 0), some (.iload_n 2, 2, 2, 0, [], 0), some (.invokevirtual 189, 5, 1, 54, [1, 7], 0), none, none, some (.istore 4, 7, 4, 0, [], 0), none, some (.aload_n 0, 8, 0, 0, [], 0), some (.iload_n 3, 9, 3, 0, [], 0), some (.invokevirtual 189, 12, 1, 54, [1, 7], 0), none, none, some (.istore 5, 14, 5, 0, [], 0), none, some (.iload_n 1, 15, 1, 0, [], 0), some (.sipush 20060, 18, 0, 0, [], 20060)],
  [none, none, some (.if_icmp .ne 18, 21, 36, 0, [], 0), none, none, some (.iload 4, 23, 4, 0, [], 0), none, some (.iload 5, 25, 5, 0, [], 0), none, some (.if_icmp .ge 7, 28, 32, 0, [], 0), none, none, some (.iconst 1, 29, 0, 0, [], 1), some (.goto 41, 32, 70, 0, [], 0), none, none],
  [some (.iconst 0, 33, 0, 0, [], 0), some (.goto 37, 36, 70, 0, [], 0), none, none, some (.iload_n 1, 37, 1, 0, [], 0), some (.sipush 20062, 40, 0, 0, [], 20062), none, none, some (.if_icmp .ne 18, 43, 58, 0, [], 0), none, none, some (.iload 4, 45, 4, 0, [], 0), none, some (.iload 5, 47, 5, 0, [], 0), none, some (.if_icmp .le 7, 50, 54, 0, [], 0)],
  [none, none, some (.iconst 1, 51, 0, 0, [], 1), some (.goto 19, 54, 70, 0, [], 0), none, none, some (.iconst 0, 55, 0, 0, [], 0), some (.goto 15, 58, 70, 0, [], 0), none, none, some (.iload 4, 60, 4, 0, [], 0), none, some (.iload 5, 62, 5, 0, [], 0), none, some (.if_icmp .ne 7, 65, 69, 0, [], 0), none],
  [none, some (.iconst 1, 66, 0, 0, [], 1), some (.goto 4, 69, 70, 0, [], 0), none, none, some (.iconst 0, 70, 0, 0, [], 0), some (.istore 6, 72, 6, 0, [], 0), none, some (.iload 6, 74, 6, 0, [], 0), none, some (.ifCond .eq 7, 77, 81, 0, [], 0), none, none, some (.iconst 1, 78, 0, 0, [], 1), some (.goto 4, 81, 82, 0, [], 0), none],
  [none, some (.iconst 0, 82, 0, 0, [], 0), some (.ireturn, 83, 0, 0, [], 0)]])
/-- BrokenLoaves$Road.valueOf(I)I -/
def mm_54 : am_M := (⟨"BrokenLoaves$Road", "valueOf", "(I)I"⟩, prog_9_method_21_code, 3, (Option.some FieldType.int), [[some (.iload_n 1, 1, 1, 0, [], 0), some (.sipush 10013, 4, 0, 0, [], 10013), none, none, some (.isub, 5, 0, 0, [], 0), some (.istore_n 2, 6, 2, 0, [], 0), some (.iload_n 2, 7, 2, 0, [], 0), some (.ifCond .lt 21, 10, 28, 0, [], 0), none, none, some (.iload_n 2, 11, 2, 0, [], 0), some (.aload_n 0, 12, 0, 0, [], 0), some (.getfield 52, 15, 7, 14, [], 0), none, none, some (.arraylength, 16, 0, 0, [], 0)],
  [some (.if_icmp .ge 12, 19, 28, 0, [], 0), none, none, some (.aload_n 0, 20, 0, 0, [], 0), some (.getfield 52, 23, 7, 14, [], 0), none, none, some (.iload_n 2, 24, 2, 0, [], 0), some (.iaload, 25, 0, 0, [], 0), some (.goto 4, 28, 29, 0, [], 0), none, none, some (.iload_n 1, 29, 1, 0, [], 0), some (.ireturn, 30, 0, 0, [], 0)]])
/-- BrokenLoaves$Road.hungry()I -/
def mm_55 : am_M := (⟨"BrokenLoaves$Road", "hungry", "()I"⟩, prog_9_method_22_code, 1, (Option.some FieldType.int), [[some (.aload_n 0, 1, 0, 0, [], 0), some (.getfield 12, 4, 7, 1, [], 0), none, none, some (.getfield 192, 7, 1, 5, [], 0), none, none, some (.iconst (-1), 8, 0, 0, [], (-1)), some (.ixor, 9, 0, 0, [], 0), some (.iconst 1, 10, 0, 0, [], 1), some (.aload_n 0, 11, 0, 0, [], 0), some (.getfield 81, 14, 7, 2, [], 0), none, none, some (.ishl, 15, 0, 0, [], 0), some (.iconst 1, 16, 0, 0, [], 1)],
  [some (.isub, 17, 0, 0, [], 0), some (.iand, 18, 0, 0, [], 0), some (.ireturn, 19, 0, 0, [], 0)]])
/-- BrokenLoaves$Road.tableOf(I)I -/
def mm_56 : am_M := (⟨"BrokenLoaves$Road", "tableOf", "(I)I"⟩, prog_9_method_23_code, 5, (Option.some FieldType.int), [[some (.aload_n 0, 1, 0, 0, [], 0), some (.getfield 12, 4, 7, 1, [], 0), none, none, some (.iload_n 1, 5, 1, 0, [], 0), some (.invokevirtual 170, 8, 1, 11, [1, 1], 0), none, none, some (.ifCond .eq 5, 11, 13, 0, [], 0), none, none, some (.iconst 0, 12, 0, 0, [], 0), some (.ireturn, 13, 0, 0, [], 0), some (.iconst 1, 14, 0, 0, [], 1), some (.iload_n 1, 15, 1, 0, [], 0), some (.ishl, 16, 0, 0, [], 0)],
  [some (.istore_n 2, 17, 2, 0, [], 0), some (.iconst 0, 18, 0, 0, [], 0), some (.istore_n 3, 19, 3, 0, [], 0), some (.iload_n 3, 20, 3, 0, [], 0), some (.aload_n 0, 21, 0, 0, [], 0), some (.getfield 81, 24, 7, 2, [], 0), none, none, some (.if_icmp .ge 44, 27, 68, 0, [], 0), none, none, some (.iconst 0, 28, 0, 0, [], 0), some (.istore 4, 30, 4, 0, [], 0), none, some (.iload 4, 32, 4, 0, [], 0), none],
  [some (.aload_n 0, 33, 0, 0, [], 0), some (.getfield 81, 36, 7, 2, [], 0), none, none, some (.if_icmp .ge 26, 39, 62, 0, [], 0), none, none, some (.aload_n 0, 40, 0, 0, [], 0), some (.iload 4, 42, 4, 0, [], 0), none, some (.iload_n 2, 43, 2, 0, [], 0), some (.invokevirtual 195, 46, 1, 57, [2, 7], 0), none, none, some (.ifCond .eq 10, 49, 56, 0, [], 0), none],
  [none, some (.iload_n 2, 50, 2, 0, [], 0), some (.iconst 1, 51, 0, 0, [], 1), some (.iload 4, 53, 4, 0, [], 0), none, some (.ishl, 54, 0, 0, [], 0), some (.ior, 55, 0, 0, [], 0), some (.istore_n 2, 56, 2, 0, [], 0), some (.iinc 4 1, 59, 4, 0, [], 1), none, none, some (.goto (-29), 62, 30, 0, [], 0), none, none, some (.iinc 3 1, 65, 3, 0, [], 1), none],
  [none, some (.goto (-46), 68, 19, 0, [], 0), none, none, some (.iload_n 2, 69, 2, 0, [], 0), some (.ireturn, 70, 0, 0, [], 0)]])
/-- BrokenLoaves$Road.isCloseToAny(II)Z -/
def mm_57 : am_M := (⟨"BrokenLoaves$Road", "isCloseToAny", "(II)Z"⟩, prog_9_method_24_code, 5, (Option.some FieldType.boolean), [[some (.aload_n 0, 1, 0, 0, [], 0), some (.getfield 12, 4, 7, 1, [], 0), none, none, some (.iload_n 1, 5, 1, 0, [], 0), some (.invokevirtual 170, 8, 1, 11, [1, 1], 0), none, none, some (.ifCond .eq 5, 11, 13, 0, [], 0), none, none, some (.iconst 0, 12, 0, 0, [], 0), some (.ireturn, 13, 2, 0, [], 0), some (.iconst 0, 14, 0, 0, [], 0), some (.istore_n 3, 15, 3, 0, [], 0), some (.iload_n 3, 16, 3, 0, [], 0)],
  [some (.aload_n 0, 17, 0, 0, [], 0), some (.getfield 81, 20, 7, 2, [], 0), none, none, some (.if_icmp .ge 66, 23, 86, 0, [], 0), none, none, some (.iload_n 2, 24, 2, 0, [], 0), some (.iconst 1, 25, 0, 0, [], 1), some (.iload_n 3, 26, 3, 0, [], 0), some (.ishl, 27, 0, 0, [], 0), some (.iand, 28, 0, 0, [], 0), some (.ifCond .eq 7, 31, 35, 0, [], 0), none, none, some (.iconst 1, 32, 0, 0, [], 1)],
  [some (.goto 4, 35, 36, 0, [], 0), none, none, some (.iconst 0, 36, 0, 0, [], 0), some (.istore 4, 38, 4, 0, [], 0), none, some (.iload 4, 40, 4, 0, [], 0), none, some (.ifCond .eq 40, 43, 80, 0, [], 0), none, none, some (.aload_n 0, 44, 0, 0, [], 0), some (.getfield 28, 47, 7, 6, [], 0), none, none, some (.iload_n 1, 48, 1, 0, [], 0)],
  [some (.iaload, 49, 0, 0, [], 0), some (.aload_n 0, 50, 0, 0, [], 0), some (.getfield 28, 53, 7, 6, [], 0), none, none, some (.iload_n 3, 54, 3, 0, [], 0), some (.iaload, 55, 0, 0, [], 0), some (.if_icmp .eq 23, 58, 78, 0, [], 0), none, none, some (.aload_n 0, 59, 0, 0, [], 0), some (.getfield 22, 62, 7, 4, [], 0), none, none, some (.iload_n 1, 63, 1, 0, [], 0), some (.iaload, 64, 0, 0, [], 0)],
  [some (.aload_n 0, 65, 0, 0, [], 0), some (.getfield 22, 68, 7, 4, [], 0), none, none, some (.iload_n 3, 69, 3, 0, [], 0), some (.iaload, 70, 0, 0, [], 0), some (.isub, 71, 0, 0, [], 0), some (.invokestatic 198, 74, 10, 0, [], 0), none, none, some (.iconst 2, 75, 0, 0, [], 2), some (.if_icmp .gt 5, 78, 80, 0, [], 0), none, none, some (.iconst 1, 79, 0, 0, [], 1), some (.ireturn, 80, 2, 0, [], 0)],
  [some (.iinc 3 1, 83, 3, 0, [], 1), none, none, some (.goto (-68), 86, 15, 0, [], 0), none, none, some (.iconst 0, 87, 0, 0, [], 0), some (.ireturn, 88, 2, 0, [], 0)]])
/-- BrokenLoaves$Road.partsOver(II)I -/
def mm_58 : am_M := (⟨"BrokenLoaves$Road", "partsOver", "(II)I"⟩, prog_9_method_25_code, 6, (Option.some FieldType.int), [[some (.bipush 60, 2, 0, 0, [], 60), none, some (.istore_n 3, 3, 3, 0, [], 0), some (.iconst 0, 4, 0, 0, [], 0), some (.istore 4, 6, 4, 0, [], 0), none, some (.iconst 0, 7, 0, 0, [], 0), some (.istore 5, 9, 5, 0, [], 0), none, some (.iload 5, 11, 5, 0, [], 0), none, some (.aload_n 0, 12, 0, 0, [], 0), some (.getfield 81, 15, 7, 2, [], 0), none, none, some (.if_icmp .ge 44, 18, 59, 0, [], 0)],
  [none, none, some (.iload_n 2, 19, 2, 0, [], 0), some (.iconst 1, 20, 0, 0, [], 1), some (.iload 5, 22, 5, 0, [], 0), none, some (.ishl, 23, 0, 0, [], 0), some (.iand, 24, 0, 0, [], 0), some (.ifCond .eq 29, 27, 53, 0, [], 0), none, none, some (.iload_n 3, 28, 3, 0, [], 0), some (.aload_n 0, 29, 0, 0, [], 0), some (.getfield 22, 32, 7, 4, [], 0), none, none],
  [some (.iload 5, 34, 5, 0, [], 0), none, some (.iaload, 35, 0, 0, [], 0), some (.invokestatic 97, 38, 9, 0, [], 0), none, none, some (.istore_n 3, 39, 3, 0, [], 0), some (.iload 4, 41, 4, 0, [], 0), none, some (.aload_n 0, 42, 0, 0, [], 0), some (.getfield 22, 45, 7, 4, [], 0), none, none, some (.iload 5, 47, 5, 0, [], 0), none, some (.iaload, 48, 0, 0, [], 0)],
  [some (.invokestatic 116, 51, 8, 0, [], 0), none, none, some (.istore 4, 53, 4, 0, [], 0), none, some (.iinc 5 1, 56, 5, 0, [], 1), none, none, some (.goto (-47), 59, 9, 0, [], 0), none, none, some (.iload_n 2, 60, 2, 0, [], 0), some (.ifCond .ne 5, 63, 65, 0, [], 0), none, none, some (.iconst 0, 64, 0, 0, [], 0)],
  [some (.ireturn, 65, 0, 0, [], 0), some (.iload 4, 67, 4, 0, [], 0), none, some (.iload_n 3, 68, 3, 0, [], 0), some (.isub, 69, 0, 0, [], 0), some (.iload_n 1, 70, 1, 0, [], 0), some (.iload_n 3, 71, 3, 0, [], 0), some (.isub, 72, 0, 0, [], 0), some (.invokestatic 198, 75, 10, 0, [], 0), none, none, some (.iload_n 1, 76, 1, 0, [], 0), some (.iload 4, 78, 4, 0, [], 0), none, some (.isub, 79, 0, 0, [], 0), some (.invokestatic 198, 82, 10, 0, [], 0)],
  [none, none, some (.invokestatic 97, 85, 9, 0, [], 0), none, none, some (.iadd, 86, 0, 0, [], 0), some (.ireturn, 87, 0, 0, [], 0)]])
/-- BrokenLoaves$Road.partsBy(III)I -/
def mm_59 : am_M := (⟨"BrokenLoaves$Road", "partsBy", "(III)I"⟩, prog_9_method_26_code, 4, (Option.some FieldType.int), [[some (.iload_n 1, 1, 1, 0, [], 0), some (.aload_n 0, 2, 0, 0, [], 0), some (.getfield 22, 5, 7, 4, [], 0), none, none, some (.iload_n 2, 6, 2, 0, [], 0), some (.iaload, 7, 0, 0, [], 0), some (.isub, 8, 0, 0, [], 0), some (.invokestatic 198, 11, 10, 0, [], 0), none, none, some (.aload_n 0, 12, 0, 0, [], 0), some (.aload_n 0, 13, 0, 0, [], 0), some (.getfield 22, 16, 7, 4, [], 0), none, none],
  [some (.iload_n 2, 17, 2, 0, [], 0), some (.iaload, 18, 0, 0, [], 0), some (.iload_n 3, 19, 3, 0, [], 0), some (.iconst 1, 20, 0, 0, [], 1), some (.iload_n 2, 21, 2, 0, [], 0), some (.ishl, 22, 0, 0, [], 0), some (.iconst (-1), 23, 0, 0, [], (-1)), some (.ixor, 24, 0, 0, [], 0), some (.iand, 25, 0, 0, [], 0), some (.invokevirtual 201, 28, 1, 58, [2, 7], 0), none, none, some (.iadd, 29, 0, 0, [], 0), some (.ireturn, 30, 0, 0, [], 0)]])
/-- BrokenLoaves$Road.kindOfStranger(I)I -/
def mm_60 : am_M := (⟨"BrokenLoaves$Road", "kindOfStranger", "(I)I"⟩, prog_9_method_27_code, 1, (Option.some FieldType.int), [[some (.iload_n 0, 1, 0, 0, [], 0), some (.bipush 100, 3, 0, 0, [], 100), none, some (.idiv, 4, 0, 0, [], 0), some (.iconst 1, 5, 0, 0, [], 1), some (.iadd, 6, 0, 0, [], 0), some (.ireturn, 7, 0, 0, [], 0)]])
/-- BrokenLoaves$Road.taleOfStranger(I)I -/
def mm_61 : am_M := (⟨"BrokenLoaves$Road", "taleOfStranger", "(I)I"⟩, prog_9_method_28_code, 1, (Option.some FieldType.int), [[some (.iload_n 0, 1, 0, 0, [], 0), some (.bipush 10, 3, 0, 0, [], 10), none, some (.idiv, 4, 0, 0, [], 0), some (.bipush 10, 6, 0, 0, [], 10), none, some (.irem, 7, 0, 0, [], 0), some (.ireturn, 8, 0, 0, [], 0)]])
/-- BrokenLoaves$Road.snowOfStranger(I)I -/
def mm_62 : am_M := (⟨"BrokenLoaves$Road", "snowOfStranger", "(I)I"⟩, prog_9_method_29_code, 1, (Option.some FieldType.int), [[some (.iload_n 0, 1, 0, 0, [], 0), some (.bipush 10, 3, 0, 0, [], 10), none, some (.irem, 4, 0, 0, [], 0), some (.ireturn, 5, 0, 0, [], 0)]])
/-- BrokenLoaves$Road.reportsAgainst(I)I -/
def mm_63 : am_M := (⟨"BrokenLoaves$Road", "reportsAgainst", "(I)I"⟩, prog_9_method_30_code, 9, (Option.some FieldType.int), [[some (.bipush 12, 2, 0, 0, [], 12), none, some (.istore_n 2, 3, 2, 0, [], 0), some (.iload_n 1, 4, 1, 0, [], 0), some (.invokestatic 204, 7, 0, 62, [1], 0), none, none, some (.istore_n 3, 8, 3, 0, [], 0), some (.iconst 0, 9, 0, 0, [], 0), some (.istore 4, 11, 4, 0, [], 0), none, some (.aload_n 0, 12, 0, 0, [], 0), some (.invokevirtual 207, 15, 1, 64, [0, 7], 0), none, none, some (.istore 5, 17, 5, 0, [], 0)],
  [none, some (.aload_n 0, 18, 0, 0, [], 0), some (.iconst 0, 19, 0, 0, [], 0), some (.iload_n 2, 20, 2, 0, [], 0), some (.iload_n 3, 21, 3, 0, [], 0), some (.invokevirtual 211, 24, 1, 65, [3, 7], 0), none, none, some (.istore 6, 26, 6, 0, [], 0), none, some (.iconst 0, 27, 0, 0, [], 0), some (.istore 7, 29, 7, 0, [], 0), none, some (.iload 7, 31, 7, 0, [], 0), none, some (.iload 5, 33, 5, 0, [], 0)],
  [none, some (.if_icmp .ge 88, 36, 121, 0, [], 0), none, none, some (.aload_n 0, 37, 0, 0, [], 0), some (.iload 7, 39, 7, 0, [], 0), none, some (.iload_n 3, 40, 3, 0, [], 0), some (.invokevirtual 135, 43, 1, 46, [2, 7], 0), none, none, some (.istore_n 3, 44, 3, 0, [], 0), some (.iload 7, 46, 7, 0, [], 0), none, some (.iconst 2, 47, 0, 0, [], 2), some (.irem, 48, 0, 0, [], 0)],
  [some (.ifCond .ne 46, 51, 94, 0, [], 0), none, none, some (.aload_n 0, 52, 0, 0, [], 0), some (.getfield 67, 55, 7, 0, [], 0), none, none, some (.iload_n 1, 56, 1, 0, [], 0), some (.invokestatic 214, 59, 0, 60, [1], 0), none, none, some (.aaload, 60, 0, 0, [], 0), some (.iload_n 1, 61, 1, 0, [], 0), some (.invokestatic 217, 64, 0, 61, [1], 0), none, none],
  [some (.iload 7, 66, 7, 0, [], 0), none, some (.invokevirtual 123, 69, 2, 404, [2, 4, 0, 0, 18, 21, 27, 0, 0, 0, 85, 88, 0, 0], 0), none, none, some (.istore 8, 71, 8, 0, [], 0), none, some (.sipush 999, 74, 0, 0, [], 999), none, none, some (.iload_n 2, 75, 2, 0, [], 0), some (.iconst 0, 76, 0, 0, [], 0), some (.iload 8, 78, 8, 0, [], 0), none, some (.iconst 2, 79, 0, 0, [], 2), some (.iload 4, 81, 4, 0, [], 0)],
  [none, some (.imul, 82, 0, 0, [], 0), some (.isub, 83, 0, 0, [], 0), some (.invokestatic 116, 86, 8, 0, [], 0), none, none, some (.iadd, 87, 0, 0, [], 0), some (.invokestatic 97, 90, 9, 0, [], 0), none, none, some (.istore_n 2, 91, 2, 0, [], 0), some (.iinc 4 1, 94, 4, 0, [], 1), none, none, some (.iload_n 2, 95, 2, 0, [], 0), some (.iload_n 3, 96, 3, 0, [], 0)],
  [some (.invokestatic 164, 99, 0, 49, [2], 0), none, none, some (.istore_n 2, 100, 2, 0, [], 0), some (.iload 6, 102, 6, 0, [], 0), none, some (.aload_n 0, 103, 0, 0, [], 0), some (.iload 7, 105, 7, 0, [], 0), none, some (.iconst 1, 106, 0, 0, [], 1), some (.iadd, 107, 0, 0, [], 0), some (.iload_n 2, 108, 2, 0, [], 0), some (.iload_n 3, 109, 3, 0, [], 0), some (.invokevirtual 211, 112, 1, 65, [3, 7], 0), none, none],
  [some (.ior, 113, 0, 0, [], 0), some (.istore 6, 115, 6, 0, [], 0), none, some (.iinc 7 1, 118, 7, 0, [], 1), none, none, some (.goto (-89), 121, 29, 0, [], 0), none, none, some (.iload 6, 123, 6, 0, [], 0), none, some (.ireturn, 124, 0, 0, [], 0)]])
/-- BrokenLoaves$Road.lastReported()I -/
def mm_64 : am_M := (⟨"BrokenLoaves$Road", "lastReported", "()I"⟩, prog_9_method_31_code, 3, (Option.some FieldType.int), [[some (.iconst 0, 1, 0, 0, [], 0), some (.istore_n 1, 2, 1, 0, [], 0), some (.iconst 0, 3, 0, 0, [], 0), some (.istore_n 2, 4, 2, 0, [], 0), some (.iload_n 2, 5, 2, 0, [], 0), some (.aload_n 0, 6, 0, 0, [], 0), some (.getfield 94, 9, 7, 15, [], 0), none, none, some (.if_icmp .ge 20, 12, 29, 0, [], 0), none, none, some (.iload_n 1, 13, 1, 0, [], 0), some (.aload_n 0, 14, 0, 0, [], 0), some (.getfield 55, 17, 7, 16, [], 0), none],
  [none, some (.iload_n 2, 18, 2, 0, [], 0), some (.iaload, 19, 0, 0, [], 0), some (.invokestatic 116, 22, 8, 0, [], 0), none, none, some (.istore_n 1, 23, 1, 0, [], 0), some (.iinc 2 1, 26, 2, 0, [], 1), none, none, some (.goto (-22), 29, 4, 0, [], 0), none, none, some (.iload_n 1, 30, 1, 0, [], 0), some (.ireturn, 31, 0, 0, [], 0)]])
/-- BrokenLoaves$Road.reportsAgainstDay(III)I -/
def mm_65 : am_M := (⟨"BrokenLoaves$Road", "reportsAgainstDay", "(III)I"⟩, prog_9_method_32_code, 7, (Option.some FieldType.int), [[some (.iconst 0, 1, 0, 0, [], 0), some (.istore 4, 3, 4, 0, [], 0), none, some (.iconst 0, 4, 0, 0, [], 0), some (.istore 5, 6, 5, 0, [], 0), none, some (.iload 5, 8, 5, 0, [], 0), none, some (.aload_n 0, 9, 0, 0, [], 0), some (.getfield 94, 12, 7, 15, [], 0), none, none, some (.if_icmp .ge 68, 15, 80, 0, [], 0), none, none, some (.aload_n 0, 16, 0, 0, [], 0)],
  [some (.getfield 55, 19, 7, 16, [], 0), none, none, some (.iload 5, 21, 5, 0, [], 0), none, some (.iaload, 22, 0, 0, [], 0), some (.iload_n 1, 23, 1, 0, [], 0), some (.if_icmp .ne 51, 26, 74, 0, [], 0), none, none, some (.aload_n 0, 27, 0, 0, [], 0), some (.getfield 58, 30, 7, 17, [], 0), none, none, some (.iload 5, 32, 5, 0, [], 0), none],
  [some (.iaload, 33, 0, 0, [], 0), some (.ifCond .ne 7, 36, 40, 0, [], 0), none, none, some (.iload_n 2, 37, 2, 0, [], 0), some (.goto 4, 40, 41, 0, [], 0), none, none, some (.iload_n 3, 41, 3, 0, [], 0), some (.istore 6, 43, 6, 0, [], 0), none, some (.iload 6, 45, 6, 0, [], 0), none, some (.aload_n 0, 46, 0, 0, [], 0), some (.getfield 61, 49, 7, 18, [], 0), none],
  [none, some (.iload 5, 51, 5, 0, [], 0), none, some (.iaload, 52, 0, 0, [], 0), some (.aload_n 0, 53, 0, 0, [], 0), some (.getfield 64, 56, 7, 19, [], 0), none, none, some (.iload 5, 58, 5, 0, [], 0), none, some (.iaload, 59, 0, 0, [], 0), some (.invokestatic 109, 62, 4, 162, [3], 0), none, none, some (.ifCond .ne 12, 65, 74, 0, [], 0), none],
  [none, some (.iload 4, 67, 4, 0, [], 0), none, some (.iconst 1, 68, 0, 0, [], 1), some (.iload 5, 70, 5, 0, [], 0), none, some (.ishl, 71, 0, 0, [], 0), some (.ior, 72, 0, 0, [], 0), some (.istore 4, 74, 4, 0, [], 0), none, some (.iinc 5 1, 77, 5, 0, [], 1), none, none, some (.goto (-71), 80, 6, 0, [], 0), none, none],
  [some (.iload 4, 82, 4, 0, [], 0), none, some (.ireturn, 83, 0, 0, [], 0)]])
/-- BrokenLoaves$RuleText.takeByte(B)V -/
def mm_66 : am_M := (⟨"BrokenLoaves$RuleText", "takeByte", "(B)V"⟩, prog_10_method_2_code, 2, (Option.none : Option FieldType), [[some (.aload_n 0, 1, 0, 0, [], 0), some (.getfield 25, 4, 8, 1, [], 0), none, none, some (.aload_n 0, 5, 0, 0, [], 0), some (.getfield 11, 8, 8, 0, [], 0), none, none, some (.arraylength, 9, 0, 0, [], 0), some (.if_icmp .ge 23, 12, 32, 0, [], 0), none, none, some (.aload_n 0, 13, 0, 0, [], 0), some (.getfield 11, 16, 8, 0, [], 0), none, none],
  [some (.aload_n 0, 17, 0, 0, [], 0), some (.getfield 25, 20, 8, 1, [], 0), none, none, some (.iload_n 1, 21, 1, 0, [], 0), some (.bastore, 22, 0, 0, [], 0), some (.aload_n 0, 23, 0, 0, [], 0), some (.dup, 24, 0, 0, [], 0), some (.getfield 25, 27, 8, 1, [], 0), none, none, some (.iconst 1, 28, 0, 0, [], 1), some (.iadd, 29, 0, 0, [], 0), some (.putfield 25, 32, 8, 1, [], 0), none, none],
  [some (.return_, 33, 0, 0, [], 0)]])
end
section
/-- BrokenLoaves$RuleText.readAll()I -/
def mm_67 : am_M := (⟨"BrokenLoaves$RuleText", "readAll", "()I"⟩, prog_10_method_3_code, 3, (Option.some FieldType.int), [[some (.aload_n 0, 1, 0, 0, [], 0), some (.invokevirtual 29, 4, 1, 68, [0, 8], 0), none, none, some (.aload_n 0, 5, 0, 0, [], 0), some (.getfield 25, 8, 8, 1, [], 0), none, none, some (.istore_n 1, 9, 1, 0, [], 0), some (.aload_n 0, 10, 0, 0, [], 0), some (.iconst 0, 11, 0, 0, [], 0), some (.putfield 25, 14, 8, 1, [], 0), none, none, some (.aload_n 0, 15, 0, 0, [], 0), some (.iconst 0, 16, 0, 0, [], 0)],
  [some (.putfield 32, 19, 8, 5, [], 0), none, none, some (.aload_n 0, 20, 0, 0, [], 0), some (.iconst 0, 21, 0, 0, [], 0), some (.putfield 35, 24, 8, 7, [], 0), none, none, some (.aload_n 0, 25, 0, 0, [], 0), some (.iconst 0, 26, 0, 0, [], 0), some (.putfield 38, 29, 8, 8, [], 0), none, none, some (.iconst 1, 30, 0, 0, [], 1), some (.istore_n 2, 31, 2, 0, [], 0), some (.iload_n 2, 32, 2, 0, [], 0)],
  [some (.ifCond .eq 43, 35, 75, 0, [], 0), none, none, some (.aload_n 0, 36, 0, 0, [], 0), some (.getfield 38, 39, 8, 8, [], 0), none, none, some (.bipush 8, 41, 0, 0, [], 8), none, some (.if_icmp .ge 34, 44, 75, 0, [], 0), none, none, some (.aload_n 0, 45, 0, 0, [], 0), some (.invokevirtual 41, 48, 1, 76, [0, 8], 0), none, none],
  [some (.bipush (-2), 50, 0, 0, [], (-2)), none, some (.if_icmp .eq 25, 53, 75, 0, [], 0), none, none, some (.aload_n 0, 54, 0, 0, [], 0), some (.invokevirtual 45, 57, 1, 77, [0, 8], 0), none, none, some (.istore_n 2, 58, 2, 0, [], 0), some (.iload_n 2, 59, 2, 0, [], 0), some (.ifCond .eq (-28), 62, 31, 0, [], 0), none, none, some (.aload_n 0, 63, 0, 0, [], 0), some (.dup, 64, 0, 0, [], 0)],
  [some (.getfield 38, 67, 8, 8, [], 0), none, none, some (.iconst 1, 68, 0, 0, [], 1), some (.iadd, 69, 0, 0, [], 0), some (.putfield 38, 72, 8, 8, [], 0), none, none, some (.goto (-41), 75, 31, 0, [], 0), none, none, some (.aload_n 0, 76, 0, 0, [], 0), some (.invokevirtual 41, 79, 1, 76, [0, 8], 0), none, none, some (.bipush (-2), 81, 0, 0, [], (-2))],
  [none, some (.if_icmp .ne 9, 84, 90, 0, [], 0), none, none, some (.iload_n 2, 85, 2, 0, [], 0), some (.ifCond .eq 5, 88, 90, 0, [], 0), none, none, some (.iconst (-1), 89, 0, 0, [], (-1)), some (.ireturn, 90, 0, 0, [], 0), some (.aload_n 0, 91, 0, 0, [], 0), some (.getfield 32, 94, 8, 5, [], 0), none, none, some (.aload_n 0, 95, 0, 0, [], 0), some (.getfield 49, 98, 8, 4, [], 0)],
  [none, none, some (.if_icmp .ge 15, 101, 113, 0, [], 0), none, none, some (.aload_n 0, 102, 0, 0, [], 0), some (.getfield 19, 105, 8, 3, [], 0), none, none, some (.aload_n 0, 106, 0, 0, [], 0), some (.getfield 32, 109, 8, 5, [], 0), none, none, some (.iaload, 110, 0, 0, [], 0), some (.goto 4, 113, 114, 0, [], 0), none],
  [none, some (.iload_n 1, 114, 1, 0, [], 0), some (.ireturn, 115, 0, 0, [], 0)]])
/-- BrokenLoaves$RuleText.splitTape()V -/
def mm_68 : am_M := (⟨"BrokenLoaves$RuleText", "splitTape", "()V"⟩, prog_10_method_4_code, 4, (Option.none : Option FieldType), [[some (.aload_n 0, 1, 0, 0, [], 0), some (.iconst 0, 2, 0, 0, [], 0), some (.putfield 49, 5, 8, 4, [], 0), none, none, some (.iconst 0, 6, 0, 0, [], 0), some (.istore_n 1, 7, 1, 0, [], 0), some (.iload_n 1, 8, 1, 0, [], 0), some (.aload_n 0, 9, 0, 0, [], 0), some (.getfield 25, 12, 8, 1, [], 0), none, none, some (.if_icmp .ge 132, 15, 144, 0, [], 0), none, none, some (.iload_n 1, 16, 1, 0, [], 0)],
  [some (.istore_n 2, 17, 2, 0, [], 0), some (.iinc 1 1, 20, 1, 0, [], 1), none, none, some (.aload_n 0, 21, 0, 0, [], 0), some (.getfield 11, 24, 8, 0, [], 0), none, none, some (.iload_n 2, 25, 2, 0, [], 0), some (.baload, 26, 0, 0, [], 0), some (.sipush 255, 29, 0, 0, [], 255), none, none, some (.iand, 30, 0, 0, [], 0), some (.istore_n 3, 31, 3, 0, [], 0), some (.iload_n 3, 32, 3, 0, [], 0)],
  [some (.invokestatic 52, 35, 0, 69, [1], 0), none, none, some (.ifCond .eq 43, 38, 78, 0, [], 0), none, none, some (.iload_n 1, 39, 1, 0, [], 0), some (.aload_n 0, 40, 0, 0, [], 0), some (.getfield 25, 43, 8, 1, [], 0), none, none, some (.if_icmp .ge 21, 46, 64, 0, [], 0), none, none, some (.aload_n 0, 47, 0, 0, [], 0), some (.getfield 11, 50, 8, 0, [], 0)],
  [none, none, some (.iload_n 1, 51, 1, 0, [], 0), some (.baload, 52, 0, 0, [], 0), some (.invokestatic 52, 55, 0, 69, [1], 0), none, none, some (.ifCond .eq 9, 58, 64, 0, [], 0), none, none, some (.iinc 1 1, 61, 1, 0, [], 1), none, none, some (.goto (-23), 64, 38, 0, [], 0), none, none],
  [some (.aload_n 0, 65, 0, 0, [], 0), some (.aload_n 0, 66, 0, 0, [], 0), some (.iload_n 2, 67, 2, 0, [], 0), some (.iload_n 1, 68, 1, 0, [], 0), some (.invokevirtual 56, 71, 1, 73, [2, 8], 0), none, none, some (.iload_n 2, 72, 2, 0, [], 0), some (.invokevirtual 60, 75, 1, 71, [2, 8], 0), none, none, some (.goto 66, 78, 141, 0, [], 0), none, none, some (.iload_n 3, 79, 3, 0, [], 0), some (.invokestatic 64, 82, 0, 70, [1], 0)],
  [none, none, some (.ifCond .eq 43, 85, 125, 0, [], 0), none, none, some (.iload_n 1, 86, 1, 0, [], 0), some (.aload_n 0, 87, 0, 0, [], 0), some (.getfield 25, 90, 8, 1, [], 0), none, none, some (.if_icmp .ge 21, 93, 111, 0, [], 0), none, none, some (.aload_n 0, 94, 0, 0, [], 0), some (.getfield 11, 97, 8, 0, [], 0), none],
  [none, some (.iload_n 1, 98, 1, 0, [], 0), some (.baload, 99, 0, 0, [], 0), some (.invokestatic 64, 102, 0, 70, [1], 0), none, none, some (.ifCond .eq 9, 105, 111, 0, [], 0), none, none, some (.iinc 1 1, 108, 1, 0, [], 1), none, none, some (.goto (-23), 111, 85, 0, [], 0), none, none, some (.aload_n 0, 112, 0, 0, [], 0)],
  [some (.aload_n 0, 113, 0, 0, [], 0), some (.iload_n 2, 114, 2, 0, [], 0), some (.iload_n 1, 115, 1, 0, [], 0), some (.invokevirtual 67, 118, 1, 72, [2, 8], 0), none, none, some (.iload_n 2, 119, 2, 0, [], 0), some (.invokevirtual 60, 122, 1, 71, [2, 8], 0), none, none, some (.goto 19, 125, 141, 0, [], 0), none, none, some (.iload_n 3, 126, 3, 0, [], 0), some (.bipush 32, 128, 0, 0, [], 32), none],
  [some (.if_icmp .eq 13, 131, 141, 0, [], 0), none, none, some (.aload_n 0, 132, 0, 0, [], 0), some (.sipush 20000, 135, 0, 0, [], 20000), none, none, some (.iload_n 3, 136, 3, 0, [], 0), some (.iadd, 137, 0, 0, [], 0), some (.iload_n 2, 138, 2, 0, [], 0), some (.invokevirtual 60, 141, 1, 71, [2, 8], 0), none, none, some (.goto (-134), 144, 7, 0, [], 0), none, none],
  [some (.return_, 145, 0, 0, [], 0)]])
/-- BrokenLoaves$RuleText.isLetter(I)Z -/
def mm_69 : am_M := (⟨"BrokenLoaves$RuleText", "isLetter", "(I)Z"⟩, prog_10_method_5_code, 1, (Option.some FieldType.boolean), [[some (.iload_n 0, 1, 0, 0, [], 0), some (.bipush 97, 3, 0, 0, [], 97), none, some (.bipush 122, 5, 0, 0, [], 122), none, some (.invokestatic 70, 8, 4, 162, [3], 0), none, none, some (.ireturn, 9, 2, 0, [], 0)]])
/-- BrokenLoaves$RuleText.isDigit(I)Z -/
def mm_70 : am_M := (⟨"BrokenLoaves$RuleText", "isDigit", "(I)Z"⟩, prog_10_method_6_code, 1, (Option.some FieldType.boolean), [[some (.iload_n 0, 1, 0, 0, [], 0), some (.bipush 48, 3, 0, 0, [], 48), none, some (.bipush 57, 5, 0, 0, [], 57), none, some (.invokestatic 70, 8, 4, 162, [3], 0), none, none, some (.ireturn, 9, 2, 0, [], 0)]])
/-- BrokenLoaves$RuleText.addToken(II)V -/
def mm_71 : am_M := (⟨"BrokenLoaves$RuleText", "addToken", "(II)V"⟩, prog_10_method_7_code, 3, (Option.none : Option FieldType), [[some (.aload_n 0, 1, 0, 0, [], 0), some (.getfield 49, 4, 8, 4, [], 0), none, none, some (.aload_n 0, 5, 0, 0, [], 0), some (.getfield 15, 8, 8, 2, [], 0), none, none, some (.arraylength, 9, 0, 0, [], 0), some (.if_icmp .ge 33, 12, 42, 0, [], 0), none, none, some (.aload_n 0, 13, 0, 0, [], 0), some (.getfield 15, 16, 8, 2, [], 0), none, none],
  [some (.aload_n 0, 17, 0, 0, [], 0), some (.getfield 49, 20, 8, 4, [], 0), none, none, some (.iload_n 1, 21, 1, 0, [], 0), some (.iastore, 22, 0, 0, [], 0), some (.aload_n 0, 23, 0, 0, [], 0), some (.getfield 19, 26, 8, 3, [], 0), none, none, some (.aload_n 0, 27, 0, 0, [], 0), some (.getfield 49, 30, 8, 4, [], 0), none, none, some (.iload_n 2, 31, 2, 0, [], 0), some (.iastore, 32, 0, 0, [], 0)],
  [some (.aload_n 0, 33, 0, 0, [], 0), some (.dup, 34, 0, 0, [], 0), some (.getfield 49, 37, 8, 4, [], 0), none, none, some (.iconst 1, 38, 0, 0, [], 1), some (.iadd, 39, 0, 0, [], 0), some (.putfield 49, 42, 8, 4, [], 0), none, none, some (.return_, 43, 0, 0, [], 0)]])
/-- BrokenLoaves$RuleText.numberAt(II)I -/
def mm_72 : am_M := (⟨"BrokenLoaves$RuleText", "numberAt", "(II)I"⟩, prog_10_method_8_code, 5, (Option.some FieldType.int), [[some (.iload_n 2, 1, 2, 0, [], 0), some (.iload_n 1, 2, 1, 0, [], 0), some (.isub, 3, 0, 0, [], 0), some (.iconst 4, 4, 0, 0, [], 4), some (.if_icmp .le 5, 7, 9, 0, [], 0), none, none, some (.iconst (-1), 8, 0, 0, [], (-1)), some (.ireturn, 9, 0, 0, [], 0), some (.iconst 0, 10, 0, 0, [], 0), some (.istore_n 3, 11, 3, 0, [], 0), some (.iload_n 1, 12, 1, 0, [], 0), some (.istore 4, 14, 4, 0, [], 0), none, some (.iload 4, 16, 4, 0, [], 0), none],
  [some (.iload_n 2, 17, 2, 0, [], 0), some (.if_icmp .ge 25, 20, 42, 0, [], 0), none, none, some (.bipush 10, 22, 0, 0, [], 10), none, some (.iload_n 3, 23, 3, 0, [], 0), some (.imul, 24, 0, 0, [], 0), some (.aload_n 0, 25, 0, 0, [], 0), some (.getfield 11, 28, 8, 0, [], 0), none, none, some (.iload 4, 30, 4, 0, [], 0), none, some (.baload, 31, 0, 0, [], 0), some (.iadd, 32, 0, 0, [], 0)],
  [some (.bipush 48, 34, 0, 0, [], 48), none, some (.isub, 35, 0, 0, [], 0), some (.istore_n 3, 36, 3, 0, [], 0), some (.iinc 4 1, 39, 4, 0, [], 1), none, none, some (.goto (-25), 42, 14, 0, [], 0), none, none, some (.iload_n 3, 43, 3, 0, [], 0), some (.ireturn, 44, 0, 0, [], 0)]])
/-- BrokenLoaves$RuleText.wordAt(II)I -/
def mm_73 : am_M := (⟨"BrokenLoaves$RuleText", "wordAt", "(II)I"⟩, prog_10_method_9_code, 4, (Option.some FieldType.int), [[some (.iconst 0, 1, 0, 0, [], 0), some (.istore_n 3, 2, 3, 0, [], 0), some (.iload_n 3, 3, 3, 0, [], 0), some (.bipush 18, 5, 0, 0, [], 18), none, some (.if_icmp .ge 28, 8, 33, 0, [], 0), none, none, some (.aload_n 0, 9, 0, 0, [], 0), some (.iload_n 3, 10, 3, 0, [], 0), some (.invokestatic 74, 13, 0, 75, [1], 0), none, none, some (.iload_n 1, 14, 1, 0, [], 0), some (.iload_n 2, 15, 2, 0, [], 0), some (.invokevirtual 78, 18, 1, 74, [3, 8], 0)],
  [none, none, some (.ifCond .eq 9, 21, 27, 0, [], 0), none, none, some (.sipush 10000, 24, 0, 0, [], 10000), none, none, some (.iload_n 3, 25, 3, 0, [], 0), some (.iadd, 26, 0, 0, [], 0), some (.ireturn, 27, 0, 0, [], 0), some (.iinc 3 1, 30, 3, 0, [], 1), none, none, some (.goto (-28), 33, 2, 0, [], 0), none],
  [none, some (.iconst (-1), 34, 0, 0, [], (-1)), some (.ireturn, 35, 0, 0, [], 0)]])
/-- BrokenLoaves$RuleText.isWordAt(Ljava/lang/String;II)Z -/
def mm_74 : am_M := (⟨"BrokenLoaves$RuleText", "isWordAt", "(Ljava/lang/String;II)Z"⟩, prog_10_method_10_code, 5, (Option.some FieldType.boolean), [[some (.aload_n 1, 1, 1, 0, [], 0), some (.invokevirtual 82, 4, 6, 0, [], 0), none, none, some (.iload_n 3, 5, 3, 0, [], 0), some (.iload_n 2, 6, 2, 0, [], 0), some (.isub, 7, 0, 0, [], 0), some (.if_icmp .eq 5, 10, 12, 0, [], 0), none, none, some (.iconst 0, 11, 0, 0, [], 0), some (.ireturn, 12, 2, 0, [], 0), some (.iconst 0, 13, 0, 0, [], 0), some (.istore 4, 15, 4, 0, [], 0), none, some (.iload 4, 17, 4, 0, [], 0)],
  [none, some (.aload_n 1, 18, 1, 0, [], 0), some (.invokevirtual 82, 21, 6, 0, [], 0), none, none, some (.if_icmp .ge 29, 24, 50, 0, [], 0), none, none, some (.aload_n 1, 25, 1, 0, [], 0), some (.iload 4, 27, 4, 0, [], 0), none, some (.invokevirtual 86, 30, 7, 0, [], 0), none, none, some (.aload_n 0, 31, 0, 0, [], 0), some (.getfield 11, 34, 8, 0, [], 0)],
  [none, none, some (.iload_n 2, 35, 2, 0, [], 0), some (.iload 4, 37, 4, 0, [], 0), none, some (.iadd, 38, 0, 0, [], 0), some (.baload, 39, 0, 0, [], 0), some (.if_icmp .eq 5, 42, 44, 0, [], 0), none, none, some (.iconst 0, 43, 0, 0, [], 0), some (.ireturn, 44, 2, 0, [], 0), some (.iinc 4 1, 47, 4, 0, [], 1), none, none, some (.goto (-32), 50, 15, 0, [], 0)],
  [none, none, some (.iconst 1, 51, 0, 0, [], 1), some (.ireturn, 52, 2, 0, [], 0)]])
/-- BrokenLoaves$RuleText.word(I)Ljava/lang/String; -/
def mm_75 : am_M := (⟨"BrokenLoaves$RuleText", "word", "(I)Ljava/lang/String;"⟩, prog_10_method_11_code, 1, (Option.some (FieldType.object "java/lang/String")), [[some (.iload_n 0, 1, 0, 0, [], 0), some (.tableswitch 134 0 16 #[83, 86, 89, 92, 95, 98, 101, 104, 107, 110, 113, 116, 119, 122, 125, 128, 131], 84, 135, 0, [84, 87, 90, 93, 96, 99, 102, 105, 108, 111, 114, 117, 120, 123, 126, 129, 132], 0), none, none, none, none, none, none, none, none, none, none, none, none, none, none],
  [none, none, none, none, none, none, none, none, none, none, none, none, none, none, none, none],
  [none, none, none, none, none, none, none, none, none, none, none, none, none, none, none, none],
  [none, none, none, none, none, none, none, none, none, none, none, none, none, none, none, none],
  [none, none, none, none, none, none, none, none, none, none, none, none, none, none, none, none],
  [none, none, none, none, some (.ldc 90, 86, 1, 0, [], 0), none, some (.areturn, 87, 0, 0, [], 0), some (.ldc 92, 89, 1, 1, [], 0), none, some (.areturn, 90, 0, 0, [], 0), some (.ldc 94, 92, 1, 2, [], 0), none, some (.areturn, 93, 0, 0, [], 0), some (.ldc 96, 95, 1, 3, [], 0), none, some (.areturn, 96, 0, 0, [], 0)],
  [some (.ldc 98, 98, 1, 4, [], 0), none, some (.areturn, 99, 0, 0, [], 0), some (.ldc 100, 101, 1, 5, [], 0), none, some (.areturn, 102, 0, 0, [], 0), some (.ldc 102, 104, 1, 6, [], 0), none, some (.areturn, 105, 0, 0, [], 0), some (.ldc 104, 107, 1, 7, [], 0), none, some (.areturn, 108, 0, 0, [], 0), some (.ldc 106, 110, 1, 8, [], 0), none, some (.areturn, 111, 0, 0, [], 0), some (.ldc 108, 113, 1, 9, [], 0)],
  [none, some (.areturn, 114, 0, 0, [], 0), some (.ldc 110, 116, 1, 10, [], 0), none, some (.areturn, 117, 0, 0, [], 0), some (.ldc 112, 119, 1, 11, [], 0), none, some (.areturn, 120, 0, 0, [], 0), some (.ldc 114, 122, 1, 12, [], 0), none, some (.areturn, 123, 0, 0, [], 0), some (.ldc 116, 125, 1, 13, [], 0), none, some (.areturn, 126, 0, 0, [], 0), some (.ldc 118, 128, 1, 14, [], 0), none],
  [some (.areturn, 129, 0, 0, [], 0), some (.ldc 120, 131, 1, 15, [], 0), none, some (.areturn, 132, 0, 0, [], 0), some (.ldc 122, 134, 1, 16, [], 0), none, some (.areturn, 135, 0, 0, [], 0), some (.ldc 124, 137, 1, 17, [], 0), none, some (.areturn, 138, 0, 0, [], 0)]])
/-- BrokenLoaves$RuleText.token()I -/
def mm_76 : am_M := (⟨"BrokenLoaves$RuleText", "token", "()I"⟩, prog_10_method_12_code, 1, (Option.some FieldType.int), [[some (.aload_n 0, 1, 0, 0, [], 0), some (.getfield 32, 4, 8, 5, [], 0), none, none, some (.aload_n 0, 5, 0, 0, [], 0), some (.getfield 49, 8, 8, 4, [], 0), none, none, some (.if_icmp .ge 15, 11, 23, 0, [], 0), none, none, some (.aload_n 0, 12, 0, 0, [], 0), some (.getfield 15, 15, 8, 2, [], 0), none, none, some (.aload_n 0, 16, 0, 0, [], 0)],
  [some (.getfield 32, 19, 8, 5, [], 0), none, none, some (.iaload, 20, 0, 0, [], 0), some (.goto 5, 23, 25, 0, [], 0), none, none, some (.bipush (-2), 25, 0, 0, [], (-2)), none, some (.ireturn, 26, 0, 0, [], 0)]])
/-- BrokenLoaves$RuleText.readRule()Z -/
def mm_77 : am_M := (⟨"BrokenLoaves$RuleText", "readRule", "()Z"⟩, prog_10_method_13_code, 4, (Option.some FieldType.boolean), [[some (.aload_n 0, 1, 0, 0, [], 0), some (.invokevirtual 41, 4, 1, 76, [0, 8], 0), none, none, some (.sipush 10000, 7, 0, 0, [], 10000), none, none, some (.isub, 8, 0, 0, [], 0), some (.istore_n 1, 9, 1, 0, [], 0), some (.iload_n 1, 10, 1, 0, [], 0), some (.iconst 0, 11, 0, 0, [], 0), some (.iconst 5, 12, 0, 0, [], 5), some (.invokestatic 70, 15, 4, 162, [3], 0), none, none, some (.ifCond .ne 5, 18, 20, 0, [], 0)],
  [none, none, some (.iconst 0, 19, 0, 0, [], 0), some (.ireturn, 20, 2, 0, [], 0), some (.aload_n 0, 21, 0, 0, [], 0), some (.dup, 22, 0, 0, [], 0), some (.getfield 32, 25, 8, 5, [], 0), none, none, some (.iconst 1, 26, 0, 0, [], 1), some (.iadd, 27, 0, 0, [], 0), some (.putfield 32, 30, 8, 5, [], 0), none, none, some (.aload_n 0, 31, 0, 0, [], 0), some (.getfield 35, 34, 8, 7, [], 0)],
  [none, none, some (.istore_n 2, 35, 2, 0, [], 0), some (.aload_n 0, 36, 0, 0, [], 0), some (.iload_n 1, 37, 1, 0, [], 0), some (.invokevirtual 126, 40, 1, 83, [1, 8], 0), none, none, some (.aload_n 0, 41, 0, 0, [], 0), some (.iconst 0, 42, 0, 0, [], 0), some (.invokevirtual 126, 45, 1, 83, [1, 8], 0), none, none, some (.aload_n 0, 46, 0, 0, [], 0), some (.iconst 0, 47, 0, 0, [], 0), some (.invokevirtual 126, 50, 1, 83, [1, 8], 0)],
  [none, none, some (.aload_n 0, 51, 0, 0, [], 0), some (.invokevirtual 41, 54, 1, 76, [0, 8], 0), none, none, some (.sipush 10009, 57, 0, 0, [], 10009), none, none, some (.if_icmp .ne 23, 60, 80, 0, [], 0), none, none, some (.aload_n 0, 61, 0, 0, [], 0), some (.dup, 62, 0, 0, [], 0), some (.getfield 32, 65, 8, 5, [], 0), none],
  [none, some (.iconst 1, 66, 0, 0, [], 1), some (.iadd, 67, 0, 0, [], 0), some (.putfield 32, 70, 8, 5, [], 0), none, none, some (.aload_n 0, 71, 0, 0, [], 0), some (.iconst 0, 72, 0, 0, [], 0), some (.invokevirtual 130, 75, 1, 78, [1, 8], 0), none, none, some (.ifCond .ne 5, 78, 80, 0, [], 0), none, none, some (.iconst 0, 79, 0, 0, [], 0), some (.ireturn, 80, 2, 0, [], 0)],
  [some (.aload_n 0, 81, 0, 0, [], 0), some (.invokevirtual 41, 84, 1, 76, [0, 8], 0), none, none, some (.sipush 10006, 87, 0, 0, [], 10006), none, none, some (.isub, 88, 0, 0, [], 0), some (.istore_n 3, 89, 3, 0, [], 0), some (.iload_n 3, 90, 3, 0, [], 0), some (.iconst 0, 91, 0, 0, [], 0), some (.iconst 2, 92, 0, 0, [], 2), some (.invokestatic 70, 95, 4, 162, [3], 0), none, none, some (.ifCond .ne 5, 98, 100, 0, [], 0)],
  [none, none, some (.iconst 0, 99, 0, 0, [], 0), some (.ireturn, 100, 2, 0, [], 0), some (.aload_n 0, 101, 0, 0, [], 0), some (.dup, 102, 0, 0, [], 0), some (.getfield 32, 105, 8, 5, [], 0), none, none, some (.iconst 1, 106, 0, 0, [], 1), some (.iadd, 107, 0, 0, [], 0), some (.putfield 32, 110, 8, 5, [], 0), none, none, some (.aload_n 0, 111, 0, 0, [], 0), some (.invokevirtual 41, 114, 1, 76, [0, 8], 0)],
  [none, none, some (.sipush 20059, 117, 0, 0, [], 20059), none, none, some (.if_icmp .eq 5, 120, 122, 0, [], 0), none, none, some (.iconst 0, 121, 0, 0, [], 0), some (.ireturn, 122, 2, 0, [], 0), some (.aload_n 0, 123, 0, 0, [], 0), some (.dup, 124, 0, 0, [], 0), some (.getfield 32, 127, 8, 5, [], 0), none, none, some (.iconst 1, 128, 0, 0, [], 1)],
  [some (.iadd, 129, 0, 0, [], 0), some (.putfield 32, 132, 8, 5, [], 0), none, none, some (.iload_n 2, 133, 2, 0, [], 0), some (.iconst 3, 134, 0, 0, [], 3), some (.iadd, 135, 0, 0, [], 0), some (.aload_n 0, 136, 0, 0, [], 0), some (.getfield 22, 139, 8, 6, [], 0), none, none, some (.arraylength, 140, 0, 0, [], 0), some (.if_icmp .gt 28, 143, 168, 0, [], 0), none, none, some (.aload_n 0, 144, 0, 0, [], 0)],
  [some (.getfield 22, 147, 8, 6, [], 0), none, none, some (.iload_n 2, 148, 2, 0, [], 0), some (.iconst 1, 149, 0, 0, [], 1), some (.iadd, 150, 0, 0, [], 0), some (.iload_n 3, 151, 3, 0, [], 0), some (.iastore, 152, 0, 0, [], 0), some (.aload_n 0, 153, 0, 0, [], 0), some (.getfield 22, 156, 8, 6, [], 0), none, none, some (.iload_n 2, 157, 2, 0, [], 0), some (.iconst 2, 158, 0, 0, [], 2), some (.iadd, 159, 0, 0, [], 0), some (.aload_n 0, 160, 0, 0, [], 0)],
  [some (.getfield 35, 163, 8, 7, [], 0), none, none, some (.iload_n 2, 164, 2, 0, [], 0), some (.isub, 165, 0, 0, [], 0), some (.iconst 3, 166, 0, 0, [], 3), some (.isub, 167, 0, 0, [], 0), some (.iastore, 168, 0, 0, [], 0), some (.iconst 1, 169, 0, 0, [], 1), some (.ireturn, 170, 2, 0, [], 0)]])
/-- BrokenLoaves$RuleText.readAny(I)Z -/
def mm_78 : am_M := (⟨"BrokenLoaves$RuleText", "readAny", "(I)Z"⟩, prog_10_method_14_code, 2, (Option.some FieldType.boolean), [[some (.aload_n 0, 1, 0, 0, [], 0), some (.iload_n 1, 2, 1, 0, [], 0), some (.invokevirtual 133, 5, 1, 79, [1, 8], 0), none, none, some (.ifCond .ne 5, 8, 10, 0, [], 0), none, none, some (.iconst 0, 9, 0, 0, [], 0), some (.ireturn, 10, 2, 0, [], 0), some (.aload_n 0, 11, 0, 0, [], 0), some (.getfield 32, 14, 8, 5, [], 0), none, none, some (.aload_n 0, 15, 0, 0, [], 0), some (.getfield 49, 18, 8, 4, [], 0)],
  [none, none, some (.if_icmp .ge 43, 21, 61, 0, [], 0), none, none, some (.aload_n 0, 22, 0, 0, [], 0), some (.invokevirtual 41, 25, 1, 76, [0, 8], 0), none, none, some (.sipush 10010, 28, 0, 0, [], 10010), none, none, some (.if_icmp .ne 33, 31, 61, 0, [], 0), none, none, some (.aload_n 0, 32, 0, 0, [], 0)],
  [some (.dup, 33, 0, 0, [], 0), some (.getfield 32, 36, 8, 5, [], 0), none, none, some (.iconst 1, 37, 0, 0, [], 1), some (.iadd, 38, 0, 0, [], 0), some (.putfield 32, 41, 8, 5, [], 0), none, none, some (.aload_n 0, 42, 0, 0, [], 0), some (.iload_n 1, 43, 1, 0, [], 0), some (.invokevirtual 133, 46, 1, 79, [1, 8], 0), none, none, some (.ifCond .ne 5, 49, 51, 0, [], 0), none],
  [none, some (.iconst 0, 50, 0, 0, [], 0), some (.ireturn, 51, 2, 0, [], 0), some (.aload_n 0, 52, 0, 0, [], 0), some (.sipush 10010, 55, 0, 0, [], 10010), none, none, some (.invokevirtual 126, 58, 1, 83, [1, 8], 0), none, none, some (.goto (-48), 61, 10, 0, [], 0), none, none, some (.iconst 1, 62, 0, 0, [], 1), some (.ireturn, 63, 2, 0, [], 0)]])
/-- BrokenLoaves$RuleText.readEach(I)Z -/
def mm_79 : am_M := (⟨"BrokenLoaves$RuleText", "readEach", "(I)Z"⟩, prog_10_method_15_code, 2, (Option.some FieldType.boolean), [[some (.aload_n 0, 1, 0, 0, [], 0), some (.iload_n 1, 2, 1, 0, [], 0), some (.invokevirtual 136, 5, 1, 80, [1, 8], 0), none, none, some (.ifCond .ne 5, 8, 10, 0, [], 0), none, none, some (.iconst 0, 9, 0, 0, [], 0), some (.ireturn, 10, 2, 0, [], 0), some (.aload_n 0, 11, 0, 0, [], 0), some (.getfield 32, 14, 8, 5, [], 0), none, none, some (.aload_n 0, 15, 0, 0, [], 0), some (.getfield 49, 18, 8, 4, [], 0)],
  [none, none, some (.if_icmp .ge 43, 21, 61, 0, [], 0), none, none, some (.aload_n 0, 22, 0, 0, [], 0), some (.invokevirtual 41, 25, 1, 76, [0, 8], 0), none, none, some (.sipush 10011, 28, 0, 0, [], 10011), none, none, some (.if_icmp .ne 33, 31, 61, 0, [], 0), none, none, some (.aload_n 0, 32, 0, 0, [], 0)],
  [some (.dup, 33, 0, 0, [], 0), some (.getfield 32, 36, 8, 5, [], 0), none, none, some (.iconst 1, 37, 0, 0, [], 1), some (.iadd, 38, 0, 0, [], 0), some (.putfield 32, 41, 8, 5, [], 0), none, none, some (.aload_n 0, 42, 0, 0, [], 0), some (.iload_n 1, 43, 1, 0, [], 0), some (.invokevirtual 136, 46, 1, 80, [1, 8], 0), none, none, some (.ifCond .ne 5, 49, 51, 0, [], 0), none],
  [none, some (.iconst 0, 50, 0, 0, [], 0), some (.ireturn, 51, 2, 0, [], 0), some (.aload_n 0, 52, 0, 0, [], 0), some (.sipush 10011, 55, 0, 0, [], 10011), none, none, some (.invokevirtual 126, 58, 1, 83, [1, 8], 0), none, none, some (.goto (-48), 61, 10, 0, [], 0), none, none, some (.iconst 1, 62, 0, 0, [], 1), some (.ireturn, 63, 2, 0, [], 0)]])
/-- BrokenLoaves$RuleText.readOne(I)Z -/
def mm_80 : am_M := (⟨"BrokenLoaves$RuleText", "readOne", "(I)Z"⟩, prog_10_method_16_code, 3, (Option.some FieldType.boolean), [[some (.iconst 0, 1, 0, 0, [], 0), some (.istore_n 2, 2, 2, 0, [], 0), some (.aload_n 0, 3, 0, 0, [], 0), some (.getfield 32, 6, 8, 5, [], 0), none, none, some (.aload_n 0, 7, 0, 0, [], 0), some (.getfield 49, 10, 8, 4, [], 0), none, none, some (.if_icmp .ge 36, 13, 46, 0, [], 0), none, none, some (.aload_n 0, 14, 0, 0, [], 0), some (.invokevirtual 41, 17, 1, 76, [0, 8], 0), none],
  [none, some (.sipush 10012, 20, 0, 0, [], 10012), none, none, some (.if_icmp .ne 26, 23, 46, 0, [], 0), none, none, some (.iload_n 2, 24, 2, 0, [], 0), some (.ifCond .ne 7, 27, 31, 0, [], 0), none, none, some (.iconst 1, 28, 0, 0, [], 1), some (.goto 4, 31, 32, 0, [], 0), none, none, some (.iconst 0, 32, 0, 0, [], 0)],
  [some (.istore_n 2, 33, 2, 0, [], 0), some (.aload_n 0, 34, 0, 0, [], 0), some (.dup, 35, 0, 0, [], 0), some (.getfield 32, 38, 8, 5, [], 0), none, none, some (.iconst 1, 39, 0, 0, [], 1), some (.iadd, 40, 0, 0, [], 0), some (.putfield 32, 43, 8, 5, [], 0), none, none, some (.goto (-41), 46, 2, 0, [], 0), none, none, some (.aload_n 0, 47, 0, 0, [], 0), some (.invokevirtual 41, 50, 1, 76, [0, 8], 0)],
  [none, none, some (.sipush 20040, 53, 0, 0, [], 20040), none, none, some (.if_icmp .ne 55, 56, 108, 0, [], 0), none, none, some (.iload_n 1, 57, 1, 0, [], 0), some (.iconst 3, 58, 0, 0, [], 3), some (.if_icmp .lt 5, 61, 63, 0, [], 0), none, none, some (.iconst 0, 62, 0, 0, [], 0), some (.ireturn, 63, 2, 0, [], 0), some (.aload_n 0, 64, 0, 0, [], 0)],
  [some (.dup, 65, 0, 0, [], 0), some (.getfield 32, 68, 8, 5, [], 0), none, none, some (.iconst 1, 69, 0, 0, [], 1), some (.iadd, 70, 0, 0, [], 0), some (.putfield 32, 73, 8, 5, [], 0), none, none, some (.aload_n 0, 74, 0, 0, [], 0), some (.iload_n 1, 75, 1, 0, [], 0), some (.iconst 1, 76, 0, 0, [], 1), some (.iadd, 77, 0, 0, [], 0), some (.invokevirtual 130, 80, 1, 78, [1, 8], 0), none, none],
  [some (.ifCond .eq 13, 83, 93, 0, [], 0), none, none, some (.aload_n 0, 84, 0, 0, [], 0), some (.invokevirtual 41, 87, 1, 76, [0, 8], 0), none, none, some (.sipush 20041, 90, 0, 0, [], 20041), none, none, some (.if_icmp .eq 5, 93, 95, 0, [], 0), none, none, some (.iconst 0, 94, 0, 0, [], 0), some (.ireturn, 95, 2, 0, [], 0), some (.aload_n 0, 96, 0, 0, [], 0)],
  [some (.dup, 97, 0, 0, [], 0), some (.getfield 32, 100, 8, 5, [], 0), none, none, some (.iconst 1, 101, 0, 0, [], 1), some (.iadd, 102, 0, 0, [], 0), some (.putfield 32, 105, 8, 5, [], 0), none, none, some (.goto 12, 108, 117, 0, [], 0), none, none, some (.aload_n 0, 109, 0, 0, [], 0), some (.invokevirtual 139, 112, 1, 81, [0, 8], 0), none, none],
  [some (.ifCond .ne 5, 115, 117, 0, [], 0), none, none, some (.iconst 0, 116, 0, 0, [], 0), some (.ireturn, 117, 2, 0, [], 0), some (.iload_n 2, 118, 2, 0, [], 0), some (.ifCond .eq 10, 121, 128, 0, [], 0), none, none, some (.aload_n 0, 122, 0, 0, [], 0), some (.sipush 10012, 125, 0, 0, [], 10012), none, none, some (.invokevirtual 126, 128, 1, 83, [1, 8], 0), none, none],
  [some (.iconst 1, 129, 0, 0, [], 1), some (.ireturn, 130, 2, 0, [], 0)]])
/-- BrokenLoaves$RuleText.readComparison()Z -/
def mm_81 : am_M := (⟨"BrokenLoaves$RuleText", "readComparison", "()Z"⟩, prog_10_method_17_code, 4, (Option.some FieldType.boolean), [[some (.aload_n 0, 1, 0, 0, [], 0), some (.invokevirtual 41, 4, 1, 76, [0, 8], 0), none, none, some (.istore_n 1, 5, 1, 0, [], 0), some (.iload_n 1, 6, 1, 0, [], 0), some (.invokestatic 142, 9, 0, 82, [1], 0), none, none, some (.ifCond .ne 5, 12, 14, 0, [], 0), none, none, some (.iconst 0, 13, 0, 0, [], 0), some (.ireturn, 14, 2, 0, [], 0), some (.aload_n 0, 15, 0, 0, [], 0), some (.dup, 16, 0, 0, [], 0)],
  [some (.getfield 32, 19, 8, 5, [], 0), none, none, some (.iconst 1, 20, 0, 0, [], 1), some (.iadd, 21, 0, 0, [], 0), some (.putfield 32, 24, 8, 5, [], 0), none, none, some (.aload_n 0, 25, 0, 0, [], 0), some (.invokevirtual 41, 28, 1, 76, [0, 8], 0), none, none, some (.istore_n 2, 29, 2, 0, [], 0), some (.iload_n 2, 30, 2, 0, [], 0), some (.sipush 20060, 33, 0, 0, [], 20060), none],
  [none, some (.if_icmp .eq 19, 36, 52, 0, [], 0), none, none, some (.iload_n 2, 37, 2, 0, [], 0), some (.sipush 20061, 40, 0, 0, [], 20061), none, none, some (.if_icmp .eq 12, 43, 52, 0, [], 0), none, none, some (.iload_n 2, 44, 2, 0, [], 0), some (.sipush 20062, 47, 0, 0, [], 20062), none, none, some (.if_icmp .eq 5, 50, 52, 0, [], 0)],
  [none, none, some (.iconst 0, 51, 0, 0, [], 0), some (.ireturn, 52, 2, 0, [], 0), some (.aload_n 0, 53, 0, 0, [], 0), some (.dup, 54, 0, 0, [], 0), some (.getfield 32, 57, 8, 5, [], 0), none, none, some (.iconst 1, 58, 0, 0, [], 1), some (.iadd, 59, 0, 0, [], 0), some (.putfield 32, 62, 8, 5, [], 0), none, none, some (.aload_n 0, 63, 0, 0, [], 0), some (.invokevirtual 41, 66, 1, 76, [0, 8], 0)],
  [none, none, some (.istore_n 3, 67, 3, 0, [], 0), some (.iload_n 3, 68, 3, 0, [], 0), some (.invokestatic 142, 71, 0, 82, [1], 0), none, none, some (.ifCond .ne 5, 74, 76, 0, [], 0), none, none, some (.iconst 0, 75, 0, 0, [], 0), some (.ireturn, 76, 2, 0, [], 0), some (.aload_n 0, 77, 0, 0, [], 0), some (.dup, 78, 0, 0, [], 0), some (.getfield 32, 81, 8, 5, [], 0), none],
  [none, some (.iconst 1, 82, 0, 0, [], 1), some (.iadd, 83, 0, 0, [], 0), some (.putfield 32, 86, 8, 5, [], 0), none, none, some (.aload_n 0, 87, 0, 0, [], 0), some (.iload_n 2, 88, 2, 0, [], 0), some (.invokevirtual 126, 91, 1, 83, [1, 8], 0), none, none, some (.aload_n 0, 92, 0, 0, [], 0), some (.iload_n 1, 93, 1, 0, [], 0), some (.invokevirtual 126, 96, 1, 83, [1, 8], 0), none, none],
  [some (.aload_n 0, 97, 0, 0, [], 0), some (.iload_n 3, 98, 3, 0, [], 0), some (.invokevirtual 126, 101, 1, 83, [1, 8], 0), none, none, some (.iconst 1, 102, 0, 0, [], 1), some (.ireturn, 103, 2, 0, [], 0)]])
/-- BrokenLoaves$RuleText.isValue(I)Z -/
def mm_82 : am_M := (⟨"BrokenLoaves$RuleText", "isValue", "(I)Z"⟩, prog_10_method_18_code, 1, (Option.some FieldType.boolean), [[some (.iload_n 0, 1, 0, 0, [], 0), some (.ifCond .lt 10, 4, 11, 0, [], 0), none, none, some (.iload_n 0, 5, 0, 0, [], 0), some (.sipush 10000, 8, 0, 0, [], 10000), none, none, some (.if_icmp .lt 17, 11, 25, 0, [], 0), none, none, some (.iload_n 0, 12, 0, 0, [], 0), some (.sipush 10013, 15, 0, 0, [], 10013), none, none, some (.if_icmp .lt 14, 18, 29, 0, [], 0)],
  [none, none, some (.iload_n 0, 19, 0, 0, [], 0), some (.sipush 10018, 22, 0, 0, [], 10018), none, none, some (.if_icmp .ge 7, 25, 29, 0, [], 0), none, none, some (.iconst 1, 26, 0, 0, [], 1), some (.goto 4, 29, 30, 0, [], 0), none, none, some (.iconst 0, 30, 0, 0, [], 0), some (.ireturn, 31, 2, 0, [], 0)]])
/-- BrokenLoaves$RuleText.put(I)V -/
def mm_83 : am_M := (⟨"BrokenLoaves$RuleText", "put", "(I)V"⟩, prog_10_method_19_code, 2, (Option.none : Option FieldType), [[some (.aload_n 0, 1, 0, 0, [], 0), some (.getfield 35, 4, 8, 7, [], 0), none, none, some (.aload_n 0, 5, 0, 0, [], 0), some (.getfield 22, 8, 8, 6, [], 0), none, none, some (.arraylength, 9, 0, 0, [], 0), some (.if_icmp .ge 23, 12, 32, 0, [], 0), none, none, some (.aload_n 0, 13, 0, 0, [], 0), some (.getfield 22, 16, 8, 6, [], 0), none, none],
  [some (.aload_n 0, 17, 0, 0, [], 0), some (.getfield 35, 20, 8, 7, [], 0), none, none, some (.iload_n 1, 21, 1, 0, [], 0), some (.iastore, 22, 0, 0, [], 0), some (.aload_n 0, 23, 0, 0, [], 0), some (.dup, 24, 0, 0, [], 0), some (.getfield 35, 27, 8, 7, [], 0), none, none, some (.iconst 1, 28, 0, 0, [], 1), some (.iadd, 29, 0, 0, [], 0), some (.putfield 35, 32, 8, 7, [], 0), none, none],
  [some (.return_, 33, 0, 0, [], 0)]])
/-- BrokenLoaves$Tramp.strange(II)I -/
def mm_84 : am_M := (⟨"BrokenLoaves$Tramp", "strange", "(II)I"⟩, prog_11_method_2_code, 3, (Option.some FieldType.int), [[some (.iconst 2, 1, 0, 0, [], 2), some (.aload_n 0, 2, 0, 0, [], 0), some (.iload_n 1, 3, 1, 0, [], 0), some (.iload_n 2, 4, 2, 0, [], 0), some (.invokespecial 7, 7, 3, 20, [2, 4], 0), none, none, some (.imul, 8, 0, 0, [], 0), some (.ireturn, 9, 0, 0, [], 0)]])
/-- BrokenLoaves$Tramp.eats(I)I -/
def mm_85 : am_M := (⟨"BrokenLoaves$Tramp", "eats", "(I)I"⟩, prog_11_method_3_code, 2, (Option.some FieldType.int), [[some (.aload_n 0, 1, 0, 0, [], 0), some (.iload_n 1, 2, 1, 0, [], 0), some (.invokespecial 11, 5, 3, 21, [1, 4], 0), none, none, some (.iload_n 1, 6, 1, 0, [], 0), some (.iadd, 7, 0, 0, [], 0), some (.ireturn, 8, 0, 0, [], 0)]])
/-- BrokenLoaves$Tramp.hails(ILBrokenLoaves$Deed;)I -/
def mm_86 : am_M := (⟨"BrokenLoaves$Tramp", "hails", "(ILBrokenLoaves$Deed;)I"⟩, prog_11_method_4_code, 3, (Option.some FieldType.int), [[some (.aload_n 2, 1, 2, 0, [], 0), some (.bipush 20, 3, 0, 0, [], 20), none, some (.invokevirtual 15, 6, 1, 16, [1, 2], 0), none, none, some (.aload_n 0, 7, 0, 0, [], 0), some (.iload_n 1, 8, 1, 0, [], 0), some (.iconst 2, 9, 0, 0, [], 2), some (.iadd, 10, 0, 0, [], 0), some (.aload_n 2, 11, 2, 0, [], 0), some (.invokespecial 21, 14, 3, 22, [2, 4], 0), none, none, some (.ireturn, 15, 0, 0, [], 0)]])
/-- BrokenLoaves$Twin.strange(II)I -/
def mm_87 : am_M := (⟨"BrokenLoaves$Twin", "strange", "(II)I"⟩, prog_12_method_2_code, 3, (Option.some FieldType.int), [[some (.iload_n 2, 1, 2, 0, [], 0), some (.iconst 3, 2, 0, 0, [], 3), some (.irem, 3, 0, 0, [], 0), some (.iconst 2, 4, 0, 0, [], 2), some (.if_icmp .ne 8, 7, 12, 0, [], 0), none, none, some (.bipush 9, 9, 0, 0, [], 9), none, some (.goto 9, 12, 18, 0, [], 0), none, none, some (.aload_n 0, 13, 0, 0, [], 0), some (.iload_n 1, 14, 1, 0, [], 0), some (.iload_n 2, 15, 2, 0, [], 0), some (.invokespecial 7, 18, 3, 17, [2, 3], 0)],
  [none, none, some (.ireturn, 19, 0, 0, [], 0)]])
/-- BrokenLoaves$Twin.eats(I)I -/
def mm_88 : am_M := (⟨"BrokenLoaves$Twin", "eats", "(I)I"⟩, prog_12_method_3_code, 2, (Option.some FieldType.int), [[some (.aload_n 0, 1, 0, 0, [], 0), some (.iload_n 1, 2, 1, 0, [], 0), some (.invokespecial 11, 5, 3, 18, [1, 3], 0), none, none, some (.iconst 2, 6, 0, 0, [], 2), some (.idiv, 7, 0, 0, [], 0), some (.iconst 1, 8, 0, 0, [], 1), some (.iadd, 9, 0, 0, [], 0), some (.ireturn, 10, 0, 0, [], 0)]])
/-- BrokenLoaves$Twin.shares(ILBrokenLoaves$Deed;)I -/
def mm_89 : am_M := (⟨"BrokenLoaves$Twin", "shares", "(ILBrokenLoaves$Deed;)I"⟩, prog_12_method_4_code, 3, (Option.some FieldType.int), [[some (.aload_n 2, 1, 2, 0, [], 0), some (.bipush 60, 3, 0, 0, [], 60), none, some (.invokevirtual 15, 6, 1, 16, [1, 2], 0), none, none, some (.iconst 0, 7, 0, 0, [], 0), some (.aload_n 0, 8, 0, 0, [], 0), some (.iload_n 1, 9, 1, 0, [], 0), some (.aload_n 2, 10, 2, 0, [], 0), some (.invokespecial 21, 13, 3, 23, [2, 3], 0), none, none, some (.isub, 14, 0, 0, [], 0), some (.ireturn, 15, 0, 0, [], 0)]])
/-- BrokenLoaves$Twin.weighs(ILBrokenLoaves$Deed;)I -/
def mm_90 : am_M := (⟨"BrokenLoaves$Twin", "weighs", "(ILBrokenLoaves$Deed;)I"⟩, prog_12_method_5_code, 3, (Option.some FieldType.int), [[some (.aload_n 2, 1, 2, 0, [], 0), some (.bipush 61, 3, 0, 0, [], 61), none, some (.invokevirtual 15, 6, 1, 16, [1, 2], 0), none, none, some (.aload_n 0, 7, 0, 0, [], 0), some (.iload_n 1, 8, 1, 0, [], 0), some (.aload_n 2, 9, 2, 0, [], 0), some (.invokespecial 25, 12, 3, 19, [2, 3], 0), none, none, some (.aload_n 0, 13, 0, 0, [], 0), some (.aload_n 2, 14, 2, 0, [], 0), some (.getfield 28, 17, 2, 1, [], 0), none],
  [none, some (.aload_n 2, 18, 2, 0, [], 0), some (.invokevirtual 32, 21, 2, 1004, [2, 0, 0, 0, 0, 0, 0, 0, 0, 0, 0, 23, 0, 0], 0), none, none, some (.iadd, 22, 0, 0, [], 0), some (.ireturn, 23, 0, 0, [], 0)]])
/-- BrokenLoaves.person(IIII)I -/
def mm_91 : am_M := (⟨"BrokenLoaves", "person", "(IIII)I"⟩, prog_1_method_2_code, 6, (Option.some FieldType.int), [[some (.iload_n 1, 1, 1, 0, [], 0), some (.iconst 1, 2, 0, 0, [], 1), some (.iconst 5, 3, 0, 0, [], 5), some (.invokestatic 99, 6, 0, 162, [3], 0), none, none, some (.ifCond .eq 13, 9, 19, 0, [], 0), none, none, some (.iload_n 2, 10, 2, 0, [], 0), some (.iconst 0, 11, 0, 0, [], 0), some (.bipush 60, 13, 0, 0, [], 60), none, some (.invokestatic 99, 16, 0, 162, [3], 0), none, none],
  [some (.ifCond .ne 5, 19, 21, 0, [], 0), none, none, some (.iconst (-1), 20, 0, 0, [], (-1)), some (.ireturn, 21, 0, 0, [], 0), some (.iload_n 3, 22, 3, 0, [], 0), some (.iconst 0, 23, 0, 0, [], 0), some (.bipush 9, 25, 0, 0, [], 9), none, some (.invokestatic 99, 28, 0, 162, [3], 0), none, none, some (.ifCond .eq 13, 31, 41, 0, [], 0), none, none, some (.iload 4, 33, 4, 0, [], 0)],
  [none, some (.iconst 0, 34, 0, 0, [], 0), some (.iconst 5, 35, 0, 0, [], 5), some (.invokestatic 99, 38, 0, 162, [3], 0), none, none, some (.ifCond .ne 5, 41, 43, 0, [], 0), none, none, some (.iconst (-1), 42, 0, 0, [], (-1)), some (.ireturn, 43, 0, 0, [], 0), some (.aload_n 0, 44, 0, 0, [], 0), some (.getfield 30, 47, 11, 0, [], 0), none, none, some (.getfield 103, 50, 7, 2, [], 0)],
  [none, none, some (.istore 5, 52, 5, 0, [], 0), none, some (.iload 5, 54, 5, 0, [], 0), none, some (.bipush 6, 56, 0, 0, [], 6), none, some (.if_icmp .lt 6, 59, 62, 0, [], 0), none, none, some (.bipush (-2), 61, 0, 0, [], (-2)), none, some (.ireturn, 62, 0, 0, [], 0), some (.aload_n 0, 63, 0, 0, [], 0), some (.getfield 30, 66, 11, 0, [], 0)],
  [none, none, some (.getfield 107, 69, 7, 3, [], 0), none, none, some (.iload 5, 71, 5, 0, [], 0), none, some (.iload_n 1, 72, 1, 0, [], 0), some (.iastore, 73, 0, 0, [], 0), some (.aload_n 0, 74, 0, 0, [], 0), some (.getfield 30, 77, 11, 0, [], 0), none, none, some (.getfield 110, 80, 7, 4, [], 0), none, none],
  [some (.iload 5, 82, 5, 0, [], 0), none, some (.iload_n 2, 83, 2, 0, [], 0), some (.iastore, 84, 0, 0, [], 0), some (.aload_n 0, 85, 0, 0, [], 0), some (.getfield 30, 88, 11, 0, [], 0), none, none, some (.getfield 113, 91, 7, 5, [], 0), none, none, some (.iload 5, 93, 5, 0, [], 0), none, some (.iload_n 3, 94, 3, 0, [], 0), some (.iastore, 95, 0, 0, [], 0), some (.aload_n 0, 96, 0, 0, [], 0)],
  [some (.getfield 30, 99, 11, 0, [], 0), none, none, some (.getfield 116, 102, 7, 6, [], 0), none, none, some (.iload 5, 104, 5, 0, [], 0), none, some (.iload 4, 106, 4, 0, [], 0), none, some (.iastore, 107, 0, 0, [], 0), some (.aload_n 0, 108, 0, 0, [], 0), some (.getfield 30, 111, 11, 0, [], 0), none, none, some (.iload 5, 113, 5, 0, [], 0)],
  [none, some (.iconst 1, 114, 0, 0, [], 1), some (.iadd, 115, 0, 0, [], 0), some (.putfield 103, 118, 7, 2, [], 0), none, none, some (.iload 5, 120, 5, 0, [], 0), none, some (.ireturn, 121, 0, 0, [], 0)]])
/-- BrokenLoaves.personOf(II)I -/
def mm_92 : am_M := (⟨"BrokenLoaves", "personOf", "(II)I"⟩, prog_1_method_3_code, 4, (Option.some FieldType.int), [[some (.aload_n 0, 1, 0, 0, [], 0), some (.getfield 30, 4, 11, 0, [], 0), none, none, some (.iload_n 1, 5, 1, 0, [], 0), some (.invokevirtual 119, 8, 1, 38, [1, 7], 0), none, none, some (.ifCond .ne 5, 11, 13, 0, [], 0), none, none, some (.iconst (-1), 12, 0, 0, [], (-1)), some (.ireturn, 13, 0, 0, [], 0), some (.aload_n 0, 14, 0, 0, [], 0), some (.getfield 30, 17, 11, 0, [], 0), none],
  [none, some (.getfield 123, 20, 7, 1, [], 0), none, none, some (.astore_n 3, 21, 3, 0, [], 0), some (.iload_n 2, 22, 2, 0, [], 0), some (.tableswitch 177 0 9 #[54, 64, 74, 84, 94, 100, 114, 124, 137, 156], 76, 199, 0, [76, 86, 96, 106, 116, 122, 136, 146, 159, 178], 0), none, none, none, none, none, none, none, none, none],
  [none, none, none, none, none, none, none, none, none, none, none, none, none, none, none, none],
  [none, none, none, none, none, none, none, none, none, none, none, none, none, none, none, none],
  [none, none, none, none, none, none, none, none, none, none, none, none, some (.aload_n 0, 77, 0, 0, [], 0), some (.getfield 30, 80, 11, 0, [], 0), none, none],
  [some (.getfield 107, 83, 7, 3, [], 0), none, none, some (.iload_n 1, 84, 1, 0, [], 0), some (.iaload, 85, 0, 0, [], 0), some (.ireturn, 86, 0, 0, [], 0), some (.aload_n 0, 87, 0, 0, [], 0), some (.getfield 30, 90, 11, 0, [], 0), none, none, some (.getfield 110, 93, 7, 4, [], 0), none, none, some (.iload_n 1, 94, 1, 0, [], 0), some (.iaload, 95, 0, 0, [], 0), some (.ireturn, 96, 0, 0, [], 0)],
  [some (.aload_n 0, 97, 0, 0, [], 0), some (.getfield 30, 100, 11, 0, [], 0), none, none, some (.getfield 113, 103, 7, 5, [], 0), none, none, some (.iload_n 1, 104, 1, 0, [], 0), some (.iaload, 105, 0, 0, [], 0), some (.ireturn, 106, 0, 0, [], 0), some (.aload_n 0, 107, 0, 0, [], 0), some (.getfield 30, 110, 11, 0, [], 0), none, none, some (.getfield 116, 113, 7, 6, [], 0), none],
  [none, some (.iload_n 1, 114, 1, 0, [], 0), some (.iaload, 115, 0, 0, [], 0), some (.ireturn, 116, 0, 0, [], 0), some (.aload_n 3, 117, 3, 0, [], 0), some (.iload_n 1, 118, 1, 0, [], 0), some (.invokevirtual 126, 121, 1, 9, [1, 1], 0), none, none, some (.ireturn, 122, 0, 0, [], 0), some (.aload_n 3, 123, 3, 0, [], 0), some (.iload_n 1, 124, 1, 0, [], 0), some (.invokevirtual 130, 127, 1, 11, [1, 1], 0), none, none, some (.ifCond .eq 7, 130, 134, 0, [], 0)],
  [none, none, some (.iconst 1, 131, 0, 0, [], 1), some (.goto 4, 134, 135, 0, [], 0), none, none, some (.iconst 0, 135, 0, 0, [], 0), some (.ireturn, 136, 0, 0, [], 0), some (.aload_n 0, 137, 0, 0, [], 0), some (.getfield 30, 140, 11, 0, [], 0), none, none, some (.aload_n 3, 141, 3, 0, [], 0), some (.iload_n 1, 142, 1, 0, [], 0), some (.invokevirtual 133, 145, 1, 44, [2, 7], 0), none],
  [none, some (.ireturn, 146, 0, 0, [], 0), some (.aload_n 0, 147, 0, 0, [], 0), some (.getfield 30, 150, 11, 0, [], 0), none, none, some (.iload_n 1, 151, 1, 0, [], 0), some (.invokevirtual 137, 154, 1, 42, [1, 7], 0), none, none, some (.iload_n 1, 155, 1, 0, [], 0), some (.invokevirtual 141, 158, 2, 404, [1, 5, 0, 0, 19, 22, 28, 0, 0, 0, 86, 89, 0, 0], 0), none, none, some (.ireturn, 159, 0, 0, [], 0), some (.aload_n 0, 160, 0, 0, [], 0)],
  [some (.getfield 30, 163, 11, 0, [], 0), none, none, some (.aload_n 3, 164, 3, 0, [], 0), some (.iload_n 1, 165, 1, 0, [], 0), some (.aload_n 0, 166, 0, 0, [], 0), some (.getfield 30, 169, 11, 0, [], 0), none, none, some (.aload_n 3, 170, 3, 0, [], 0), some (.iload_n 1, 171, 1, 0, [], 0), some (.invokevirtual 133, 174, 1, 44, [2, 7], 0), none, none, some (.invokevirtual 144, 177, 1, 51, [3, 7], 0), none],
  [none, some (.ireturn, 178, 0, 0, [], 0), some (.aload_n 0, 179, 0, 0, [], 0), some (.getfield 30, 182, 11, 0, [], 0), none, none, some (.aload_n 3, 183, 3, 0, [], 0), some (.getfield 148, 186, 1, 1, [], 0), none, none, some (.iload_n 1, 187, 1, 0, [], 0), some (.invokevirtual 151, 190, 1, 43, [2, 7], 0), none, none, some (.ifCond .eq 7, 193, 197, 0, [], 0), none],
  [none, some (.iconst 1, 194, 0, 0, [], 1), some (.goto 4, 197, 198, 0, [], 0), none, none, some (.iconst 0, 198, 0, 0, [], 0), some (.ireturn, 199, 0, 0, [], 0), some (.iconst (-1), 200, 0, 0, [], (-1)), some (.ireturn, 201, 0, 0, [], 0)]])
/-- BrokenLoaves.change(III)I -/
def mm_93 : am_M := (⟨"BrokenLoaves", "change", "(III)I"⟩, prog_1_method_4_code, 5, (Option.some FieldType.int), [[some (.aload_n 0, 1, 0, 0, [], 0), some (.getfield 30, 4, 11, 0, [], 0), none, none, some (.iload_n 1, 5, 1, 0, [], 0), some (.invokevirtual 119, 8, 1, 38, [1, 7], 0), none, none, some (.ifCond .eq 24, 11, 32, 0, [], 0), none, none, some (.iload_n 2, 12, 2, 0, [], 0), some (.iconst 1, 13, 0, 0, [], 1), some (.iconst 5, 14, 0, 0, [], 5), some (.invokestatic 99, 17, 0, 162, [3], 0), none],
  [none, some (.ifCond .eq 15, 20, 32, 0, [], 0), none, none, some (.iload_n 3, 21, 3, 0, [], 0), some (.iconst 0, 22, 0, 0, [], 0), some (.iload_n 2, 23, 2, 0, [], 0), some (.invokestatic 155, 26, 0, 94, [1], 0), none, none, some (.invokestatic 99, 29, 0, 162, [3], 0), none, none, some (.ifCond .ne 5, 32, 34, 0, [], 0), none, none],
  [some (.iconst (-1), 33, 0, 0, [], (-1)), some (.ireturn, 34, 0, 0, [], 0), some (.aload_n 0, 35, 0, 0, [], 0), some (.iload_n 1, 36, 1, 0, [], 0), some (.iload_n 2, 37, 2, 0, [], 0), some (.invokevirtual 158, 40, 1, 92, [2, 11], 0), none, none, some (.istore 4, 42, 4, 0, [], 0), none, some (.iload_n 2, 43, 2, 0, [], 0), some (.tableswitch 83 1 4 #[29, 42, 55, 68], 72, 126, 0, [72, 85, 98, 111], 1), none, none, none, none],
  [none, none, none, none, none, none, none, none, none, none, none, none, none, none, none, none],
  [none, none, none, none, none, none, none, none, some (.aload_n 0, 73, 0, 0, [], 0), some (.getfield 30, 76, 11, 0, [], 0), none, none, some (.getfield 110, 79, 7, 4, [], 0), none, none, some (.iload_n 1, 80, 1, 0, [], 0)],
  [some (.iload_n 3, 81, 3, 0, [], 0), some (.iastore, 82, 0, 0, [], 0), some (.goto 56, 85, 138, 0, [], 0), none, none, some (.aload_n 0, 86, 0, 0, [], 0), some (.getfield 30, 89, 11, 0, [], 0), none, none, some (.getfield 113, 92, 7, 5, [], 0), none, none, some (.iload_n 1, 93, 1, 0, [], 0), some (.iload_n 3, 94, 3, 0, [], 0), some (.iastore, 95, 0, 0, [], 0), some (.goto 43, 98, 138, 0, [], 0)],
  [none, none, some (.aload_n 0, 99, 0, 0, [], 0), some (.getfield 30, 102, 11, 0, [], 0), none, none, some (.getfield 116, 105, 7, 6, [], 0), none, none, some (.iload_n 1, 106, 1, 0, [], 0), some (.iload_n 3, 107, 3, 0, [], 0), some (.iastore, 108, 0, 0, [], 0), some (.goto 30, 111, 138, 0, [], 0), none, none, some (.aload_n 0, 112, 0, 0, [], 0)],
  [some (.getfield 30, 115, 11, 0, [], 0), none, none, some (.getfield 123, 118, 7, 1, [], 0), none, none, some (.iload_n 1, 119, 1, 0, [], 0), some (.iload_n 3, 120, 3, 0, [], 0), some (.invokevirtual 162, 123, 1, 10, [2, 1], 0), none, none, some (.goto 15, 126, 138, 0, [], 0), none, none, some (.aload_n 0, 127, 0, 0, [], 0), some (.getfield 30, 130, 11, 0, [], 0)],
  [none, none, some (.getfield 123, 133, 7, 1, [], 0), none, none, some (.iload_n 1, 134, 1, 0, [], 0), some (.iload_n 3, 135, 3, 0, [], 0), some (.invokevirtual 166, 138, 1, 12, [2, 1], 0), none, none, some (.iload 4, 140, 4, 0, [], 0), none, some (.ireturn, 141, 0, 0, [], 0)]])
/-- BrokenLoaves.mostToChange(I)I -/
def mm_94 : am_M := (⟨"BrokenLoaves", "mostToChange", "(I)I"⟩, prog_1_method_5_code, 1, (Option.some FieldType.int), [[some (.iload_n 0, 1, 0, 0, [], 0), some (.tableswitch 42 1 4 #[31, 34, 37, 39], 32, 43, 0, [32, 35, 38, 40], 1), none, none, none, none, none, none, none, none, none, none, none, none, none, none],
  [none, none, none, none, none, none, none, none, none, none, none, none, none, none, none, none],
  [some (.bipush 60, 34, 0, 0, [], 60), none, some (.ireturn, 35, 0, 0, [], 0), some (.bipush 9, 37, 0, 0, [], 9), none, some (.ireturn, 38, 0, 0, [], 0), some (.iconst 5, 39, 0, 0, [], 5), some (.ireturn, 40, 0, 0, [], 0), some (.bipush 9, 42, 0, 0, [], 9), none, some (.ireturn, 43, 0, 0, [], 0), some (.iconst 1, 44, 0, 0, [], 1), some (.ireturn, 45, 0, 0, [], 0)]])
/-- BrokenLoaves.remake(II)I -/
def mm_95 : am_M := (⟨"BrokenLoaves", "remake", "(II)I"⟩, prog_1_method_6_code, 4, (Option.some FieldType.int), [[some (.aload_n 0, 1, 0, 0, [], 0), some (.getfield 30, 4, 11, 0, [], 0), none, none, some (.iload_n 1, 5, 1, 0, [], 0), some (.invokevirtual 119, 8, 1, 38, [1, 7], 0), none, none, some (.ifCond .eq 12, 11, 20, 0, [], 0), none, none, some (.iload_n 2, 12, 2, 0, [], 0), some (.iconst 1, 13, 0, 0, [], 1), some (.iconst 5, 14, 0, 0, [], 5), some (.invokestatic 99, 17, 0, 162, [3], 0), none],
  [none, some (.ifCond .ne 5, 20, 22, 0, [], 0), none, none, some (.iconst (-1), 21, 0, 0, [], (-1)), some (.ireturn, 22, 0, 0, [], 0), some (.aload_n 0, 23, 0, 0, [], 0), some (.getfield 30, 26, 11, 0, [], 0), none, none, some (.getfield 107, 29, 7, 3, [], 0), none, none, some (.iload_n 1, 30, 1, 0, [], 0), some (.iaload, 31, 0, 0, [], 0), some (.istore_n 3, 32, 3, 0, [], 0)],
  [some (.aload_n 0, 33, 0, 0, [], 0), some (.getfield 30, 36, 11, 0, [], 0), none, none, some (.getfield 107, 39, 7, 3, [], 0), none, none, some (.iload_n 1, 40, 1, 0, [], 0), some (.iload_n 2, 41, 2, 0, [], 0), some (.iastore, 42, 0, 0, [], 0), some (.iload_n 3, 43, 3, 0, [], 0), some (.ireturn, 44, 0, 0, [], 0)]])
/-- BrokenLoaves.weather(II)I -/
def mm_96 : am_M := (⟨"BrokenLoaves", "weather", "(II)I"⟩, prog_1_method_7_code, 4, (Option.some FieldType.int), [[some (.iload_n 1, 1, 1, 0, [], 0), some (.iconst 0, 2, 0, 0, [], 0), some (.bipush 15, 4, 0, 0, [], 15), none, some (.invokestatic 99, 7, 0, 162, [3], 0), none, none, some (.ifCond .eq 13, 10, 20, 0, [], 0), none, none, some (.iload_n 2, 11, 2, 0, [], 0), some (.iconst 0, 12, 0, 0, [], 0), some (.bipush 15, 14, 0, 0, [], 15), none, some (.invokestatic 99, 17, 0, 162, [3], 0), none],
  [none, some (.ifCond .ne 5, 20, 22, 0, [], 0), none, none, some (.iconst (-1), 21, 0, 0, [], (-1)), some (.ireturn, 22, 0, 0, [], 0), some (.aload_n 0, 23, 0, 0, [], 0), some (.getfield 30, 26, 11, 0, [], 0), none, none, some (.getfield 169, 29, 7, 7, [], 0), none, none, some (.iload_n 1, 30, 1, 0, [], 0), some (.iaload, 31, 0, 0, [], 0), some (.istore_n 3, 32, 3, 0, [], 0)],
  [some (.aload_n 0, 33, 0, 0, [], 0), some (.getfield 30, 36, 11, 0, [], 0), none, none, some (.getfield 169, 39, 7, 7, [], 0), none, none, some (.iload_n 1, 40, 1, 0, [], 0), some (.iload_n 2, 41, 2, 0, [], 0), some (.iastore, 42, 0, 0, [], 0), some (.iload_n 3, 43, 3, 0, [], 0), some (.ireturn, 44, 0, 0, [], 0)]])
/-- BrokenLoaves.gate(III)I -/
def mm_97 : am_M := (⟨"BrokenLoaves", "gate", "(III)I"⟩, prog_1_method_8_code, 6, (Option.some FieldType.int), [[some (.iload_n 1, 1, 1, 0, [], 0), some (.iconst 0, 2, 0, 0, [], 0), some (.iconst 5, 3, 0, 0, [], 5), some (.invokestatic 99, 6, 0, 162, [3], 0), none, none, some (.ifCond .eq 22, 9, 28, 0, [], 0), none, none, some (.iload_n 2, 10, 2, 0, [], 0), some (.iconst 0, 11, 0, 0, [], 0), some (.iconst 1, 12, 0, 0, [], 1), some (.invokestatic 99, 15, 0, 162, [3], 0), none, none, some (.ifCond .eq 13, 18, 28, 0, [], 0)],
  [none, none, some (.iload_n 3, 19, 3, 0, [], 0), some (.iconst 0, 20, 0, 0, [], 0), some (.bipush 9, 22, 0, 0, [], 9), none, some (.invokestatic 99, 25, 0, 162, [3], 0), none, none, some (.ifCond .ne 5, 28, 30, 0, [], 0), none, none, some (.iconst (-1), 29, 0, 0, [], (-1)), some (.ireturn, 30, 0, 0, [], 0), some (.iload_n 2, 31, 2, 0, [], 0), some (.ifCond .ne 13, 34, 44, 0, [], 0)],
  [none, none, some (.aload_n 0, 35, 0, 0, [], 0), some (.getfield 30, 38, 11, 0, [], 0), none, none, some (.getfield 172, 41, 7, 8, [], 0), none, none, some (.goto 10, 44, 51, 0, [], 0), none, none, some (.aload_n 0, 45, 0, 0, [], 0), some (.getfield 30, 48, 11, 0, [], 0), none, none],
  [some (.getfield 175, 51, 7, 9, [], 0), none, none, some (.astore 4, 53, 4, 0, [], 0), none, some (.aload 4, 55, 4, 0, [], 0), none, some (.iload_n 1, 56, 1, 0, [], 0), some (.iaload, 57, 0, 0, [], 0), some (.istore 5, 59, 5, 0, [], 0), none, some (.aload 4, 61, 4, 0, [], 0), none, some (.iload_n 1, 62, 1, 0, [], 0), some (.iload_n 3, 63, 3, 0, [], 0), some (.iastore, 64, 0, 0, [], 0)],
  [some (.iload 5, 66, 5, 0, [], 0), none, some (.ireturn, 67, 0, 0, [], 0)]])
/-- BrokenLoaves.gateOf(II)I -/
def mm_98 : am_M := (⟨"BrokenLoaves", "gateOf", "(II)I"⟩, prog_1_method_9_code, 3, (Option.some FieldType.int), [[some (.iload_n 1, 1, 1, 0, [], 0), some (.iconst 0, 2, 0, 0, [], 0), some (.iconst 5, 3, 0, 0, [], 5), some (.invokestatic 99, 6, 0, 162, [3], 0), none, none, some (.ifCond .eq 12, 9, 18, 0, [], 0), none, none, some (.iload_n 2, 10, 2, 0, [], 0), some (.iconst 0, 11, 0, 0, [], 0), some (.iconst 1, 12, 0, 0, [], 1), some (.invokestatic 99, 15, 0, 162, [3], 0), none, none, some (.ifCond .ne 5, 18, 20, 0, [], 0)],
  [none, none, some (.iconst (-1), 19, 0, 0, [], (-1)), some (.ireturn, 20, 0, 0, [], 0), some (.iload_n 2, 21, 2, 0, [], 0), some (.ifCond .ne 15, 24, 36, 0, [], 0), none, none, some (.aload_n 0, 25, 0, 0, [], 0), some (.getfield 30, 28, 11, 0, [], 0), none, none, some (.getfield 172, 31, 7, 8, [], 0), none, none, some (.iload_n 1, 32, 1, 0, [], 0)],
  [some (.iaload, 33, 0, 0, [], 0), some (.goto 12, 36, 45, 0, [], 0), none, none, some (.aload_n 0, 37, 0, 0, [], 0), some (.getfield 30, 40, 11, 0, [], 0), none, none, some (.getfield 175, 43, 7, 9, [], 0), none, none, some (.iload_n 1, 44, 1, 0, [], 0), some (.iaload, 45, 0, 0, [], 0), some (.ireturn, 46, 0, 0, [], 0)]])
/-- BrokenLoaves.house(II)I -/
def mm_99 : am_M := (⟨"BrokenLoaves", "house", "(II)I"⟩, prog_1_method_10_code, 4, (Option.some FieldType.int), [[some (.iload_n 1, 1, 1, 0, [], 0), some (.iconst 0, 2, 0, 0, [], 0), some (.iconst 1, 3, 0, 0, [], 1), some (.invokestatic 99, 6, 0, 162, [3], 0), none, none, some (.ifCond .eq 23, 9, 29, 0, [], 0), none, none, some (.iload_n 2, 10, 2, 0, [], 0), some (.iconst 0, 11, 0, 0, [], 0), some (.iload_n 1, 12, 1, 0, [], 0), some (.ifCond .ne 8, 15, 20, 0, [], 0), none, none, some (.bipush 9, 17, 0, 0, [], 9)],
  [none, some (.goto 6, 20, 23, 0, [], 0), none, none, some (.sipush 999, 23, 0, 0, [], 999), none, none, some (.invokestatic 99, 26, 0, 162, [3], 0), none, none, some (.ifCond .ne 5, 29, 31, 0, [], 0), none, none, some (.iconst (-1), 30, 0, 0, [], (-1)), some (.ireturn, 31, 0, 0, [], 0), some (.iload_n 1, 32, 1, 0, [], 0)],
  [some (.ifCond .ne 16, 35, 48, 0, [], 0), none, none, some (.aload_n 0, 36, 0, 0, [], 0), some (.getfield 30, 39, 11, 0, [], 0), none, none, some (.getfield 123, 42, 7, 1, [], 0), none, none, some (.getfield 148, 45, 1, 1, [], 0), none, none, some (.goto 13, 48, 58, 0, [], 0), none, none],
  [some (.aload_n 0, 49, 0, 0, [], 0), some (.getfield 30, 52, 11, 0, [], 0), none, none, some (.getfield 123, 55, 7, 1, [], 0), none, none, some (.getfield 178, 58, 1, 2, [], 0), none, none, some (.istore_n 3, 59, 3, 0, [], 0), some (.iload_n 1, 60, 1, 0, [], 0), some (.ifCond .ne 17, 63, 77, 0, [], 0), none, none, some (.aload_n 0, 64, 0, 0, [], 0)],
  [some (.getfield 30, 67, 11, 0, [], 0), none, none, some (.getfield 123, 70, 7, 1, [], 0), none, none, some (.iload_n 2, 71, 2, 0, [], 0), some (.putfield 148, 74, 1, 1, [], 0), none, none, some (.goto 14, 77, 88, 0, [], 0), none, none, some (.aload_n 0, 78, 0, 0, [], 0), some (.getfield 30, 81, 11, 0, [], 0), none],
  [none, some (.getfield 123, 84, 7, 1, [], 0), none, none, some (.iload_n 2, 85, 2, 0, [], 0), some (.putfield 178, 88, 1, 2, [], 0), none, none, some (.iload_n 3, 89, 3, 0, [], 0), some (.ireturn, 90, 0, 0, [], 0)]])
/-- BrokenLoaves.ends(I)I -/
def mm_100 : am_M := (⟨"BrokenLoaves", "ends", "(I)I"⟩, prog_1_method_11_code, 3, (Option.some FieldType.int), [[some (.iload_n 1, 1, 1, 0, [], 0), some (.iconst 1, 2, 0, 0, [], 1), some (.bipush 16, 4, 0, 0, [], 16), none, some (.invokestatic 99, 7, 0, 162, [3], 0), none, none, some (.ifCond .ne 5, 10, 12, 0, [], 0), none, none, some (.iconst (-1), 11, 0, 0, [], (-1)), some (.ireturn, 12, 0, 0, [], 0), some (.iload_n 1, 13, 1, 0, [], 0), some (.aload_n 0, 14, 0, 0, [], 0), some (.getfield 30, 17, 11, 0, [], 0), none],
  [none, some (.getfield 123, 20, 7, 1, [], 0), none, none, some (.getfield 181, 23, 1, 0, [], 0), none, none, some (.if_icmp .ge 6, 26, 29, 0, [], 0), none, none, some (.bipush (-4), 28, 0, 0, [], (-4)), none, some (.ireturn, 29, 0, 0, [], 0), some (.aload_n 0, 30, 0, 0, [], 0), some (.getfield 30, 33, 11, 0, [], 0), none],
  [none, some (.getfield 184, 36, 7, 10, [], 0), none, none, some (.istore_n 2, 37, 2, 0, [], 0), some (.aload_n 0, 38, 0, 0, [], 0), some (.getfield 30, 41, 11, 0, [], 0), none, none, some (.iload_n 1, 42, 1, 0, [], 0), some (.putfield 184, 45, 7, 10, [], 0), none, none, some (.iload_n 2, 46, 2, 0, [], 0), some (.ireturn, 47, 0, 0, [], 0)]])
/-- BrokenLoaves.anew()I -/
def mm_101 : am_M := (⟨"BrokenLoaves", "anew", "()I"⟩, prog_1_method_12_code, 2, (Option.some FieldType.int), [[some (.aload_n 0, 1, 0, 0, [], 0), some (.getfield 30, 4, 11, 0, [], 0), none, none, some (.getfield 123, 7, 7, 1, [], 0), none, none, some (.getfield 181, 10, 1, 0, [], 0), none, none, some (.istore_n 1, 11, 1, 0, [], 0), some (.aload_n 0, 12, 0, 0, [], 0), some (.getfield 30, 15, 11, 0, [], 0), none, none, some (.getfield 123, 18, 7, 1, [], 0)],
  [none, none, some (.invokevirtual 187, 21, 1, 8, [0, 1], 0), none, none, some (.iload_n 1, 22, 1, 0, [], 0), some (.ireturn, 23, 0, 0, [], 0)]])
/-- BrokenLoaves.state(I)I -/
def mm_102 : am_M := (⟨"BrokenLoaves", "state", "(I)I"⟩, prog_1_method_13_code, 3, (Option.some FieldType.int), [[some (.aload_n 0, 1, 0, 0, [], 0), some (.getfield 30, 4, 11, 0, [], 0), none, none, some (.getfield 123, 7, 7, 1, [], 0), none, none, some (.astore_n 2, 8, 2, 0, [], 0), some (.iload_n 1, 9, 1, 0, [], 0), some (.tableswitch 136 0 8 #[51, 56, 64, 69, 86, 91, 96, 126, 131], 60, 145, 0, [60, 65, 73, 78, 95, 100, 105, 135, 140], 0), none, none, none, none, none, none],
  [none, none, none, none, none, none, none, none, none, none, none, none, none, none, none, none],
  [none, none, none, none, none, none, none, none, none, none, none, none, none, none, none, none],
  [none, none, none, none, none, none, none, none, none, none, none, none, some (.aload_n 2, 61, 2, 0, [], 0), some (.getfield 181, 64, 1, 0, [], 0), none, none],
  [some (.ireturn, 65, 0, 0, [], 0), some (.aload_n 0, 66, 0, 0, [], 0), some (.getfield 30, 69, 11, 0, [], 0), none, none, some (.getfield 184, 72, 7, 10, [], 0), none, none, some (.ireturn, 73, 0, 0, [], 0), some (.aload_n 2, 74, 2, 0, [], 0), some (.getfield 190, 77, 1, 3, [], 0), none, none, some (.ireturn, 78, 0, 0, [], 0), some (.aload_n 0, 79, 0, 0, [], 0), some (.getfield 30, 82, 11, 0, [], 0)],
  [none, none, some (.aload_n 2, 83, 2, 0, [], 0), some (.invokevirtual 193, 86, 1, 40, [1, 7], 0), none, none, some (.ifCond .eq 7, 89, 93, 0, [], 0), none, none, some (.iconst 1, 90, 0, 0, [], 1), some (.goto 4, 93, 94, 0, [], 0), none, none, some (.iconst 0, 94, 0, 0, [], 0), some (.ireturn, 95, 0, 0, [], 0), some (.aload_n 2, 96, 2, 0, [], 0)],
  [some (.invokevirtual 197, 99, 1, 13, [0, 1], 0), none, none, some (.ireturn, 100, 0, 0, [], 0), some (.aload_n 2, 101, 2, 0, [], 0), some (.getfield 201, 104, 1, 5, [], 0), none, none, some (.ireturn, 105, 0, 0, [], 0), some (.aload_n 2, 106, 2, 0, [], 0), some (.getfield 181, 109, 1, 0, [], 0), none, none, some (.iconst 0, 110, 0, 0, [], 0), some (.bipush 15, 112, 0, 0, [], 15), none],
  [some (.invokestatic 99, 115, 0, 162, [3], 0), none, none, some (.ifCond .eq 18, 118, 133, 0, [], 0), none, none, some (.aload_n 0, 119, 0, 0, [], 0), some (.getfield 30, 122, 11, 0, [], 0), none, none, some (.getfield 169, 125, 7, 7, [], 0), none, none, some (.aload_n 2, 126, 2, 0, [], 0), some (.getfield 181, 129, 1, 0, [], 0), none],
  [none, some (.iaload, 130, 0, 0, [], 0), some (.goto 4, 133, 134, 0, [], 0), none, none, some (.iconst 0, 134, 0, 0, [], 0), some (.ireturn, 135, 0, 0, [], 0), some (.aload_n 2, 136, 2, 0, [], 0), some (.getfield 148, 139, 1, 1, [], 0), none, none, some (.ireturn, 140, 0, 0, [], 0), some (.aload_n 2, 141, 2, 0, [], 0), some (.getfield 178, 144, 1, 2, [], 0), none, none],
  [some (.ireturn, 145, 0, 0, [], 0), some (.iconst (-1), 146, 0, 0, [], (-1)), some (.ireturn, 147, 0, 0, [], 0)]])
/-- BrokenLoaves.feed(JI)I -/
def mm_103 : am_M := (⟨"BrokenLoaves", "feed", "(JI)I"⟩, prog_1_method_14_code, 5, (Option.some FieldType.int), [[some (.iload_n 3, 1, 3, 0, [], 0), some (.iconst 1, 2, 0, 0, [], 1), some (.bipush 8, 4, 0, 0, [], 8), none, some (.invokestatic 99, 7, 0, 162, [3], 0), none, none, some (.ifCond .ne 5, 10, 12, 0, [], 0), none, none, some (.iconst (-1), 11, 0, 0, [], (-1)), some (.ireturn, 12, 0, 0, [], 0), some (.aload_n 0, 13, 0, 0, [], 0), some (.getfield 42, 16, 11, 3, [], 0), none, none],
  [some (.getfield 204, 19, 8, 1, [], 0), none, none, some (.iload_n 3, 20, 3, 0, [], 0), some (.iadd, 21, 0, 0, [], 0), some (.sipush 200, 24, 0, 0, [], 200), none, none, some (.if_icmp .le 6, 27, 30, 0, [], 0), none, none, some (.bipush (-2), 29, 0, 0, [], (-2)), none, some (.ireturn, 30, 0, 0, [], 0), some (.iconst 0, 31, 0, 0, [], 0), some (.istore 4, 33, 4, 0, [], 0)],
  [none, some (.iload 4, 35, 4, 0, [], 0), none, some (.iload_n 3, 36, 3, 0, [], 0), some (.if_icmp .ge 25, 39, 61, 0, [], 0), none, none, some (.aload_n 0, 40, 0, 0, [], 0), some (.getfield 42, 43, 11, 3, [], 0), none, none, some (.lload_n 1, 44, 1, 0, [], 0), some (.bipush 8, 46, 0, 0, [], 8), none, some (.iload 4, 48, 4, 0, [], 0), none],
  [some (.imul, 49, 0, 0, [], 0), some (.lushr, 50, 0, 0, [], 0), some (.l2i, 51, 0, 0, [], 0), some (.i2b, 52, 0, 0, [], 0), some (.invokevirtual 207, 55, 1, 66, [1, 8], 0), none, none, some (.iinc 4 1, 58, 4, 0, [], 1), none, none, some (.goto (-25), 61, 33, 0, [], 0), none, none, some (.aload_n 0, 62, 0, 0, [], 0), some (.getfield 42, 65, 11, 3, [], 0), none],
  [none, some (.getfield 204, 68, 8, 1, [], 0), none, none, some (.ireturn, 69, 0, 0, [], 0)]])
/-- BrokenLoaves.rules()I -/
def mm_104 : am_M := (⟨"BrokenLoaves", "rules", "()I"⟩, prog_1_method_15_code, 2, (Option.some FieldType.int), [[some (.aload_n 0, 1, 0, 0, [], 0), some (.getfield 42, 4, 11, 3, [], 0), none, none, some (.invokevirtual 211, 7, 1, 67, [0, 8], 0), none, none, some (.istore_n 1, 8, 1, 0, [], 0), some (.iload_n 1, 9, 1, 0, [], 0), some (.ifCond .lt 8, 12, 17, 0, [], 0), none, none, some (.bipush (-100), 14, 0, 0, [], (-100)), none, some (.iload_n 1, 15, 1, 0, [], 0), some (.isub, 16, 0, 0, [], 0)],
  [some (.ireturn, 17, 0, 0, [], 0), some (.aload_n 0, 18, 0, 0, [], 0), some (.getfield 30, 21, 11, 0, [], 0), none, none, some (.aload_n 0, 22, 0, 0, [], 0), some (.getfield 42, 25, 11, 3, [], 0), none, none, some (.getfield 214, 28, 8, 6, [], 0), none, none, some (.aload_n 0, 29, 0, 0, [], 0), some (.getfield 42, 32, 11, 3, [], 0), none, none],
  [some (.getfield 217, 35, 8, 8, [], 0), none, none, some (.invokevirtual 220, 38, 1, 37, [2, 7], 0), none, none, some (.aload_n 0, 39, 0, 0, [], 0), some (.getfield 30, 42, 11, 0, [], 0), none, none, some (.getfield 223, 45, 7, 12, [], 0), none, none, some (.ireturn, 46, 0, 0, [], 0)]])
/-- BrokenLoaves.day()I -/
def mm_105 : am_M := (⟨"BrokenLoaves", "day", "()I"⟩, prog_1_method_16_code, 1, (Option.some FieldType.int), [[some (.aload_n 0, 1, 0, 0, [], 0), some (.getfield 30, 4, 11, 0, [], 0), none, none, some (.aload_n 0, 5, 0, 0, [], 0), some (.getfield 30, 8, 11, 0, [], 0), none, none, some (.getfield 123, 11, 7, 1, [], 0), none, none, some (.invokevirtual 193, 14, 1, 40, [1, 7], 0), none, none, some (.ifCond .eq 6, 17, 20, 0, [], 0), none],
  [none, some (.bipush (-4), 19, 0, 0, [], (-4)), none, some (.ireturn, 20, 0, 0, [], 0), some (.aload_n 0, 21, 0, 0, [], 0), some (.getfield 30, 24, 11, 0, [], 0), none, none, some (.aload_n 0, 25, 0, 0, [], 0), some (.getfield 30, 28, 11, 0, [], 0), none, none, some (.getfield 123, 31, 7, 1, [], 0), none, none, some (.aload_n 0, 32, 0, 0, [], 0)],
  [some (.getfield 30, 35, 11, 0, [], 0), none, none, some (.aload_n 0, 36, 0, 0, [], 0), some (.getfield 30, 39, 11, 0, [], 0), none, none, some (.getfield 123, 42, 7, 1, [], 0), none, none, some (.invokevirtual 224, 45, 1, 50, [1, 7], 0), none, none, some (.invokevirtual 228, 48, 1, 47, [2, 7], 0), none, none],
  [some (.ireturn, 49, 0, 0, [], 0)]])
/-- BrokenLoaves.on(I)I -/
def mm_106 : am_M := (⟨"BrokenLoaves", "on", "(I)I"⟩, prog_1_method_17_code, 2, (Option.some FieldType.int), [[some (.iload_n 1, 1, 1, 0, [], 0), some (.iconst 0, 2, 0, 0, [], 0), some (.bipush 16, 4, 0, 0, [], 16), none, some (.invokestatic 99, 7, 0, 162, [3], 0), none, none, some (.ifCond .ne 5, 10, 12, 0, [], 0), none, none, some (.iconst (-1), 11, 0, 0, [], (-1)), some (.ireturn, 12, 0, 0, [], 0), some (.aload_n 0, 13, 0, 0, [], 0), some (.iload_n 1, 14, 1, 0, [], 0), some (.invokevirtual 231, 17, 1, 112, [1, 11], 0), none],
  [none, some (.ireturn, 18, 0, 0, [], 0)]])
/-- BrokenLoaves.when(I)I -/
def mm_107 : am_M := (⟨"BrokenLoaves", "when", "(I)I"⟩, prog_1_method_18_code, 3, (Option.some FieldType.int), [[some (.aload_n 0, 1, 0, 0, [], 0), some (.getfield 30, 4, 11, 0, [], 0), none, none, some (.iload_n 1, 5, 1, 0, [], 0), some (.invokevirtual 119, 8, 1, 38, [1, 7], 0), none, none, some (.ifCond .ne 5, 11, 13, 0, [], 0), none, none, some (.iconst (-1), 12, 0, 0, [], (-1)), some (.ireturn, 13, 0, 0, [], 0), some (.aload_n 0, 14, 0, 0, [], 0), some (.getfield 30, 17, 11, 0, [], 0), none],
  [none, some (.getfield 123, 20, 7, 1, [], 0), none, none, some (.iload_n 1, 21, 1, 0, [], 0), some (.invokevirtual 130, 24, 1, 11, [1, 1], 0), none, none, some (.ifCond .eq 6, 27, 30, 0, [], 0), none, none, some (.bipush (-3), 29, 0, 0, [], (-3)), none, some (.ireturn, 30, 0, 0, [], 0), some (.aload_n 0, 31, 0, 0, [], 0), some (.invokevirtual 234, 34, 1, 111, [0, 11], 0)],
  [none, none, some (.istore_n 2, 35, 2, 0, [], 0), some (.iload_n 2, 36, 2, 0, [], 0), some (.ifCond .le 53, 39, 89, 0, [], 0), none, none, some (.aload_n 0, 40, 0, 0, [], 0), some (.getfield 30, 43, 11, 0, [], 0), none, none, some (.aload_n 0, 44, 0, 0, [], 0), some (.getfield 58, 47, 11, 5, [], 0), none, none, some (.aload_n 0, 48, 0, 0, [], 0)],
  [some (.getfield 30, 51, 11, 0, [], 0), none, none, some (.aload_n 0, 52, 0, 0, [], 0), some (.getfield 58, 55, 11, 5, [], 0), none, none, some (.invokevirtual 224, 58, 1, 50, [1, 7], 0), none, none, some (.invokevirtual 228, 61, 1, 47, [2, 7], 0), none, none, some (.pop, 62, 0, 0, [], 0), some (.aload_n 0, 63, 0, 0, [], 0), some (.getfield 58, 66, 11, 5, [], 0)],
  [none, none, some (.iload_n 1, 67, 1, 0, [], 0), some (.invokevirtual 130, 70, 1, 11, [1, 1], 0), none, none, some (.ifCond .eq 13, 73, 83, 0, [], 0), none, none, some (.aload_n 0, 74, 0, 0, [], 0), some (.getfield 58, 77, 11, 5, [], 0), none, none, some (.getfield 181, 80, 1, 0, [], 0), none, none],
  [some (.iconst 1, 81, 0, 0, [], 1), some (.isub, 82, 0, 0, [], 0), some (.ireturn, 83, 0, 0, [], 0), some (.iinc 2 (-1), 86, 2, 0, [], (-1)), none, none, some (.goto (-51), 89, 35, 0, [], 0), none, none, some (.bipush (-3), 91, 0, 0, [], (-3)), none, some (.ireturn, 92, 0, 0, [], 0)]])
/-- BrokenLoaves.taleFor(I)I -/
def mm_108 : am_M := (⟨"BrokenLoaves", "taleFor", "(I)I"⟩, prog_1_method_19_code, 2, (Option.some FieldType.int), [[some (.aload_n 0, 1, 0, 0, [], 0), some (.getfield 30, 4, 11, 0, [], 0), none, none, some (.iload_n 1, 5, 1, 0, [], 0), some (.invokevirtual 119, 8, 1, 38, [1, 7], 0), none, none, some (.ifCond .ne 5, 11, 13, 0, [], 0), none, none, some (.iconst (-1), 12, 0, 0, [], (-1)), some (.ireturn, 13, 0, 0, [], 0), some (.aload_n 0, 14, 0, 0, [], 0), some (.aload_n 0, 15, 0, 0, [], 0), some (.getfield 30, 18, 11, 0, [], 0)],
  [none, none, some (.getfield 113, 21, 7, 5, [], 0), none, none, some (.iload_n 1, 22, 1, 0, [], 0), some (.bipush 9, 24, 0, 0, [], 9), none, some (.invokevirtual 237, 27, 1, 110, [3, 11], 0), none, none, some (.ireturn, 28, 0, 0, [], 0)]])
/-- BrokenLoaves.gateFor(I)I -/
def mm_109 : am_M := (⟨"BrokenLoaves", "gateFor", "(I)I"⟩, prog_1_method_20_code, 2, (Option.some FieldType.int), [[some (.aload_n 0, 1, 0, 0, [], 0), some (.getfield 30, 4, 11, 0, [], 0), none, none, some (.iload_n 1, 5, 1, 0, [], 0), some (.invokevirtual 119, 8, 1, 38, [1, 7], 0), none, none, some (.ifCond .ne 5, 11, 13, 0, [], 0), none, none, some (.iconst (-1), 12, 0, 0, [], (-1)), some (.ireturn, 13, 0, 0, [], 0), some (.aload_n 0, 14, 0, 0, [], 0), some (.aload_n 0, 15, 0, 0, [], 0), some (.getfield 30, 18, 11, 0, [], 0)],
  [none, none, some (.getfield 116, 21, 7, 6, [], 0), none, none, some (.iload_n 1, 22, 1, 0, [], 0), some (.iconst 5, 23, 0, 0, [], 5), some (.invokevirtual 237, 26, 1, 110, [3, 11], 0), none, none, some (.ireturn, 27, 0, 0, [], 0)]])
/-- BrokenLoaves.mostWorthBy([III)I -/
def mm_110 : am_M := (⟨"BrokenLoaves", "mostWorthBy", "([III)I"⟩, prog_1_method_21_code, 9, (Option.some FieldType.int), [[some (.aload_n 1, 1, 1, 0, [], 0), some (.iload_n 2, 2, 2, 0, [], 0), some (.iaload, 3, 0, 0, [], 0), some (.istore 4, 5, 4, 0, [], 0), none, some (.iconst 0, 6, 0, 0, [], 0), some (.istore 5, 8, 5, 0, [], 0), none, some (.iconst (-1), 9, 0, 0, [], (-1)), some (.istore 6, 11, 6, 0, [], 0), none, some (.iconst 0, 12, 0, 0, [], 0), some (.istore 7, 14, 7, 0, [], 0), none, some (.iload 7, 16, 7, 0, [], 0), none],
  [some (.iload_n 3, 17, 3, 0, [], 0), some (.if_icmp .gt 37, 20, 54, 0, [], 0), none, none, some (.aload_n 1, 21, 1, 0, [], 0), some (.iload_n 2, 22, 2, 0, [], 0), some (.iload 7, 24, 7, 0, [], 0), none, some (.iastore, 25, 0, 0, [], 0), some (.aload_n 0, 26, 0, 0, [], 0), some (.bipush 16, 28, 0, 0, [], 16), none, some (.invokevirtual 231, 31, 1, 112, [1, 11], 0), none, none, some (.istore 8, 33, 8, 0, [], 0)],
  [none, some (.iload 8, 35, 8, 0, [], 0), none, some (.iload 6, 37, 6, 0, [], 0), none, some (.if_icmp .le 11, 40, 48, 0, [], 0), none, none, some (.iload 8, 42, 8, 0, [], 0), none, some (.istore 6, 44, 6, 0, [], 0), none, some (.iload 7, 46, 7, 0, [], 0), none, some (.istore 5, 48, 5, 0, [], 0), none],
  [some (.iinc 7 1, 51, 7, 0, [], 1), none, none, some (.goto (-37), 54, 14, 0, [], 0), none, none, some (.aload_n 1, 55, 1, 0, [], 0), some (.iload_n 2, 56, 2, 0, [], 0), some (.iload 4, 58, 4, 0, [], 0), none, some (.iastore, 59, 0, 0, [], 0), some (.iload 5, 61, 5, 0, [], 0), none, some (.ireturn, 62, 0, 0, [], 0)]])
/-- BrokenLoaves.startAhead()I -/
def mm_111 : am_M := (⟨"BrokenLoaves", "startAhead", "()I"⟩, prog_1_method_22_code, 1, (Option.some FieldType.int), [[some (.aload_n 0, 1, 0, 0, [], 0), some (.getfield 58, 4, 11, 5, [], 0), none, none, some (.aload_n 0, 5, 0, 0, [], 0), some (.getfield 30, 8, 11, 0, [], 0), none, none, some (.getfield 123, 11, 7, 1, [], 0), none, none, some (.invokevirtual 241, 14, 1, 7, [1, 1], 0), none, none, some (.aload_n 0, 15, 0, 0, [], 0), some (.getfield 30, 18, 11, 0, [], 0)],
  [none, none, some (.aload_n 0, 19, 0, 0, [], 0), some (.getfield 58, 22, 11, 5, [], 0), none, none, some (.invokevirtual 245, 25, 1, 41, [1, 7], 0), none, none, some (.ireturn, 26, 0, 0, [], 0)]])
/-- BrokenLoaves.worthOfRest(I)I -/
def mm_112 : am_M := (⟨"BrokenLoaves", "worthOfRest", "(I)I"⟩, prog_1_method_23_code, 4, (Option.some FieldType.int), [[some (.iconst 0, 1, 0, 0, [], 0), some (.istore_n 2, 2, 2, 0, [], 0), some (.iload_n 1, 3, 1, 0, [], 0), some (.aload_n 0, 4, 0, 0, [], 0), some (.invokevirtual 234, 7, 1, 111, [0, 11], 0), none, none, some (.invokestatic 248, 10, 9, 0, [], 0), none, none, some (.istore_n 3, 11, 3, 0, [], 0), some (.iload_n 3, 12, 3, 0, [], 0), some (.ifCond .le 34, 15, 46, 0, [], 0), none, none, some (.iload_n 2, 16, 2, 0, [], 0)],
  [some (.aload_n 0, 17, 0, 0, [], 0), some (.getfield 30, 20, 11, 0, [], 0), none, none, some (.aload_n 0, 21, 0, 0, [], 0), some (.getfield 58, 24, 11, 5, [], 0), none, none, some (.aload_n 0, 25, 0, 0, [], 0), some (.getfield 30, 28, 11, 0, [], 0), none, none, some (.aload_n 0, 29, 0, 0, [], 0), some (.getfield 58, 32, 11, 5, [], 0), none, none],
  [some (.invokevirtual 224, 35, 1, 50, [1, 7], 0), none, none, some (.invokevirtual 228, 38, 1, 47, [2, 7], 0), none, none, some (.iadd, 39, 0, 0, [], 0), some (.istore_n 2, 40, 2, 0, [], 0), some (.iinc 3 (-1), 43, 3, 0, [], (-1)), none, none, some (.goto (-32), 46, 11, 0, [], 0), none, none, some (.iload_n 2, 47, 2, 0, [], 0), some (.ireturn, 48, 0, 0, [], 0)]])
/-- BrokenLoaves.bakery(I)I -/
def mm_113 : am_M := (⟨"BrokenLoaves", "bakery", "(I)I"⟩, prog_1_method_24_code, 3, (Option.some FieldType.int), [[some (.iload_n 1, 1, 1, 0, [], 0), some (.iconst 0, 2, 0, 0, [], 0), some (.sipush 999, 5, 0, 0, [], 999), none, none, some (.invokestatic 99, 8, 0, 162, [3], 0), none, none, some (.ifCond .ne 5, 11, 13, 0, [], 0), none, none, some (.iconst (-1), 12, 0, 0, [], (-1)), some (.ireturn, 13, 0, 0, [], 0), some (.aload_n 0, 14, 0, 0, [], 0), some (.invokevirtual 234, 17, 1, 111, [0, 11], 0), none],
  [none, some (.istore_n 2, 18, 2, 0, [], 0), some (.iload_n 2, 19, 2, 0, [], 0), some (.ifCond .le 53, 22, 72, 0, [], 0), none, none, some (.aload_n 0, 23, 0, 0, [], 0), some (.getfield 30, 26, 11, 0, [], 0), none, none, some (.aload_n 0, 27, 0, 0, [], 0), some (.getfield 58, 30, 11, 5, [], 0), none, none, some (.aload_n 0, 31, 0, 0, [], 0), some (.getfield 30, 34, 11, 0, [], 0)],
  [none, none, some (.aload_n 0, 35, 0, 0, [], 0), some (.getfield 58, 38, 11, 5, [], 0), none, none, some (.invokevirtual 224, 41, 1, 50, [1, 7], 0), none, none, some (.invokevirtual 228, 44, 1, 47, [2, 7], 0), none, none, some (.pop, 45, 0, 0, [], 0), some (.aload_n 0, 46, 0, 0, [], 0), some (.getfield 58, 49, 11, 5, [], 0), none],
  [none, some (.getfield 178, 52, 1, 2, [], 0), none, none, some (.iload_n 1, 53, 1, 0, [], 0), some (.if_icmp .lt 13, 56, 66, 0, [], 0), none, none, some (.aload_n 0, 57, 0, 0, [], 0), some (.getfield 58, 60, 11, 5, [], 0), none, none, some (.getfield 181, 63, 1, 0, [], 0), none, none, some (.iconst 1, 64, 0, 0, [], 1)],
  [some (.isub, 65, 0, 0, [], 0), some (.ireturn, 66, 0, 0, [], 0), some (.iinc 2 (-1), 69, 2, 0, [], (-1)), none, none, some (.goto (-51), 72, 18, 0, [], 0), none, none, some (.bipush (-3), 74, 0, 0, [], (-3)), none, some (.ireturn, 75, 0, 0, [], 0)]])
/-- BrokenLoaves.winter(I)I -/
def mm_114 : am_M := (⟨"BrokenLoaves", "winter", "(I)I"⟩, prog_1_method_25_code, 5, (Option.some FieldType.int), [[some (.iload_n 1, 1, 1, 0, [], 0), some (.iconst 0, 2, 0, 0, [], 0), some (.iconst 1, 3, 0, 0, [], 1), some (.invokestatic 99, 6, 0, 162, [3], 0), none, none, some (.ifCond .ne 5, 9, 11, 0, [], 0), none, none, some (.iconst (-1), 10, 0, 0, [], (-1)), some (.ireturn, 11, 0, 0, [], 0), some (.iconst 0, 12, 0, 0, [], 0), some (.istore_n 2, 13, 2, 0, [], 0), some (.aload_n 0, 14, 0, 0, [], 0), some (.invokevirtual 234, 17, 1, 111, [0, 11], 0), none],
  [none, some (.istore_n 3, 18, 3, 0, [], 0), some (.iload_n 3, 19, 3, 0, [], 0), some (.ifCond .le 56, 22, 75, 0, [], 0), none, none, some (.aload_n 0, 23, 0, 0, [], 0), some (.getfield 58, 26, 11, 5, [], 0), none, none, some (.getfield 201, 29, 1, 5, [], 0), none, none, some (.istore 4, 31, 4, 0, [], 0), none, some (.aload_n 0, 32, 0, 0, [], 0)],
  [some (.getfield 30, 35, 11, 0, [], 0), none, none, some (.aload_n 0, 36, 0, 0, [], 0), some (.getfield 58, 39, 11, 5, [], 0), none, none, some (.aload_n 0, 40, 0, 0, [], 0), some (.getfield 30, 43, 11, 0, [], 0), none, none, some (.aload_n 0, 44, 0, 0, [], 0), some (.getfield 58, 47, 11, 5, [], 0), none, none, some (.invokevirtual 224, 50, 1, 50, [1, 7], 0)],
  [none, none, some (.invokevirtual 228, 53, 1, 47, [2, 7], 0), none, none, some (.pop, 54, 0, 0, [], 0), some (.aload_n 0, 55, 0, 0, [], 0), some (.getfield 58, 58, 11, 5, [], 0), none, none, some (.getfield 201, 61, 1, 5, [], 0), none, none, some (.iload 4, 63, 4, 0, [], 0), none, some (.if_icmp .ne 6, 66, 69, 0, [], 0)],
  [none, none, some (.iinc 2 1, 69, 2, 0, [], 1), none, none, some (.iinc 3 (-1), 72, 3, 0, [], (-1)), none, none, some (.goto (-54), 75, 18, 0, [], 0), none, none, some (.iload_n 1, 76, 1, 0, [], 0), some (.ifCond .ne 7, 79, 83, 0, [], 0), none, none, some (.iload_n 2, 80, 2, 0, [], 0)],
  [some (.goto 10, 83, 90, 0, [], 0), none, none, some (.aload_n 0, 84, 0, 0, [], 0), some (.getfield 58, 87, 11, 5, [], 0), none, none, some (.getfield 178, 90, 1, 2, [], 0), none, none, some (.ireturn, 91, 0, 0, [], 0)]])
/-- BrokenLoaves.tables(I)I -/
def mm_115 : am_M := (⟨"BrokenLoaves", "tables", "(I)I"⟩, prog_1_method_26_code, 2, (Option.some FieldType.int), [[some (.iload_n 1, 1, 1, 0, [], 0), some (.iconst (-1), 2, 0, 0, [], (-1)), some (.if_icmp .ne 8, 5, 10, 0, [], 0), none, none, some (.aload_n 0, 6, 0, 0, [], 0), some (.invokevirtual 253, 9, 1, 116, [0, 11], 0), none, none, some (.ireturn, 10, 0, 0, [], 0), some (.aload_n 0, 11, 0, 0, [], 0), some (.getfield 30, 14, 11, 0, [], 0), none, none, some (.iload_n 1, 15, 1, 0, [], 0), some (.invokevirtual 119, 18, 1, 38, [1, 7], 0)],
  [none, none, some (.ifCond .ne 5, 21, 23, 0, [], 0), none, none, some (.iconst (-1), 22, 0, 0, [], (-1)), some (.ireturn, 23, 0, 0, [], 0), some (.aload_n 0, 24, 0, 0, [], 0), some (.getfield 30, 27, 11, 0, [], 0), none, none, some (.iload_n 1, 28, 1, 0, [], 0), some (.invokevirtual 256, 31, 1, 56, [1, 7], 0), none, none, some (.ireturn, 32, 0, 0, [], 0)]])
/-- BrokenLoaves.countTables()I -/
def mm_116 : am_M := (⟨"BrokenLoaves", "countTables", "()I"⟩, prog_1_method_27_code, 5, (Option.some FieldType.int), [[some (.iconst 0, 1, 0, 0, [], 0), some (.istore_n 1, 2, 1, 0, [], 0), some (.iconst 0, 3, 0, 0, [], 0), some (.istore_n 2, 4, 2, 0, [], 0), some (.iconst 0, 5, 0, 0, [], 0), some (.istore_n 3, 6, 3, 0, [], 0), some (.iload_n 3, 7, 3, 0, [], 0), some (.aload_n 0, 8, 0, 0, [], 0), some (.getfield 30, 11, 11, 0, [], 0), none, none, some (.getfield 103, 14, 7, 2, [], 0), none, none, some (.if_icmp .ge 36, 17, 50, 0, [], 0), none],
  [none, some (.aload_n 0, 18, 0, 0, [], 0), some (.getfield 30, 21, 11, 0, [], 0), none, none, some (.iload_n 3, 22, 3, 0, [], 0), some (.invokevirtual 256, 25, 1, 56, [1, 7], 0), none, none, some (.istore 4, 27, 4, 0, [], 0), none, some (.iload 4, 29, 4, 0, [], 0), none, some (.iload_n 1, 30, 1, 0, [], 0), some (.iconst (-1), 31, 0, 0, [], (-1)), some (.ixor, 32, 0, 0, [], 0)],
  [some (.iand, 33, 0, 0, [], 0), some (.ifCond .eq 6, 36, 39, 0, [], 0), none, none, some (.iinc 2 1, 39, 2, 0, [], 1), none, none, some (.iload_n 1, 40, 1, 0, [], 0), some (.iload 4, 42, 4, 0, [], 0), none, some (.ior, 43, 0, 0, [], 0), some (.istore_n 1, 44, 1, 0, [], 0), some (.iinc 3 1, 47, 3, 0, [], 1), none, none, some (.goto (-41), 50, 6, 0, [], 0)],
  [none, none, some (.iload_n 2, 51, 2, 0, [], 0), some (.ireturn, 52, 0, 0, [], 0)]])
/-- BrokenLoaves.rounds(II)I -/
def mm_117 : am_M := (⟨"BrokenLoaves", "rounds", "(II)I"⟩, prog_1_method_28_code, 7, (Option.some FieldType.int), [[some (.iload_n 1, 1, 1, 0, [], 0), some (.iconst 0, 2, 0, 0, [], 0), some (.sipush 999, 5, 0, 0, [], 999), none, none, some (.invokestatic 99, 8, 0, 162, [3], 0), none, none, some (.ifCond .eq 12, 11, 20, 0, [], 0), none, none, some (.iload_n 2, 12, 2, 0, [], 0), some (.iconst 0, 13, 0, 0, [], 0), some (.iconst 1, 14, 0, 0, [], 1), some (.invokestatic 99, 17, 0, 162, [3], 0), none],
  [none, some (.ifCond .ne 5, 20, 22, 0, [], 0), none, none, some (.iconst (-1), 21, 0, 0, [], (-1)), some (.ireturn, 22, 0, 0, [], 0), some (.aload_n 0, 23, 0, 0, [], 0), some (.getfield 30, 26, 11, 0, [], 0), none, none, some (.invokevirtual 259, 29, 1, 55, [0, 7], 0), none, none, some (.istore_n 3, 30, 3, 0, [], 0), some (.aload_n 0, 31, 0, 0, [], 0), some (.getfield 30, 34, 11, 0, [], 0)],
  [none, none, some (.iload_n 1, 35, 1, 0, [], 0), some (.iload_n 3, 36, 3, 0, [], 0), some (.invokevirtual 262, 39, 1, 58, [2, 7], 0), none, none, some (.istore 4, 41, 4, 0, [], 0), none, some (.iload_n 2, 42, 2, 0, [], 0), some (.ifCond .ne 6, 45, 48, 0, [], 0), none, none, some (.iload 4, 47, 4, 0, [], 0), none, some (.ireturn, 48, 0, 0, [], 0)],
  [some (.iconst 0, 49, 0, 0, [], 0), some (.istore 5, 51, 5, 0, [], 0), none, some (.iload 5, 53, 5, 0, [], 0), none, some (.aload_n 0, 54, 0, 0, [], 0), some (.getfield 30, 57, 11, 0, [], 0), none, none, some (.getfield 103, 60, 7, 2, [], 0), none, none, some (.if_icmp .ge 49, 63, 109, 0, [], 0), none, none, some (.iload_n 3, 64, 3, 0, [], 0)],
  [some (.iconst 1, 65, 0, 0, [], 1), some (.iload 5, 67, 5, 0, [], 0), none, some (.ishl, 68, 0, 0, [], 0), some (.iand, 69, 0, 0, [], 0), some (.ifCond .eq 7, 72, 76, 0, [], 0), none, none, some (.iconst 1, 73, 0, 0, [], 1), some (.goto 4, 76, 77, 0, [], 0), none, none, some (.iconst 0, 77, 0, 0, [], 0), some (.istore 6, 79, 6, 0, [], 0), none, some (.iload 6, 81, 6, 0, [], 0)],
  [none, some (.ifCond .eq 22, 84, 103, 0, [], 0), none, none, some (.aload_n 0, 85, 0, 0, [], 0), some (.getfield 30, 88, 11, 0, [], 0), none, none, some (.iload_n 1, 89, 1, 0, [], 0), some (.iload 5, 91, 5, 0, [], 0), none, some (.iload_n 3, 92, 3, 0, [], 0), some (.invokevirtual 265, 95, 1, 59, [3, 7], 0), none, none, some (.iload 4, 97, 4, 0, [], 0)],
  [none, some (.if_icmp .ne 6, 100, 103, 0, [], 0), none, none, some (.iload 5, 102, 5, 0, [], 0), none, some (.ireturn, 103, 0, 0, [], 0), some (.iinc 5 1, 106, 5, 0, [], 1), none, none, some (.goto (-55), 109, 51, 0, [], 0), none, none, some (.bipush (-3), 111, 0, 0, [], (-3)), none, some (.ireturn, 112, 0, 0, [], 0)]])
/-- BrokenLoaves.best(I)I -/
def mm_118 : am_M := (⟨"BrokenLoaves", "best", "(I)I"⟩, prog_1_method_29_code, 2, (Option.some FieldType.int), [[some (.iload_n 1, 1, 1, 0, [], 0), some (.iconst 0, 2, 0, 0, [], 0), some (.iconst 4, 3, 0, 0, [], 4), some (.invokestatic 99, 6, 0, 162, [3], 0), none, none, some (.ifCond .ne 5, 9, 11, 0, [], 0), none, none, some (.iconst (-1), 10, 0, 0, [], (-1)), some (.ireturn, 11, 0, 0, [], 0), some (.aload_n 0, 12, 0, 0, [], 0), some (.getfield 51, 15, 11, 4, [], 0), none, none, some (.iload_n 1, 16, 1, 0, [], 0)],
  [some (.iconst 0, 17, 0, 0, [], 0), some (.invokevirtual 269, 20, 1, 30, [2, 6], 0), none, none, some (.aload_n 0, 21, 0, 0, [], 0), some (.getfield 51, 24, 11, 4, [], 0), none, none, some (.getfield 272, 27, 6, 5, [], 0), none, none, some (.ireturn, 28, 0, 0, [], 0)]])
/-- BrokenLoaves.ith(II)I -/
def mm_119 : am_M := (⟨"BrokenLoaves", "ith", "(II)I"⟩, prog_1_method_30_code, 3, (Option.some FieldType.int), [[some (.iload_n 1, 1, 1, 0, [], 0), some (.iconst 0, 2, 0, 0, [], 0), some (.iconst 4, 3, 0, 0, [], 4), some (.invokestatic 99, 6, 0, 162, [3], 0), none, none, some (.ifCond .eq 12, 9, 18, 0, [], 0), none, none, some (.iload_n 2, 10, 2, 0, [], 0), some (.iconst 0, 11, 0, 0, [], 0), some (.iconst 3, 12, 0, 0, [], 3), some (.invokestatic 99, 15, 0, 162, [3], 0), none, none, some (.ifCond .ne 5, 18, 20, 0, [], 0)],
  [none, none, some (.iconst (-1), 19, 0, 0, [], (-1)), some (.ireturn, 20, 0, 0, [], 0), some (.aload_n 0, 21, 0, 0, [], 0), some (.getfield 51, 24, 11, 4, [], 0), none, none, some (.iload_n 1, 25, 1, 0, [], 0), some (.iconst 0, 26, 0, 0, [], 0), some (.invokevirtual 269, 29, 1, 30, [2, 6], 0), none, none, some (.iload_n 2, 30, 2, 0, [], 0), some (.aload_n 0, 31, 0, 0, [], 0), some (.getfield 51, 34, 11, 4, [], 0)],
  [none, none, some (.getfield 275, 37, 6, 4, [], 0), none, none, some (.if_icmp .ge 15, 40, 52, 0, [], 0), none, none, some (.aload_n 0, 41, 0, 0, [], 0), some (.getfield 51, 44, 11, 4, [], 0), none, none, some (.getfield 276, 47, 6, 7, [], 0), none, none, some (.iload_n 2, 48, 2, 0, [], 0)],
  [some (.iaload, 49, 0, 0, [], 0), some (.goto 5, 52, 54, 0, [], 0), none, none, some (.bipush (-3), 54, 0, 0, [], (-3)), none, some (.ireturn, 55, 0, 0, [], 0)]])
/-- BrokenLoaves.ways(I)I -/
def mm_120 : am_M := (⟨"BrokenLoaves", "ways", "(I)I"⟩, prog_1_method_31_code, 2, (Option.some FieldType.int), [[some (.iload_n 1, 1, 1, 0, [], 0), some (.iconst 0, 2, 0, 0, [], 0), some (.iconst 4, 3, 0, 0, [], 4), some (.invokestatic 99, 6, 0, 162, [3], 0), none, none, some (.ifCond .ne 5, 9, 11, 0, [], 0), none, none, some (.iconst (-1), 10, 0, 0, [], (-1)), some (.ireturn, 11, 0, 0, [], 0), some (.aload_n 0, 12, 0, 0, [], 0), some (.getfield 51, 15, 11, 4, [], 0), none, none, some (.iload_n 1, 16, 1, 0, [], 0)],
  [some (.iconst 0, 17, 0, 0, [], 0), some (.invokevirtual 269, 20, 1, 30, [2, 6], 0), none, none, some (.aload_n 0, 21, 0, 0, [], 0), some (.getfield 51, 24, 11, 4, [], 0), none, none, some (.getfield 279, 27, 6, 6, [], 0), none, none, some (.ireturn, 28, 0, 0, [], 0)]])
/-- BrokenLoaves.feast(II)I -/
def mm_121 : am_M := (⟨"BrokenLoaves", "feast", "(II)I"⟩, prog_1_method_32_code, 3, (Option.some FieldType.int), [[some (.iload_n 1, 1, 1, 0, [], 0), some (.iconst 0, 2, 0, 0, [], 0), some (.iconst 4, 3, 0, 0, [], 4), some (.invokestatic 99, 6, 0, 162, [3], 0), none, none, some (.ifCond .eq 11, 9, 17, 0, [], 0), none, none, some (.aload_n 0, 10, 0, 0, [], 0), some (.iload_n 2, 11, 2, 0, [], 0), some (.invokevirtual 282, 14, 1, 123, [1, 11], 0), none, none, some (.ifCond .ne 5, 17, 19, 0, [], 0), none],
  [none, some (.iconst (-1), 18, 0, 0, [], (-1)), some (.ireturn, 19, 0, 0, [], 0), some (.aload_n 0, 20, 0, 0, [], 0), some (.getfield 51, 23, 11, 4, [], 0), none, none, some (.iload_n 1, 24, 1, 0, [], 0), some (.iload_n 2, 25, 2, 0, [], 0), some (.invokevirtual 269, 28, 1, 30, [2, 6], 0), none, none, some (.aload_n 0, 29, 0, 0, [], 0), some (.getfield 51, 32, 11, 4, [], 0), none, none],
  [some (.getfield 285, 35, 6, 8, [], 0), none, none, some (.ifCond .ge 8, 38, 43, 0, [], 0), none, none, some (.bipush (-3), 40, 0, 0, [], (-3)), none, some (.goto 10, 43, 50, 0, [], 0), none, none, some (.aload_n 0, 44, 0, 0, [], 0), some (.getfield 51, 47, 11, 4, [], 0), none, none, some (.getfield 285, 50, 6, 8, [], 0)],
  [none, none, some (.ireturn, 51, 0, 0, [], 0)]])
end
section
/-- BrokenLoaves.bars(II)I -/
def mm_122 : am_M := (⟨"BrokenLoaves", "bars", "(II)I"⟩, prog_1_method_33_code, 3, (Option.some FieldType.int), [[some (.iload_n 1, 1, 1, 0, [], 0), some (.iconst 0, 2, 0, 0, [], 0), some (.iconst 4, 3, 0, 0, [], 4), some (.invokestatic 99, 6, 0, 162, [3], 0), none, none, some (.ifCond .eq 11, 9, 17, 0, [], 0), none, none, some (.aload_n 0, 10, 0, 0, [], 0), some (.iload_n 2, 11, 2, 0, [], 0), some (.invokevirtual 282, 14, 1, 123, [1, 11], 0), none, none, some (.ifCond .ne 5, 17, 19, 0, [], 0), none],
  [none, some (.iconst (-1), 18, 0, 0, [], (-1)), some (.ireturn, 19, 0, 0, [], 0), some (.aload_n 0, 20, 0, 0, [], 0), some (.getfield 51, 23, 11, 4, [], 0), none, none, some (.iload_n 1, 24, 1, 0, [], 0), some (.iload_n 2, 25, 2, 0, [], 0), some (.invokevirtual 269, 28, 1, 30, [2, 6], 0), none, none, some (.iload_n 2, 29, 2, 0, [], 0), some (.aload_n 0, 30, 0, 0, [], 0), some (.getfield 51, 33, 11, 4, [], 0), none],
  [none, some (.getfield 288, 36, 6, 9, [], 0), none, none, some (.iconst (-1), 37, 0, 0, [], (-1)), some (.ixor, 38, 0, 0, [], 0), some (.iand, 39, 0, 0, [], 0), some (.invokestatic 291, 42, 0, 124, [1], 0), none, none, some (.ireturn, 43, 0, 0, [], 0)]])
/-- BrokenLoaves.isSetOfPeople(I)Z -/
def mm_123 : am_M := (⟨"BrokenLoaves", "isSetOfPeople", "(I)Z"⟩, prog_1_method_34_code, 2, (Option.some FieldType.boolean), [[some (.iload_n 1, 1, 1, 0, [], 0), some (.iconst 0, 2, 0, 0, [], 0), some (.iconst 1, 3, 0, 0, [], 1), some (.aload_n 0, 4, 0, 0, [], 0), some (.getfield 30, 7, 11, 0, [], 0), none, none, some (.getfield 103, 10, 7, 2, [], 0), none, none, some (.ishl, 11, 0, 0, [], 0), some (.iconst 1, 12, 0, 0, [], 1), some (.isub, 13, 0, 0, [], 0), some (.invokestatic 99, 16, 0, 162, [3], 0), none, none],
  [some (.ireturn, 17, 2, 0, [], 0)]])
/-- BrokenLoaves.leastOf(I)I -/
def mm_124 : am_M := (⟨"BrokenLoaves", "leastOf", "(I)I"⟩, prog_1_method_35_code, 1, (Option.some FieldType.int), [[some (.iload_n 0, 1, 0, 0, [], 0), some (.ifCond .ne 8, 4, 9, 0, [], 0), none, none, some (.bipush (-3), 6, 0, 0, [], (-3)), none, some (.goto 7, 9, 13, 0, [], 0), none, none, some (.iload_n 0, 10, 0, 0, [], 0), some (.invokestatic 294, 13, 0, 0, [1], 0), none, none, some (.ireturn, 14, 0, 0, [], 0)]])
/-- BrokenLoaves.game(I)I -/
def mm_125 : am_M := (⟨"BrokenLoaves", "game", "(I)I"⟩, prog_1_method_36_code, 2, (Option.some FieldType.int), [[some (.iload_n 1, 1, 1, 0, [], 0), some (.iconst 1, 2, 0, 0, [], 1), some (.iconst 4, 3, 0, 0, [], 4), some (.invokestatic 99, 6, 0, 162, [3], 0), none, none, some (.ifCond .ne 5, 9, 11, 0, [], 0), none, none, some (.iconst (-1), 10, 0, 0, [], (-1)), some (.ireturn, 11, 0, 0, [], 0), some (.aload_n 0, 12, 0, 0, [], 0), some (.getfield 51, 15, 11, 4, [], 0), none, none, some (.iload_n 1, 16, 1, 0, [], 0)],
  [some (.invokevirtual 299, 19, 1, 33, [1, 6], 0), none, none, some (.ireturn, 20, 0, 0, [], 0)]])
/-- BrokenLoaves.play(I)I -/
def mm_126 : am_M := (⟨"BrokenLoaves", "play", "(I)I"⟩, prog_1_method_37_code, 2, (Option.some FieldType.int), [[some (.iload_n 1, 1, 1, 0, [], 0), some (.iconst 1, 2, 0, 0, [], 1), some (.iconst 4, 3, 0, 0, [], 4), some (.invokestatic 99, 6, 0, 162, [3], 0), none, none, some (.ifCond .ne 5, 9, 11, 0, [], 0), none, none, some (.iconst (-1), 10, 0, 0, [], (-1)), some (.ireturn, 11, 0, 0, [], 0), some (.aload_n 0, 12, 0, 0, [], 0), some (.getfield 30, 15, 11, 0, [], 0), none, none, some (.aload_n 0, 16, 0, 0, [], 0)],
  [some (.getfield 30, 19, 11, 0, [], 0), none, none, some (.getfield 123, 22, 7, 1, [], 0), none, none, some (.invokevirtual 193, 25, 1, 40, [1, 7], 0), none, none, some (.ifCond .eq 6, 28, 31, 0, [], 0), none, none, some (.bipush (-3), 30, 0, 0, [], (-3)), none, some (.ireturn, 31, 0, 0, [], 0), some (.aload_n 0, 32, 0, 0, [], 0)],
  [some (.getfield 51, 35, 11, 4, [], 0), none, none, some (.iload_n 1, 36, 1, 0, [], 0), some (.invokevirtual 299, 39, 1, 33, [1, 6], 0), none, none, some (.pop, 40, 0, 0, [], 0), some (.aload_n 0, 41, 0, 0, [], 0), some (.getfield 51, 44, 11, 4, [], 0), none, none, some (.getfield 302, 47, 6, 10, [], 0), none, none, some (.ireturn, 48, 0, 0, [], 0)]])
/-- BrokenLoaves.report(IIII)I -/
def mm_127 : am_M := (⟨"BrokenLoaves", "report", "(IIII)I"⟩, prog_1_method_38_code, 7, (Option.some FieldType.int), [[some (.iload_n 1, 1, 1, 0, [], 0), some (.iconst 0, 2, 0, 0, [], 0), some (.bipush 15, 4, 0, 0, [], 15), none, some (.invokestatic 99, 7, 0, 162, [3], 0), none, none, some (.ifCond .eq 12, 10, 19, 0, [], 0), none, none, some (.iload_n 2, 11, 2, 0, [], 0), some (.iconst 0, 12, 0, 0, [], 0), some (.iconst 1, 13, 0, 0, [], 1), some (.invokestatic 99, 16, 0, 162, [3], 0), none, none],
  [some (.ifCond .ne 5, 19, 21, 0, [], 0), none, none, some (.iconst (-1), 20, 0, 0, [], (-1)), some (.ireturn, 21, 0, 0, [], 0), some (.iload_n 2, 22, 2, 0, [], 0), some (.ifCond .ne 9, 25, 31, 0, [], 0), none, none, some (.sipush 999, 28, 0, 0, [], 999), none, none, some (.goto 5, 31, 33, 0, [], 0), none, none, some (.bipush 9, 33, 0, 0, [], 9)],
  [none, some (.istore 5, 35, 5, 0, [], 0), none, some (.iload_n 3, 36, 3, 0, [], 0), some (.iconst 0, 37, 0, 0, [], 0), some (.iload 5, 39, 5, 0, [], 0), none, some (.invokestatic 99, 42, 0, 162, [3], 0), none, none, some (.ifCond .eq 14, 45, 56, 0, [], 0), none, none, some (.iload 4, 47, 4, 0, [], 0), none, some (.iload_n 3, 48, 3, 0, [], 0)],
  [some (.iload 5, 50, 5, 0, [], 0), none, some (.invokestatic 99, 53, 0, 162, [3], 0), none, none, some (.ifCond .ne 5, 56, 58, 0, [], 0), none, none, some (.iconst (-1), 57, 0, 0, [], (-1)), some (.ireturn, 58, 0, 0, [], 0), some (.aload_n 0, 59, 0, 0, [], 0), some (.getfield 30, 62, 11, 0, [], 0), none, none, some (.getfield 305, 65, 7, 15, [], 0), none],
  [none, some (.bipush 6, 67, 0, 0, [], 6), none, some (.if_icmp .lt 6, 70, 73, 0, [], 0), none, none, some (.bipush (-2), 72, 0, 0, [], (-2)), none, some (.ireturn, 73, 0, 0, [], 0), some (.aload_n 0, 74, 0, 0, [], 0), some (.getfield 30, 77, 11, 0, [], 0), none, none, some (.getfield 305, 80, 7, 15, [], 0), none, none],
  [some (.istore 6, 82, 6, 0, [], 0), none, some (.aload_n 0, 83, 0, 0, [], 0), some (.getfield 30, 86, 11, 0, [], 0), none, none, some (.getfield 308, 89, 7, 16, [], 0), none, none, some (.iload 6, 91, 6, 0, [], 0), none, some (.iload_n 1, 92, 1, 0, [], 0), some (.iastore, 93, 0, 0, [], 0), some (.aload_n 0, 94, 0, 0, [], 0), some (.getfield 30, 97, 11, 0, [], 0), none],
  [none, some (.getfield 311, 100, 7, 17, [], 0), none, none, some (.iload 6, 102, 6, 0, [], 0), none, some (.iload_n 2, 103, 2, 0, [], 0), some (.iastore, 104, 0, 0, [], 0), some (.aload_n 0, 105, 0, 0, [], 0), some (.getfield 30, 108, 11, 0, [], 0), none, none, some (.getfield 314, 111, 7, 18, [], 0), none, none, some (.iload 6, 113, 6, 0, [], 0)],
  [none, some (.iload_n 3, 114, 3, 0, [], 0), some (.iastore, 115, 0, 0, [], 0), some (.aload_n 0, 116, 0, 0, [], 0), some (.getfield 30, 119, 11, 0, [], 0), none, none, some (.getfield 317, 122, 7, 19, [], 0), none, none, some (.iload 6, 124, 6, 0, [], 0), none, some (.iload 4, 126, 4, 0, [], 0), none, some (.iastore, 127, 0, 0, [], 0), some (.aload_n 0, 128, 0, 0, [], 0)],
  [some (.getfield 30, 131, 11, 0, [], 0), none, none, some (.iload 6, 133, 6, 0, [], 0), none, some (.iconst 1, 134, 0, 0, [], 1), some (.iadd, 135, 0, 0, [], 0), some (.putfield 305, 138, 7, 15, [], 0), none, none, some (.iload 6, 140, 6, 0, [], 0), none, some (.ireturn, 141, 0, 0, [], 0)]])
/-- BrokenLoaves.forget()I -/
def mm_128 : am_M := (⟨"BrokenLoaves", "forget", "()I"⟩, prog_1_method_39_code, 2, (Option.some FieldType.int), [[some (.aload_n 0, 1, 0, 0, [], 0), some (.getfield 30, 4, 11, 0, [], 0), none, none, some (.getfield 305, 7, 7, 15, [], 0), none, none, some (.istore_n 1, 8, 1, 0, [], 0), some (.aload_n 0, 9, 0, 0, [], 0), some (.getfield 30, 12, 11, 0, [], 0), none, none, some (.iconst 0, 13, 0, 0, [], 0), some (.putfield 305, 16, 7, 15, [], 0), none, none],
  [some (.iload_n 1, 17, 1, 0, [], 0), some (.ireturn, 18, 0, 0, [], 0)]])
/-- BrokenLoaves.tales(I)I -/
def mm_129 : am_M := (⟨"BrokenLoaves", "tales", "(I)I"⟩, prog_1_method_40_code, 5, (Option.some FieldType.int), [[some (.iload_n 1, 1, 1, 0, [], 0), some (.iconst 0, 2, 0, 0, [], 0), some (.iconst 3, 3, 0, 0, [], 3), some (.invokestatic 99, 6, 0, 162, [3], 0), none, none, some (.ifCond .ne 5, 9, 11, 0, [], 0), none, none, some (.iconst (-1), 10, 0, 0, [], (-1)), some (.ireturn, 11, 0, 0, [], 0), some (.iconst 0, 12, 0, 0, [], 0), some (.istore_n 2, 13, 2, 0, [], 0), some (.bipush (-3), 15, 0, 0, [], (-3)), none, some (.istore_n 3, 16, 3, 0, [], 0)],
  [some (.iconst 0, 17, 0, 0, [], 0), some (.istore 4, 19, 4, 0, [], 0), none, some (.iload 4, 21, 4, 0, [], 0), none, some (.sipush 500, 24, 0, 0, [], 500), none, none, some (.if_icmp .ge 31, 27, 55, 0, [], 0), none, none, some (.aload_n 0, 28, 0, 0, [], 0), some (.getfield 30, 31, 11, 0, [], 0), none, none, some (.iload 4, 33, 4, 0, [], 0)],
  [none, some (.invokevirtual 320, 36, 1, 63, [1, 7], 0), none, none, some (.ifCond .ne 13, 39, 49, 0, [], 0), none, none, some (.iload_n 2, 40, 2, 0, [], 0), some (.ifCond .ne 6, 43, 46, 0, [], 0), none, none, some (.iload 4, 45, 4, 0, [], 0), none, some (.istore_n 3, 46, 3, 0, [], 0), some (.iinc 2 1, 49, 2, 0, [], 1), none],
  [none, some (.iinc 4 1, 52, 4, 0, [], 1), none, none, some (.goto (-33), 55, 19, 0, [], 0), none, none, some (.iload_n 1, 56, 1, 0, [], 0), some (.ifCond .ne 5, 59, 61, 0, [], 0), none, none, some (.iload_n 2, 60, 2, 0, [], 0), some (.ireturn, 61, 0, 0, [], 0), some (.iload_n 2, 62, 2, 0, [], 0), some (.ifCond .ne 6, 65, 68, 0, [], 0), none],
  [none, some (.bipush (-3), 67, 0, 0, [], (-3)), none, some (.ireturn, 68, 0, 0, [], 0), some (.iload_n 1, 69, 1, 0, [], 0), some (.iconst 1, 70, 0, 0, [], 1), some (.if_icmp .ne 8, 73, 78, 0, [], 0), none, none, some (.iload_n 3, 74, 3, 0, [], 0), some (.invokestatic 323, 77, 0, 60, [1], 0), none, none, some (.ireturn, 78, 0, 0, [], 0), some (.iload_n 1, 79, 1, 0, [], 0), some (.iconst 2, 80, 0, 0, [], 2)],
  [some (.if_icmp .ne 10, 83, 90, 0, [], 0), none, none, some (.iload_n 3, 84, 3, 0, [], 0), some (.invokestatic 326, 87, 0, 61, [1], 0), none, none, some (.goto 7, 90, 94, 0, [], 0), none, none, some (.iload_n 3, 91, 3, 0, [], 0), some (.invokestatic 329, 94, 0, 62, [1], 0), none, none, some (.ireturn, 95, 0, 0, [], 0)]])
/-- BrokenLoaves.liar()I -/
def mm_130 : am_M := (⟨"BrokenLoaves", "liar", "()I"⟩, prog_1_method_41_code, 4, (Option.some FieldType.int), [[some (.iconst 0, 1, 0, 0, [], 0), some (.istore_n 1, 2, 1, 0, [], 0), some (.iconst 0, 3, 0, 0, [], 0), some (.istore_n 2, 4, 2, 0, [], 0), some (.iload_n 2, 5, 2, 0, [], 0), some (.sipush 500, 8, 0, 0, [], 500), none, none, some (.if_icmp .ge 37, 11, 45, 0, [], 0), none, none, some (.aload_n 0, 12, 0, 0, [], 0), some (.getfield 30, 15, 11, 0, [], 0), none, none, some (.iload_n 2, 16, 2, 0, [], 0)],
  [some (.invokevirtual 320, 19, 1, 63, [1, 7], 0), none, none, some (.istore_n 3, 20, 3, 0, [], 0), some (.iload_n 3, 21, 3, 0, [], 0), some (.ifCond .ne 6, 24, 27, 0, [], 0), none, none, some (.bipush (-3), 26, 0, 0, [], (-3)), none, some (.ireturn, 27, 0, 0, [], 0), some (.iload_n 3, 28, 3, 0, [], 0), some (.invokestatic 332, 31, 0, 1, [1], 0), none, none, some (.iconst 1, 32, 0, 0, [], 1)],
  [some (.if_icmp .ne 7, 35, 39, 0, [], 0), none, none, some (.iload_n 1, 36, 1, 0, [], 0), some (.iload_n 3, 37, 3, 0, [], 0), some (.ior, 38, 0, 0, [], 0), some (.istore_n 1, 39, 1, 0, [], 0), some (.iinc 2 1, 42, 2, 0, [], 1), none, none, some (.goto (-38), 45, 4, 0, [], 0), none, none, some (.iload_n 1, 46, 1, 0, [], 0), some (.invokestatic 291, 49, 0, 124, [1], 0), none],
  [none, some (.ireturn, 50, 0, 0, [], 0)]])
/-- BrokenLoaves.seed(I)I -/
def mm_131 : am_M := (⟨"BrokenLoaves", "seed", "(I)I"⟩, prog_1_method_42_code, 3, (Option.some FieldType.int), [[some (.aload_n 0, 1, 0, 0, [], 0), some (.getfield 30, 4, 11, 0, [], 0), none, none, some (.getfield 335, 7, 7, 11, [], 0), none, none, some (.istore_n 2, 8, 2, 0, [], 0), some (.aload_n 0, 9, 0, 0, [], 0), some (.getfield 30, 12, 11, 0, [], 0), none, none, some (.iload_n 1, 13, 1, 0, [], 0), some (.putfield 335, 16, 7, 11, [], 0), none, none],
  [some (.iload_n 2, 17, 2, 0, [], 0), some (.ireturn, 18, 0, 0, [], 0)]])
/-- BrokenLoaves.lot()I -/
def mm_132 : am_M := (⟨"BrokenLoaves", "lot", "()I"⟩, prog_1_method_43_code, 1, (Option.some FieldType.int), [[some (.aload_n 0, 1, 0, 0, [], 0), some (.getfield 30, 4, 11, 0, [], 0), none, none, some (.aload_n 0, 5, 0, 0, [], 0), some (.getfield 30, 8, 11, 0, [], 0), none, none, some (.getfield 123, 11, 7, 1, [], 0), none, none, some (.invokevirtual 193, 14, 1, 40, [1, 7], 0), none, none, some (.ifCond .eq 6, 17, 20, 0, [], 0), none],
  [none, some (.bipush (-4), 19, 0, 0, [], (-4)), none, some (.ireturn, 20, 0, 0, [], 0), some (.aload_n 0, 21, 0, 0, [], 0), some (.getfield 30, 24, 11, 0, [], 0), none, none, some (.aload_n 0, 25, 0, 0, [], 0), some (.getfield 30, 28, 11, 0, [], 0), none, none, some (.getfield 335, 31, 7, 11, [], 0), none, none, some (.invokestatic 338, 34, 0, 134, [1], 0)],
  [none, none, some (.putfield 335, 37, 7, 11, [], 0), none, none, some (.aload_n 0, 38, 0, 0, [], 0), some (.getfield 30, 41, 11, 0, [], 0), none, none, some (.aload_n 0, 42, 0, 0, [], 0), some (.getfield 30, 45, 11, 0, [], 0), none, none, some (.getfield 123, 48, 7, 1, [], 0), none, none],
  [some (.aload_n 0, 49, 0, 0, [], 0), some (.aload_n 0, 50, 0, 0, [], 0), some (.getfield 30, 53, 11, 0, [], 0), none, none, some (.getfield 335, 56, 7, 11, [], 0), none, none, some (.invokevirtual 341, 59, 1, 135, [1, 11], 0), none, none, some (.invokevirtual 228, 62, 1, 47, [2, 7], 0), none, none, some (.ireturn, 63, 0, 0, [], 0)]])
/-- BrokenLoaves.times(II)I -/
def mm_133 : am_M := (⟨"BrokenLoaves", "times", "(II)I"⟩, prog_1_method_44_code, 8, (Option.some FieldType.int), [[some (.iload_n 1, 1, 1, 0, [], 0), some (.iconst 1, 2, 0, 0, [], 1), some (.bipush 40, 4, 0, 0, [], 40), none, some (.invokestatic 99, 7, 0, 162, [3], 0), none, none, some (.ifCond .eq 14, 10, 21, 0, [], 0), none, none, some (.iload_n 2, 11, 2, 0, [], 0), some (.iconst 0, 12, 0, 0, [], 0), some (.sipush 999, 15, 0, 0, [], 999), none, none, some (.invokestatic 99, 18, 0, 162, [3], 0)],
  [none, none, some (.ifCond .ne 5, 21, 23, 0, [], 0), none, none, some (.iconst (-1), 22, 0, 0, [], (-1)), some (.ireturn, 23, 0, 0, [], 0), some (.aload_n 0, 24, 0, 0, [], 0), some (.getfield 30, 27, 11, 0, [], 0), none, none, some (.getfield 335, 30, 7, 11, [], 0), none, none, some (.istore_n 3, 31, 3, 0, [], 0), some (.iconst 0, 32, 0, 0, [], 0)],
  [some (.istore 4, 34, 4, 0, [], 0), none, some (.iconst 0, 35, 0, 0, [], 0), some (.istore 5, 37, 5, 0, [], 0), none, some (.iload 5, 39, 5, 0, [], 0), none, some (.iload_n 1, 40, 1, 0, [], 0), some (.if_icmp .ge 64, 43, 104, 0, [], 0), none, none, some (.iconst 0, 44, 0, 0, [], 0), some (.istore 6, 46, 6, 0, [], 0), none, some (.aload_n 0, 47, 0, 0, [], 0), some (.invokevirtual 234, 50, 1, 111, [0, 11], 0)],
  [none, none, some (.istore 7, 52, 7, 0, [], 0), none, some (.iload 7, 54, 7, 0, [], 0), none, some (.ifCond .le 35, 57, 89, 0, [], 0), none, none, some (.iload_n 3, 58, 3, 0, [], 0), some (.invokestatic 338, 61, 0, 134, [1], 0), none, none, some (.istore_n 3, 62, 3, 0, [], 0), some (.iload 6, 64, 6, 0, [], 0), none],
  [some (.aload_n 0, 65, 0, 0, [], 0), some (.getfield 30, 68, 11, 0, [], 0), none, none, some (.aload_n 0, 69, 0, 0, [], 0), some (.getfield 58, 72, 11, 5, [], 0), none, none, some (.aload_n 0, 73, 0, 0, [], 0), some (.iload_n 3, 74, 3, 0, [], 0), some (.invokevirtual 341, 77, 1, 135, [1, 11], 0), none, none, some (.invokevirtual 228, 80, 1, 47, [2, 7], 0), none, none],
  [some (.iadd, 81, 0, 0, [], 0), some (.istore 6, 83, 6, 0, [], 0), none, some (.iinc 7 (-1), 86, 7, 0, [], (-1)), none, none, some (.goto (-34), 89, 52, 0, [], 0), none, none, some (.iload 6, 91, 6, 0, [], 0), none, some (.iload_n 2, 92, 2, 0, [], 0), some (.if_icmp .lt 6, 95, 98, 0, [], 0), none, none, some (.iinc 4 1, 98, 4, 0, [], 1)],
  [none, none, some (.iinc 5 1, 101, 5, 0, [], 1), none, none, some (.goto (-64), 104, 37, 0, [], 0), none, none, some (.iload 4, 106, 4, 0, [], 0), none, some (.ireturn, 107, 0, 0, [], 0)]])
/-- BrokenLoaves.nextChance(I)I -/
def mm_134 : am_M := (⟨"BrokenLoaves", "nextChance", "(I)I"⟩, prog_1_method_45_code, 1, (Option.some FieldType.int), [[some (.iload_n 0, 1, 0, 0, [], 0), some (.ldc_w 344, 4, 0, 344, [], 1103515245), none, none, some (.imul, 5, 0, 0, [], 0), some (.sipush 12345, 8, 0, 0, [], 12345), none, none, some (.iadd, 9, 0, 0, [], 0), some (.ireturn, 10, 0, 0, [], 0)]])
/-- BrokenLoaves.actByChance(I)I -/
def mm_135 : am_M := (⟨"BrokenLoaves", "actByChance", "(I)I"⟩, prog_1_method_46_code, 2, (Option.some FieldType.int), [[some (.iload_n 1, 1, 1, 0, [], 0), some (.bipush 16, 3, 0, 0, [], 16), none, some (.iushr, 4, 0, 0, [], 0), some (.aload_n 0, 5, 0, 0, [], 0), some (.getfield 30, 8, 11, 0, [], 0), none, none, some (.getfield 103, 11, 7, 2, [], 0), none, none, some (.iconst 1, 12, 0, 0, [], 1), some (.iadd, 13, 0, 0, [], 0), some (.irem, 14, 0, 0, [], 0), some (.ireturn, 15, 0, 0, [], 0)]])
/-- BrokenLoaves.prove(I)I -/
def mm_136 : am_M := (⟨"BrokenLoaves", "prove", "(I)I"⟩, prog_1_method_47_code, 3, (Option.some FieldType.int), [[some (.iload_n 1, 1, 1, 0, [], 0), some (.iconst 0, 2, 0, 0, [], 0), some (.iconst 4, 3, 0, 0, [], 4), some (.invokestatic 99, 6, 0, 162, [3], 0), none, none, some (.ifCond .ne 5, 9, 11, 0, [], 0), none, none, some (.iconst (-1), 10, 0, 0, [], (-1)), some (.ireturn, 11, 0, 0, [], 0), some (.aload_n 0, 12, 0, 0, [], 0), some (.getfield 51, 15, 11, 4, [], 0), none, none, some (.iload_n 1, 16, 1, 0, [], 0)],
  [some (.iconst 0, 17, 0, 0, [], 0), some (.invokevirtual 269, 20, 1, 30, [2, 6], 0), none, none, some (.aload_n 0, 21, 0, 0, [], 0), some (.invokevirtual 234, 24, 1, 111, [0, 11], 0), none, none, some (.pop, 25, 0, 0, [], 0), some (.aload_n 0, 26, 0, 0, [], 0), some (.aload_n 0, 27, 0, 0, [], 0), some (.getfield 51, 30, 11, 4, [], 0), none, none, some (.getfield 275, 33, 6, 4, [], 0), none],
  [none, some (.putfield 345, 36, 11, 7, [], 0), none, none, some (.iconst 0, 37, 0, 0, [], 0), some (.istore_n 2, 38, 2, 0, [], 0), some (.iload_n 2, 39, 2, 0, [], 0), some (.aload_n 0, 40, 0, 0, [], 0), some (.getfield 345, 43, 11, 7, [], 0), none, none, some (.if_icmp .ge 75, 46, 118, 0, [], 0), none, none, some (.aload_n 0, 47, 0, 0, [], 0), some (.getfield 62, 50, 11, 6, [], 0)],
  [none, none, some (.iload_n 2, 51, 2, 0, [], 0), some (.iconst 0, 52, 0, 0, [], 0), some (.invokestatic 348, 55, 0, 141, [2], 0), none, none, some (.aload_n 0, 56, 0, 0, [], 0), some (.getfield 51, 59, 11, 4, [], 0), none, none, some (.getfield 276, 62, 6, 7, [], 0), none, none, some (.iload_n 2, 63, 2, 0, [], 0), some (.iaload, 64, 0, 0, [], 0)],
  [some (.iastore, 65, 0, 0, [], 0), some (.aload_n 0, 66, 0, 0, [], 0), some (.getfield 62, 69, 11, 6, [], 0), none, none, some (.iload_n 2, 70, 2, 0, [], 0), some (.iconst 1, 71, 0, 0, [], 1), some (.invokestatic 348, 74, 0, 141, [2], 0), none, none, some (.aload_n 0, 75, 0, 0, [], 0), some (.getfield 30, 78, 11, 0, [], 0), none, none, some (.aload_n 0, 79, 0, 0, [], 0), some (.getfield 58, 82, 11, 5, [], 0)],
  [none, none, some (.aload_n 0, 83, 0, 0, [], 0), some (.getfield 51, 86, 11, 4, [], 0), none, none, some (.getfield 276, 89, 6, 7, [], 0), none, none, some (.iload_n 2, 90, 2, 0, [], 0), some (.iaload, 91, 0, 0, [], 0), some (.invokevirtual 228, 94, 1, 47, [2, 7], 0), none, none, some (.iastore, 95, 0, 0, [], 0), some (.aload_n 0, 96, 0, 0, [], 0)],
  [some (.getfield 62, 99, 11, 6, [], 0), none, none, some (.iload_n 2, 100, 2, 0, [], 0), some (.iconst 2, 101, 0, 0, [], 2), some (.invokestatic 348, 104, 0, 141, [2], 0), none, none, some (.aload_n 0, 105, 0, 0, [], 0), some (.getfield 58, 108, 11, 5, [], 0), none, none, some (.getfield 201, 111, 1, 5, [], 0), none, none, some (.iastore, 112, 0, 0, [], 0)],
  [some (.iinc 2 1, 115, 2, 0, [], 1), none, none, some (.goto (-77), 118, 38, 0, [], 0), none, none, some (.aload_n 0, 119, 0, 0, [], 0), some (.getfield 345, 122, 11, 7, [], 0), none, none, some (.ireturn, 123, 0, 0, [], 0)]])
/-- BrokenLoaves.row(II)I -/
def mm_137 : am_M := (⟨"BrokenLoaves", "row", "(II)I"⟩, prog_1_method_48_code, 3, (Option.some FieldType.int), [[some (.aload_n 0, 1, 0, 0, [], 0), some (.iload_n 1, 2, 1, 0, [], 0), some (.iload_n 2, 3, 2, 0, [], 0), some (.invokevirtual 351, 6, 1, 140, [2, 11], 0), none, none, some (.ifCond .ne 6, 9, 12, 0, [], 0), none, none, some (.bipush (-9), 11, 0, 0, [], (-9)), none, some (.ireturn, 12, 0, 0, [], 0), some (.aload_n 0, 13, 0, 0, [], 0), some (.getfield 62, 16, 11, 6, [], 0), none, none],
  [some (.iload_n 1, 17, 1, 0, [], 0), some (.iload_n 2, 18, 2, 0, [], 0), some (.invokestatic 348, 21, 0, 141, [2], 0), none, none, some (.iaload, 22, 0, 0, [], 0), some (.ireturn, 23, 0, 0, [], 0)]])
/-- BrokenLoaves.alterRow(III)I -/
def mm_138 : am_M := (⟨"BrokenLoaves", "alterRow", "(III)I"⟩, prog_1_method_49_code, 5, (Option.some FieldType.int), [[some (.aload_n 0, 1, 0, 0, [], 0), some (.iload_n 1, 2, 1, 0, [], 0), some (.iload_n 2, 3, 2, 0, [], 0), some (.invokevirtual 351, 6, 1, 140, [2, 11], 0), none, none, some (.ifCond .ne 6, 9, 12, 0, [], 0), none, none, some (.bipush (-9), 11, 0, 0, [], (-9)), none, some (.ireturn, 12, 0, 0, [], 0), some (.aload_n 0, 13, 0, 0, [], 0), some (.getfield 62, 16, 11, 6, [], 0), none, none],
  [some (.iload_n 1, 17, 1, 0, [], 0), some (.iload_n 2, 18, 2, 0, [], 0), some (.invokestatic 348, 21, 0, 141, [2], 0), none, none, some (.iaload, 22, 0, 0, [], 0), some (.istore 4, 24, 4, 0, [], 0), none, some (.aload_n 0, 25, 0, 0, [], 0), some (.getfield 62, 28, 11, 6, [], 0), none, none, some (.iload_n 1, 29, 1, 0, [], 0), some (.iload_n 2, 30, 2, 0, [], 0), some (.invokestatic 348, 33, 0, 141, [2], 0), none],
  [none, some (.iload_n 3, 34, 3, 0, [], 0), some (.iastore, 35, 0, 0, [], 0), some (.iload 4, 37, 4, 0, [], 0), none, some (.ireturn, 38, 0, 0, [], 0)]])
/-- BrokenLoaves.judge()I -/
def mm_139 : am_M := (⟨"BrokenLoaves", "judge", "()I"⟩, prog_1_method_50_code, 5, (Option.some FieldType.int), [[some (.aload_n 0, 1, 0, 0, [], 0), some (.invokevirtual 234, 4, 1, 111, [0, 11], 0), none, none, some (.istore_n 1, 5, 1, 0, [], 0), some (.iconst 0, 6, 0, 0, [], 0), some (.istore_n 2, 7, 2, 0, [], 0), some (.iload_n 2, 8, 2, 0, [], 0), some (.aload_n 0, 9, 0, 0, [], 0), some (.getfield 345, 12, 11, 7, [], 0), none, none, some (.if_icmp .ge 93, 15, 105, 0, [], 0), none, none, some (.aload_n 0, 16, 0, 0, [], 0)],
  [some (.getfield 62, 19, 11, 6, [], 0), none, none, some (.iload_n 2, 20, 2, 0, [], 0), some (.iconst 0, 21, 0, 0, [], 0), some (.invokestatic 348, 24, 0, 141, [2], 0), none, none, some (.iaload, 25, 0, 0, [], 0), some (.istore_n 3, 26, 3, 0, [], 0), some (.iload_n 2, 27, 2, 0, [], 0), some (.iload_n 1, 28, 1, 0, [], 0), some (.if_icmp .ge 14, 31, 42, 0, [], 0), none, none, some (.aload_n 0, 32, 0, 0, [], 0)],
  [some (.getfield 30, 35, 11, 0, [], 0), none, none, some (.iload_n 3, 36, 3, 0, [], 0), some (.invokevirtual 354, 39, 1, 39, [1, 7], 0), none, none, some (.ifCond .ne 7, 42, 46, 0, [], 0), none, none, some (.iload_n 2, 43, 2, 0, [], 0), some (.iconst 1, 44, 0, 0, [], 1), some (.iadd, 45, 0, 0, [], 0), some (.ireturn, 46, 0, 0, [], 0), some (.aload_n 0, 47, 0, 0, [], 0), some (.getfield 30, 50, 11, 0, [], 0)],
  [none, none, some (.aload_n 0, 51, 0, 0, [], 0), some (.getfield 58, 54, 11, 5, [], 0), none, none, some (.iload_n 3, 55, 3, 0, [], 0), some (.invokevirtual 228, 58, 1, 47, [2, 7], 0), none, none, some (.istore 4, 60, 4, 0, [], 0), none, some (.iload 4, 62, 4, 0, [], 0), none, some (.aload_n 0, 63, 0, 0, [], 0), some (.getfield 62, 66, 11, 6, [], 0)],
  [none, none, some (.iload_n 2, 67, 2, 0, [], 0), some (.iconst 1, 68, 0, 0, [], 1), some (.invokestatic 348, 71, 0, 141, [2], 0), none, none, some (.iaload, 72, 0, 0, [], 0), some (.if_icmp .ne 23, 75, 95, 0, [], 0), none, none, some (.aload_n 0, 76, 0, 0, [], 0), some (.getfield 58, 79, 11, 5, [], 0), none, none, some (.getfield 201, 82, 1, 5, [], 0)],
  [none, none, some (.aload_n 0, 83, 0, 0, [], 0), some (.getfield 62, 86, 11, 6, [], 0), none, none, some (.iload_n 2, 87, 2, 0, [], 0), some (.iconst 2, 88, 0, 0, [], 2), some (.invokestatic 348, 91, 0, 141, [2], 0), none, none, some (.iaload, 92, 0, 0, [], 0), some (.if_icmp .eq 7, 95, 99, 0, [], 0), none, none, some (.iload_n 2, 96, 2, 0, [], 0)],
  [some (.iconst 1, 97, 0, 0, [], 1), some (.iadd, 98, 0, 0, [], 0), some (.ireturn, 99, 0, 0, [], 0), some (.iinc 2 1, 102, 2, 0, [], 1), none, none, some (.goto (-95), 105, 7, 0, [], 0), none, none, some (.iconst 0, 106, 0, 0, [], 0), some (.ireturn, 107, 0, 0, [], 0)]])
/-- BrokenLoaves.isInRows(II)Z -/
def mm_140 : am_M := (⟨"BrokenLoaves", "isInRows", "(II)Z"⟩, prog_1_method_51_code, 3, (Option.some FieldType.boolean), [[some (.iload_n 1, 1, 1, 0, [], 0), some (.iconst 0, 2, 0, 0, [], 0), some (.aload_n 0, 3, 0, 0, [], 0), some (.getfield 345, 6, 11, 7, [], 0), none, none, some (.iconst 1, 7, 0, 0, [], 1), some (.isub, 8, 0, 0, [], 0), some (.invokestatic 99, 11, 0, 162, [3], 0), none, none, some (.ifCond .eq 16, 14, 27, 0, [], 0), none, none, some (.iload_n 2, 15, 2, 0, [], 0), some (.iconst 0, 16, 0, 0, [], 0)],
  [some (.iconst 2, 17, 0, 0, [], 2), some (.invokestatic 99, 20, 0, 162, [3], 0), none, none, some (.ifCond .eq 7, 23, 27, 0, [], 0), none, none, some (.iconst 1, 24, 0, 0, [], 1), some (.goto 4, 27, 28, 0, [], 0), none, none, some (.iconst 0, 28, 0, 0, [], 0), some (.ireturn, 29, 2, 0, [], 0)]])
/-- BrokenLoaves.placeInRow(II)I -/
def mm_141 : am_M := (⟨"BrokenLoaves", "placeInRow", "(II)I"⟩, prog_1_method_52_code, 2, (Option.some FieldType.int), [[some (.iconst 3, 1, 0, 0, [], 3), some (.iload_n 0, 2, 0, 0, [], 0), some (.imul, 3, 0, 0, [], 0), some (.iload_n 1, 4, 1, 0, [], 0), some (.iadd, 5, 0, 0, [], 0), some (.ireturn, 6, 0, 0, [], 0)]])
/-- BrokenLoaves.sheet(III)I -/
def mm_142 : am_M := (⟨"BrokenLoaves", "sheet", "(III)I"⟩, prog_1_method_53_code, 4, (Option.some FieldType.int), [[some (.iload_n 1, 1, 1, 0, [], 0), some (.invokestatic 357, 4, 0, 148, [1], 0), none, none, some (.ifCond .eq 12, 7, 16, 0, [], 0), none, none, some (.iload_n 2, 8, 2, 0, [], 0), some (.iconst (-1), 9, 0, 0, [], (-1)), some (.iconst 4, 10, 0, 0, [], 4), some (.invokestatic 99, 13, 0, 162, [3], 0), none, none, some (.ifCond .ne 5, 16, 18, 0, [], 0), none, none],
  [some (.iconst (-1), 17, 0, 0, [], (-1)), some (.ireturn, 18, 0, 0, [], 0), some (.iload_n 2, 19, 2, 0, [], 0), some (.iconst (-1), 20, 0, 0, [], (-1)), some (.if_icmp .eq 35, 23, 55, 0, [], 0), none, none, some (.iload_n 3, 24, 3, 0, [], 0), some (.bipush 40, 26, 0, 0, [], 40), none, some (.if_icmp .le 5, 29, 31, 0, [], 0), none, none, some (.iconst (-1), 30, 0, 0, [], (-1)), some (.ireturn, 31, 0, 0, [], 0), some (.iload_n 3, 32, 3, 0, [], 0)],
  [some (.ifCond .ge 6, 35, 38, 0, [], 0), none, none, some (.bipush (-14), 37, 0, 0, [], (-14)), none, some (.ireturn, 38, 0, 0, [], 0), some (.aload_n 0, 39, 0, 0, [], 0), some (.getfield 80, 42, 11, 10, [], 0), none, none, some (.iload_n 1, 43, 1, 0, [], 0), some (.aaload, 44, 0, 0, [], 0), some (.iconst 0, 45, 0, 0, [], 0), some (.invokestatic 69, 48, 0, 2, [2], 0), none, none],
  [some (.aload_n 0, 49, 0, 0, [], 0), some (.getfield 75, 52, 11, 9, [], 0), none, none, some (.iload_n 1, 53, 1, 0, [], 0), some (.iload_n 3, 54, 3, 0, [], 0), some (.iastore, 55, 0, 0, [], 0), some (.aload_n 0, 56, 0, 0, [], 0), some (.getfield 66, 59, 11, 8, [], 0), none, none, some (.iload_n 1, 60, 1, 0, [], 0), some (.iload_n 2, 61, 2, 0, [], 0), some (.iastore, 62, 0, 0, [], 0), some (.iconst 1, 63, 0, 0, [], 1), some (.ireturn, 64, 0, 0, [], 0)]])
/-- BrokenLoaves.write(III)I -/
def mm_143 : am_M := (⟨"BrokenLoaves", "write", "(III)I"⟩, prog_1_method_54_code, 4, (Option.some FieldType.int), [[some (.iload_n 1, 1, 1, 0, [], 0), some (.invokestatic 357, 4, 0, 148, [1], 0), none, none, some (.ifCond .ne 5, 7, 9, 0, [], 0), none, none, some (.iconst (-1), 8, 0, 0, [], (-1)), some (.ireturn, 9, 0, 0, [], 0), some (.aload_n 0, 10, 0, 0, [], 0), some (.getfield 66, 13, 11, 8, [], 0), none, none, some (.iload_n 1, 14, 1, 0, [], 0), some (.iaload, 15, 0, 0, [], 0), some (.iconst (-1), 16, 0, 0, [], (-1))],
  [some (.if_icmp .ne 6, 19, 22, 0, [], 0), none, none, some (.bipush (-11), 21, 0, 0, [], (-11)), none, some (.ireturn, 22, 0, 0, [], 0), some (.aload_n 0, 23, 0, 0, [], 0), some (.iload_n 1, 24, 1, 0, [], 0), some (.iload_n 2, 25, 2, 0, [], 0), some (.invokevirtual 360, 28, 1, 149, [2, 11], 0), none, none, some (.ifCond .ne 6, 31, 34, 0, [], 0), none, none, some (.bipush (-12), 33, 0, 0, [], (-12))],
  [none, some (.ireturn, 34, 0, 0, [], 0), some (.aload_n 0, 35, 0, 0, [], 0), some (.getfield 80, 38, 11, 10, [], 0), none, none, some (.iload_n 1, 39, 1, 0, [], 0), some (.aaload, 40, 0, 0, [], 0), some (.iload_n 2, 41, 2, 0, [], 0), some (.aload_n 0, 42, 0, 0, [], 0), some (.getfield 66, 45, 11, 8, [], 0), none, none, some (.iload_n 1, 46, 1, 0, [], 0), some (.iaload, 47, 0, 0, [], 0), some (.iload_n 3, 48, 3, 0, [], 0)],
  [some (.invokestatic 363, 51, 0, 144, [2], 0), none, none, some (.iastore, 52, 0, 0, [], 0), some (.iconst 1, 53, 0, 0, [], 1), some (.ireturn, 54, 0, 0, [], 0)]])
/-- BrokenLoaves.narrowed(II)I -/
def mm_144 : am_M := (⟨"BrokenLoaves", "narrowed", "(II)I"⟩, prog_1_method_55_code, 2, (Option.some FieldType.int), [[some (.iload_n 0, 1, 0, 0, [], 0), some (.tableswitch 51 0 4 #[35, 38, 51, 51, 41], 36, 52, 0, [36, 39, 52, 52, 42], 0), none, none, none, none, none, none, none, none, none, none, none, none, none, none],
  [none, none, none, none, none, none, none, none, none, none, none, none, none, none, none, none],
  [none, none, none, none, some (.iload_n 1, 37, 1, 0, [], 0), some (.i2b, 38, 0, 0, [], 0), some (.ireturn, 39, 0, 0, [], 0), some (.iload_n 1, 40, 1, 0, [], 0), some (.i2s, 41, 0, 0, [], 0), some (.ireturn, 42, 0, 0, [], 0), some (.iload_n 1, 43, 1, 0, [], 0), some (.ifCond .eq 7, 46, 50, 0, [], 0), none, none, some (.iconst 1, 47, 0, 0, [], 1), some (.goto 4, 50, 51, 0, [], 0)],
  [none, none, some (.iconst 0, 51, 0, 0, [], 0), some (.ireturn, 52, 0, 0, [], 0), some (.iload_n 1, 53, 1, 0, [], 0), some (.ireturn, 54, 0, 0, [], 0)]])
/-- BrokenLoaves.item(III)I -/
def mm_145 : am_M := (⟨"BrokenLoaves", "item", "(III)I"⟩, prog_1_method_56_code, 5, (Option.some FieldType.int), [[some (.iload_n 1, 1, 1, 0, [], 0), some (.invokestatic 357, 4, 0, 148, [1], 0), none, none, some (.ifCond .eq 12, 7, 16, 0, [], 0), none, none, some (.iload_n 2, 8, 2, 0, [], 0), some (.iconst 0, 9, 0, 0, [], 0), some (.iconst 4, 10, 0, 0, [], 4), some (.invokestatic 99, 13, 0, 162, [3], 0), none, none, some (.ifCond .ne 5, 16, 18, 0, [], 0), none, none],
  [some (.iconst (-1), 17, 0, 0, [], (-1)), some (.ireturn, 18, 0, 0, [], 0), some (.aload_n 0, 19, 0, 0, [], 0), some (.iload_n 1, 20, 1, 0, [], 0), some (.iload_n 2, 21, 2, 0, [], 0), some (.invokevirtual 366, 24, 1, 150, [2, 11], 0), none, none, some (.istore 4, 26, 4, 0, [], 0), none, some (.iload 4, 28, 4, 0, [], 0), none, some (.ifCond .ge 6, 31, 34, 0, [], 0), none, none, some (.iload 4, 33, 4, 0, [], 0)],
  [none, some (.ireturn, 34, 0, 0, [], 0), some (.aload_n 0, 35, 0, 0, [], 0), some (.iload_n 1, 36, 1, 0, [], 0), some (.iload_n 3, 37, 3, 0, [], 0), some (.invokevirtual 360, 40, 1, 149, [2, 11], 0), none, none, some (.ifCond .ne 6, 43, 46, 0, [], 0), none, none, some (.bipush (-12), 45, 0, 0, [], (-12)), none, some (.ireturn, 46, 0, 0, [], 0), some (.aload_n 0, 47, 0, 0, [], 0), some (.getfield 80, 50, 11, 10, [], 0)],
  [none, none, some (.iload_n 1, 51, 1, 0, [], 0), some (.aaload, 52, 0, 0, [], 0), some (.iload_n 3, 53, 3, 0, [], 0), some (.iaload, 54, 0, 0, [], 0), some (.ireturn, 55, 0, 0, [], 0)]])
/-- BrokenLoaves.goAll(III)I -/
def mm_146 : am_M := (⟨"BrokenLoaves", "goAll", "(III)I"⟩, prog_1_method_57_code, 8, (Option.some FieldType.int), [[some (.iload_n 1, 1, 1, 0, [], 0), some (.invokestatic 357, 4, 0, 148, [1], 0), none, none, some (.ifCond .eq 13, 7, 17, 0, [], 0), none, none, some (.iload_n 3, 8, 3, 0, [], 0), some (.iconst 0, 9, 0, 0, [], 0), some (.bipush 20, 11, 0, 0, [], 20), none, some (.invokestatic 99, 14, 0, 162, [3], 0), none, none, some (.ifCond .ne 5, 17, 19, 0, [], 0), none],
  [none, some (.iconst (-1), 18, 0, 0, [], (-1)), some (.ireturn, 19, 0, 0, [], 0), some (.aload_n 0, 20, 0, 0, [], 0), some (.iload_n 1, 21, 1, 0, [], 0), some (.iconst 0, 22, 0, 0, [], 0), some (.invokevirtual 366, 25, 1, 150, [2, 11], 0), none, none, some (.istore 4, 27, 4, 0, [], 0), none, some (.iload 4, 29, 4, 0, [], 0), none, some (.ifCond .ge 6, 32, 35, 0, [], 0), none, none],
  [some (.iload 4, 34, 4, 0, [], 0), none, some (.ireturn, 35, 0, 0, [], 0), some (.iconst 0, 36, 0, 0, [], 0), some (.istore 5, 38, 5, 0, [], 0), none, some (.iconst 0, 39, 0, 0, [], 0), some (.istore 6, 41, 6, 0, [], 0), none, some (.iload 6, 43, 6, 0, [], 0), none, some (.iload_n 3, 44, 3, 0, [], 0), some (.if_icmp .ge 87, 47, 131, 0, [], 0), none, none, some (.aload_n 0, 48, 0, 0, [], 0)],
  [some (.iload_n 1, 49, 1, 0, [], 0), some (.iload_n 2, 50, 2, 0, [], 0), some (.iload 6, 52, 6, 0, [], 0), none, some (.iadd, 53, 0, 0, [], 0), some (.invokevirtual 360, 56, 1, 149, [2, 11], 0), none, none, some (.ifCond .ne 6, 59, 62, 0, [], 0), none, none, some (.bipush (-12), 61, 0, 0, [], (-12)), none, some (.ireturn, 62, 0, 0, [], 0), some (.aload_n 0, 63, 0, 0, [], 0), some (.getfield 80, 66, 11, 10, [], 0)],
  [none, none, some (.iload_n 1, 67, 1, 0, [], 0), some (.aaload, 68, 0, 0, [], 0), some (.iload_n 2, 69, 2, 0, [], 0), some (.iload 6, 71, 6, 0, [], 0), none, some (.iadd, 72, 0, 0, [], 0), some (.iaload, 73, 0, 0, [], 0), some (.istore 7, 75, 7, 0, [], 0), none, some (.aload_n 0, 76, 0, 0, [], 0), some (.getfield 30, 79, 11, 0, [], 0), none, none, some (.iload 7, 81, 7, 0, [], 0)],
  [none, some (.invokevirtual 354, 84, 1, 39, [1, 7], 0), none, none, some (.ifCond .eq 41, 87, 125, 0, [], 0), none, none, some (.aload_n 0, 88, 0, 0, [], 0), some (.getfield 30, 91, 11, 0, [], 0), none, none, some (.aload_n 0, 92, 0, 0, [], 0), some (.getfield 30, 95, 11, 0, [], 0), none, none, some (.getfield 123, 98, 7, 1, [], 0)],
  [none, none, some (.invokevirtual 193, 101, 1, 40, [1, 7], 0), none, none, some (.ifCond .ne 24, 104, 125, 0, [], 0), none, none, some (.iload 5, 106, 5, 0, [], 0), none, some (.aload_n 0, 107, 0, 0, [], 0), some (.getfield 30, 110, 11, 0, [], 0), none, none, some (.aload_n 0, 111, 0, 0, [], 0), some (.getfield 30, 114, 11, 0, [], 0)],
  [none, none, some (.getfield 123, 117, 7, 1, [], 0), none, none, some (.iload 7, 119, 7, 0, [], 0), none, some (.invokevirtual 228, 122, 1, 47, [2, 7], 0), none, none, some (.iadd, 123, 0, 0, [], 0), some (.istore 5, 125, 5, 0, [], 0), none, some (.iinc 6 1, 128, 6, 0, [], 1), none, none],
  [some (.goto (-87), 131, 41, 0, [], 0), none, none, some (.iload 5, 133, 5, 0, [], 0), none, some (.ireturn, 134, 0, 0, [], 0)]])
/-- BrokenLoaves.wouldBe(III)I -/
def mm_147 : am_M := (⟨"BrokenLoaves", "wouldBe", "(III)I"⟩, prog_1_method_58_code, 9, (Option.some FieldType.int), [[some (.iload_n 1, 1, 1, 0, [], 0), some (.invokestatic 357, 4, 0, 148, [1], 0), none, none, some (.ifCond .eq 13, 7, 17, 0, [], 0), none, none, some (.iload_n 3, 8, 3, 0, [], 0), some (.iconst 0, 9, 0, 0, [], 0), some (.bipush 20, 11, 0, 0, [], 20), none, some (.invokestatic 99, 14, 0, 162, [3], 0), none, none, some (.ifCond .ne 5, 17, 19, 0, [], 0), none],
  [none, some (.iconst (-1), 18, 0, 0, [], (-1)), some (.ireturn, 19, 0, 0, [], 0), some (.aload_n 0, 20, 0, 0, [], 0), some (.iload_n 1, 21, 1, 0, [], 0), some (.iconst 0, 22, 0, 0, [], 0), some (.invokevirtual 366, 25, 1, 150, [2, 11], 0), none, none, some (.istore 4, 27, 4, 0, [], 0), none, some (.iload 4, 29, 4, 0, [], 0), none, some (.ifCond .ge 6, 32, 35, 0, [], 0), none, none],
  [some (.iload 4, 34, 4, 0, [], 0), none, some (.ireturn, 35, 0, 0, [], 0), some (.aload_n 0, 36, 0, 0, [], 0), some (.invokevirtual 234, 39, 1, 111, [0, 11], 0), none, none, some (.istore 5, 41, 5, 0, [], 0), none, some (.iconst 0, 42, 0, 0, [], 0), some (.istore 6, 44, 6, 0, [], 0), none, some (.iconst 0, 45, 0, 0, [], 0), some (.istore 7, 47, 7, 0, [], 0), none, some (.iload 7, 49, 7, 0, [], 0)],
  [none, some (.iload_n 3, 50, 3, 0, [], 0), some (.if_icmp .ge 77, 53, 127, 0, [], 0), none, none, some (.aload_n 0, 54, 0, 0, [], 0), some (.iload_n 1, 55, 1, 0, [], 0), some (.iload_n 2, 56, 2, 0, [], 0), some (.iload 7, 58, 7, 0, [], 0), none, some (.iadd, 59, 0, 0, [], 0), some (.invokevirtual 360, 62, 1, 149, [2, 11], 0), none, none, some (.ifCond .ne 6, 65, 68, 0, [], 0), none],
  [none, some (.bipush (-12), 67, 0, 0, [], (-12)), none, some (.ireturn, 68, 0, 0, [], 0), some (.aload_n 0, 69, 0, 0, [], 0), some (.getfield 80, 72, 11, 10, [], 0), none, none, some (.iload_n 1, 73, 1, 0, [], 0), some (.aaload, 74, 0, 0, [], 0), some (.iload_n 2, 75, 2, 0, [], 0), some (.iload 7, 77, 7, 0, [], 0), none, some (.iadd, 78, 0, 0, [], 0), some (.iaload, 79, 0, 0, [], 0), some (.istore 8, 81, 8, 0, [], 0)],
  [none, some (.iload 7, 83, 7, 0, [], 0), none, some (.iload 5, 85, 5, 0, [], 0), none, some (.if_icmp .ge 15, 88, 100, 0, [], 0), none, none, some (.aload_n 0, 89, 0, 0, [], 0), some (.getfield 30, 92, 11, 0, [], 0), none, none, some (.iload 8, 94, 8, 0, [], 0), none, some (.invokevirtual 354, 97, 1, 39, [1, 7], 0), none],
  [none, some (.ifCond .ne 6, 100, 103, 0, [], 0), none, none, some (.bipush (-4), 102, 0, 0, [], (-4)), none, some (.ireturn, 103, 0, 0, [], 0), some (.iload 6, 105, 6, 0, [], 0), none, some (.aload_n 0, 106, 0, 0, [], 0), some (.getfield 30, 109, 11, 0, [], 0), none, none, some (.aload_n 0, 110, 0, 0, [], 0), some (.getfield 58, 113, 11, 5, [], 0), none],
  [none, some (.iload 8, 115, 8, 0, [], 0), none, some (.invokevirtual 228, 118, 1, 47, [2, 7], 0), none, none, some (.iadd, 119, 0, 0, [], 0), some (.istore 6, 121, 6, 0, [], 0), none, some (.iinc 7 1, 124, 7, 0, [], 1), none, none, some (.goto (-77), 127, 47, 0, [], 0), none, none, some (.iload 6, 129, 6, 0, [], 0)],
  [none, some (.ireturn, 130, 0, 0, [], 0)]])
/-- BrokenLoaves.isSheet(I)Z -/
def mm_148 : am_M := (⟨"BrokenLoaves", "isSheet", "(I)Z"⟩, prog_1_method_59_code, 1, (Option.some FieldType.boolean), [[some (.iload_n 0, 1, 0, 0, [], 0), some (.iconst 0, 2, 0, 0, [], 0), some (.iconst 3, 3, 0, 0, [], 3), some (.invokestatic 99, 6, 0, 162, [3], 0), none, none, some (.ireturn, 7, 2, 0, [], 0)]])
/-- BrokenLoaves.hasItem(II)Z -/
def mm_149 : am_M := (⟨"BrokenLoaves", "hasItem", "(II)Z"⟩, prog_1_method_60_code, 3, (Option.some FieldType.boolean), [[some (.iload_n 2, 1, 2, 0, [], 0), some (.iconst 0, 2, 0, 0, [], 0), some (.aload_n 0, 3, 0, 0, [], 0), some (.getfield 75, 6, 11, 9, [], 0), none, none, some (.iload_n 1, 7, 1, 0, [], 0), some (.iaload, 8, 0, 0, [], 0), some (.iconst 1, 9, 0, 0, [], 1), some (.isub, 10, 0, 0, [], 0), some (.invokestatic 99, 13, 0, 162, [3], 0), none, none, some (.ireturn, 14, 2, 0, [], 0)]])
/-- BrokenLoaves.refusalAs(II)I -/
def mm_150 : am_M := (⟨"BrokenLoaves", "refusalAs", "(II)I"⟩, prog_1_method_61_code, 3, (Option.some FieldType.int), [[some (.aload_n 0, 1, 0, 0, [], 0), some (.getfield 66, 4, 11, 8, [], 0), none, none, some (.iload_n 1, 5, 1, 0, [], 0), some (.iaload, 6, 0, 0, [], 0), some (.iconst (-1), 7, 0, 0, [], (-1)), some (.if_icmp .ne 6, 10, 13, 0, [], 0), none, none, some (.bipush (-11), 12, 0, 0, [], (-11)), none, some (.ireturn, 13, 0, 0, [], 0), some (.aload_n 0, 14, 0, 0, [], 0), some (.getfield 66, 17, 11, 8, [], 0), none],
  [none, some (.iload_n 1, 18, 1, 0, [], 0), some (.iaload, 19, 0, 0, [], 0), some (.iload_n 2, 20, 2, 0, [], 0), some (.if_icmp .ne 7, 23, 27, 0, [], 0), none, none, some (.iconst 0, 24, 0, 0, [], 0), some (.goto 5, 27, 29, 0, [], 0), none, none, some (.bipush (-13), 29, 0, 0, [], (-13)), none, some (.ireturn, 30, 0, 0, [], 0)]])
/-- BrokenLoaves.shelf(III)I -/
def mm_151 : am_M := (⟨"BrokenLoaves", "shelf", "(III)I"⟩, prog_1_method_62_code, 4, (Option.some FieldType.int), [[some (.iload_n 1, 1, 1, 0, [], 0), some (.invokestatic 369, 4, 0, 156, [1], 0), none, none, some (.ifCond .ne 5, 7, 9, 0, [], 0), none, none, some (.iconst (-1), 8, 0, 0, [], (-1)), some (.ireturn, 9, 0, 0, [], 0), some (.iload_n 2, 10, 2, 0, [], 0), some (.tableswitch 49 0 2 #[26, 33, 40], 36, 59, 0, [36, 43, 50], 0), none, none, none, none, none],
  [none, none, none, none, none, none, none, none, none, none, none, none, none, none, none, none],
  [none, none, none, none, some (.aload_n 0, 37, 0, 0, [], 0), some (.iload_n 1, 38, 1, 0, [], 0), some (.iload_n 3, 39, 3, 0, [], 0), some (.invokevirtual 372, 42, 1, 152, [2, 11], 0), none, none, some (.ireturn, 43, 0, 0, [], 0), some (.aload_n 0, 44, 0, 0, [], 0), some (.iload_n 1, 45, 1, 0, [], 0), some (.iload_n 3, 46, 3, 0, [], 0), some (.invokevirtual 375, 49, 1, 153, [2, 11], 0), none],
  [none, some (.ireturn, 50, 0, 0, [], 0), some (.aload_n 0, 51, 0, 0, [], 0), some (.getfield 83, 54, 11, 11, [], 0), none, none, some (.iload_n 1, 55, 1, 0, [], 0), some (.iconst 2, 56, 0, 0, [], 2), some (.iastore, 57, 0, 0, [], 0), some (.iconst 1, 58, 0, 0, [], 1), some (.ireturn, 59, 0, 0, [], 0), some (.iconst (-1), 60, 0, 0, [], (-1)), some (.ireturn, 61, 0, 0, [], 0)]])
/-- BrokenLoaves.putPerson(II)I -/
def mm_152 : am_M := (⟨"BrokenLoaves", "putPerson", "(II)I"⟩, prog_1_method_63_code, 3, (Option.some FieldType.int), [[some (.aload_n 0, 1, 0, 0, [], 0), some (.getfield 30, 4, 11, 0, [], 0), none, none, some (.iload_n 2, 5, 2, 0, [], 0), some (.invokevirtual 119, 8, 1, 38, [1, 7], 0), none, none, some (.ifCond .ne 5, 11, 13, 0, [], 0), none, none, some (.iconst (-1), 12, 0, 0, [], (-1)), some (.ireturn, 13, 0, 0, [], 0), some (.aload_n 0, 14, 0, 0, [], 0), some (.getfield 83, 17, 11, 11, [], 0), none],
  [none, some (.iload_n 1, 18, 1, 0, [], 0), some (.iconst 0, 19, 0, 0, [], 0), some (.iastore, 20, 0, 0, [], 0), some (.aload_n 0, 21, 0, 0, [], 0), some (.getfield 86, 24, 11, 12, [], 0), none, none, some (.iload_n 1, 25, 1, 0, [], 0), some (.iload_n 2, 26, 2, 0, [], 0), some (.iastore, 27, 0, 0, [], 0), some (.iconst 1, 28, 0, 0, [], 1), some (.ireturn, 29, 0, 0, [], 0)]])
/-- BrokenLoaves.putRow(II)I -/
def mm_153 : am_M := (⟨"BrokenLoaves", "putRow", "(II)I"⟩, prog_1_method_64_code, 3, (Option.some FieldType.int), [[some (.iload_n 2, 1, 2, 0, [], 0), some (.invokestatic 357, 4, 0, 148, [1], 0), none, none, some (.ifCond .ne 5, 7, 9, 0, [], 0), none, none, some (.iconst (-1), 8, 0, 0, [], (-1)), some (.ireturn, 9, 0, 0, [], 0), some (.aload_n 0, 10, 0, 0, [], 0), some (.getfield 83, 13, 11, 11, [], 0), none, none, some (.iload_n 1, 14, 1, 0, [], 0), some (.aload_n 0, 15, 0, 0, [], 0), some (.getfield 66, 18, 11, 8, [], 0)],
  [none, none, some (.iload_n 2, 19, 2, 0, [], 0), some (.iaload, 20, 0, 0, [], 0), some (.iconst (-1), 21, 0, 0, [], (-1)), some (.if_icmp .ne 7, 24, 28, 0, [], 0), none, none, some (.iconst 2, 25, 0, 0, [], 2), some (.goto 4, 28, 29, 0, [], 0), none, none, some (.iconst 1, 29, 0, 0, [], 1), some (.iastore, 30, 0, 0, [], 0), some (.aload_n 0, 31, 0, 0, [], 0), some (.getfield 86, 34, 11, 12, [], 0)],
  [none, none, some (.iload_n 1, 35, 1, 0, [], 0), some (.aload_n 0, 36, 0, 0, [], 0), some (.getfield 66, 39, 11, 8, [], 0), none, none, some (.iload_n 2, 40, 2, 0, [], 0), some (.iaload, 41, 0, 0, [], 0), some (.iastore, 42, 0, 0, [], 0), some (.aload_n 0, 43, 0, 0, [], 0), some (.getfield 89, 46, 11, 13, [], 0), none, none, some (.iload_n 1, 47, 1, 0, [], 0), some (.aload_n 0, 48, 0, 0, [], 0)],
  [some (.getfield 75, 51, 11, 9, [], 0), none, none, some (.iload_n 2, 52, 2, 0, [], 0), some (.iaload, 53, 0, 0, [], 0), some (.iastore, 54, 0, 0, [], 0), some (.iconst 1, 55, 0, 0, [], 1), some (.ireturn, 56, 0, 0, [], 0)]])
/-- BrokenLoaves.taken(II)I -/
def mm_154 : am_M := (⟨"BrokenLoaves", "taken", "(II)I"⟩, prog_1_method_65_code, 5, (Option.some FieldType.int), [[some (.iload_n 2, 1, 2, 0, [], 0), some (.iconst 0, 2, 0, 0, [], 0), some (.iconst 5, 3, 0, 0, [], 5), some (.invokestatic 99, 6, 0, 162, [3], 0), none, none, some (.istore_n 3, 7, 3, 0, [], 0), some (.iload_n 1, 8, 1, 0, [], 0), some (.invokestatic 369, 11, 0, 156, [1], 0), none, none, some (.ifCond .eq 18, 14, 29, 0, [], 0), none, none, some (.iload_n 3, 15, 3, 0, [], 0), some (.ifCond .ne 16, 18, 31, 0, [], 0)],
  [none, none, some (.iload_n 2, 19, 2, 0, [], 0), some (.bipush 10, 21, 0, 0, [], 10), none, some (.bipush 14, 23, 0, 0, [], 14), none, some (.invokestatic 99, 26, 0, 162, [3], 0), none, none, some (.ifCond .ne 5, 29, 31, 0, [], 0), none, none, some (.iconst (-1), 30, 0, 0, [], (-1)), some (.ireturn, 31, 0, 0, [], 0), some (.aload_n 0, 32, 0, 0, [], 0)],
  [some (.getfield 83, 35, 11, 11, [], 0), none, none, some (.iload_n 1, 36, 1, 0, [], 0), some (.iaload, 37, 0, 0, [], 0), some (.iconst 1, 38, 0, 0, [], 1), some (.if_icmp .ne 28, 41, 66, 0, [], 0), none, none, some (.iload_n 2, 42, 2, 0, [], 0), some (.bipush 10, 44, 0, 0, [], 10), none, some (.aload_n 0, 45, 0, 0, [], 0), some (.getfield 86, 48, 11, 12, [], 0), none, none],
  [some (.iload_n 1, 49, 1, 0, [], 0), some (.iaload, 50, 0, 0, [], 0), some (.iadd, 51, 0, 0, [], 0), some (.if_icmp .ne 12, 54, 63, 0, [], 0), none, none, some (.aload_n 0, 55, 0, 0, [], 0), some (.getfield 89, 58, 11, 13, [], 0), none, none, some (.iload_n 1, 59, 1, 0, [], 0), some (.iaload, 60, 0, 0, [], 0), some (.goto 5, 63, 65, 0, [], 0), none, none, some (.bipush (-13), 65, 0, 0, [], (-13))],
  [none, some (.ireturn, 66, 0, 0, [], 0), some (.aload_n 0, 67, 0, 0, [], 0), some (.iload_n 1, 68, 1, 0, [], 0), some (.invokevirtual 378, 71, 1, 157, [1, 11], 0), none, none, some (.istore 4, 73, 4, 0, [], 0), none, some (.iload 4, 75, 4, 0, [], 0), none, some (.ifCond .ge 6, 78, 81, 0, [], 0), none, none, some (.bipush (-11), 80, 0, 0, [], (-11)), none],
  [some (.ireturn, 81, 0, 0, [], 0), some (.iload_n 3, 82, 3, 0, [], 0), some (.ifCond .eq 25, 85, 107, 0, [], 0), none, none, some (.aload_n 0, 86, 0, 0, [], 0), some (.getfield 30, 89, 11, 0, [], 0), none, none, some (.getfield 107, 92, 7, 3, [], 0), none, none, some (.iload 4, 94, 4, 0, [], 0), none, some (.iaload, 95, 0, 0, [], 0), some (.iload_n 2, 96, 2, 0, [], 0)],
  [some (.invokestatic 381, 99, 0, 45, [2], 0), none, none, some (.ifCond .eq 8, 102, 107, 0, [], 0), none, none, some (.iload 4, 104, 4, 0, [], 0), none, some (.goto 5, 107, 109, 0, [], 0), none, none, some (.bipush (-13), 109, 0, 0, [], (-13)), none, some (.ireturn, 110, 0, 0, [], 0)]])
/-- BrokenLoaves.act(III)I -/
def mm_155 : am_M := (⟨"BrokenLoaves", "act", "(III)I"⟩, prog_1_method_66_code, 7, (Option.some FieldType.int), [[some (.aload_n 0, 1, 0, 0, [], 0), some (.getfield 95, 4, 11, 14, [], 0), none, none, some (.invokevirtual 384, 7, 1, 14, [0, 2], 0), none, none, some (.iload_n 1, 8, 1, 0, [], 0), some (.invokestatic 369, 11, 0, 156, [1], 0), none, none, some (.ifCond .eq 11, 14, 22, 0, [], 0), none, none, some (.aload_n 0, 15, 0, 0, [], 0), some (.iload_n 1, 16, 1, 0, [], 0)],
  [some (.invokevirtual 378, 19, 1, 157, [1, 11], 0), none, none, some (.goto 5, 22, 24, 0, [], 0), none, none, some (.bipush (-3), 24, 0, 0, [], (-3)), none, some (.istore 4, 26, 4, 0, [], 0), none, some (.iload 4, 28, 4, 0, [], 0), none, some (.ifCond .ge 5, 31, 33, 0, [], 0), none, none, some (.iconst 0, 32, 0, 0, [], 0)],
  [some (.ireturn, 33, 0, 0, [], 0), some (.aload_n 0, 34, 0, 0, [], 0), some (.getfield 95, 37, 11, 14, [], 0), none, none, some (.iload 4, 39, 4, 0, [], 0), none, some (.aload_n 0, 40, 0, 0, [], 0), some (.getfield 30, 43, 11, 0, [], 0), none, none, some (.getfield 116, 46, 7, 6, [], 0), none, none, some (.iload 4, 48, 4, 0, [], 0), none],
  [some (.iaload, 49, 0, 0, [], 0), some (.invokevirtual 387, 52, 1, 15, [2, 2], 0), none, none, some (.aload_n 0, 53, 0, 0, [], 0), some (.getfield 30, 56, 11, 0, [], 0), none, none, some (.iload 4, 58, 4, 0, [], 0), none, some (.invokevirtual 137, 61, 1, 42, [1, 7], 0), none, none, some (.astore 5, 63, 5, 0, [], 0), none, some (.iconst 0, 64, 0, 0, [], 0)],
  [some (.istore 6, 66, 6, 0, [], 0), none, some (.iload_n 2, 67, 2, 0, [], 0), some (.tableswitch 89 0 3 #[29, 44, 59, 74], 96, 156, 0, [96, 111, 126, 141], 0), none, none, none, none, none, none, none, none, none, none, none, none],
  [none, none, none, none, none, none, none, none, none, none, none, none, none, none, none, none],
  [some (.aload 5, 98, 5, 0, [], 0), none, some (.iload_n 3, 99, 3, 0, [], 0), some (.aload_n 0, 100, 0, 0, [], 0), some (.getfield 95, 103, 11, 14, [], 0), none, none, some (.invokevirtual 390, 106, 2, 404, [2, 6, 0, 0, 23, 23, 23, 0, 0, 0, 87, 23, 0, 0], 0), none, none, some (.istore 6, 108, 6, 0, [], 0), none, some (.goto 48, 111, 156, 0, [], 0), none, none, some (.aload 5, 113, 5, 0, [], 0)],
  [none, some (.iload_n 3, 114, 3, 0, [], 0), some (.aload_n 0, 115, 0, 0, [], 0), some (.getfield 95, 118, 11, 14, [], 0), none, none, some (.invokevirtual 394, 121, 2, 404, [2, 29, 0, 0, 24, 24, 29, 0, 0, 0, 24, 90, 0, 0], 0), none, none, some (.istore 6, 123, 6, 0, [], 0), none, some (.goto 33, 126, 156, 0, [], 0), none, none, some (.aload 5, 128, 5, 0, [], 0), none],
  [some (.iload_n 3, 129, 3, 0, [], 0), some (.aload_n 0, 130, 0, 0, [], 0), some (.getfield 95, 133, 11, 14, [], 0), none, none, some (.invokevirtual 397, 136, 2, 404, [2, 25, 0, 0, 20, 25, 25, 0, 0, 0, 25, 91, 0, 0], 0), none, none, some (.istore 6, 138, 6, 0, [], 0), none, some (.goto 18, 141, 156, 0, [], 0), none, none, some (.aload 5, 143, 5, 0, [], 0), none, some (.iload_n 3, 144, 3, 0, [], 0)],
  [some (.aload_n 0, 145, 0, 0, [], 0), some (.getfield 95, 148, 11, 14, [], 0), none, none, some (.invokevirtual 400, 151, 2, 404, [2, 7, 0, 0, 26, 26, 26, 0, 0, 0, 26, 26, 0, 0], 0), none, none, some (.istore 6, 153, 6, 0, [], 0), none, some (.goto 3, 156, 156, 0, [], 0), none, none, some (.aload_n 0, 157, 0, 0, [], 0), some (.getfield 95, 160, 11, 14, [], 0), none, none],
  [some (.getfield 403, 163, 2, 2, [], 0), none, none, some (.ifCond .eq 8, 166, 171, 0, [], 0), none, none, some (.bipush (-15), 168, 0, 0, [], (-15)), none, some (.goto 5, 171, 173, 0, [], 0), none, none, some (.iload 6, 173, 6, 0, [], 0), none, some (.ireturn, 174, 0, 0, [], 0)]])
/-- BrokenLoaves.isShelf(I)Z -/
def mm_156 : am_M := (⟨"BrokenLoaves", "isShelf", "(I)Z"⟩, prog_1_method_67_code, 1, (Option.some FieldType.boolean), [[some (.iload_n 0, 1, 0, 0, [], 0), some (.iconst 0, 2, 0, 0, [], 0), some (.iconst 3, 3, 0, 0, [], 3), some (.invokestatic 99, 6, 0, 162, [3], 0), none, none, some (.ireturn, 7, 2, 0, [], 0)]])
/-- BrokenLoaves.personOn(I)I -/
def mm_157 : am_M := (⟨"BrokenLoaves", "personOn", "(I)I"⟩, prog_1_method_68_code, 3, (Option.some FieldType.int), [[some (.aload_n 0, 1, 0, 0, [], 0), some (.getfield 83, 4, 11, 11, [], 0), none, none, some (.iload_n 1, 5, 1, 0, [], 0), some (.iaload, 6, 0, 0, [], 0), some (.ifCond .ne 23, 9, 29, 0, [], 0), none, none, some (.aload_n 0, 10, 0, 0, [], 0), some (.getfield 30, 13, 11, 0, [], 0), none, none, some (.aload_n 0, 14, 0, 0, [], 0), some (.getfield 86, 17, 11, 12, [], 0), none],
  [none, some (.iload_n 1, 18, 1, 0, [], 0), some (.iaload, 19, 0, 0, [], 0), some (.invokevirtual 119, 22, 1, 38, [1, 7], 0), none, none, some (.ifCond .eq 7, 25, 29, 0, [], 0), none, none, some (.iconst 1, 26, 0, 0, [], 1), some (.goto 4, 29, 30, 0, [], 0), none, none, some (.iconst 0, 30, 0, 0, [], 0), some (.istore_n 2, 31, 2, 0, [], 0), some (.iload_n 2, 32, 2, 0, [], 0)],
  [some (.ifCond .eq 12, 35, 44, 0, [], 0), none, none, some (.aload_n 0, 36, 0, 0, [], 0), some (.getfield 86, 39, 11, 12, [], 0), none, none, some (.iload_n 1, 40, 1, 0, [], 0), some (.iaload, 41, 0, 0, [], 0), some (.goto 5, 44, 46, 0, [], 0), none, none, some (.bipush (-3), 46, 0, 0, [], (-3)), none, some (.ireturn, 47, 0, 0, [], 0)]])
/-- BrokenLoaves.trace(I)I -/
def mm_158 : am_M := (⟨"BrokenLoaves", "trace", "(I)I"⟩, prog_1_method_69_code, 2, (Option.some FieldType.int), [[some (.iload_n 1, 1, 1, 0, [], 0), some (.iconst 0, 2, 0, 0, [], 0), some (.aload_n 0, 3, 0, 0, [], 0), some (.getfield 95, 6, 11, 14, [], 0), none, none, some (.getfield 407, 9, 2, 4, [], 0), none, none, some (.iconst 1, 10, 0, 0, [], 1), some (.isub, 11, 0, 0, [], 0), some (.invokestatic 99, 14, 0, 162, [3], 0), none, none, some (.ifCond .eq 15, 17, 29, 0, [], 0), none],
  [none, some (.aload_n 0, 18, 0, 0, [], 0), some (.getfield 95, 21, 11, 14, [], 0), none, none, some (.getfield 408, 24, 2, 3, [], 0), none, none, some (.iload_n 1, 25, 1, 0, [], 0), some (.iaload, 26, 0, 0, [], 0), some (.goto 5, 29, 31, 0, [], 0), none, none, some (.bipush (-3), 31, 0, 0, [], (-3)), none, some (.ireturn, 32, 0, 0, [], 0)]])
/-- BrokenLoaves.many(I)I -/
def mm_159 : am_M := (⟨"BrokenLoaves", "many", "(I)I"⟩, prog_1_method_70_code, 2, (Option.some FieldType.int), [[some (.iload_n 1, 1, 1, 0, [], 0), some (.tableswitch 102 0 6 #[43, 51, 59, 73, 81, 86, 94], 44, 103, 0, [44, 52, 60, 74, 82, 87, 95], 0), none, none, none, none, none, none, none, none, none, none, none, none, none, none],
  [none, none, none, none, none, none, none, none, none, none, none, none, none, none, none, none],
  [none, none, none, none, none, none, none, none, none, none, none, none, some (.aload_n 0, 45, 0, 0, [], 0), some (.getfield 30, 48, 11, 0, [], 0), none, none],
  [some (.getfield 103, 51, 7, 2, [], 0), none, none, some (.ireturn, 52, 0, 0, [], 0), some (.aload_n 0, 53, 0, 0, [], 0), some (.getfield 30, 56, 11, 0, [], 0), none, none, some (.getfield 223, 59, 7, 12, [], 0), none, none, some (.ireturn, 60, 0, 0, [], 0), some (.aload_n 0, 61, 0, 0, [], 0), some (.getfield 30, 64, 11, 0, [], 0), none, none],
  [some (.getfield 123, 67, 7, 1, [], 0), none, none, some (.getfield 201, 70, 1, 5, [], 0), none, none, some (.invokestatic 332, 73, 0, 1, [1], 0), none, none, some (.ireturn, 74, 0, 0, [], 0), some (.aload_n 0, 75, 0, 0, [], 0), some (.getfield 30, 78, 11, 0, [], 0), none, none, some (.getfield 305, 81, 7, 15, [], 0), none],
  [none, some (.ireturn, 82, 0, 0, [], 0), some (.aload_n 0, 83, 0, 0, [], 0), some (.getfield 345, 86, 11, 7, [], 0), none, none, some (.ireturn, 87, 0, 0, [], 0), some (.aload_n 0, 88, 0, 0, [], 0), some (.getfield 42, 91, 11, 3, [], 0), none, none, some (.getfield 204, 94, 8, 1, [], 0), none, none, some (.ireturn, 95, 0, 0, [], 0), some (.aload_n 0, 96, 0, 0, [], 0)],
  [some (.getfield 95, 99, 11, 14, [], 0), none, none, some (.getfield 407, 102, 2, 4, [], 0), none, none, some (.ireturn, 103, 0, 0, [], 0), some (.iconst (-1), 104, 0, 0, [], (-1)), some (.ireturn, 105, 0, 0, [], 0)]])
/-- BrokenLoaves.keep()I -/
def mm_160 : am_M := (⟨"BrokenLoaves", "keep", "()I"⟩, prog_1_method_71_code, 1, (Option.some FieldType.int), [[some (.aload_n 0, 1, 0, 0, [], 0), some (.getfield 36, 4, 11, 1, [], 0), none, none, some (.aload_n 0, 5, 0, 0, [], 0), some (.getfield 30, 8, 11, 0, [], 0), none, none, some (.invokevirtual 411, 11, 1, 35, [1, 7], 0), none, none, some (.aload_n 0, 12, 0, 0, [], 0), some (.iconst 1, 13, 0, 0, [], 1), some (.putfield 413, 16, 11, 2, [], 0), none, none],
  [some (.iconst 1, 17, 0, 0, [], 1), some (.ireturn, 18, 0, 0, [], 0)]])
/-- BrokenLoaves.again()I -/
def mm_161 : am_M := (⟨"BrokenLoaves", "again", "()I"⟩, prog_1_method_72_code, 1, (Option.some FieldType.int), [[some (.aload_n 0, 1, 0, 0, [], 0), some (.getfield 413, 4, 11, 2, [], 0), none, none, some (.ifCond .ne 6, 7, 10, 0, [], 0), none, none, some (.bipush (-3), 9, 0, 0, [], (-3)), none, some (.ireturn, 10, 0, 0, [], 0), some (.aload_n 0, 11, 0, 0, [], 0), some (.getfield 30, 14, 11, 0, [], 0), none, none, some (.aload_n 0, 15, 0, 0, [], 0), some (.getfield 36, 18, 11, 1, [], 0)],
  [none, none, some (.invokevirtual 411, 21, 1, 35, [1, 7], 0), none, none, some (.aload_n 0, 22, 0, 0, [], 0), some (.getfield 30, 25, 11, 0, [], 0), none, none, some (.getfield 103, 28, 7, 2, [], 0), none, none, some (.ireturn, 29, 0, 0, [], 0)]])
/-- BrokenLoaves.within(III)Z -/
def mm_162 : am_M := (⟨"BrokenLoaves", "within", "(III)Z"⟩, prog_1_method_73_code, 3, (Option.some FieldType.boolean), [[some (.iload_n 0, 1, 0, 0, [], 0), some (.iload_n 1, 2, 1, 0, [], 0), some (.if_icmp .lt 12, 5, 14, 0, [], 0), none, none, some (.iload_n 0, 6, 0, 0, [], 0), some (.iload_n 2, 7, 2, 0, [], 0), some (.if_icmp .gt 7, 10, 14, 0, [], 0), none, none, some (.iconst 1, 11, 0, 0, [], 1), some (.goto 4, 14, 15, 0, [], 0), none, none, some (.iconst 0, 15, 0, 0, [], 0), some (.ireturn, 16, 2, 0, [], 0)]])
/-- BrokenLoavesModel.in1(III)Z -/
def mm_163 : am_M := (⟨"BrokenLoavesModel", "in1", "(III)Z"⟩, prog_14_method_2_code, 3, (Option.some FieldType.boolean), [[some (.iload_n 0, 1, 0, 0, [], 0), some (.iload_n 1, 2, 1, 0, [], 0), some (.if_icmp .lt 12, 5, 14, 0, [], 0), none, none, some (.iload_n 0, 6, 0, 0, [], 0), some (.iload_n 2, 7, 2, 0, [], 0), some (.if_icmp .gt 7, 10, 14, 0, [], 0), none, none, some (.iconst 1, 11, 0, 0, [], 1), some (.goto 4, 14, 15, 0, [], 0), none, none, some (.iconst 0, 15, 0, 0, [], 0), some (.ireturn, 16, 2, 0, [], 0)]])
/-- BrokenLoavesModel.held(II)I -/
def mm_164 : am_M := (⟨"BrokenLoavesModel", "held", "(II)I"⟩, prog_14_method_3_code, 2, (Option.some FieldType.int), [[some (.iload_n 0, 1, 0, 0, [], 0), some (.ifCond .ge 7, 4, 8, 0, [], 0), none, none, some (.iconst 0, 5, 0, 0, [], 0), some (.goto 13, 8, 18, 0, [], 0), none, none, some (.iload_n 0, 9, 0, 0, [], 0), some (.iload_n 1, 10, 1, 0, [], 0), some (.if_icmp .le 7, 13, 17, 0, [], 0), none, none, some (.iload_n 1, 14, 1, 0, [], 0), some (.goto 4, 17, 18, 0, [], 0), none],
  [none, some (.iload_n 0, 18, 0, 0, [], 0), some (.ireturn, 19, 0, 0, [], 0)]])
/-- BrokenLoavesModel.layDown()V -/
def mm_165 : am_M := (⟨"BrokenLoavesModel", "layDown", "()V"⟩, prog_14_method_4_code, 2, (Option.none : Option FieldType), [[some (.iconst 0, 1, 0, 0, [], 0), some (.istore_n 1, 2, 1, 0, [], 0), some (.iload_n 1, 3, 1, 0, [], 0), some (.bipush 74, 5, 0, 0, [], 74), none, some (.if_icmp .ge 21, 8, 26, 0, [], 0), none, none, some (.aload_n 0, 9, 0, 0, [], 0), some (.getfield 16, 12, 12, 2, [], 0), none, none, some (.iload_n 1, 13, 1, 0, [], 0), some (.aload_n 0, 14, 0, 0, [], 0), some (.getfield 9, 17, 12, 0, [], 0), none],
  [none, some (.iload_n 1, 18, 1, 0, [], 0), some (.iaload, 19, 0, 0, [], 0), some (.iastore, 20, 0, 0, [], 0), some (.iinc 1 1, 23, 1, 0, [], 1), none, none, some (.goto (-21), 26, 2, 0, [], 0), none, none, some (.return_, 27, 0, 0, [], 0)]])
/-- BrokenLoavesModel.layBack()V -/
def mm_166 : am_M := (⟨"BrokenLoavesModel", "layBack", "()V"⟩, prog_14_method_5_code, 2, (Option.none : Option FieldType), [[some (.iconst 0, 1, 0, 0, [], 0), some (.istore_n 1, 2, 1, 0, [], 0), some (.iload_n 1, 3, 1, 0, [], 0), some (.bipush 74, 5, 0, 0, [], 74), none, some (.if_icmp .ge 21, 8, 26, 0, [], 0), none, none, some (.aload_n 0, 9, 0, 0, [], 0), some (.getfield 9, 12, 12, 0, [], 0), none, none, some (.iload_n 1, 13, 1, 0, [], 0), some (.aload_n 0, 14, 0, 0, [], 0), some (.getfield 16, 17, 12, 2, [], 0), none],
  [none, some (.iload_n 1, 18, 1, 0, [], 0), some (.iaload, 19, 0, 0, [], 0), some (.iastore, 20, 0, 0, [], 0), some (.iinc 1 1, 23, 1, 0, [], 1), none, none, some (.goto (-21), 26, 2, 0, [], 0), none, none, some (.return_, 27, 0, 0, [], 0)]])
/-- BrokenLoavesModel.get(II)I -/
def mm_167 : am_M := (⟨"BrokenLoavesModel", "get", "(II)I"⟩, prog_14_method_6_code, 3, (Option.some FieldType.int), [[some (.aload_n 0, 1, 0, 0, [], 0), some (.getfield 9, 4, 12, 0, [], 0), none, none, some (.bipush 38, 6, 0, 0, [], 38), none, some (.bipush 6, 8, 0, 0, [], 6), none, some (.iload_n 1, 9, 1, 0, [], 0), some (.imul, 10, 0, 0, [], 0), some (.iadd, 11, 0, 0, [], 0), some (.iload_n 2, 12, 2, 0, [], 0), some (.iadd, 13, 0, 0, [], 0), some (.iaload, 14, 0, 0, [], 0), some (.ireturn, 15, 0, 0, [], 0)]])
/-- BrokenLoavesModel.puts(III)V -/
def mm_168 : am_M := (⟨"BrokenLoavesModel", "puts", "(III)V"⟩, prog_14_method_7_code, 4, (Option.none : Option FieldType), [[some (.aload_n 0, 1, 0, 0, [], 0), some (.getfield 9, 4, 12, 0, [], 0), none, none, some (.bipush 38, 6, 0, 0, [], 38), none, some (.bipush 6, 8, 0, 0, [], 6), none, some (.iload_n 1, 9, 1, 0, [], 0), some (.imul, 10, 0, 0, [], 0), some (.iadd, 11, 0, 0, [], 0), some (.iload_n 2, 12, 2, 0, [], 0), some (.iadd, 13, 0, 0, [], 0), some (.iload_n 3, 14, 3, 0, [], 0), some (.iastore, 15, 0, 0, [], 0), some (.return_, 16, 0, 0, [], 0)]])
/-- BrokenLoavesModel.isPerson(I)Z -/
def mm_169 : am_M := (⟨"BrokenLoavesModel", "isPerson", "(I)Z"⟩, prog_14_method_8_code, 2, (Option.some FieldType.boolean), [[some (.iload_n 1, 1, 1, 0, [], 0), some (.iconst 0, 2, 0, 0, [], 0), some (.aload_n 0, 3, 0, 0, [], 0), some (.getfield 9, 6, 12, 0, [], 0), none, none, some (.bipush 6, 8, 0, 0, [], 6), none, some (.iaload, 9, 0, 0, [], 0), some (.iconst 1, 10, 0, 0, [], 1), some (.isub, 11, 0, 0, [], 0), some (.invokestatic 71, 14, 0, 163, [3], 0), none, none, some (.ireturn, 15, 2, 0, [], 0)]])
/-- BrokenLoavesModel.isAct(I)Z -/
def mm_170 : am_M := (⟨"BrokenLoavesModel", "isAct", "(I)Z"⟩, prog_14_method_9_code, 2, (Option.some FieldType.boolean), [[some (.iload_n 1, 1, 1, 0, [], 0), some (.iconst 0, 2, 0, 0, [], 0), some (.aload_n 0, 3, 0, 0, [], 0), some (.getfield 9, 6, 12, 0, [], 0), none, none, some (.bipush 6, 8, 0, 0, [], 6), none, some (.iaload, 9, 0, 0, [], 0), some (.invokestatic 71, 12, 0, 163, [3], 0), none, none, some (.ireturn, 13, 2, 0, [], 0)]])
/-- BrokenLoavesModel.isOver()Z -/
def mm_171 : am_M := (⟨"BrokenLoavesModel", "isOver", "()Z"⟩, prog_14_method_10_code, 1, (Option.some FieldType.boolean), [[some (.aload_n 0, 1, 0, 0, [], 0), some (.getfield 9, 4, 12, 0, [], 0), none, none, some (.iconst 0, 5, 0, 0, [], 0), some (.iaload, 6, 0, 0, [], 0), some (.aload_n 0, 7, 0, 0, [], 0), some (.getfield 9, 10, 12, 0, [], 0), none, none, some (.iconst 1, 11, 0, 0, [], 1), some (.iaload, 12, 0, 0, [], 0), some (.if_icmp .lt 7, 15, 19, 0, [], 0), none, none, some (.iconst 1, 16, 0, 0, [], 1)],
  [some (.goto 4, 19, 20, 0, [], 0), none, none, some (.iconst 0, 20, 0, 0, [], 0), some (.ireturn, 21, 2, 0, [], 0)]])
/-- BrokenLoavesModel.becomes(II)I -/
def mm_172 : am_M := (⟨"BrokenLoavesModel", "becomes", "(II)I"⟩, prog_14_method_11_code, 4, (Option.some FieldType.int), [[some (.aload_n 0, 1, 0, 0, [], 0), some (.getfield 9, 4, 12, 0, [], 0), none, none, some (.iload_n 1, 5, 1, 0, [], 0), some (.iaload, 6, 0, 0, [], 0), some (.istore_n 3, 7, 3, 0, [], 0), some (.aload_n 0, 8, 0, 0, [], 0), some (.getfield 9, 11, 12, 0, [], 0), none, none, some (.iload_n 1, 12, 1, 0, [], 0), some (.iload_n 2, 13, 2, 0, [], 0), some (.iastore, 14, 0, 0, [], 0), some (.iload_n 3, 15, 3, 0, [], 0), some (.ireturn, 16, 0, 0, [], 0)]])
/-- BrokenLoavesModel.above(I)I -/
def mm_173 : am_M := (⟨"BrokenLoavesModel", "above", "(I)I"⟩, prog_14_method_12_code, 1, (Option.some FieldType.int), [[some (.iload_n 0, 1, 0, 0, [], 0), some (.iconst 3, 2, 0, 0, [], 3), some (.if_icmp .ne 7, 5, 9, 0, [], 0), none, none, some (.iconst 2, 6, 0, 0, [], 2), some (.goto 13, 9, 19, 0, [], 0), none, none, some (.iload_n 0, 10, 0, 0, [], 0), some (.iconst 5, 11, 0, 0, [], 5), some (.if_icmp .ne 7, 14, 18, 0, [], 0), none, none, some (.iconst 4, 15, 0, 0, [], 4), some (.goto 4, 18, 19, 0, [], 0)],
  [none, none, some (.iconst 0, 19, 0, 0, [], 0), some (.ireturn, 20, 0, 0, [], 0)]])
/-- BrokenLoavesModel.isUnder(II)Z -/
def mm_174 : am_M := (⟨"BrokenLoavesModel", "isUnder", "(II)Z"⟩, prog_14_method_13_code, 3, (Option.some FieldType.boolean), [[some (.iload_n 0, 1, 0, 0, [], 0), some (.istore_n 2, 2, 2, 0, [], 0), some (.iload_n 2, 3, 2, 0, [], 0), some (.iload_n 1, 4, 1, 0, [], 0), some (.if_icmp .eq 15, 7, 19, 0, [], 0), none, none, some (.iload_n 2, 8, 2, 0, [], 0), some (.ifCond .eq 11, 11, 19, 0, [], 0), none, none, some (.iload_n 2, 12, 2, 0, [], 0), some (.invokestatic 75, 15, 0, 173, [1], 0), none, none, some (.istore_n 2, 16, 2, 0, [], 0)],
  [some (.goto (-14), 19, 2, 0, [], 0), none, none, some (.iload_n 2, 20, 2, 0, [], 0), some (.iload_n 1, 21, 1, 0, [], 0), some (.if_icmp .ne 7, 24, 28, 0, [], 0), none, none, some (.iconst 1, 25, 0, 0, [], 1), some (.goto 4, 28, 29, 0, [], 0), none, none, some (.iconst 0, 29, 0, 0, [], 0), some (.ireturn, 30, 2, 0, [], 0)]])
/-- BrokenLoavesModel.strangeOf(III)I -/
def mm_175 : am_M := (⟨"BrokenLoavesModel", "strangeOf", "(III)I"⟩, prog_14_method_14_code, 3, (Option.some FieldType.int), [[some (.iload_n 0, 1, 0, 0, [], 0), some (.tableswitch 79 1 5 #[35, 39, 43, 59, 63], 36, 80, 0, [36, 40, 44, 60, 64], 1), none, none, none, none, none, none, none, none, none, none, none, none, none, none],
  [none, none, none, none, none, none, none, none, none, none, none, none, none, none, none, none],
  [none, none, none, none, some (.iconst 2, 37, 0, 0, [], 2), some (.iload_n 1, 38, 1, 0, [], 0), some (.imul, 39, 0, 0, [], 0), some (.ireturn, 40, 0, 0, [], 0), some (.iload_n 1, 41, 1, 0, [], 0), some (.iconst 3, 42, 0, 0, [], 3), some (.iadd, 43, 0, 0, [], 0), some (.ireturn, 44, 0, 0, [], 0), some (.iload_n 2, 45, 2, 0, [], 0), some (.iconst 2, 46, 0, 0, [], 2), some (.irem, 47, 0, 0, [], 0), some (.ifCond .ne 9, 50, 56, 0, [], 0)],
  [none, none, some (.iload_n 1, 51, 1, 0, [], 0), some (.iconst 5, 52, 0, 0, [], 5), some (.iadd, 53, 0, 0, [], 0), some (.goto 6, 56, 59, 0, [], 0), none, none, some (.iload_n 1, 57, 1, 0, [], 0), some (.iconst 3, 58, 0, 0, [], 3), some (.iadd, 59, 0, 0, [], 0), some (.ireturn, 60, 0, 0, [], 0), some (.iload_n 1, 61, 1, 0, [], 0), some (.iconst 2, 62, 0, 0, [], 2), some (.idiv, 63, 0, 0, [], 0), some (.ireturn, 64, 0, 0, [], 0)],
  [some (.iload_n 2, 65, 2, 0, [], 0), some (.iconst 3, 66, 0, 0, [], 3), some (.irem, 67, 0, 0, [], 0), some (.iconst 2, 68, 0, 0, [], 2), some (.if_icmp .ne 8, 71, 76, 0, [], 0), none, none, some (.bipush 9, 73, 0, 0, [], 9), none, some (.goto 6, 76, 79, 0, [], 0), none, none, some (.iload_n 1, 77, 1, 0, [], 0), some (.iconst 2, 78, 0, 0, [], 2), some (.idiv, 79, 0, 0, [], 0), some (.ireturn, 80, 0, 0, [], 0)],
  [some (.iload_n 1, 81, 1, 0, [], 0), some (.ireturn, 82, 0, 0, [], 0)]])
/-- BrokenLoavesModel.stillOf(I)I -/
def mm_176 : am_M := (⟨"BrokenLoavesModel", "stillOf", "(I)I"⟩, prog_14_method_15_code, 3, (Option.some FieldType.int), [[some (.aload_n 0, 1, 0, 0, [], 0), some (.iload_n 1, 2, 1, 0, [], 0), some (.iconst 0, 3, 0, 0, [], 0), some (.invokevirtual 79, 6, 1, 167, [2, 12], 0), none, none, some (.aload_n 0, 7, 0, 0, [], 0), some (.iload_n 1, 8, 1, 0, [], 0), some (.iconst 2, 9, 0, 0, [], 2), some (.invokevirtual 79, 12, 1, 167, [2, 12], 0), none, none, some (.aload_n 0, 13, 0, 0, [], 0), some (.getfield 9, 16, 12, 0, [], 0), none, none],
  [some (.iconst 0, 17, 0, 0, [], 0), some (.iaload, 18, 0, 0, [], 0), some (.invokestatic 83, 21, 0, 175, [3], 0), none, none, some (.aload_n 0, 22, 0, 0, [], 0), some (.getfield 9, 25, 12, 0, [], 0), none, none, some (.bipush 26, 27, 0, 0, [], 26), none, some (.aload_n 0, 28, 0, 0, [], 0), some (.iload_n 1, 29, 1, 0, [], 0), some (.iconst 3, 30, 0, 0, [], 3), some (.invokevirtual 79, 33, 1, 167, [2, 12], 0), none],
  [none, some (.iadd, 34, 0, 0, [], 0), some (.iaload, 35, 0, 0, [], 0), some (.iadd, 36, 0, 0, [], 0), some (.iconst 2, 37, 0, 0, [], 2), some (.aload_n 0, 38, 0, 0, [], 0), some (.iload_n 1, 39, 1, 0, [], 0), some (.iconst 4, 40, 0, 0, [], 4), some (.invokevirtual 79, 43, 1, 167, [2, 12], 0), none, none, some (.imul, 44, 0, 0, [], 0), some (.isub, 45, 0, 0, [], 0), some (.istore_n 2, 46, 2, 0, [], 0), some (.iload_n 2, 47, 2, 0, [], 0), some (.ifCond .ge 7, 50, 54, 0, [], 0)],
  [none, none, some (.iconst 0, 51, 0, 0, [], 0), some (.goto 4, 54, 55, 0, [], 0), none, none, some (.iload_n 2, 55, 2, 0, [], 0), some (.ireturn, 56, 0, 0, [], 0)]])
/-- BrokenLoavesModel.eatsOf(I)I -/
def mm_177 : am_M := (⟨"BrokenLoavesModel", "eatsOf", "(I)I"⟩, prog_14_method_16_code, 2, (Option.some FieldType.int), [[some (.aload_n 0, 1, 0, 0, [], 0), some (.iload_n 1, 2, 1, 0, [], 0), some (.iconst 0, 3, 0, 0, [], 0), some (.invokevirtual 79, 6, 1, 167, [2, 12], 0), none, none, some (.tableswitch 48 1 5 #[34, 38, 40, 43, 46], 40, 54, 0, [40, 44, 46, 49, 52], 1), none, none, none, none, none, none, none, none, none],
  [none, none, none, none, none, none, none, none, none, none, none, none, none, none, none, none],
  [none, none, none, none, none, none, none, none, some (.iconst 3, 41, 0, 0, [], 3), some (.iload_n 1, 42, 1, 0, [], 0), some (.iadd, 43, 0, 0, [], 0), some (.ireturn, 44, 0, 0, [], 0), some (.iconst 2, 45, 0, 0, [], 2), some (.ireturn, 46, 0, 0, [], 0), some (.bipush 7, 48, 0, 0, [], 7), none],
  [some (.ireturn, 49, 0, 0, [], 0), some (.bipush 6, 51, 0, 0, [], 6), none, some (.ireturn, 52, 0, 0, [], 0), some (.iconst 4, 53, 0, 0, [], 4), some (.ireturn, 54, 0, 0, [], 0), some (.iconst 3, 55, 0, 0, [], 3), some (.ireturn, 56, 0, 0, [], 0)]])
/-- BrokenLoavesModel.isTaken(I)Z -/
def mm_178 : am_M := (⟨"BrokenLoavesModel", "isTaken", "(I)Z"⟩, prog_14_method_17_code, 2, (Option.some FieldType.boolean), [[some (.aload_n 0, 1, 0, 0, [], 0), some (.getfield 9, 4, 12, 0, [], 0), none, none, some (.iconst 3, 5, 0, 0, [], 3), some (.iaload, 6, 0, 0, [], 0), some (.aload_n 0, 7, 0, 0, [], 0), some (.getfield 9, 10, 12, 0, [], 0), none, none, some (.bipush 32, 12, 0, 0, [], 32), none, some (.aload_n 0, 13, 0, 0, [], 0), some (.iload_n 1, 14, 1, 0, [], 0), some (.iconst 3, 15, 0, 0, [], 3), some (.invokevirtual 79, 18, 1, 167, [2, 12], 0)],
  [none, none, some (.iadd, 19, 0, 0, [], 0), some (.iaload, 20, 0, 0, [], 0), some (.if_icmp .gt 7, 23, 27, 0, [], 0), none, none, some (.iconst 1, 24, 0, 0, [], 1), some (.goto 4, 27, 28, 0, [], 0), none, none, some (.iconst 0, 28, 0, 0, [], 0), some (.ireturn, 29, 2, 0, [], 0)]])
/-- BrokenLoavesModel.knownOf(II)I -/
def mm_179 : am_M := (⟨"BrokenLoavesModel", "knownOf", "(II)I"⟩, prog_14_method_18_code, 3, (Option.some FieldType.int), [[some (.iload_n 1, 1, 1, 0, [], 0), some (.ifCond .ne 12, 4, 13, 0, [], 0), none, none, some (.aload_n 0, 5, 0, 0, [], 0), some (.getfield 9, 8, 12, 0, [], 0), none, none, some (.iconst 0, 9, 0, 0, [], 0), some (.iaload, 10, 0, 0, [], 0), some (.goto 45, 13, 55, 0, [], 0), none, none, some (.iload_n 1, 14, 1, 0, [], 0), some (.iconst 1, 15, 0, 0, [], 1), some (.if_icmp .ne 12, 18, 27, 0, [], 0)],
  [none, none, some (.aload_n 0, 19, 0, 0, [], 0), some (.iload_n 2, 20, 2, 0, [], 0), some (.iconst 2, 21, 0, 0, [], 2), some (.invokevirtual 79, 24, 1, 167, [2, 12], 0), none, none, some (.goto 31, 27, 55, 0, [], 0), none, none, some (.iload_n 1, 28, 1, 0, [], 0), some (.iconst 2, 29, 0, 0, [], 2), some (.if_icmp .ne 11, 32, 40, 0, [], 0), none, none],
  [some (.aload_n 0, 33, 0, 0, [], 0), some (.iload_n 2, 34, 2, 0, [], 0), some (.invokevirtual 87, 37, 1, 176, [1, 12], 0), none, none, some (.goto 18, 40, 55, 0, [], 0), none, none, some (.iload_n 1, 41, 1, 0, [], 0), some (.iconst 3, 42, 0, 0, [], 3), some (.if_icmp .ne 12, 45, 54, 0, [], 0), none, none, some (.aload_n 0, 46, 0, 0, [], 0), some (.getfield 9, 49, 12, 0, [], 0), none],
  [none, some (.iconst 3, 50, 0, 0, [], 3), some (.iaload, 51, 0, 0, [], 0), some (.goto 4, 54, 55, 0, [], 0), none, none, some (.iload_n 2, 55, 2, 0, [], 0), some (.ireturn, 56, 0, 0, [], 0)]])
/-- BrokenLoavesModel.joined(III)I -/
def mm_180 : am_M := (⟨"BrokenLoavesModel", "joined", "(III)I"⟩, prog_14_method_19_code, 3, (Option.some FieldType.int), [[some (.iload_n 0, 1, 0, 0, [], 0), some (.tableswitch 78 10010 10013 #[31, 42, 53, 64], 32, 79, 0, [32, 43, 54, 65], 10010), none, none, none, none, none, none, none, none, none, none, none, none, none, none],
  [none, none, none, none, none, none, none, none, none, none, none, none, none, none, none, none],
  [some (.iload_n 1, 33, 1, 0, [], 0), some (.iload_n 2, 34, 2, 0, [], 0), some (.if_icmp .ge 7, 37, 41, 0, [], 0), none, none, some (.iconst 1, 38, 0, 0, [], 1), some (.goto 4, 41, 42, 0, [], 0), none, none, some (.iconst 0, 42, 0, 0, [], 0), some (.ireturn, 43, 0, 0, [], 0), some (.iload_n 1, 44, 1, 0, [], 0), some (.iload_n 2, 45, 2, 0, [], 0), some (.if_icmp .ne 7, 48, 52, 0, [], 0), none, none],
  [some (.iconst 1, 49, 0, 0, [], 1), some (.goto 4, 52, 53, 0, [], 0), none, none, some (.iconst 0, 53, 0, 0, [], 0), some (.ireturn, 54, 0, 0, [], 0), some (.iload_n 1, 55, 1, 0, [], 0), some (.iload_n 2, 56, 2, 0, [], 0), some (.if_icmp .le 7, 59, 63, 0, [], 0), none, none, some (.iconst 1, 60, 0, 0, [], 1), some (.goto 4, 63, 64, 0, [], 0), none, none, some (.iconst 0, 64, 0, 0, [], 0)],
  [some (.ireturn, 65, 0, 0, [], 0), some (.iload_n 1, 66, 1, 0, [], 0), some (.ifCond .eq 11, 69, 77, 0, [], 0), none, none, some (.iload_n 2, 70, 2, 0, [], 0), some (.ifCond .eq 7, 73, 77, 0, [], 0), none, none, some (.iconst 1, 74, 0, 0, [], 1), some (.goto 4, 77, 78, 0, [], 0), none, none, some (.iconst 0, 78, 0, 0, [], 0), some (.ireturn, 79, 0, 0, [], 0), some (.iload_n 1, 80, 1, 0, [], 0)],
  [some (.ifCond .ne 7, 83, 87, 0, [], 0), none, none, some (.iload_n 2, 84, 2, 0, [], 0), some (.ifCond .eq 7, 87, 91, 0, [], 0), none, none, some (.iconst 1, 88, 0, 0, [], 1), some (.goto 4, 91, 92, 0, [], 0), none, none, some (.iconst 0, 92, 0, 0, [], 0), some (.ireturn, 93, 0, 0, [], 0)]])
/-- BrokenLoavesModel.ruleOf(II)I -/
def mm_181 : am_M := (⟨"BrokenLoavesModel", "ruleOf", "(II)I"⟩, prog_14_method_20_code, 3, (Option.some FieldType.int), [[some (.aload_n 0, 1, 0, 0, [], 0), some (.getfield 9, 4, 12, 0, [], 0), none, none, some (.bipush 98, 6, 0, 0, [], 98), none, some (.iconst 3, 7, 0, 0, [], 3), some (.iload_n 1, 8, 1, 0, [], 0), some (.imul, 9, 0, 0, [], 0), some (.iadd, 10, 0, 0, [], 0), some (.iload_n 2, 11, 2, 0, [], 0), some (.iadd, 12, 0, 0, [], 0), some (.iaload, 13, 0, 0, [], 0), some (.ireturn, 14, 0, 0, [], 0)]])
/-- BrokenLoavesModel.holdsFor(II)Z -/
def mm_182 : am_M := (⟨"BrokenLoavesModel", "holdsFor", "(II)Z"⟩, prog_14_method_21_code, 6, (Option.some FieldType.boolean), [[some (.iconst 0, 1, 0, 0, [], 0), some (.istore_n 3, 2, 3, 0, [], 0), some (.iload_n 1, 3, 1, 0, [], 0), some (.ifCond .ne 7, 6, 10, 0, [], 0), none, none, some (.iconst 0, 7, 0, 0, [], 0), some (.goto 11, 10, 18, 0, [], 0), none, none, some (.aload_n 0, 11, 0, 0, [], 0), some (.iload_n 1, 12, 1, 0, [], 0), some (.iconst 1, 13, 0, 0, [], 1), some (.isub, 14, 0, 0, [], 0), some (.iconst 2, 15, 0, 0, [], 2), some (.invokevirtual 90, 18, 1, 181, [2, 12], 0)],
  [none, none, some (.istore 4, 20, 4, 0, [], 0), none, some (.iload 4, 22, 4, 0, [], 0), none, some (.aload_n 0, 23, 0, 0, [], 0), some (.iload_n 1, 24, 1, 0, [], 0), some (.iconst 2, 25, 0, 0, [], 2), some (.invokevirtual 90, 28, 1, 181, [2, 12], 0), none, none, some (.if_icmp .ge 124, 31, 152, 0, [], 0), none, none, some (.aload_n 0, 32, 0, 0, [], 0)],
  [some (.getfield 9, 35, 12, 0, [], 0), none, none, some (.bipush 122, 37, 0, 0, [], 122), none, some (.iload 4, 39, 4, 0, [], 0), none, some (.iadd, 40, 0, 0, [], 0), some (.iaload, 41, 0, 0, [], 0), some (.istore 5, 43, 5, 0, [], 0), none, some (.iload 5, 45, 5, 0, [], 0), none, some (.sipush 10010, 48, 0, 0, [], 10010), none, none],
  [some (.if_icmp .ge 39, 51, 87, 0, [], 0), none, none, some (.aload_n 0, 52, 0, 0, [], 0), some (.getfield 19, 55, 12, 4, [], 0), none, none, some (.iload_n 3, 56, 3, 0, [], 0), some (.iload 5, 58, 5, 0, [], 0), none, some (.sipush 10000, 61, 0, 0, [], 10000), none, none, some (.if_icmp .ge 8, 64, 69, 0, [], 0), none, none],
  [some (.iload 5, 66, 5, 0, [], 0), none, some (.goto 14, 69, 80, 0, [], 0), none, none, some (.aload_n 0, 70, 0, 0, [], 0), some (.iload 5, 72, 5, 0, [], 0), none, some (.sipush 10000, 75, 0, 0, [], 10000), none, none, some (.isub, 76, 0, 0, [], 0), some (.iload_n 2, 77, 2, 0, [], 0), some (.invokevirtual 93, 80, 1, 179, [2, 12], 0), none, none],
  [some (.iastore, 81, 0, 0, [], 0), some (.iinc 3 1, 84, 3, 0, [], 1), none, none, some (.goto 62, 87, 146, 0, [], 0), none, none, some (.iload 5, 89, 5, 0, [], 0), none, some (.sipush 10015, 92, 0, 0, [], 10015), none, none, some (.if_icmp .ne 24, 95, 116, 0, [], 0), none, none, some (.aload_n 0, 96, 0, 0, [], 0)],
  [some (.getfield 19, 99, 12, 4, [], 0), none, none, some (.iload_n 3, 100, 3, 0, [], 0), some (.iconst 1, 101, 0, 0, [], 1), some (.isub, 102, 0, 0, [], 0), some (.iconst 1, 103, 0, 0, [], 1), some (.aload_n 0, 104, 0, 0, [], 0), some (.getfield 19, 107, 12, 4, [], 0), none, none, some (.iload_n 3, 108, 3, 0, [], 0), some (.iconst 1, 109, 0, 0, [], 1), some (.isub, 110, 0, 0, [], 0), some (.iaload, 111, 0, 0, [], 0), some (.isub, 112, 0, 0, [], 0)],
  [some (.iastore, 113, 0, 0, [], 0), some (.goto 33, 116, 146, 0, [], 0), none, none, some (.iinc 3 (-1), 119, 3, 0, [], (-1)), none, none, some (.aload_n 0, 120, 0, 0, [], 0), some (.getfield 19, 123, 12, 4, [], 0), none, none, some (.iload_n 3, 124, 3, 0, [], 0), some (.iconst 1, 125, 0, 0, [], 1), some (.isub, 126, 0, 0, [], 0), some (.iload 5, 128, 5, 0, [], 0), none],
  [some (.aload_n 0, 129, 0, 0, [], 0), some (.getfield 19, 132, 12, 4, [], 0), none, none, some (.iload_n 3, 133, 3, 0, [], 0), some (.iconst 1, 134, 0, 0, [], 1), some (.isub, 135, 0, 0, [], 0), some (.iaload, 136, 0, 0, [], 0), some (.aload_n 0, 137, 0, 0, [], 0), some (.getfield 19, 140, 12, 4, [], 0), none, none, some (.iload_n 3, 141, 3, 0, [], 0), some (.iaload, 142, 0, 0, [], 0), some (.invokestatic 96, 145, 0, 180, [3], 0), none],
  [none, some (.iastore, 146, 0, 0, [], 0), some (.iinc 4 1, 149, 4, 0, [], 1), none, none, some (.goto (-129), 152, 20, 0, [], 0), none, none, some (.iload_n 3, 153, 3, 0, [], 0), some (.ifCond .eq 12, 156, 165, 0, [], 0), none, none, some (.aload_n 0, 157, 0, 0, [], 0), some (.getfield 19, 160, 12, 4, [], 0), none, none],
  [some (.iconst 0, 161, 0, 0, [], 0), some (.iaload, 162, 0, 0, [], 0), some (.ifCond .eq 7, 165, 169, 0, [], 0), none, none, some (.iconst 1, 166, 0, 0, [], 1), some (.goto 4, 169, 170, 0, [], 0), none, none, some (.iconst 0, 170, 0, 0, [], 0), some (.ireturn, 171, 2, 0, [], 0)]])
/-- BrokenLoavesModel.willOf(I)I -/
def mm_183 : am_M := (⟨"BrokenLoavesModel", "willOf", "(I)I"⟩, prog_14_method_22_code, 3, (Option.some FieldType.int), [[some (.iconst 0, 1, 0, 0, [], 0), some (.istore_n 2, 2, 2, 0, [], 0), some (.iload_n 2, 3, 2, 0, [], 0), some (.aload_n 0, 4, 0, 0, [], 0), some (.getfield 9, 7, 12, 0, [], 0), none, none, some (.bipush 7, 9, 0, 0, [], 7), none, some (.iaload, 10, 0, 0, [], 0), some (.if_icmp .ge 43, 13, 53, 0, [], 0), none, none, some (.aload_n 0, 14, 0, 0, [], 0), some (.iload_n 1, 15, 1, 0, [], 0), some (.iconst 0, 16, 0, 0, [], 0)],
  [some (.invokevirtual 79, 19, 1, 167, [2, 12], 0), none, none, some (.aload_n 0, 20, 0, 0, [], 0), some (.iload_n 2, 21, 2, 0, [], 0), some (.iconst 0, 22, 0, 0, [], 0), some (.invokevirtual 90, 25, 1, 181, [2, 12], 0), none, none, some (.invokestatic 99, 28, 0, 174, [2], 0), none, none, some (.ifCond .eq 19, 31, 47, 0, [], 0), none, none, some (.aload_n 0, 32, 0, 0, [], 0)],
  [some (.iload_n 2, 33, 2, 0, [], 0), some (.iload_n 1, 34, 1, 0, [], 0), some (.invokevirtual 103, 37, 1, 182, [2, 12], 0), none, none, some (.ifCond .eq 10, 40, 47, 0, [], 0), none, none, some (.aload_n 0, 41, 0, 0, [], 0), some (.iload_n 2, 42, 2, 0, [], 0), some (.iconst 1, 43, 0, 0, [], 1), some (.invokevirtual 90, 46, 1, 181, [2, 12], 0), none, none, some (.ireturn, 47, 0, 0, [], 0), some (.iinc 2 1, 50, 2, 0, [], 1)],
  [none, none, some (.goto (-48), 53, 2, 0, [], 0), none, none, some (.iconst 0, 54, 0, 0, [], 0), some (.ireturn, 55, 0, 0, [], 0)]])
/-- BrokenLoavesModel.byteAt(I)I -/
def mm_184 : am_M := (⟨"BrokenLoavesModel", "byteAt", "(I)I"⟩, prog_14_method_23_code, 2, (Option.some FieldType.int), [[some (.iload_n 1, 1, 1, 0, [], 0), some (.aload_n 0, 2, 0, 0, [], 0), some (.getfield 106, 5, 12, 6, [], 0), none, none, some (.if_icmp .ge 12, 8, 17, 0, [], 0), none, none, some (.aload_n 0, 9, 0, 0, [], 0), some (.getfield 22, 12, 12, 5, [], 0), none, none, some (.iload_n 1, 13, 1, 0, [], 0), some (.iaload, 14, 0, 0, [], 0), some (.goto 4, 17, 18, 0, [], 0), none],
  [none, some (.iconst (-1), 18, 0, 0, [], (-1)), some (.ireturn, 19, 0, 0, [], 0)]])
/-- BrokenLoavesModel.isNameOf(I)Z -/
def mm_185 : am_M := (⟨"BrokenLoavesModel", "isNameOf", "(I)Z"⟩, prog_14_method_24_code, 4, (Option.some FieldType.boolean), [[some (.aload_n 0, 1, 0, 0, [], 0), some (.getfield 110, 4, 12, 8, [], 0), none, none, some (.aload_n 0, 5, 0, 0, [], 0), some (.getfield 113, 8, 12, 9, [], 0), none, none, some (.isub, 9, 0, 0, [], 0), some (.bipush 8, 11, 0, 0, [], 8), none, some (.if_icmp .gt 7, 14, 18, 0, [], 0), none, none, some (.iconst 1, 15, 0, 0, [], 1), some (.goto 4, 18, 19, 0, [], 0)],
  [none, none, some (.iconst 0, 19, 0, 0, [], 0), some (.istore_n 2, 20, 2, 0, [], 0), some (.iconst 0, 21, 0, 0, [], 0), some (.istore_n 3, 22, 3, 0, [], 0), some (.iload_n 3, 23, 3, 0, [], 0), some (.bipush 8, 25, 0, 0, [], 8), none, some (.if_icmp .ge 61, 28, 86, 0, [], 0), none, none, some (.iload_n 2, 29, 2, 0, [], 0), some (.ifCond .eq 57, 32, 86, 0, [], 0), none, none],
  [some (.aload_n 0, 33, 0, 0, [], 0), some (.getfield 25, 36, 12, 7, [], 0), none, none, some (.bipush 8, 38, 0, 0, [], 8), none, some (.iload_n 1, 39, 1, 0, [], 0), some (.imul, 40, 0, 0, [], 0), some (.iload_n 3, 41, 3, 0, [], 0), some (.iadd, 42, 0, 0, [], 0), some (.caload, 43, 0, 0, [], 0), some (.aload_n 0, 44, 0, 0, [], 0), some (.getfield 113, 47, 12, 9, [], 0), none, none, some (.iload_n 3, 48, 3, 0, [], 0)],
  [some (.iadd, 49, 0, 0, [], 0), some (.aload_n 0, 50, 0, 0, [], 0), some (.getfield 110, 53, 12, 8, [], 0), none, none, some (.if_icmp .ge 16, 56, 69, 0, [], 0), none, none, some (.aload_n 0, 57, 0, 0, [], 0), some (.aload_n 0, 58, 0, 0, [], 0), some (.getfield 113, 61, 12, 9, [], 0), none, none, some (.iload_n 3, 62, 3, 0, [], 0), some (.iadd, 63, 0, 0, [], 0), some (.invokevirtual 116, 66, 1, 184, [1, 12], 0)],
  [none, none, some (.goto 5, 69, 71, 0, [], 0), none, none, some (.bipush 32, 71, 0, 0, [], 32), none, some (.if_icmp .ne 7, 74, 78, 0, [], 0), none, none, some (.iconst 1, 75, 0, 0, [], 1), some (.goto 4, 78, 79, 0, [], 0), none, none, some (.iconst 0, 79, 0, 0, [], 0), some (.istore_n 2, 80, 2, 0, [], 0)],
  [some (.iinc 3 1, 83, 3, 0, [], 1), none, none, some (.goto (-61), 86, 22, 0, [], 0), none, none, some (.iload_n 2, 87, 2, 0, [], 0), some (.ireturn, 88, 2, 0, [], 0)]])
end
section
/-- BrokenLoavesModel.readsName()V -/
def mm_186 : am_M := (⟨"BrokenLoavesModel", "readsName", "()V"⟩, prog_14_method_25_code, 2, (Option.none : Option FieldType), [[some (.aload_n 0, 1, 0, 0, [], 0), some (.aload_n 0, 2, 0, 0, [], 0), some (.getfield 110, 5, 12, 8, [], 0), none, none, some (.invokevirtual 116, 8, 1, 184, [1, 12], 0), none, none, some (.bipush 97, 10, 0, 0, [], 97), none, some (.bipush 122, 12, 0, 0, [], 122), none, some (.invokestatic 71, 15, 0, 163, [3], 0), none, none, some (.ifCond .eq 16, 18, 31, 0, [], 0)],
  [none, none, some (.aload_n 0, 19, 0, 0, [], 0), some (.dup, 20, 0, 0, [], 0), some (.getfield 110, 23, 12, 8, [], 0), none, none, some (.iconst 1, 24, 0, 0, [], 1), some (.iadd, 25, 0, 0, [], 0), some (.putfield 110, 28, 12, 8, [], 0), none, none, some (.goto (-28), 31, 0, 0, [], 0), none, none, some (.aload_n 0, 32, 0, 0, [], 0)],
  [some (.bipush 101, 34, 0, 0, [], 101), none, some (.putfield 119, 37, 12, 10, [], 0), none, none, some (.iconst 0, 38, 0, 0, [], 0), some (.istore_n 1, 39, 1, 0, [], 0), some (.iload_n 1, 40, 1, 0, [], 0), some (.bipush 18, 42, 0, 0, [], 18), none, some (.if_icmp .ge 29, 45, 71, 0, [], 0), none, none, some (.aload_n 0, 46, 0, 0, [], 0), some (.aload_n 0, 47, 0, 0, [], 0), some (.iload_n 1, 48, 1, 0, [], 0)],
  [some (.invokevirtual 122, 51, 1, 185, [1, 12], 0), none, none, some (.ifCond .eq 7, 54, 58, 0, [], 0), none, none, some (.iload_n 1, 55, 1, 0, [], 0), some (.goto 7, 58, 62, 0, [], 0), none, none, some (.aload_n 0, 59, 0, 0, [], 0), some (.getfield 119, 62, 12, 10, [], 0), none, none, some (.putfield 119, 65, 12, 10, [], 0), none],
  [none, some (.iinc 1 1, 68, 1, 0, [], 1), none, none, some (.goto (-29), 71, 39, 0, [], 0), none, none, some (.return_, 72, 0, 0, [], 0)]])
/-- BrokenLoavesModel.readsNumber()V -/
def mm_187 : am_M := (⟨"BrokenLoavesModel", "readsNumber", "()V"⟩, prog_14_method_26_code, 1, (Option.none : Option FieldType), [[some (.aload_n 0, 1, 0, 0, [], 0), some (.iconst 0, 2, 0, 0, [], 0), some (.putfield 126, 5, 12, 11, [], 0), none, none, some (.aload_n 0, 6, 0, 0, [], 0), some (.aload_n 0, 7, 0, 0, [], 0), some (.getfield 110, 10, 12, 8, [], 0), none, none, some (.invokevirtual 116, 13, 1, 184, [1, 12], 0), none, none, some (.bipush 48, 15, 0, 0, [], 48), none, some (.bipush 57, 17, 0, 0, [], 57)],
  [none, some (.invokestatic 71, 20, 0, 163, [3], 0), none, none, some (.ifCond .eq 59, 23, 79, 0, [], 0), none, none, some (.aload_n 0, 24, 0, 0, [], 0), some (.aload_n 0, 25, 0, 0, [], 0), some (.getfield 110, 28, 12, 8, [], 0), none, none, some (.aload_n 0, 29, 0, 0, [], 0), some (.getfield 113, 32, 12, 9, [], 0), none, none],
  [some (.isub, 33, 0, 0, [], 0), some (.iconst 4, 34, 0, 0, [], 4), some (.if_icmp .ge 25, 37, 59, 0, [], 0), none, none, some (.bipush 10, 39, 0, 0, [], 10), none, some (.aload_n 0, 40, 0, 0, [], 0), some (.getfield 126, 43, 12, 11, [], 0), none, none, some (.imul, 44, 0, 0, [], 0), some (.aload_n 0, 45, 0, 0, [], 0), some (.aload_n 0, 46, 0, 0, [], 0), some (.getfield 110, 49, 12, 8, [], 0), none],
  [none, some (.invokevirtual 116, 52, 1, 184, [1, 12], 0), none, none, some (.iadd, 53, 0, 0, [], 0), some (.bipush 48, 55, 0, 0, [], 48), none, some (.isub, 56, 0, 0, [], 0), some (.goto 7, 59, 63, 0, [], 0), none, none, some (.aload_n 0, 60, 0, 0, [], 0), some (.getfield 126, 63, 12, 11, [], 0), none, none, some (.putfield 126, 66, 12, 11, [], 0)],
  [none, none, some (.aload_n 0, 67, 0, 0, [], 0), some (.dup, 68, 0, 0, [], 0), some (.getfield 110, 71, 12, 8, [], 0), none, none, some (.iconst 1, 72, 0, 0, [], 1), some (.iadd, 73, 0, 0, [], 0), some (.putfield 110, 76, 12, 8, [], 0), none, none, some (.goto (-71), 79, 5, 0, [], 0), none, none, some (.aload_n 0, 80, 0, 0, [], 0)],
  [some (.aload_n 0, 81, 0, 0, [], 0), some (.getfield 110, 84, 12, 8, [], 0), none, none, some (.aload_n 0, 85, 0, 0, [], 0), some (.getfield 113, 88, 12, 9, [], 0), none, none, some (.isub, 89, 0, 0, [], 0), some (.iconst 4, 90, 0, 0, [], 4), some (.if_icmp .le 8, 93, 98, 0, [], 0), none, none, some (.bipush 101, 95, 0, 0, [], 101), none, some (.goto 5, 98, 100, 0, [], 0)],
  [none, none, some (.bipush 100, 100, 0, 0, [], 100), none, some (.putfield 119, 103, 12, 10, [], 0), none, none, some (.return_, 104, 0, 0, [], 0)]])
/-- BrokenLoavesModel.next()V -/
def mm_188 : am_M := (⟨"BrokenLoavesModel", "next", "()V"⟩, prog_14_method_27_code, 2, (Option.none : Option FieldType), [[some (.aload_n 0, 1, 0, 0, [], 0), some (.aload_n 0, 2, 0, 0, [], 0), some (.getfield 110, 5, 12, 8, [], 0), none, none, some (.invokevirtual 116, 8, 1, 184, [1, 12], 0), none, none, some (.bipush 32, 10, 0, 0, [], 32), none, some (.if_icmp .ne 16, 13, 26, 0, [], 0), none, none, some (.aload_n 0, 14, 0, 0, [], 0), some (.dup, 15, 0, 0, [], 0), some (.getfield 110, 18, 12, 8, [], 0)],
  [none, none, some (.iconst 1, 19, 0, 0, [], 1), some (.iadd, 20, 0, 0, [], 0), some (.putfield 110, 23, 12, 8, [], 0), none, none, some (.goto (-23), 26, 0, 0, [], 0), none, none, some (.aload_n 0, 27, 0, 0, [], 0), some (.aload_n 0, 28, 0, 0, [], 0), some (.getfield 110, 31, 12, 8, [], 0), none, none, some (.putfield 113, 34, 12, 9, [], 0)],
  [none, none, some (.aload_n 0, 35, 0, 0, [], 0), some (.aload_n 0, 36, 0, 0, [], 0), some (.getfield 110, 39, 12, 8, [], 0), none, none, some (.invokevirtual 116, 42, 1, 184, [1, 12], 0), none, none, some (.istore_n 1, 43, 1, 0, [], 0), some (.iload_n 1, 44, 1, 0, [], 0), some (.ifCond .ge 11, 47, 55, 0, [], 0), none, none, some (.aload_n 0, 48, 0, 0, [], 0)],
  [some (.iconst (-1), 49, 0, 0, [], (-1)), some (.putfield 119, 52, 12, 10, [], 0), none, none, some (.goto 58, 55, 110, 0, [], 0), none, none, some (.iload_n 1, 56, 1, 0, [], 0), some (.bipush 97, 58, 0, 0, [], 97), none, some (.bipush 122, 60, 0, 0, [], 122), none, some (.invokestatic 71, 63, 0, 163, [3], 0), none, none, some (.ifCond .eq 10, 66, 73, 0, [], 0)],
  [none, none, some (.aload_n 0, 67, 0, 0, [], 0), some (.invokevirtual 129, 70, 1, 186, [0, 12], 0), none, none, some (.goto 40, 73, 110, 0, [], 0), none, none, some (.iload_n 1, 74, 1, 0, [], 0), some (.bipush 48, 76, 0, 0, [], 48), none, some (.bipush 57, 78, 0, 0, [], 57), none, some (.invokestatic 71, 81, 0, 163, [3], 0), none],
  [none, some (.ifCond .eq 10, 84, 91, 0, [], 0), none, none, some (.aload_n 0, 85, 0, 0, [], 0), some (.invokevirtual 132, 88, 1, 187, [0, 12], 0), none, none, some (.goto 22, 91, 110, 0, [], 0), none, none, some (.aload_n 0, 92, 0, 0, [], 0), some (.sipush 200, 95, 0, 0, [], 200), none, none, some (.iload_n 1, 96, 1, 0, [], 0)],
  [some (.iadd, 97, 0, 0, [], 0), some (.putfield 119, 100, 12, 10, [], 0), none, none, some (.aload_n 0, 101, 0, 0, [], 0), some (.dup, 102, 0, 0, [], 0), some (.getfield 110, 105, 12, 8, [], 0), none, none, some (.iconst 1, 106, 0, 0, [], 1), some (.iadd, 107, 0, 0, [], 0), some (.putfield 110, 110, 12, 8, [], 0), none, none, some (.return_, 111, 0, 0, [], 0)]])
/-- BrokenLoavesModel.takes(I)Z -/
def mm_189 : am_M := (⟨"BrokenLoavesModel", "takes", "(I)Z"⟩, prog_14_method_28_code, 3, (Option.some FieldType.boolean), [[some (.aload_n 0, 1, 0, 0, [], 0), some (.getfield 119, 4, 12, 10, [], 0), none, none, some (.iload_n 1, 5, 1, 0, [], 0), some (.if_icmp .ne 7, 8, 12, 0, [], 0), none, none, some (.iconst 1, 9, 0, 0, [], 1), some (.goto 4, 12, 13, 0, [], 0), none, none, some (.iconst 0, 13, 0, 0, [], 0), some (.istore_n 2, 14, 2, 0, [], 0), some (.iload_n 2, 15, 2, 0, [], 0), some (.ifCond .eq 7, 18, 22, 0, [], 0)],
  [none, none, some (.aload_n 0, 19, 0, 0, [], 0), some (.invokevirtual 135, 22, 1, 188, [0, 12], 0), none, none, some (.iload_n 2, 23, 2, 0, [], 0), some (.ireturn, 24, 2, 0, [], 0)]])
/-- BrokenLoavesModel.lays(I)V -/
def mm_190 : am_M := (⟨"BrokenLoavesModel", "lays", "(I)V"⟩, prog_14_method_29_code, 2, (Option.none : Option FieldType), [[some (.aload_n 0, 1, 0, 0, [], 0), some (.getfield 29, 4, 12, 14, [], 0), none, none, some (.aload_n 0, 5, 0, 0, [], 0), some (.getfield 138, 8, 12, 13, [], 0), none, none, some (.iload_n 1, 9, 1, 0, [], 0), some (.iastore, 10, 0, 0, [], 0), some (.aload_n 0, 11, 0, 0, [], 0), some (.dup, 12, 0, 0, [], 0), some (.getfield 138, 15, 12, 13, [], 0), none, none, some (.iconst 1, 16, 0, 0, [], 1)],
  [some (.iadd, 17, 0, 0, [], 0), some (.putfield 138, 20, 12, 13, [], 0), none, none, some (.return_, 21, 0, 0, [], 0)]])
/-- BrokenLoavesModel.readsValue()Z -/
def mm_191 : am_M := (⟨"BrokenLoavesModel", "readsValue", "()Z"⟩, prog_14_method_30_code, 2, (Option.some FieldType.boolean), [[some (.aload_n 0, 1, 0, 0, [], 0), some (.getfield 119, 4, 12, 10, [], 0), none, none, some (.bipush 100, 6, 0, 0, [], 100), none, some (.if_icmp .eq 17, 9, 23, 0, [], 0), none, none, some (.aload_n 0, 10, 0, 0, [], 0), some (.getfield 119, 13, 12, 10, [], 0), none, none, some (.bipush 13, 15, 0, 0, [], 13), none, some (.bipush 17, 17, 0, 0, [], 17)],
  [none, some (.invokestatic 71, 20, 0, 163, [3], 0), none, none, some (.ifCond .eq 7, 23, 27, 0, [], 0), none, none, some (.iconst 1, 24, 0, 0, [], 1), some (.goto 4, 27, 28, 0, [], 0), none, none, some (.iconst 0, 28, 0, 0, [], 0), some (.istore_n 1, 29, 1, 0, [], 0), some (.iload_n 1, 30, 1, 0, [], 0), some (.ifCond .eq 38, 33, 68, 0, [], 0), none],
  [none, some (.aload_n 0, 34, 0, 0, [], 0), some (.aload_n 0, 35, 0, 0, [], 0), some (.getfield 119, 38, 12, 10, [], 0), none, none, some (.bipush 100, 40, 0, 0, [], 100), none, some (.if_icmp .ne 10, 43, 50, 0, [], 0), none, none, some (.aload_n 0, 44, 0, 0, [], 0), some (.getfield 126, 47, 12, 11, [], 0), none, none, some (.goto 14, 50, 61, 0, [], 0)],
  [none, none, some (.sipush 10000, 53, 0, 0, [], 10000), none, none, some (.aload_n 0, 54, 0, 0, [], 0), some (.getfield 119, 57, 12, 10, [], 0), none, none, some (.iadd, 58, 0, 0, [], 0), some (.bipush 13, 60, 0, 0, [], 13), none, some (.isub, 61, 0, 0, [], 0), some (.invokevirtual 141, 64, 1, 190, [1, 12], 0), none, none],
  [some (.aload_n 0, 65, 0, 0, [], 0), some (.invokevirtual 135, 68, 1, 188, [0, 12], 0), none, none, some (.iload_n 1, 69, 1, 0, [], 0), some (.ireturn, 70, 2, 0, [], 0)]])
/-- BrokenLoavesModel.readsLike()Z -/
def mm_192 : am_M := (⟨"BrokenLoavesModel", "readsLike", "()Z"⟩, prog_14_method_31_code, 2, (Option.some FieldType.boolean), [[some (.aload_n 0, 1, 0, 0, [], 0), some (.invokevirtual 145, 4, 1, 191, [0, 12], 0), none, none, some (.ifCond .ne 5, 7, 9, 0, [], 0), none, none, some (.iconst 0, 8, 0, 0, [], 0), some (.ireturn, 9, 2, 0, [], 0), some (.aload_n 0, 10, 0, 0, [], 0), some (.getfield 119, 13, 12, 10, [], 0), none, none, some (.sipush 260, 16, 0, 0, [], 260), none, none],
  [some (.if_icmp .ne 9, 19, 25, 0, [], 0), none, none, some (.sipush 10010, 22, 0, 0, [], 10010), none, none, some (.goto 36, 25, 58, 0, [], 0), none, none, some (.aload_n 0, 26, 0, 0, [], 0), some (.getfield 119, 29, 12, 10, [], 0), none, none, some (.sipush 261, 32, 0, 0, [], 261), none, none],
  [some (.if_icmp .ne 9, 35, 41, 0, [], 0), none, none, some (.sipush 10011, 38, 0, 0, [], 10011), none, none, some (.goto 20, 41, 58, 0, [], 0), none, none, some (.aload_n 0, 42, 0, 0, [], 0), some (.getfield 119, 45, 12, 10, [], 0), none, none, some (.sipush 262, 48, 0, 0, [], 262), none, none],
  [some (.if_icmp .ne 9, 51, 57, 0, [], 0), none, none, some (.sipush 10012, 54, 0, 0, [], 10012), none, none, some (.goto 4, 57, 58, 0, [], 0), none, none, some (.iconst 0, 58, 0, 0, [], 0), some (.istore_n 1, 59, 1, 0, [], 0), some (.iload_n 1, 60, 1, 0, [], 0), some (.ifCond .ne 5, 63, 65, 0, [], 0), none, none, some (.iconst 0, 64, 0, 0, [], 0)],
  [some (.ireturn, 65, 2, 0, [], 0), some (.aload_n 0, 66, 0, 0, [], 0), some (.invokevirtual 135, 69, 1, 188, [0, 12], 0), none, none, some (.aload_n 0, 70, 0, 0, [], 0), some (.invokevirtual 145, 73, 1, 191, [0, 12], 0), none, none, some (.ifCond .ne 5, 76, 78, 0, [], 0), none, none, some (.iconst 0, 77, 0, 0, [], 0), some (.ireturn, 78, 2, 0, [], 0), some (.aload_n 0, 79, 0, 0, [], 0), some (.iload_n 1, 80, 1, 0, [], 0)],
  [some (.invokevirtual 141, 83, 1, 190, [1, 12], 0), none, none, some (.iconst 1, 84, 0, 0, [], 1), some (.ireturn, 85, 2, 0, [], 0)]])
/-- BrokenLoavesModel.readsWithin()Z -/
def mm_193 : am_M := (⟨"BrokenLoavesModel", "readsWithin", "()Z"⟩, prog_14_method_32_code, 1, (Option.some FieldType.boolean), [[some (.aload_n 0, 1, 0, 0, [], 0), some (.getfield 149, 4, 12, 12, [], 0), none, none, some (.iconst 3, 5, 0, 0, [], 3), some (.if_icmp .ne 5, 8, 10, 0, [], 0), none, none, some (.iconst 0, 9, 0, 0, [], 0), some (.ireturn, 10, 2, 0, [], 0), some (.aload_n 0, 11, 0, 0, [], 0), some (.dup, 12, 0, 0, [], 0), some (.getfield 149, 15, 12, 12, [], 0), none, none, some (.iconst 1, 16, 0, 0, [], 1)],
  [some (.iadd, 17, 0, 0, [], 0), some (.putfield 149, 20, 12, 12, [], 0), none, none, some (.aload_n 0, 21, 0, 0, [], 0), some (.invokevirtual 135, 24, 1, 188, [0, 12], 0), none, none, some (.aload_n 0, 25, 0, 0, [], 0), some (.invokevirtual 152, 28, 1, 196, [0, 12], 0), none, none, some (.ifCond .eq 13, 31, 41, 0, [], 0), none, none, some (.aload_n 0, 32, 0, 0, [], 0)],
  [some (.sipush 241, 35, 0, 0, [], 241), none, none, some (.invokevirtual 155, 38, 1, 189, [1, 12], 0), none, none, some (.ifCond .ne 5, 41, 43, 0, [], 0), none, none, some (.iconst 0, 42, 0, 0, [], 0), some (.ireturn, 43, 2, 0, [], 0), some (.aload_n 0, 44, 0, 0, [], 0), some (.dup, 45, 0, 0, [], 0), some (.getfield 149, 48, 12, 12, [], 0), none, none],
  [some (.iconst 1, 49, 0, 0, [], 1), some (.isub, 50, 0, 0, [], 0), some (.putfield 149, 53, 12, 12, [], 0), none, none, some (.iconst 1, 54, 0, 0, [], 1), some (.ireturn, 55, 2, 0, [], 0)]])
/-- BrokenLoavesModel.readsOne()Z -/
def mm_194 : am_M := (⟨"BrokenLoavesModel", "readsOne", "()Z"⟩, prog_14_method_33_code, 4, (Option.some FieldType.boolean), [[some (.iconst 0, 1, 0, 0, [], 0), some (.istore_n 1, 2, 1, 0, [], 0), some (.aload_n 0, 3, 0, 0, [], 0), some (.bipush 10, 5, 0, 0, [], 10), none, some (.invokevirtual 155, 8, 1, 189, [1, 12], 0), none, none, some (.ifCond .eq 9, 11, 17, 0, [], 0), none, none, some (.iinc 1 1, 14, 1, 0, [], 1), none, none, some (.goto (-12), 17, 2, 0, [], 0), none],
  [none, some (.aload_n 0, 18, 0, 0, [], 0), some (.getfield 119, 21, 12, 10, [], 0), none, none, some (.sipush 240, 24, 0, 0, [], 240), none, none, some (.if_icmp .ne 10, 27, 34, 0, [], 0), none, none, some (.aload_n 0, 28, 0, 0, [], 0), some (.invokevirtual 158, 31, 1, 193, [0, 12], 0), none, none, some (.goto 7, 34, 38, 0, [], 0)],
  [none, none, some (.aload_n 0, 35, 0, 0, [], 0), some (.invokevirtual 161, 38, 1, 192, [0, 12], 0), none, none, some (.istore_n 2, 39, 2, 0, [], 0), some (.iconst 0, 40, 0, 0, [], 0), some (.istore_n 3, 41, 3, 0, [], 0), some (.iload_n 3, 42, 3, 0, [], 0), some (.iload_n 1, 43, 1, 0, [], 0), some (.if_icmp .ge 20, 46, 63, 0, [], 0), none, none, some (.iload_n 2, 47, 2, 0, [], 0), some (.ifCond .eq 16, 50, 63, 0, [], 0)],
  [none, none, some (.aload_n 0, 51, 0, 0, [], 0), some (.sipush 10015, 54, 0, 0, [], 10015), none, none, some (.invokevirtual 141, 57, 1, 190, [1, 12], 0), none, none, some (.iinc 3 1, 60, 3, 0, [], 1), none, none, some (.goto (-19), 63, 41, 0, [], 0), none, none, some (.iload_n 2, 64, 2, 0, [], 0)],
  [some (.ireturn, 65, 2, 0, [], 0)]])
/-- BrokenLoavesModel.readsAll()Z -/
def mm_195 : am_M := (⟨"BrokenLoavesModel", "readsAll", "()Z"⟩, prog_14_method_34_code, 2, (Option.some FieldType.boolean), [[some (.aload_n 0, 1, 0, 0, [], 0), some (.invokevirtual 164, 4, 1, 194, [0, 12], 0), none, none, some (.istore_n 1, 5, 1, 0, [], 0), some (.iload_n 1, 6, 1, 0, [], 0), some (.ifCond .eq 31, 9, 37, 0, [], 0), none, none, some (.aload_n 0, 10, 0, 0, [], 0), some (.bipush 11, 12, 0, 0, [], 11), none, some (.invokevirtual 155, 15, 1, 189, [1, 12], 0), none, none, some (.ifCond .eq 22, 18, 37, 0, [], 0)],
  [none, none, some (.aload_n 0, 19, 0, 0, [], 0), some (.invokevirtual 164, 22, 1, 194, [0, 12], 0), none, none, some (.istore_n 1, 23, 1, 0, [], 0), some (.iload_n 1, 24, 1, 0, [], 0), some (.ifCond .eq (-19), 27, 5, 0, [], 0), none, none, some (.aload_n 0, 28, 0, 0, [], 0), some (.sipush 10013, 31, 0, 0, [], 10013), none, none, some (.invokevirtual 141, 34, 1, 190, [1, 12], 0)],
  [none, none, some (.goto (-29), 37, 5, 0, [], 0), none, none, some (.iload_n 1, 38, 1, 0, [], 0), some (.ireturn, 39, 2, 0, [], 0)]])
/-- BrokenLoavesModel.readsCondition()Z -/
def mm_196 : am_M := (⟨"BrokenLoavesModel", "readsCondition", "()Z"⟩, prog_14_method_35_code, 2, (Option.some FieldType.boolean), [[some (.aload_n 0, 1, 0, 0, [], 0), some (.invokevirtual 167, 4, 1, 195, [0, 12], 0), none, none, some (.istore_n 1, 5, 1, 0, [], 0), some (.iload_n 1, 6, 1, 0, [], 0), some (.ifCond .eq 31, 9, 37, 0, [], 0), none, none, some (.aload_n 0, 10, 0, 0, [], 0), some (.bipush 12, 12, 0, 0, [], 12), none, some (.invokevirtual 155, 15, 1, 189, [1, 12], 0), none, none, some (.ifCond .eq 22, 18, 37, 0, [], 0)],
  [none, none, some (.aload_n 0, 19, 0, 0, [], 0), some (.invokevirtual 167, 22, 1, 195, [0, 12], 0), none, none, some (.istore_n 1, 23, 1, 0, [], 0), some (.iload_n 1, 24, 1, 0, [], 0), some (.ifCond .eq (-19), 27, 5, 0, [], 0), none, none, some (.aload_n 0, 28, 0, 0, [], 0), some (.sipush 10014, 31, 0, 0, [], 10014), none, none, some (.invokevirtual 141, 34, 1, 190, [1, 12], 0)],
  [none, none, some (.goto (-29), 37, 5, 0, [], 0), none, none, some (.iload_n 1, 38, 1, 0, [], 0), some (.ireturn, 39, 2, 0, [], 0)]])
/-- BrokenLoavesModel.readsRule(I)Z -/
def mm_197 : am_M := (⟨"BrokenLoavesModel", "readsRule", "(I)Z"⟩, prog_14_method_36_code, 2, (Option.some FieldType.boolean), [[some (.iload_n 1, 1, 1, 0, [], 0), some (.bipush 8, 3, 0, 0, [], 8), none, some (.if_icmp .eq 15, 6, 18, 0, [], 0), none, none, some (.aload_n 0, 7, 0, 0, [], 0), some (.getfield 119, 10, 12, 10, [], 0), none, none, some (.iconst 0, 11, 0, 0, [], 0), some (.iconst 5, 12, 0, 0, [], 5), some (.invokestatic 71, 15, 0, 163, [3], 0), none, none, some (.ifCond .ne 5, 18, 20, 0, [], 0)],
  [none, none, some (.iconst 0, 19, 0, 0, [], 0), some (.ireturn, 20, 2, 0, [], 0), some (.aload_n 0, 21, 0, 0, [], 0), some (.getfield 32, 24, 12, 15, [], 0), none, none, some (.iconst 3, 25, 0, 0, [], 3), some (.iload_n 1, 26, 1, 0, [], 0), some (.imul, 27, 0, 0, [], 0), some (.aload_n 0, 28, 0, 0, [], 0), some (.getfield 119, 31, 12, 10, [], 0), none, none, some (.iastore, 32, 0, 0, [], 0)],
  [some (.aload_n 0, 33, 0, 0, [], 0), some (.invokevirtual 135, 36, 1, 188, [0, 12], 0), none, none, some (.aload_n 0, 37, 0, 0, [], 0), some (.iconst 0, 38, 0, 0, [], 0), some (.putfield 149, 41, 12, 12, [], 0), none, none, some (.aload_n 0, 42, 0, 0, [], 0), some (.bipush 9, 44, 0, 0, [], 9), none, some (.invokevirtual 155, 47, 1, 189, [1, 12], 0), none, none, some (.ifCond .eq 12, 50, 59, 0, [], 0)],
  [none, none, some (.aload_n 0, 51, 0, 0, [], 0), some (.invokevirtual 152, 54, 1, 196, [0, 12], 0), none, none, some (.ifCond .ne 5, 57, 59, 0, [], 0), none, none, some (.iconst 0, 58, 0, 0, [], 0), some (.ireturn, 59, 2, 0, [], 0), some (.aload_n 0, 60, 0, 0, [], 0), some (.getfield 119, 63, 12, 10, [], 0), none, none, some (.bipush 6, 65, 0, 0, [], 6)],
  [none, some (.bipush 8, 67, 0, 0, [], 8), none, some (.invokestatic 71, 70, 0, 163, [3], 0), none, none, some (.ifCond .ne 5, 73, 75, 0, [], 0), none, none, some (.iconst 0, 74, 0, 0, [], 0), some (.ireturn, 75, 2, 0, [], 0), some (.aload_n 0, 76, 0, 0, [], 0), some (.getfield 32, 79, 12, 15, [], 0), none, none, some (.iconst 3, 80, 0, 0, [], 3)],
  [some (.iload_n 1, 81, 1, 0, [], 0), some (.imul, 82, 0, 0, [], 0), some (.iconst 1, 83, 0, 0, [], 1), some (.iadd, 84, 0, 0, [], 0), some (.aload_n 0, 85, 0, 0, [], 0), some (.getfield 119, 88, 12, 10, [], 0), none, none, some (.bipush 6, 90, 0, 0, [], 6), none, some (.isub, 91, 0, 0, [], 0), some (.iastore, 92, 0, 0, [], 0), some (.aload_n 0, 93, 0, 0, [], 0), some (.getfield 32, 96, 12, 15, [], 0), none, none],
  [some (.iconst 3, 97, 0, 0, [], 3), some (.iload_n 1, 98, 1, 0, [], 0), some (.imul, 99, 0, 0, [], 0), some (.iconst 2, 100, 0, 0, [], 2), some (.iadd, 101, 0, 0, [], 0), some (.aload_n 0, 102, 0, 0, [], 0), some (.getfield 138, 105, 12, 13, [], 0), none, none, some (.iastore, 106, 0, 0, [], 0), some (.aload_n 0, 107, 0, 0, [], 0), some (.invokevirtual 135, 110, 1, 188, [0, 12], 0), none, none, some (.aload_n 0, 111, 0, 0, [], 0), some (.sipush 259, 114, 0, 0, [], 259)],
  [none, none, some (.invokevirtual 155, 117, 1, 189, [1, 12], 0), none, none, some (.ireturn, 118, 2, 0, [], 0)]])
/-- BrokenLoavesModel.feed(JI)I -/
def mm_198 : am_M := (⟨"BrokenLoavesModel", "feed", "(JI)I"⟩, prog_14_method_37_code, 5, (Option.some FieldType.int), [[some (.iload_n 3, 1, 3, 0, [], 0), some (.iconst 1, 2, 0, 0, [], 1), some (.bipush 8, 4, 0, 0, [], 8), none, some (.invokestatic 71, 7, 0, 163, [3], 0), none, none, some (.ifCond .ne 5, 10, 12, 0, [], 0), none, none, some (.iconst (-1), 11, 0, 0, [], (-1)), some (.ireturn, 12, 0, 0, [], 0), some (.aload_n 0, 13, 0, 0, [], 0), some (.getfield 106, 16, 12, 6, [], 0), none, none],
  [some (.iload_n 3, 17, 3, 0, [], 0), some (.iadd, 18, 0, 0, [], 0), some (.sipush 200, 21, 0, 0, [], 200), none, none, some (.if_icmp .le 6, 24, 27, 0, [], 0), none, none, some (.bipush (-2), 26, 0, 0, [], (-2)), none, some (.ireturn, 27, 0, 0, [], 0), some (.iconst 0, 28, 0, 0, [], 0), some (.istore 4, 30, 4, 0, [], 0), none, some (.iload 4, 32, 4, 0, [], 0), none],
  [some (.iload_n 3, 33, 3, 0, [], 0), some (.if_icmp .ge 40, 36, 73, 0, [], 0), none, none, some (.aload_n 0, 37, 0, 0, [], 0), some (.getfield 22, 40, 12, 5, [], 0), none, none, some (.aload_n 0, 41, 0, 0, [], 0), some (.getfield 106, 44, 12, 6, [], 0), none, none, some (.lload_n 1, 45, 1, 0, [], 0), some (.bipush 8, 47, 0, 0, [], 8), none, some (.iload 4, 49, 4, 0, [], 0)],
  [none, some (.imul, 50, 0, 0, [], 0), some (.lshr, 51, 0, 0, [], 0), some (.ldc2_w 170, 54, 0, 255, [], 0), none, none, some (.land, 55, 0, 0, [], 0), some (.l2i, 56, 0, 0, [], 0), some (.iastore, 57, 0, 0, [], 0), some (.aload_n 0, 58, 0, 0, [], 0), some (.dup, 59, 0, 0, [], 0), some (.getfield 106, 62, 12, 6, [], 0), none, none, some (.iconst 1, 63, 0, 0, [], 1), some (.iadd, 64, 0, 0, [], 0)],
  [some (.putfield 106, 67, 12, 6, [], 0), none, none, some (.iinc 4 1, 70, 4, 0, [], 1), none, none, some (.goto (-40), 73, 30, 0, [], 0), none, none, some (.aload_n 0, 74, 0, 0, [], 0), some (.getfield 106, 77, 12, 6, [], 0), none, none, some (.ireturn, 78, 0, 0, [], 0)]])
/-- BrokenLoavesModel.rules()I -/
def mm_199 : am_M := (⟨"BrokenLoavesModel", "rules", "()I"⟩, prog_14_method_38_code, 4, (Option.some FieldType.int), [[some (.aload_n 0, 1, 0, 0, [], 0), some (.iconst 0, 2, 0, 0, [], 0), some (.putfield 110, 5, 12, 8, [], 0), none, none, some (.aload_n 0, 6, 0, 0, [], 0), some (.iconst 0, 7, 0, 0, [], 0), some (.putfield 138, 10, 12, 13, [], 0), none, none, some (.iconst 0, 11, 0, 0, [], 0), some (.istore_n 1, 12, 1, 0, [], 0), some (.aload_n 0, 13, 0, 0, [], 0), some (.invokevirtual 135, 16, 1, 188, [0, 12], 0), none, none],
  [some (.iconst 1, 17, 0, 0, [], 1), some (.istore_n 2, 18, 2, 0, [], 0), some (.iload_n 2, 19, 2, 0, [], 0), some (.ifCond .eq 23, 22, 42, 0, [], 0), none, none, some (.aload_n 0, 23, 0, 0, [], 0), some (.getfield 119, 26, 12, 10, [], 0), none, none, some (.iconst (-1), 27, 0, 0, [], (-1)), some (.if_icmp .eq 15, 30, 42, 0, [], 0), none, none, some (.aload_n 0, 31, 0, 0, [], 0), some (.iload_n 1, 32, 1, 0, [], 0)],
  [some (.invokevirtual 172, 35, 1, 197, [1, 12], 0), none, none, some (.istore_n 2, 36, 2, 0, [], 0), some (.iinc 1 1, 39, 1, 0, [], 1), none, none, some (.goto (-21), 42, 18, 0, [], 0), none, none, some (.aload_n 0, 43, 0, 0, [], 0), some (.iconst 0, 44, 0, 0, [], 0), some (.putfield 106, 47, 12, 6, [], 0), none, none, some (.iload_n 2, 48, 2, 0, [], 0)],
  [some (.ifCond .ne 11, 51, 59, 0, [], 0), none, none, some (.bipush (-100), 53, 0, 0, [], (-100)), none, some (.aload_n 0, 54, 0, 0, [], 0), some (.getfield 113, 57, 12, 9, [], 0), none, none, some (.isub, 58, 0, 0, [], 0), some (.ireturn, 59, 0, 0, [], 0), some (.aload_n 0, 60, 0, 0, [], 0), some (.getfield 9, 63, 12, 0, [], 0), none, none, some (.bipush 7, 65, 0, 0, [], 7)],
  [none, some (.iload_n 1, 66, 1, 0, [], 0), some (.iastore, 67, 0, 0, [], 0), some (.iconst 0, 68, 0, 0, [], 0), some (.istore_n 3, 69, 3, 0, [], 0), some (.iload_n 3, 70, 3, 0, [], 0), some (.iconst 3, 71, 0, 0, [], 3), some (.iload_n 1, 72, 1, 0, [], 0), some (.imul, 73, 0, 0, [], 0), some (.if_icmp .ge 24, 76, 97, 0, [], 0), none, none, some (.aload_n 0, 77, 0, 0, [], 0), some (.getfield 9, 80, 12, 0, [], 0), none, none],
  [some (.bipush 98, 82, 0, 0, [], 98), none, some (.iload_n 3, 83, 3, 0, [], 0), some (.iadd, 84, 0, 0, [], 0), some (.aload_n 0, 85, 0, 0, [], 0), some (.getfield 32, 88, 12, 15, [], 0), none, none, some (.iload_n 3, 89, 3, 0, [], 0), some (.iaload, 90, 0, 0, [], 0), some (.iastore, 91, 0, 0, [], 0), some (.iinc 3 1, 94, 3, 0, [], 1), none, none, some (.goto (-25), 97, 69, 0, [], 0), none],
  [none, some (.iconst 0, 98, 0, 0, [], 0), some (.istore_n 3, 99, 3, 0, [], 0), some (.iload_n 3, 100, 3, 0, [], 0), some (.aload_n 0, 101, 0, 0, [], 0), some (.getfield 138, 104, 12, 13, [], 0), none, none, some (.if_icmp .ge 24, 107, 128, 0, [], 0), none, none, some (.aload_n 0, 108, 0, 0, [], 0), some (.getfield 9, 111, 12, 0, [], 0), none, none, some (.bipush 122, 113, 0, 0, [], 122)],
  [none, some (.iload_n 3, 114, 3, 0, [], 0), some (.iadd, 115, 0, 0, [], 0), some (.aload_n 0, 116, 0, 0, [], 0), some (.getfield 29, 119, 12, 14, [], 0), none, none, some (.iload_n 3, 120, 3, 0, [], 0), some (.iaload, 121, 0, 0, [], 0), some (.iastore, 122, 0, 0, [], 0), some (.iinc 3 1, 125, 3, 0, [], 1), none, none, some (.goto (-26), 128, 99, 0, [], 0), none, none],
  [some (.iload_n 1, 129, 1, 0, [], 0), some (.ireturn, 130, 0, 0, [], 0)]])
/-- BrokenLoavesModel.snowBy(II)I -/
def mm_200 : am_M := (⟨"BrokenLoavesModel", "snowBy", "(II)I"⟩, prog_14_method_39_code, 5, (Option.some FieldType.int), [[some (.iload_n 1, 1, 1, 0, [], 0), some (.iconst 4, 2, 0, 0, [], 4), some (.idiv, 3, 0, 0, [], 0), some (.istore_n 2, 4, 2, 0, [], 0), some (.iload_n 0, 5, 0, 0, [], 0), some (.iconst 5, 6, 0, 0, [], 5), some (.if_icmp .ge 9, 9, 15, 0, [], 0), none, none, some (.iconst 5, 10, 0, 0, [], 5), some (.iload_n 0, 11, 0, 0, [], 0), some (.isub, 12, 0, 0, [], 0), some (.goto 6, 15, 18, 0, [], 0), none, none, some (.iload_n 0, 16, 0, 0, [], 0)],
  [some (.iconst 5, 17, 0, 0, [], 5), some (.isub, 18, 0, 0, [], 0), some (.istore_n 3, 19, 3, 0, [], 0), some (.iload_n 3, 20, 3, 0, [], 0), some (.iload_n 2, 21, 2, 0, [], 0), some (.if_icmp .ge 7, 24, 28, 0, [], 0), none, none, some (.iload_n 3, 25, 3, 0, [], 0), some (.goto 4, 28, 29, 0, [], 0), none, none, some (.iload_n 2, 29, 2, 0, [], 0), some (.istore 4, 31, 4, 0, [], 0), none, some (.iload_n 1, 32, 1, 0, [], 0)],
  [some (.iconst 4, 33, 0, 0, [], 4), some (.irem, 34, 0, 0, [], 0), some (.tableswitch 61 0 2 #[26, 35, 44], 60, 95, 0, [60, 69, 78], 0), none, none, none, none, none, none, none, none, none, none, none, none, none],
  [none, none, none, none, none, none, none, none, none, none, none, none, some (.iload_n 0, 61, 0, 0, [], 0), some (.iload_n 2, 62, 2, 0, [], 0), some (.iadd, 63, 0, 0, [], 0), some (.bipush 9, 65, 0, 0, [], 9)],
  [none, some (.invokestatic 175, 68, 0, 164, [2], 0), none, none, some (.ireturn, 69, 0, 0, [], 0), some (.iload_n 0, 70, 0, 0, [], 0), some (.iload_n 2, 71, 2, 0, [], 0), some (.isub, 72, 0, 0, [], 0), some (.bipush 9, 74, 0, 0, [], 9), none, some (.invokestatic 175, 77, 0, 164, [2], 0), none, none, some (.ireturn, 78, 0, 0, [], 0), some (.iload_n 0, 79, 0, 0, [], 0), some (.iconst 5, 80, 0, 0, [], 5)],
  [some (.if_icmp .ge 10, 83, 90, 0, [], 0), none, none, some (.iload_n 0, 84, 0, 0, [], 0), some (.iload 4, 86, 4, 0, [], 0), none, some (.iadd, 87, 0, 0, [], 0), some (.goto 7, 90, 94, 0, [], 0), none, none, some (.iload_n 0, 91, 0, 0, [], 0), some (.iload 4, 93, 4, 0, [], 0), none, some (.isub, 94, 0, 0, [], 0), some (.ireturn, 95, 0, 0, [], 0), some (.iload_n 0, 96, 0, 0, [], 0)],
  [some (.ireturn, 97, 0, 0, [], 0)]])
/-- BrokenLoavesModel.feeds(I)I -/
def mm_201 : am_M := (⟨"BrokenLoavesModel", "feeds", "(I)I"⟩, prog_14_method_40_code, 3, (Option.some FieldType.int), [[some (.aload_n 0, 1, 0, 0, [], 0), some (.iload_n 1, 2, 1, 0, [], 0), some (.iconst 5, 3, 0, 0, [], 5), some (.invokevirtual 79, 6, 1, 167, [2, 12], 0), none, none, some (.ifCond .ne 8, 9, 14, 0, [], 0), none, none, some (.bipush 9, 11, 0, 0, [], 9), none, some (.goto 4, 14, 15, 0, [], 0), none, none, some (.iconst 0, 15, 0, 0, [], 0), some (.istore_n 2, 16, 2, 0, [], 0)],
  [some (.aload_n 0, 17, 0, 0, [], 0), some (.iload_n 1, 18, 1, 0, [], 0), some (.iconst 5, 19, 0, 0, [], 5), some (.iconst 1, 20, 0, 0, [], 1), some (.invokevirtual 178, 23, 1, 168, [3, 12], 0), none, none, some (.aload_n 0, 24, 0, 0, [], 0), some (.getfield 9, 27, 12, 0, [], 0), none, none, some (.iconst 4, 28, 0, 0, [], 4), some (.aload_n 0, 29, 0, 0, [], 0), some (.getfield 9, 32, 12, 0, [], 0), none, none],
  [some (.iconst 4, 33, 0, 0, [], 4), some (.iaload, 34, 0, 0, [], 0), some (.aload_n 0, 35, 0, 0, [], 0), some (.iload_n 1, 36, 1, 0, [], 0), some (.invokevirtual 182, 39, 1, 177, [1, 12], 0), none, none, some (.isub, 40, 0, 0, [], 0), some (.sipush 999, 43, 0, 0, [], 999), none, none, some (.invokestatic 175, 46, 0, 164, [2], 0), none, none, some (.iastore, 47, 0, 0, [], 0), some (.iload_n 2, 48, 2, 0, [], 0)],
  [some (.ireturn, 49, 0, 0, [], 0)]])
/-- BrokenLoavesModel.meets(I)I -/
def mm_202 : am_M := (⟨"BrokenLoavesModel", "meets", "(I)I"⟩, prog_14_method_41_code, 4, (Option.some FieldType.int), [[some (.aload_n 0, 1, 0, 0, [], 0), some (.iload_n 1, 2, 1, 0, [], 0), some (.invokevirtual 185, 5, 1, 183, [1, 12], 0), none, none, some (.istore_n 2, 6, 2, 0, [], 0), some (.aload_n 0, 7, 0, 0, [], 0), some (.iload_n 1, 8, 1, 0, [], 0), some (.invokevirtual 87, 11, 1, 176, [1, 12], 0), none, none, some (.istore_n 3, 12, 3, 0, [], 0), some (.iload_n 2, 13, 2, 0, [], 0), some (.iconst 2, 14, 0, 0, [], 2), some (.if_icmp .ne 5, 17, 19, 0, [], 0), none],
  [none, some (.iconst 0, 18, 0, 0, [], 0), some (.ireturn, 19, 0, 0, [], 0), some (.aload_n 0, 20, 0, 0, [], 0), some (.iload_n 1, 21, 1, 0, [], 0), some (.iconst 4, 22, 0, 0, [], 4), some (.aload_n 0, 23, 0, 0, [], 0), some (.iload_n 1, 24, 1, 0, [], 0), some (.iconst 4, 25, 0, 0, [], 4), some (.invokevirtual 79, 28, 1, 167, [2, 12], 0), none, none, some (.iconst 1, 29, 0, 0, [], 1), some (.iadd, 30, 0, 0, [], 0), some (.bipush 9, 32, 0, 0, [], 9), none],
  [some (.invokestatic 175, 35, 0, 164, [2], 0), none, none, some (.invokevirtual 178, 38, 1, 168, [3, 12], 0), none, none, some (.iload_n 2, 39, 2, 0, [], 0), some (.iconst 1, 40, 0, 0, [], 1), some (.if_icmp .ne 5, 43, 45, 0, [], 0), none, none, some (.iconst 1, 44, 0, 0, [], 1), some (.ireturn, 45, 0, 0, [], 0), some (.aload_n 0, 46, 0, 0, [], 0), some (.getfield 9, 49, 12, 0, [], 0), none],
  [none, some (.iconst 4, 50, 0, 0, [], 4), some (.aload_n 0, 51, 0, 0, [], 0), some (.getfield 9, 54, 12, 0, [], 0), none, none, some (.iconst 4, 55, 0, 0, [], 4), some (.iaload, 56, 0, 0, [], 0), some (.iload_n 3, 57, 3, 0, [], 0), some (.iadd, 58, 0, 0, [], 0), some (.sipush 999, 61, 0, 0, [], 999), none, none, some (.invokestatic 175, 64, 0, 164, [2], 0), none, none],
  [some (.iastore, 65, 0, 0, [], 0), some (.aload_n 0, 66, 0, 0, [], 0), some (.getfield 9, 69, 12, 0, [], 0), none, none, some (.iconst 4, 70, 0, 0, [], 4), some (.iaload, 71, 0, 0, [], 0), some (.aload_n 0, 72, 0, 0, [], 0), some (.iload_n 1, 73, 1, 0, [], 0), some (.iconst 1, 74, 0, 0, [], 1), some (.invokevirtual 79, 77, 1, 167, [2, 12], 0), none, none, some (.if_icmp .lt 13, 80, 90, 0, [], 0), none, none],
  [some (.iload_n 3, 81, 3, 0, [], 0), some (.aload_n 0, 82, 0, 0, [], 0), some (.iload_n 1, 83, 1, 0, [], 0), some (.invokevirtual 188, 86, 1, 201, [1, 12], 0), none, none, some (.iadd, 87, 0, 0, [], 0), some (.goto 4, 90, 91, 0, [], 0), none, none, some (.iload_n 3, 91, 3, 0, [], 0), some (.ireturn, 92, 0, 0, [], 0)]])
/-- BrokenLoavesModel.restOne()I -/
def mm_203 : am_M := (⟨"BrokenLoavesModel", "restOne", "()I"⟩, prog_14_method_42_code, 2, (Option.some FieldType.int), [[some (.iconst 0, 1, 0, 0, [], 0), some (.istore_n 1, 2, 1, 0, [], 0), some (.iload_n 1, 3, 1, 0, [], 0), some (.aload_n 0, 4, 0, 0, [], 0), some (.getfield 9, 7, 12, 0, [], 0), none, none, some (.bipush 6, 9, 0, 0, [], 6), none, some (.iaload, 10, 0, 0, [], 0), some (.if_icmp .ge 49, 13, 59, 0, [], 0), none, none, some (.aload_n 0, 14, 0, 0, [], 0), some (.iload_n 1, 15, 1, 0, [], 0), some (.iconst 5, 16, 0, 0, [], 5)],
  [some (.invokevirtual 79, 19, 1, 167, [2, 12], 0), none, none, some (.ifCond .ne 34, 22, 53, 0, [], 0), none, none, some (.aload_n 0, 23, 0, 0, [], 0), some (.iload_n 1, 24, 1, 0, [], 0), some (.invokevirtual 191, 27, 1, 178, [1, 12], 0), none, none, some (.ifCond .eq 26, 30, 53, 0, [], 0), none, none, some (.aload_n 0, 31, 0, 0, [], 0), some (.getfield 9, 34, 12, 0, [], 0)],
  [none, none, some (.iconst 4, 35, 0, 0, [], 4), some (.iaload, 36, 0, 0, [], 0), some (.aload_n 0, 37, 0, 0, [], 0), some (.iload_n 1, 38, 1, 0, [], 0), some (.invokevirtual 87, 41, 1, 176, [1, 12], 0), none, none, some (.iadd, 42, 0, 0, [], 0), some (.aload_n 0, 43, 0, 0, [], 0), some (.iload_n 1, 44, 1, 0, [], 0), some (.iconst 1, 45, 0, 0, [], 1), some (.invokevirtual 79, 48, 1, 167, [2, 12], 0), none, none],
  [some (.if_icmp .lt 5, 51, 53, 0, [], 0), none, none, some (.iload_n 1, 52, 1, 0, [], 0), some (.ireturn, 53, 0, 0, [], 0), some (.iinc 1 1, 56, 1, 0, [], 1), none, none, some (.goto (-54), 59, 2, 0, [], 0), none, none, some (.iconst (-1), 60, 0, 0, [], (-1)), some (.ireturn, 61, 0, 0, [], 0)]])
/-- BrokenLoavesModel.goesBy(I)I -/
def mm_204 : am_M := (⟨"BrokenLoavesModel", "goesBy", "(I)I"⟩, prog_14_method_43_code, 4, (Option.some FieldType.int), [[some (.aload_n 0, 1, 0, 0, [], 0), some (.getfield 9, 4, 12, 0, [], 0), none, none, some (.iconst 3, 5, 0, 0, [], 3), some (.aload_n 0, 6, 0, 0, [], 0), some (.getfield 9, 9, 12, 0, [], 0), none, none, some (.iconst 0, 10, 0, 0, [], 0), some (.iaload, 11, 0, 0, [], 0), some (.bipush 16, 13, 0, 0, [], 16), none, some (.if_icmp .ge 29, 16, 42, 0, [], 0), none, none],
  [some (.aload_n 0, 17, 0, 0, [], 0), some (.getfield 9, 20, 12, 0, [], 0), none, none, some (.iconst 3, 21, 0, 0, [], 3), some (.iaload, 22, 0, 0, [], 0), some (.aload_n 0, 23, 0, 0, [], 0), some (.getfield 9, 26, 12, 0, [], 0), none, none, some (.bipush 10, 28, 0, 0, [], 10), none, some (.aload_n 0, 29, 0, 0, [], 0), some (.getfield 9, 32, 12, 0, [], 0), none, none],
  [some (.iconst 0, 33, 0, 0, [], 0), some (.iaload, 34, 0, 0, [], 0), some (.iadd, 35, 0, 0, [], 0), some (.iaload, 36, 0, 0, [], 0), some (.invokestatic 194, 39, 0, 200, [2], 0), none, none, some (.goto 9, 42, 48, 0, [], 0), none, none, some (.aload_n 0, 43, 0, 0, [], 0), some (.getfield 9, 46, 12, 0, [], 0), none, none, some (.iconst 3, 47, 0, 0, [], 3), some (.iaload, 48, 0, 0, [], 0)],
  [some (.iastore, 49, 0, 0, [], 0), some (.iload_n 1, 50, 1, 0, [], 0), some (.ifCond .ge 10, 53, 60, 0, [], 0), none, none, some (.aload_n 0, 54, 0, 0, [], 0), some (.invokevirtual 197, 57, 1, 203, [0, 12], 0), none, none, some (.goto 6, 60, 63, 0, [], 0), none, none, some (.iload_n 1, 61, 1, 0, [], 0), some (.iconst 1, 62, 0, 0, [], 1), some (.isub, 63, 0, 0, [], 0), some (.istore_n 2, 64, 2, 0, [], 0)],
  [some (.iload_n 2, 65, 2, 0, [], 0), some (.ifCond .lt 19, 68, 84, 0, [], 0), none, none, some (.aload_n 0, 69, 0, 0, [], 0), some (.iload_n 2, 70, 2, 0, [], 0), some (.invokevirtual 191, 73, 1, 178, [1, 12], 0), none, none, some (.ifCond .eq 11, 76, 84, 0, [], 0), none, none, some (.aload_n 0, 77, 0, 0, [], 0), some (.iload_n 2, 78, 2, 0, [], 0), some (.invokevirtual 201, 81, 1, 202, [1, 12], 0), none],
  [none, some (.goto 4, 84, 85, 0, [], 0), none, none, some (.iconst 0, 85, 0, 0, [], 0), some (.istore_n 3, 86, 3, 0, [], 0), some (.aload_n 0, 87, 0, 0, [], 0), some (.getfield 9, 90, 12, 0, [], 0), none, none, some (.iconst 4, 91, 0, 0, [], 4), some (.aload_n 0, 92, 0, 0, [], 0), some (.getfield 9, 95, 12, 0, [], 0), none, none, some (.iconst 4, 96, 0, 0, [], 4)],
  [some (.iaload, 97, 0, 0, [], 0), some (.iconst 1, 98, 0, 0, [], 1), some (.isub, 99, 0, 0, [], 0), some (.aload_n 0, 100, 0, 0, [], 0), some (.getfield 9, 103, 12, 0, [], 0), none, none, some (.iconst 3, 104, 0, 0, [], 3), some (.iaload, 105, 0, 0, [], 0), some (.iconst 3, 106, 0, 0, [], 3), some (.idiv, 107, 0, 0, [], 0), some (.isub, 108, 0, 0, [], 0), some (.sipush 999, 111, 0, 0, [], 999), none, none, some (.invokestatic 175, 114, 0, 164, [2], 0)],
  [none, none, some (.iastore, 115, 0, 0, [], 0), some (.aload_n 0, 116, 0, 0, [], 0), some (.getfield 9, 119, 12, 0, [], 0), none, none, some (.iconst 0, 120, 0, 0, [], 0), some (.dup2, 121, 0, 0, [], 0), some (.iaload, 122, 0, 0, [], 0), some (.iconst 1, 123, 0, 0, [], 1), some (.iadd, 124, 0, 0, [], 0), some (.iastore, 125, 0, 0, [], 0), some (.aload_n 0, 126, 0, 0, [], 0), some (.getfield 9, 129, 12, 0, [], 0), none],
  [none, some (.iconst 2, 130, 0, 0, [], 2), some (.dup2, 131, 0, 0, [], 0), some (.iaload, 132, 0, 0, [], 0), some (.iload_n 3, 133, 3, 0, [], 0), some (.iadd, 134, 0, 0, [], 0), some (.iastore, 135, 0, 0, [], 0), some (.iload_n 3, 136, 3, 0, [], 0), some (.ireturn, 137, 0, 0, [], 0)]])
/-- BrokenLoavesModel.isNeed(I)Z -/
def mm_205 : am_M := (⟨"BrokenLoavesModel", "isNeed", "(I)Z"⟩, prog_14_method_44_code, 1, (Option.some FieldType.boolean), [[some (.iload_n 0, 1, 0, 0, [], 0), some (.iconst 0, 2, 0, 0, [], 0), some (.bipush 60, 4, 0, 0, [], 60), none, some (.invokestatic 71, 7, 0, 163, [3], 0), none, none, some (.ireturn, 8, 2, 0, [], 0)]])
/-- BrokenLoavesModel.isDigit(I)Z -/
def mm_206 : am_M := (⟨"BrokenLoavesModel", "isDigit", "(I)Z"⟩, prog_14_method_45_code, 1, (Option.some FieldType.boolean), [[some (.iload_n 0, 1, 0, 0, [], 0), some (.iconst 0, 2, 0, 0, [], 0), some (.bipush 9, 4, 0, 0, [], 9), none, some (.invokestatic 71, 7, 0, 163, [3], 0), none, none, some (.ireturn, 8, 2, 0, [], 0)]])
/-- BrokenLoavesModel.isGate(I)Z -/
def mm_207 : am_M := (⟨"BrokenLoavesModel", "isGate", "(I)Z"⟩, prog_14_method_46_code, 1, (Option.some FieldType.boolean), [[some (.iload_n 0, 1, 0, 0, [], 0), some (.iconst 0, 2, 0, 0, [], 0), some (.iconst 5, 3, 0, 0, [], 5), some (.invokestatic 71, 6, 0, 163, [3], 0), none, none, some (.ireturn, 7, 2, 0, [], 0)]])
/-- BrokenLoavesModel.person(IIII)I -/
def mm_208 : am_M := (⟨"BrokenLoavesModel", "person", "(IIII)I"⟩, prog_14_method_47_code, 6, (Option.some FieldType.int), [[some (.iload_n 1, 1, 1, 0, [], 0), some (.iconst 1, 2, 0, 0, [], 1), some (.iconst 5, 3, 0, 0, [], 5), some (.invokestatic 71, 6, 0, 163, [3], 0), none, none, some (.ifCond .eq 25, 9, 31, 0, [], 0), none, none, some (.iload_n 2, 10, 2, 0, [], 0), some (.invokestatic 204, 13, 0, 205, [1], 0), none, none, some (.ifCond .eq 18, 16, 31, 0, [], 0), none, none],
  [some (.iload_n 3, 17, 3, 0, [], 0), some (.invokestatic 207, 20, 0, 206, [1], 0), none, none, some (.ifCond .eq 11, 23, 31, 0, [], 0), none, none, some (.iload 4, 25, 4, 0, [], 0), none, some (.invokestatic 210, 28, 0, 207, [1], 0), none, none, some (.ifCond .ne 5, 31, 33, 0, [], 0), none, none, some (.iconst (-1), 32, 0, 0, [], (-1))],
  [some (.ireturn, 33, 0, 0, [], 0), some (.aload_n 0, 34, 0, 0, [], 0), some (.getfield 9, 37, 12, 0, [], 0), none, none, some (.bipush 6, 39, 0, 0, [], 6), none, some (.iaload, 40, 0, 0, [], 0), some (.bipush 6, 42, 0, 0, [], 6), none, some (.if_icmp .ne 6, 45, 48, 0, [], 0), none, none, some (.bipush (-2), 47, 0, 0, [], (-2)), none, some (.ireturn, 48, 0, 0, [], 0)],
  [some (.aload_n 0, 49, 0, 0, [], 0), some (.getfield 9, 52, 12, 0, [], 0), none, none, some (.bipush 6, 54, 0, 0, [], 6), none, some (.iaload, 55, 0, 0, [], 0), some (.istore 5, 57, 5, 0, [], 0), none, some (.aload_n 0, 58, 0, 0, [], 0), some (.iload 5, 60, 5, 0, [], 0), none, some (.iconst 0, 61, 0, 0, [], 0), some (.iload_n 1, 62, 1, 0, [], 0), some (.invokevirtual 178, 65, 1, 168, [3, 12], 0), none],
  [none, some (.aload_n 0, 66, 0, 0, [], 0), some (.iload 5, 68, 5, 0, [], 0), none, some (.iconst 1, 69, 0, 0, [], 1), some (.iload_n 2, 70, 2, 0, [], 0), some (.invokevirtual 178, 73, 1, 168, [3, 12], 0), none, none, some (.aload_n 0, 74, 0, 0, [], 0), some (.iload 5, 76, 5, 0, [], 0), none, some (.iconst 2, 77, 0, 0, [], 2), some (.iload_n 3, 78, 3, 0, [], 0), some (.invokevirtual 178, 81, 1, 168, [3, 12], 0), none],
  [none, some (.aload_n 0, 82, 0, 0, [], 0), some (.iload 5, 84, 5, 0, [], 0), none, some (.iconst 3, 85, 0, 0, [], 3), some (.iload 4, 87, 4, 0, [], 0), none, some (.invokevirtual 178, 90, 1, 168, [3, 12], 0), none, none, some (.aload_n 0, 91, 0, 0, [], 0), some (.iload 5, 93, 5, 0, [], 0), none, some (.iconst 4, 94, 0, 0, [], 4), some (.iconst 0, 95, 0, 0, [], 0), some (.invokevirtual 178, 98, 1, 168, [3, 12], 0)],
  [none, none, some (.aload_n 0, 99, 0, 0, [], 0), some (.iload 5, 101, 5, 0, [], 0), none, some (.iconst 5, 102, 0, 0, [], 5), some (.iconst 0, 103, 0, 0, [], 0), some (.invokevirtual 178, 106, 1, 168, [3, 12], 0), none, none, some (.aload_n 0, 107, 0, 0, [], 0), some (.getfield 9, 110, 12, 0, [], 0), none, none, some (.bipush 6, 112, 0, 0, [], 6), none],
  [some (.dup2, 113, 0, 0, [], 0), some (.iaload, 114, 0, 0, [], 0), some (.iconst 1, 115, 0, 0, [], 1), some (.iadd, 116, 0, 0, [], 0), some (.iastore, 117, 0, 0, [], 0), some (.iload 5, 119, 5, 0, [], 0), none, some (.ireturn, 120, 0, 0, [], 0)]])
/-- BrokenLoavesModel.personOf(II)I -/
def mm_209 : am_M := (⟨"BrokenLoavesModel", "personOf", "(II)I"⟩, prog_14_method_48_code, 3, (Option.some FieldType.int), [[some (.aload_n 0, 1, 0, 0, [], 0), some (.iload_n 1, 2, 1, 0, [], 0), some (.invokevirtual 213, 5, 1, 169, [1, 12], 0), none, none, some (.ifCond .eq 13, 8, 18, 0, [], 0), none, none, some (.iload_n 2, 9, 2, 0, [], 0), some (.iconst 0, 10, 0, 0, [], 0), some (.bipush 9, 12, 0, 0, [], 9), none, some (.invokestatic 71, 15, 0, 163, [3], 0), none, none, some (.ifCond .ne 5, 18, 20, 0, [], 0)],
  [none, none, some (.iconst (-1), 19, 0, 0, [], (-1)), some (.ireturn, 20, 0, 0, [], 0), some (.iload_n 2, 21, 2, 0, [], 0), some (.tableswitch 63 6 9 #[31, 37, 43, 49], 52, 84, 0, [52, 58, 64, 70], 6), none, none, none, none, none, none, none, none, none, none],
  [none, none, none, none, none, none, none, none, none, none, none, none, none, none, none, none],
  [none, none, none, none, some (.aload_n 0, 53, 0, 0, [], 0), some (.iload_n 1, 54, 1, 0, [], 0), some (.invokevirtual 87, 57, 1, 176, [1, 12], 0), none, none, some (.ireturn, 58, 0, 0, [], 0), some (.aload_n 0, 59, 0, 0, [], 0), some (.iload_n 1, 60, 1, 0, [], 0), some (.invokevirtual 182, 63, 1, 177, [1, 12], 0), none, none, some (.ireturn, 64, 0, 0, [], 0)],
  [some (.aload_n 0, 65, 0, 0, [], 0), some (.iload_n 1, 66, 1, 0, [], 0), some (.invokevirtual 185, 69, 1, 183, [1, 12], 0), none, none, some (.ireturn, 70, 0, 0, [], 0), some (.aload_n 0, 71, 0, 0, [], 0), some (.iload_n 1, 72, 1, 0, [], 0), some (.invokevirtual 191, 75, 1, 178, [1, 12], 0), none, none, some (.ifCond .eq 7, 78, 82, 0, [], 0), none, none, some (.iconst 1, 79, 0, 0, [], 1), some (.goto 4, 82, 83, 0, [], 0)],
  [none, none, some (.iconst 0, 83, 0, 0, [], 0), some (.ireturn, 84, 0, 0, [], 0), some (.aload_n 0, 85, 0, 0, [], 0), some (.iload_n 1, 86, 1, 0, [], 0), some (.iload_n 2, 87, 2, 0, [], 0), some (.invokevirtual 79, 90, 1, 167, [2, 12], 0), none, none, some (.ireturn, 91, 0, 0, [], 0)]])
/-- BrokenLoavesModel.change(III)I -/
def mm_210 : am_M := (⟨"BrokenLoavesModel", "change", "(III)I"⟩, prog_14_method_49_code, 5, (Option.some FieldType.int), [[some (.iload_n 2, 1, 2, 0, [], 0), some (.iconst 1, 2, 0, 0, [], 1), some (.if_icmp .ne 8, 5, 10, 0, [], 0), none, none, some (.bipush 60, 7, 0, 0, [], 60), none, some (.goto 23, 10, 30, 0, [], 0), none, none, some (.iload_n 2, 11, 2, 0, [], 0), some (.iconst 3, 12, 0, 0, [], 3), some (.if_icmp .ne 7, 15, 19, 0, [], 0), none, none, some (.iconst 5, 16, 0, 0, [], 5)],
  [some (.goto 14, 19, 30, 0, [], 0), none, none, some (.iload_n 2, 20, 2, 0, [], 0), some (.iconst 5, 21, 0, 0, [], 5), some (.if_icmp .ne 7, 24, 28, 0, [], 0), none, none, some (.iconst 1, 25, 0, 0, [], 1), some (.goto 5, 28, 30, 0, [], 0), none, none, some (.bipush 9, 30, 0, 0, [], 9), none, some (.istore 4, 32, 4, 0, [], 0), none],
  [some (.aload_n 0, 33, 0, 0, [], 0), some (.iload_n 1, 34, 1, 0, [], 0), some (.invokevirtual 213, 37, 1, 169, [1, 12], 0), none, none, some (.ifCond .eq 39, 40, 76, 0, [], 0), none, none, some (.iload_n 2, 41, 2, 0, [], 0), some (.iconst 1, 42, 0, 0, [], 1), some (.iconst 5, 43, 0, 0, [], 5), some (.invokestatic 71, 46, 0, 163, [3], 0), none, none, some (.ifCond .eq 30, 49, 76, 0, [], 0), none],
  [none, some (.iload_n 3, 50, 3, 0, [], 0), some (.iconst 0, 51, 0, 0, [], 0), some (.iload 4, 53, 4, 0, [], 0), none, some (.invokestatic 71, 56, 0, 163, [3], 0), none, none, some (.ifCond .eq 20, 59, 76, 0, [], 0), none, none, some (.aload_n 0, 60, 0, 0, [], 0), some (.bipush 38, 62, 0, 0, [], 38), none, some (.bipush 6, 64, 0, 0, [], 6), none],
  [some (.iload_n 1, 65, 1, 0, [], 0), some (.imul, 66, 0, 0, [], 0), some (.iadd, 67, 0, 0, [], 0), some (.iload_n 2, 68, 2, 0, [], 0), some (.iadd, 69, 0, 0, [], 0), some (.iload_n 3, 70, 3, 0, [], 0), some (.invokevirtual 216, 73, 1, 172, [2, 12], 0), none, none, some (.goto 4, 76, 77, 0, [], 0), none, none, some (.iconst (-1), 77, 0, 0, [], (-1)), some (.ireturn, 78, 0, 0, [], 0)]])
/-- BrokenLoavesModel.remake(II)I -/
def mm_211 : am_M := (⟨"BrokenLoavesModel", "remake", "(II)I"⟩, prog_14_method_50_code, 3, (Option.some FieldType.int), [[some (.aload_n 0, 1, 0, 0, [], 0), some (.iload_n 1, 2, 1, 0, [], 0), some (.invokevirtual 213, 5, 1, 169, [1, 12], 0), none, none, some (.ifCond .eq 27, 8, 32, 0, [], 0), none, none, some (.iload_n 2, 9, 2, 0, [], 0), some (.iconst 1, 10, 0, 0, [], 1), some (.iconst 5, 11, 0, 0, [], 5), some (.invokestatic 71, 14, 0, 163, [3], 0), none, none, some (.ifCond .eq 18, 17, 32, 0, [], 0), none],
  [none, some (.aload_n 0, 18, 0, 0, [], 0), some (.bipush 38, 20, 0, 0, [], 38), none, some (.bipush 6, 22, 0, 0, [], 6), none, some (.iload_n 1, 23, 1, 0, [], 0), some (.imul, 24, 0, 0, [], 0), some (.iadd, 25, 0, 0, [], 0), some (.iload_n 2, 26, 2, 0, [], 0), some (.invokevirtual 216, 29, 1, 172, [2, 12], 0), none, none, some (.goto 4, 32, 33, 0, [], 0), none, none],
  [some (.iconst (-1), 33, 0, 0, [], (-1)), some (.ireturn, 34, 0, 0, [], 0)]])
/-- BrokenLoavesModel.weather(II)I -/
def mm_212 : am_M := (⟨"BrokenLoavesModel", "weather", "(II)I"⟩, prog_14_method_51_code, 3, (Option.some FieldType.int), [[some (.iload_n 1, 1, 1, 0, [], 0), some (.iconst 0, 2, 0, 0, [], 0), some (.bipush 15, 4, 0, 0, [], 15), none, some (.invokestatic 71, 7, 0, 163, [3], 0), none, none, some (.ifCond .eq 25, 10, 32, 0, [], 0), none, none, some (.iload_n 2, 11, 2, 0, [], 0), some (.iconst 0, 12, 0, 0, [], 0), some (.bipush 15, 14, 0, 0, [], 15), none, some (.invokestatic 71, 17, 0, 163, [3], 0), none],
  [none, some (.ifCond .eq 15, 20, 32, 0, [], 0), none, none, some (.aload_n 0, 21, 0, 0, [], 0), some (.bipush 10, 23, 0, 0, [], 10), none, some (.iload_n 1, 24, 1, 0, [], 0), some (.iadd, 25, 0, 0, [], 0), some (.iload_n 2, 26, 2, 0, [], 0), some (.invokevirtual 216, 29, 1, 172, [2, 12], 0), none, none, some (.goto 4, 32, 33, 0, [], 0), none, none],
  [some (.iconst (-1), 33, 0, 0, [], (-1)), some (.ireturn, 34, 0, 0, [], 0)]])
/-- BrokenLoavesModel.gate(III)I -/
def mm_213 : am_M := (⟨"BrokenLoavesModel", "gate", "(III)I"⟩, prog_14_method_52_code, 4, (Option.some FieldType.int), [[some (.iload_n 1, 1, 1, 0, [], 0), some (.invokestatic 210, 4, 0, 207, [1], 0), none, none, some (.ifCond .eq 40, 7, 44, 0, [], 0), none, none, some (.iload_n 2, 8, 2, 0, [], 0), some (.iconst 0, 9, 0, 0, [], 0), some (.iconst 1, 10, 0, 0, [], 1), some (.invokestatic 71, 13, 0, 163, [3], 0), none, none, some (.ifCond .eq 31, 16, 44, 0, [], 0), none, none],
  [some (.iload_n 3, 17, 3, 0, [], 0), some (.invokestatic 207, 20, 0, 206, [1], 0), none, none, some (.ifCond .eq 24, 23, 44, 0, [], 0), none, none, some (.aload_n 0, 24, 0, 0, [], 0), some (.iload_n 2, 25, 2, 0, [], 0), some (.ifCond .ne 8, 28, 33, 0, [], 0), none, none, some (.bipush 26, 30, 0, 0, [], 26), none, some (.goto 5, 33, 35, 0, [], 0), none],
  [none, some (.bipush 32, 35, 0, 0, [], 32), none, some (.iload_n 1, 36, 1, 0, [], 0), some (.iadd, 37, 0, 0, [], 0), some (.iload_n 3, 38, 3, 0, [], 0), some (.invokevirtual 216, 41, 1, 172, [2, 12], 0), none, none, some (.goto 4, 44, 45, 0, [], 0), none, none, some (.iconst (-1), 45, 0, 0, [], (-1)), some (.ireturn, 46, 0, 0, [], 0)]])
/-- BrokenLoavesModel.gateOf(II)I -/
def mm_214 : am_M := (⟨"BrokenLoavesModel", "gateOf", "(II)I"⟩, prog_14_method_53_code, 3, (Option.some FieldType.int), [[some (.iload_n 1, 1, 1, 0, [], 0), some (.invokestatic 210, 4, 0, 207, [1], 0), none, none, some (.ifCond .eq 33, 7, 37, 0, [], 0), none, none, some (.iload_n 2, 8, 2, 0, [], 0), some (.iconst 0, 9, 0, 0, [], 0), some (.iconst 1, 10, 0, 0, [], 1), some (.invokestatic 71, 13, 0, 163, [3], 0), none, none, some (.ifCond .eq 24, 16, 37, 0, [], 0), none, none],
  [some (.aload_n 0, 17, 0, 0, [], 0), some (.getfield 9, 20, 12, 0, [], 0), none, none, some (.iload_n 2, 21, 2, 0, [], 0), some (.ifCond .ne 8, 24, 29, 0, [], 0), none, none, some (.bipush 26, 26, 0, 0, [], 26), none, some (.goto 5, 29, 31, 0, [], 0), none, none, some (.bipush 32, 31, 0, 0, [], 32), none, some (.iload_n 1, 32, 1, 0, [], 0)],
  [some (.iadd, 33, 0, 0, [], 0), some (.iaload, 34, 0, 0, [], 0), some (.goto 4, 37, 38, 0, [], 0), none, none, some (.iconst (-1), 38, 0, 0, [], (-1)), some (.ireturn, 39, 0, 0, [], 0)]])
/-- BrokenLoavesModel.house(II)I -/
def mm_215 : am_M := (⟨"BrokenLoavesModel", "house", "(II)I"⟩, prog_14_method_54_code, 3, (Option.some FieldType.int), [[some (.iload_n 1, 1, 1, 0, [], 0), some (.iconst 0, 2, 0, 0, [], 0), some (.iconst 1, 3, 0, 0, [], 1), some (.invokestatic 71, 6, 0, 163, [3], 0), none, none, some (.ifCond .eq 34, 9, 40, 0, [], 0), none, none, some (.iload_n 2, 10, 2, 0, [], 0), some (.iconst 0, 11, 0, 0, [], 0), some (.iload_n 1, 12, 1, 0, [], 0), some (.ifCond .ne 8, 15, 20, 0, [], 0), none, none, some (.bipush 9, 17, 0, 0, [], 9)],
  [none, some (.goto 6, 20, 23, 0, [], 0), none, none, some (.sipush 999, 23, 0, 0, [], 999), none, none, some (.invokestatic 71, 26, 0, 163, [3], 0), none, none, some (.ifCond .eq 14, 29, 40, 0, [], 0), none, none, some (.aload_n 0, 30, 0, 0, [], 0), some (.iconst 3, 31, 0, 0, [], 3), some (.iload_n 1, 32, 1, 0, [], 0)],
  [some (.iadd, 33, 0, 0, [], 0), some (.iload_n 2, 34, 2, 0, [], 0), some (.invokevirtual 216, 37, 1, 172, [2, 12], 0), none, none, some (.goto 4, 40, 41, 0, [], 0), none, none, some (.iconst (-1), 41, 0, 0, [], (-1)), some (.ireturn, 42, 0, 0, [], 0)]])
/-- BrokenLoavesModel.ends(I)I -/
def mm_216 : am_M := (⟨"BrokenLoavesModel", "ends", "(I)I"⟩, prog_14_method_55_code, 2, (Option.some FieldType.int), [[some (.iload_n 1, 1, 1, 0, [], 0), some (.iconst 1, 2, 0, 0, [], 1), some (.bipush 16, 4, 0, 0, [], 16), none, some (.invokestatic 71, 7, 0, 163, [3], 0), none, none, some (.ifCond .ne 7, 10, 14, 0, [], 0), none, none, some (.iconst (-1), 11, 0, 0, [], (-1)), some (.goto 24, 14, 35, 0, [], 0), none, none, some (.iload_n 1, 15, 1, 0, [], 0), some (.aload_n 0, 16, 0, 0, [], 0)],
  [some (.getfield 9, 19, 12, 0, [], 0), none, none, some (.iconst 0, 20, 0, 0, [], 0), some (.iaload, 21, 0, 0, [], 0), some (.if_icmp .ge 8, 24, 29, 0, [], 0), none, none, some (.bipush (-4), 26, 0, 0, [], (-4)), none, some (.goto 9, 29, 35, 0, [], 0), none, none, some (.aload_n 0, 30, 0, 0, [], 0), some (.iconst 1, 31, 0, 0, [], 1), some (.iload_n 1, 32, 1, 0, [], 0)],
  [some (.invokevirtual 216, 35, 1, 172, [2, 12], 0), none, none, some (.ireturn, 36, 0, 0, [], 0)]])
/-- BrokenLoavesModel.anew()I -/
def mm_217 : am_M := (⟨"BrokenLoavesModel", "anew", "()I"⟩, prog_14_method_56_code, 2, (Option.some FieldType.int), [[some (.aload_n 0, 1, 0, 0, [], 0), some (.getfield 9, 4, 12, 0, [], 0), none, none, some (.iconst 2, 5, 0, 0, [], 2), some (.iconst 0, 6, 0, 0, [], 0), some (.iastore, 7, 0, 0, [], 0), some (.aload_n 0, 8, 0, 0, [], 0), some (.getfield 9, 11, 12, 0, [], 0), none, none, some (.iconst 3, 12, 0, 0, [], 3), some (.iconst 0, 13, 0, 0, [], 0), some (.iastore, 14, 0, 0, [], 0), some (.aload_n 0, 15, 0, 0, [], 0), some (.getfield 9, 18, 12, 0, [], 0)],
  [none, none, some (.iconst 4, 19, 0, 0, [], 4), some (.bipush 12, 21, 0, 0, [], 12), none, some (.iastore, 22, 0, 0, [], 0), some (.iconst 0, 23, 0, 0, [], 0), some (.istore_n 1, 24, 1, 0, [], 0), some (.iload_n 1, 25, 1, 0, [], 0), some (.aload_n 0, 26, 0, 0, [], 0), some (.getfield 9, 29, 12, 0, [], 0), none, none, some (.bipush 6, 31, 0, 0, [], 6), none, some (.iaload, 32, 0, 0, [], 0)],
  [some (.if_icmp .ge 23, 35, 55, 0, [], 0), none, none, some (.aload_n 0, 36, 0, 0, [], 0), some (.iload_n 1, 37, 1, 0, [], 0), some (.iconst 4, 38, 0, 0, [], 4), some (.iconst 0, 39, 0, 0, [], 0), some (.invokevirtual 178, 42, 1, 168, [3, 12], 0), none, none, some (.aload_n 0, 43, 0, 0, [], 0), some (.iload_n 1, 44, 1, 0, [], 0), some (.iconst 5, 45, 0, 0, [], 5), some (.iconst 0, 46, 0, 0, [], 0), some (.invokevirtual 178, 49, 1, 168, [3, 12], 0), none],
  [none, some (.iinc 1 1, 52, 1, 0, [], 1), none, none, some (.goto (-28), 55, 24, 0, [], 0), none, none, some (.aload_n 0, 56, 0, 0, [], 0), some (.iconst 0, 57, 0, 0, [], 0), some (.iconst 0, 58, 0, 0, [], 0), some (.invokevirtual 216, 61, 1, 172, [2, 12], 0), none, none, some (.ireturn, 62, 0, 0, [], 0)]])
/-- BrokenLoavesModel.those(I)I -/
def mm_218 : am_M := (⟨"BrokenLoavesModel", "those", "(I)I"⟩, prog_14_method_57_code, 4, (Option.some FieldType.int), [[some (.iconst 0, 1, 0, 0, [], 0), some (.istore_n 2, 2, 2, 0, [], 0), some (.iconst 0, 3, 0, 0, [], 0), some (.istore_n 3, 4, 3, 0, [], 0), some (.iload_n 3, 5, 3, 0, [], 0), some (.aload_n 0, 6, 0, 0, [], 0), some (.getfield 9, 9, 12, 0, [], 0), none, none, some (.bipush 6, 11, 0, 0, [], 6), none, some (.iaload, 12, 0, 0, [], 0), some (.if_icmp .ge 28, 15, 40, 0, [], 0), none, none, some (.iload_n 2, 16, 2, 0, [], 0)],
  [some (.aload_n 0, 17, 0, 0, [], 0), some (.iload_n 3, 18, 3, 0, [], 0), some (.iload_n 1, 19, 1, 0, [], 0), some (.invokevirtual 79, 22, 1, 167, [2, 12], 0), none, none, some (.ifCond .le 9, 25, 31, 0, [], 0), none, none, some (.iconst 1, 26, 0, 0, [], 1), some (.iload_n 3, 27, 3, 0, [], 0), some (.ishl, 28, 0, 0, [], 0), some (.goto 4, 31, 32, 0, [], 0), none, none, some (.iconst 0, 32, 0, 0, [], 0)],
  [some (.ior, 33, 0, 0, [], 0), some (.istore_n 2, 34, 2, 0, [], 0), some (.iinc 3 1, 37, 3, 0, [], 1), none, none, some (.goto (-33), 40, 4, 0, [], 0), none, none, some (.iload_n 2, 41, 2, 0, [], 0), some (.ireturn, 42, 0, 0, [], 0)]])
/-- BrokenLoavesModel.state(I)I -/
def mm_219 : am_M := (⟨"BrokenLoavesModel", "state", "(I)I"⟩, prog_14_method_58_code, 2, (Option.some FieldType.int), [[some (.iload_n 1, 1, 1, 0, [], 0), some (.tableswitch 141 0 8 #[51, 58, 65, 72, 85, 91, 97, 127, 134], 52, 142, 0, [52, 59, 66, 73, 86, 92, 98, 128, 135], 0), none, none, none, none, none, none, none, none, none, none, none, none, none, none],
  [none, none, none, none, none, none, none, none, none, none, none, none, none, none, none, none],
  [none, none, none, none, none, none, none, none, none, none, none, none, none, none, none, none],
  [none, none, none, none, some (.aload_n 0, 53, 0, 0, [], 0), some (.getfield 9, 56, 12, 0, [], 0), none, none, some (.iconst 0, 57, 0, 0, [], 0), some (.iaload, 58, 0, 0, [], 0), some (.ireturn, 59, 0, 0, [], 0), some (.aload_n 0, 60, 0, 0, [], 0), some (.getfield 9, 63, 12, 0, [], 0), none, none, some (.iconst 1, 64, 0, 0, [], 1)],
  [some (.iaload, 65, 0, 0, [], 0), some (.ireturn, 66, 0, 0, [], 0), some (.aload_n 0, 67, 0, 0, [], 0), some (.getfield 9, 70, 12, 0, [], 0), none, none, some (.iconst 2, 71, 0, 0, [], 2), some (.iaload, 72, 0, 0, [], 0), some (.ireturn, 73, 0, 0, [], 0), some (.aload_n 0, 74, 0, 0, [], 0), some (.invokevirtual 219, 77, 1, 171, [0, 12], 0), none, none, some (.ifCond .eq 7, 80, 84, 0, [], 0), none, none],
  [some (.iconst 1, 81, 0, 0, [], 1), some (.goto 4, 84, 85, 0, [], 0), none, none, some (.iconst 0, 85, 0, 0, [], 0), some (.ireturn, 86, 0, 0, [], 0), some (.aload_n 0, 87, 0, 0, [], 0), some (.iconst 4, 88, 0, 0, [], 4), some (.invokevirtual 222, 91, 1, 218, [1, 12], 0), none, none, some (.ireturn, 92, 0, 0, [], 0), some (.aload_n 0, 93, 0, 0, [], 0), some (.iconst 5, 94, 0, 0, [], 5), some (.invokevirtual 222, 97, 1, 218, [1, 12], 0), none],
  [none, some (.ireturn, 98, 0, 0, [], 0), some (.aload_n 0, 99, 0, 0, [], 0), some (.getfield 9, 102, 12, 0, [], 0), none, none, some (.iconst 0, 103, 0, 0, [], 0), some (.iaload, 104, 0, 0, [], 0), some (.bipush 16, 106, 0, 0, [], 16), none, some (.if_icmp .ge 20, 109, 126, 0, [], 0), none, none, some (.aload_n 0, 110, 0, 0, [], 0), some (.getfield 9, 113, 12, 0, [], 0), none],
  [none, some (.bipush 10, 115, 0, 0, [], 10), none, some (.aload_n 0, 116, 0, 0, [], 0), some (.getfield 9, 119, 12, 0, [], 0), none, none, some (.iconst 0, 120, 0, 0, [], 0), some (.iaload, 121, 0, 0, [], 0), some (.iadd, 122, 0, 0, [], 0), some (.iaload, 123, 0, 0, [], 0), some (.goto 4, 126, 127, 0, [], 0), none, none, some (.iconst 0, 127, 0, 0, [], 0), some (.ireturn, 128, 0, 0, [], 0)],
  [some (.aload_n 0, 129, 0, 0, [], 0), some (.getfield 9, 132, 12, 0, [], 0), none, none, some (.iconst 3, 133, 0, 0, [], 3), some (.iaload, 134, 0, 0, [], 0), some (.ireturn, 135, 0, 0, [], 0), some (.aload_n 0, 136, 0, 0, [], 0), some (.getfield 9, 139, 12, 0, [], 0), none, none, some (.iconst 4, 140, 0, 0, [], 4), some (.iaload, 141, 0, 0, [], 0), some (.ireturn, 142, 0, 0, [], 0), some (.iconst (-1), 143, 0, 0, [], (-1)), some (.ireturn, 144, 0, 0, [], 0)]])
/-- BrokenLoavesModel.day()I -/
def mm_220 : am_M := (⟨"BrokenLoavesModel", "day", "()I"⟩, prog_14_method_59_code, 1, (Option.some FieldType.int), [[some (.aload_n 0, 1, 0, 0, [], 0), some (.invokevirtual 219, 4, 1, 171, [0, 12], 0), none, none, some (.ifCond .eq 8, 7, 12, 0, [], 0), none, none, some (.bipush (-4), 9, 0, 0, [], (-4)), none, some (.goto 8, 12, 17, 0, [], 0), none, none, some (.aload_n 0, 13, 0, 0, [], 0), some (.iconst (-1), 14, 0, 0, [], (-1)), some (.invokevirtual 225, 17, 1, 204, [1, 12], 0), none],
  [none, some (.ireturn, 18, 0, 0, [], 0)]])
/-- BrokenLoavesModel.restOf(I)I -/
def mm_221 : am_M := (⟨"BrokenLoavesModel", "restOf", "(I)I"⟩, prog_14_method_60_code, 4, (Option.some FieldType.int), [[some (.iconst 0, 1, 0, 0, [], 0), some (.istore_n 2, 2, 2, 0, [], 0), some (.iconst 0, 3, 0, 0, [], 0), some (.istore_n 3, 4, 3, 0, [], 0), some (.iload_n 3, 5, 3, 0, [], 0), some (.iload_n 1, 6, 1, 0, [], 0), some (.if_icmp .ge 24, 9, 30, 0, [], 0), none, none, some (.aload_n 0, 10, 0, 0, [], 0), some (.invokevirtual 219, 13, 1, 171, [0, 12], 0), none, none, some (.ifCond .ne 17, 16, 30, 0, [], 0), none, none],
  [some (.iload_n 2, 17, 2, 0, [], 0), some (.aload_n 0, 18, 0, 0, [], 0), some (.iconst (-1), 19, 0, 0, [], (-1)), some (.invokevirtual 225, 22, 1, 204, [1, 12], 0), none, none, some (.iadd, 23, 0, 0, [], 0), some (.istore_n 2, 24, 2, 0, [], 0), some (.iinc 3 1, 27, 3, 0, [], 1), none, none, some (.goto (-23), 30, 4, 0, [], 0), none, none, some (.iload_n 2, 31, 2, 0, [], 0), some (.ireturn, 32, 0, 0, [], 0)]])
/-- BrokenLoavesModel.on(I)I -/
def mm_222 : am_M := (⟨"BrokenLoavesModel", "on", "(I)I"⟩, prog_14_method_61_code, 3, (Option.some FieldType.int), [[some (.iload_n 1, 1, 1, 0, [], 0), some (.iconst 0, 2, 0, 0, [], 0), some (.bipush 16, 4, 0, 0, [], 16), none, some (.invokestatic 71, 7, 0, 163, [3], 0), none, none, some (.ifCond .ne 5, 10, 12, 0, [], 0), none, none, some (.iconst (-1), 11, 0, 0, [], (-1)), some (.ireturn, 12, 0, 0, [], 0), some (.aload_n 0, 13, 0, 0, [], 0), some (.invokevirtual 228, 16, 1, 165, [0, 12], 0), none, none],
  [some (.aload_n 0, 17, 0, 0, [], 0), some (.iload_n 1, 18, 1, 0, [], 0), some (.invokevirtual 231, 21, 1, 221, [1, 12], 0), none, none, some (.istore_n 2, 22, 2, 0, [], 0), some (.aload_n 0, 23, 0, 0, [], 0), some (.invokevirtual 234, 26, 1, 166, [0, 12], 0), none, none, some (.iload_n 2, 27, 2, 0, [], 0), some (.ireturn, 28, 0, 0, [], 0)]])
/-- BrokenLoavesModel.when(I)I -/
def mm_223 : am_M := (⟨"BrokenLoavesModel", "when", "(I)I"⟩, prog_14_method_62_code, 5, (Option.some FieldType.int), [[some (.aload_n 0, 1, 0, 0, [], 0), some (.iload_n 1, 2, 1, 0, [], 0), some (.invokevirtual 213, 5, 1, 169, [1, 12], 0), none, none, some (.ifCond .ne 5, 8, 10, 0, [], 0), none, none, some (.iconst (-1), 9, 0, 0, [], (-1)), some (.ireturn, 10, 0, 0, [], 0), some (.aload_n 0, 11, 0, 0, [], 0), some (.invokevirtual 228, 14, 1, 165, [0, 12], 0), none, none, some (.bipush (-3), 16, 0, 0, [], (-3)), none],
  [some (.istore_n 2, 17, 2, 0, [], 0), some (.aload_n 0, 18, 0, 0, [], 0), some (.iload_n 1, 19, 1, 0, [], 0), some (.iconst 5, 20, 0, 0, [], 5), some (.invokevirtual 79, 23, 1, 167, [2, 12], 0), none, none, some (.ifCond .ne 7, 26, 30, 0, [], 0), none, none, some (.iconst 1, 27, 0, 0, [], 1), some (.goto 4, 30, 31, 0, [], 0), none, none, some (.iconst 0, 31, 0, 0, [], 0), some (.istore_n 3, 32, 3, 0, [], 0)],
  [some (.iload_n 3, 33, 3, 0, [], 0), some (.ifCond .eq 58, 36, 91, 0, [], 0), none, none, some (.aload_n 0, 37, 0, 0, [], 0), some (.invokevirtual 219, 40, 1, 171, [0, 12], 0), none, none, some (.ifCond .ne 51, 43, 91, 0, [], 0), none, none, some (.aload_n 0, 44, 0, 0, [], 0), some (.iconst (-1), 45, 0, 0, [], (-1)), some (.invokevirtual 225, 48, 1, 204, [1, 12], 0), none, none],
  [some (.istore 4, 50, 4, 0, [], 0), none, some (.aload_n 0, 51, 0, 0, [], 0), some (.iload_n 1, 52, 1, 0, [], 0), some (.iconst 5, 53, 0, 0, [], 5), some (.invokevirtual 79, 56, 1, 167, [2, 12], 0), none, none, some (.ifCond .ne 7, 59, 63, 0, [], 0), none, none, some (.iconst 1, 60, 0, 0, [], 1), some (.goto 4, 63, 64, 0, [], 0), none, none, some (.iconst 0, 64, 0, 0, [], 0)],
  [some (.istore_n 3, 65, 3, 0, [], 0), some (.iload_n 3, 66, 3, 0, [], 0), some (.ifCond .ne 8, 69, 74, 0, [], 0), none, none, some (.iload 4, 71, 4, 0, [], 0), none, some (.ifCond .ge 8, 74, 79, 0, [], 0), none, none, some (.bipush (-3), 76, 0, 0, [], (-3)), none, some (.goto 11, 79, 87, 0, [], 0), none, none, some (.aload_n 0, 80, 0, 0, [], 0)],
  [some (.getfield 9, 83, 12, 0, [], 0), none, none, some (.iconst 0, 84, 0, 0, [], 0), some (.iaload, 85, 0, 0, [], 0), some (.iconst 1, 86, 0, 0, [], 1), some (.isub, 87, 0, 0, [], 0), some (.istore_n 2, 88, 2, 0, [], 0), some (.goto (-56), 91, 32, 0, [], 0), none, none, some (.aload_n 0, 92, 0, 0, [], 0), some (.invokevirtual 234, 95, 1, 166, [0, 12], 0), none, none, some (.iload_n 2, 96, 2, 0, [], 0)],
  [some (.ireturn, 97, 0, 0, [], 0)]])
/-- BrokenLoavesModel.bestFor(III)I -/
def mm_224 : am_M := (⟨"BrokenLoavesModel", "bestFor", "(III)I"⟩, prog_14_method_63_code, 8, (Option.some FieldType.int), [[some (.aload_n 0, 1, 0, 0, [], 0), some (.iload_n 1, 2, 1, 0, [], 0), some (.invokevirtual 213, 5, 1, 169, [1, 12], 0), none, none, some (.ifCond .ne 5, 8, 10, 0, [], 0), none, none, some (.iconst (-1), 9, 0, 0, [], (-1)), some (.ireturn, 10, 0, 0, [], 0), some (.iconst 0, 11, 0, 0, [], 0), some (.istore 4, 13, 4, 0, [], 0), none, some (.iconst (-1), 14, 0, 0, [], (-1)), some (.istore 5, 16, 5, 0, [], 0), none],
  [some (.aload_n 0, 17, 0, 0, [], 0), some (.invokevirtual 228, 20, 1, 165, [0, 12], 0), none, none, some (.iconst 0, 21, 0, 0, [], 0), some (.istore 6, 23, 6, 0, [], 0), none, some (.iload 6, 25, 6, 0, [], 0), none, some (.iload_n 3, 26, 3, 0, [], 0), some (.if_icmp .gt 61, 29, 87, 0, [], 0), none, none, some (.aload_n 0, 30, 0, 0, [], 0), some (.iload_n 1, 31, 1, 0, [], 0), some (.iload_n 2, 32, 2, 0, [], 0)],
  [some (.iload 6, 34, 6, 0, [], 0), none, some (.invokevirtual 178, 37, 1, 168, [3, 12], 0), none, none, some (.aload_n 0, 38, 0, 0, [], 0), some (.bipush 16, 40, 0, 0, [], 16), none, some (.invokevirtual 231, 43, 1, 221, [1, 12], 0), none, none, some (.istore 7, 45, 7, 0, [], 0), none, some (.iload 7, 47, 7, 0, [], 0), none, some (.iload 5, 49, 5, 0, [], 0)],
  [none, some (.if_icmp .le 8, 52, 57, 0, [], 0), none, none, some (.iload 6, 54, 6, 0, [], 0), none, some (.goto 5, 57, 59, 0, [], 0), none, none, some (.iload 4, 59, 4, 0, [], 0), none, some (.istore 4, 61, 4, 0, [], 0), none, some (.iload 7, 63, 7, 0, [], 0), none, some (.iload 5, 65, 5, 0, [], 0)],
  [none, some (.if_icmp .le 8, 68, 73, 0, [], 0), none, none, some (.iload 7, 70, 7, 0, [], 0), none, some (.goto 5, 73, 75, 0, [], 0), none, none, some (.iload 5, 75, 5, 0, [], 0), none, some (.istore 5, 77, 5, 0, [], 0), none, some (.aload_n 0, 78, 0, 0, [], 0), some (.invokevirtual 234, 81, 1, 166, [0, 12], 0), none],
  [none, some (.iinc 6 1, 84, 6, 0, [], 1), none, none, some (.goto (-61), 87, 23, 0, [], 0), none, none, some (.iload 4, 89, 4, 0, [], 0), none, some (.ireturn, 90, 0, 0, [], 0)]])
/-- BrokenLoavesModel.taleFor(I)I -/
def mm_225 : am_M := (⟨"BrokenLoavesModel", "taleFor", "(I)I"⟩, prog_14_method_64_code, 2, (Option.some FieldType.int), [[some (.aload_n 0, 1, 0, 0, [], 0), some (.iload_n 1, 2, 1, 0, [], 0), some (.iconst 2, 3, 0, 0, [], 2), some (.bipush 9, 5, 0, 0, [], 9), none, some (.invokevirtual 237, 8, 1, 224, [3, 12], 0), none, none, some (.ireturn, 9, 0, 0, [], 0)]])
/-- BrokenLoavesModel.gateFor(I)I -/
def mm_226 : am_M := (⟨"BrokenLoavesModel", "gateFor", "(I)I"⟩, prog_14_method_65_code, 2, (Option.some FieldType.int), [[some (.aload_n 0, 1, 0, 0, [], 0), some (.iload_n 1, 2, 1, 0, [], 0), some (.iconst 3, 3, 0, 0, [], 3), some (.iconst 5, 4, 0, 0, [], 5), some (.invokevirtual 237, 7, 1, 224, [3, 12], 0), none, none, some (.ireturn, 8, 0, 0, [], 0)]])
/-- BrokenLoavesModel.bakery(I)I -/
def mm_227 : am_M := (⟨"BrokenLoavesModel", "bakery", "(I)I"⟩, prog_14_method_66_code, 4, (Option.some FieldType.int), [[some (.iload_n 1, 1, 1, 0, [], 0), some (.iconst 0, 2, 0, 0, [], 0), some (.sipush 999, 5, 0, 0, [], 999), none, none, some (.invokestatic 71, 8, 0, 163, [3], 0), none, none, some (.ifCond .ne 5, 11, 13, 0, [], 0), none, none, some (.iconst (-1), 12, 0, 0, [], (-1)), some (.ireturn, 13, 0, 0, [], 0), some (.aload_n 0, 14, 0, 0, [], 0), some (.invokevirtual 228, 17, 1, 165, [0, 12], 0), none],
  [none, some (.bipush (-3), 19, 0, 0, [], (-3)), none, some (.istore_n 2, 20, 2, 0, [], 0), some (.iload_n 2, 21, 2, 0, [], 0), some (.bipush (-3), 23, 0, 0, [], (-3)), none, some (.if_icmp .ne 47, 26, 70, 0, [], 0), none, none, some (.aload_n 0, 27, 0, 0, [], 0), some (.invokevirtual 219, 30, 1, 171, [0, 12], 0), none, none, some (.ifCond .ne 40, 33, 70, 0, [], 0), none],
  [none, some (.aload_n 0, 34, 0, 0, [], 0), some (.iconst (-1), 35, 0, 0, [], (-1)), some (.invokevirtual 225, 38, 1, 204, [1, 12], 0), none, none, some (.istore_n 3, 39, 3, 0, [], 0), some (.aload_n 0, 40, 0, 0, [], 0), some (.getfield 9, 43, 12, 0, [], 0), none, none, some (.iconst 4, 44, 0, 0, [], 4), some (.iaload, 45, 0, 0, [], 0), some (.iload_n 1, 46, 1, 0, [], 0), some (.if_icmp .lt 18, 49, 64, 0, [], 0), none],
  [none, some (.iload_n 3, 50, 3, 0, [], 0), some (.ifCond .lt 14, 53, 64, 0, [], 0), none, none, some (.aload_n 0, 54, 0, 0, [], 0), some (.getfield 9, 57, 12, 0, [], 0), none, none, some (.iconst 0, 58, 0, 0, [], 0), some (.iaload, 59, 0, 0, [], 0), some (.iconst 1, 60, 0, 0, [], 1), some (.isub, 61, 0, 0, [], 0), some (.goto 5, 64, 66, 0, [], 0), none, none],
  [some (.bipush (-3), 66, 0, 0, [], (-3)), none, some (.istore_n 2, 67, 2, 0, [], 0), some (.goto (-47), 70, 20, 0, [], 0), none, none, some (.aload_n 0, 71, 0, 0, [], 0), some (.invokevirtual 234, 74, 1, 166, [0, 12], 0), none, none, some (.iload_n 2, 75, 2, 0, [], 0), some (.ireturn, 76, 0, 0, [], 0)]])
/-- BrokenLoavesModel.winter(I)I -/
def mm_228 : am_M := (⟨"BrokenLoavesModel", "winter", "(I)I"⟩, prog_14_method_67_code, 5, (Option.some FieldType.int), [[some (.iload_n 1, 1, 1, 0, [], 0), some (.iconst 0, 2, 0, 0, [], 0), some (.iconst 1, 3, 0, 0, [], 1), some (.invokestatic 71, 6, 0, 163, [3], 0), none, none, some (.ifCond .ne 5, 9, 11, 0, [], 0), none, none, some (.iconst (-1), 10, 0, 0, [], (-1)), some (.ireturn, 11, 0, 0, [], 0), some (.aload_n 0, 12, 0, 0, [], 0), some (.invokevirtual 228, 15, 1, 165, [0, 12], 0), none, none, some (.iconst 0, 16, 0, 0, [], 0)],
  [some (.istore_n 2, 17, 2, 0, [], 0), some (.aload_n 0, 18, 0, 0, [], 0), some (.invokevirtual 219, 21, 1, 171, [0, 12], 0), none, none, some (.ifCond .ne 41, 24, 62, 0, [], 0), none, none, some (.aload_n 0, 25, 0, 0, [], 0), some (.iconst 5, 26, 0, 0, [], 5), some (.invokevirtual 222, 29, 1, 218, [1, 12], 0), none, none, some (.istore_n 3, 30, 3, 0, [], 0), some (.aload_n 0, 31, 0, 0, [], 0), some (.iconst (-1), 32, 0, 0, [], (-1))],
  [some (.invokevirtual 225, 35, 1, 204, [1, 12], 0), none, none, some (.istore 4, 37, 4, 0, [], 0), none, some (.iload_n 2, 38, 2, 0, [], 0), some (.iload_n 3, 39, 3, 0, [], 0), some (.aload_n 0, 40, 0, 0, [], 0), some (.iconst 5, 41, 0, 0, [], 5), some (.invokevirtual 222, 44, 1, 218, [1, 12], 0), none, none, some (.if_icmp .ne 12, 47, 56, 0, [], 0), none, none, some (.iload 4, 49, 4, 0, [], 0)],
  [none, some (.ifCond .lt 7, 52, 56, 0, [], 0), none, none, some (.iconst 1, 53, 0, 0, [], 1), some (.goto 4, 56, 57, 0, [], 0), none, none, some (.iconst 0, 57, 0, 0, [], 0), some (.iadd, 58, 0, 0, [], 0), some (.istore_n 2, 59, 2, 0, [], 0), some (.goto (-42), 62, 17, 0, [], 0), none, none, some (.iload_n 1, 63, 1, 0, [], 0), some (.ifCond .ne 7, 66, 70, 0, [], 0)],
  [none, none, some (.iload_n 2, 67, 2, 0, [], 0), some (.goto 9, 70, 76, 0, [], 0), none, none, some (.aload_n 0, 71, 0, 0, [], 0), some (.getfield 9, 74, 12, 0, [], 0), none, none, some (.iconst 4, 75, 0, 0, [], 4), some (.iaload, 76, 0, 0, [], 0), some (.istore_n 3, 77, 3, 0, [], 0), some (.aload_n 0, 78, 0, 0, [], 0), some (.invokevirtual 234, 81, 1, 166, [0, 12], 0), none],
  [none, some (.iload_n 3, 82, 3, 0, [], 0), some (.ireturn, 83, 0, 0, [], 0)]])
/-- BrokenLoavesModel.areClose(II)Z -/
def mm_229 : am_M := (⟨"BrokenLoavesModel", "areClose", "(II)Z"⟩, prog_14_method_68_code, 4, (Option.some FieldType.boolean), [[some (.aload_n 0, 1, 0, 0, [], 0), some (.iload_n 1, 2, 1, 0, [], 0), some (.iconst 1, 3, 0, 0, [], 1), some (.invokevirtual 79, 6, 1, 167, [2, 12], 0), none, none, some (.aload_n 0, 7, 0, 0, [], 0), some (.iload_n 2, 8, 2, 0, [], 0), some (.iconst 1, 9, 0, 0, [], 1), some (.invokevirtual 79, 12, 1, 167, [2, 12], 0), none, none, some (.isub, 13, 0, 0, [], 0), some (.istore_n 3, 14, 3, 0, [], 0), some (.aload_n 0, 15, 0, 0, [], 0), some (.iload_n 1, 16, 1, 0, [], 0)],
  [some (.iconst 5, 17, 0, 0, [], 5), some (.invokevirtual 79, 20, 1, 167, [2, 12], 0), none, none, some (.ifCond .ne 41, 23, 61, 0, [], 0), none, none, some (.aload_n 0, 24, 0, 0, [], 0), some (.iload_n 2, 25, 2, 0, [], 0), some (.iconst 5, 26, 0, 0, [], 5), some (.invokevirtual 79, 29, 1, 167, [2, 12], 0), none, none, some (.ifCond .ne 32, 32, 61, 0, [], 0), none, none],
  [some (.aload_n 0, 33, 0, 0, [], 0), some (.iload_n 1, 34, 1, 0, [], 0), some (.iconst 3, 35, 0, 0, [], 3), some (.invokevirtual 79, 38, 1, 167, [2, 12], 0), none, none, some (.aload_n 0, 39, 0, 0, [], 0), some (.iload_n 2, 40, 2, 0, [], 0), some (.iconst 3, 41, 0, 0, [], 3), some (.invokevirtual 79, 44, 1, 167, [2, 12], 0), none, none, some (.if_icmp .eq 13, 47, 57, 0, [], 0), none, none, some (.iload_n 3, 48, 3, 0, [], 0)],
  [some (.bipush (-2), 50, 0, 0, [], (-2)), none, some (.iconst 2, 51, 0, 0, [], 2), some (.invokestatic 71, 54, 0, 163, [3], 0), none, none, some (.ifCond .eq 7, 57, 61, 0, [], 0), none, none, some (.iconst 1, 58, 0, 0, [], 1), some (.goto 4, 61, 62, 0, [], 0), none, none, some (.iconst 0, 62, 0, 0, [], 0), some (.ireturn, 63, 2, 0, [], 0)]])
/-- BrokenLoavesModel.tableOf(I)I -/
def mm_230 : am_M := (⟨"BrokenLoavesModel", "tableOf", "(I)I"⟩, prog_14_method_69_code, 6, (Option.some FieldType.int), [[some (.iconst 1, 1, 0, 0, [], 1), some (.iload_n 1, 2, 1, 0, [], 0), some (.ishl, 3, 0, 0, [], 0), some (.istore_n 2, 4, 2, 0, [], 0), some (.iconst 0, 5, 0, 0, [], 0), some (.istore_n 3, 6, 3, 0, [], 0), some (.iload_n 3, 7, 3, 0, [], 0), some (.aload_n 0, 8, 0, 0, [], 0), some (.getfield 9, 11, 12, 0, [], 0), none, none, some (.bipush 6, 13, 0, 0, [], 6), none, some (.iaload, 14, 0, 0, [], 0), some (.if_icmp .ge 83, 17, 97, 0, [], 0), none],
  [none, some (.iconst 0, 18, 0, 0, [], 0), some (.istore 4, 20, 4, 0, [], 0), none, some (.iload 4, 22, 4, 0, [], 0), none, some (.aload_n 0, 23, 0, 0, [], 0), some (.getfield 9, 26, 12, 0, [], 0), none, none, some (.bipush 6, 28, 0, 0, [], 6), none, some (.iaload, 29, 0, 0, [], 0), some (.if_icmp .ge 62, 32, 91, 0, [], 0), none, none],
  [some (.iconst 0, 33, 0, 0, [], 0), some (.istore 5, 35, 5, 0, [], 0), none, some (.iload 5, 37, 5, 0, [], 0), none, some (.aload_n 0, 38, 0, 0, [], 0), some (.getfield 9, 41, 12, 0, [], 0), none, none, some (.bipush 6, 43, 0, 0, [], 6), none, some (.iaload, 44, 0, 0, [], 0), some (.if_icmp .ge 41, 47, 85, 0, [], 0), none, none, some (.iload_n 2, 48, 2, 0, [], 0)],
  [some (.iload_n 2, 49, 2, 0, [], 0), some (.iload 4, 51, 4, 0, [], 0), none, some (.ishr, 52, 0, 0, [], 0), some (.iconst 1, 53, 0, 0, [], 1), some (.iand, 54, 0, 0, [], 0), some (.iconst 1, 55, 0, 0, [], 1), some (.if_icmp .ne 21, 58, 76, 0, [], 0), none, none, some (.aload_n 0, 59, 0, 0, [], 0), some (.iload 4, 61, 4, 0, [], 0), none, some (.iload 5, 63, 5, 0, [], 0), none, some (.invokevirtual 240, 66, 1, 229, [2, 12], 0)],
  [none, none, some (.ifCond .eq 10, 69, 76, 0, [], 0), none, none, some (.iconst 1, 70, 0, 0, [], 1), some (.iload 5, 72, 5, 0, [], 0), none, some (.ishl, 73, 0, 0, [], 0), some (.goto 4, 76, 77, 0, [], 0), none, none, some (.iconst 0, 77, 0, 0, [], 0), some (.ior, 78, 0, 0, [], 0), some (.istore_n 2, 79, 2, 0, [], 0), some (.iinc 5 1, 82, 5, 0, [], 1)],
  [none, none, some (.goto (-47), 85, 35, 0, [], 0), none, none, some (.iinc 4 1, 88, 4, 0, [], 1), none, none, some (.goto (-68), 91, 20, 0, [], 0), none, none, some (.iinc 3 1, 94, 3, 0, [], 1), none, none, some (.goto (-88), 97, 6, 0, [], 0), none],
  [none, some (.aload_n 0, 98, 0, 0, [], 0), some (.iload_n 1, 99, 1, 0, [], 0), some (.iconst 5, 100, 0, 0, [], 5), some (.invokevirtual 79, 103, 1, 167, [2, 12], 0), none, none, some (.iconst 1, 104, 0, 0, [], 1), some (.if_icmp .ne 7, 107, 111, 0, [], 0), none, none, some (.iconst 0, 108, 0, 0, [], 0), some (.goto 4, 111, 112, 0, [], 0), none, none, some (.iload_n 2, 112, 2, 0, [], 0)],
  [some (.ireturn, 113, 0, 0, [], 0)]])
/-- BrokenLoavesModel.tables(I)I -/
def mm_231 : am_M := (⟨"BrokenLoavesModel", "tables", "(I)I"⟩, prog_14_method_70_code, 5, (Option.some FieldType.int), [[some (.iload_n 1, 1, 1, 0, [], 0), some (.iconst (-1), 2, 0, 0, [], (-1)), some (.if_icmp .eq 13, 5, 15, 0, [], 0), none, none, some (.aload_n 0, 6, 0, 0, [], 0), some (.iload_n 1, 7, 1, 0, [], 0), some (.invokevirtual 213, 10, 1, 169, [1, 12], 0), none, none, some (.ifCond .ne 5, 13, 15, 0, [], 0), none, none, some (.iconst (-1), 14, 0, 0, [], (-1)), some (.ireturn, 15, 0, 0, [], 0), some (.iload_n 1, 16, 1, 0, [], 0)],
  [some (.ifCond .lt 9, 19, 25, 0, [], 0), none, none, some (.aload_n 0, 20, 0, 0, [], 0), some (.iload_n 1, 21, 1, 0, [], 0), some (.invokevirtual 243, 24, 1, 230, [1, 12], 0), none, none, some (.ireturn, 25, 0, 0, [], 0), some (.iconst 0, 26, 0, 0, [], 0), some (.istore_n 2, 27, 2, 0, [], 0), some (.iconst 0, 28, 0, 0, [], 0), some (.istore_n 3, 29, 3, 0, [], 0), some (.iload_n 3, 30, 3, 0, [], 0), some (.aload_n 0, 31, 0, 0, [], 0), some (.getfield 9, 34, 12, 0, [], 0)],
  [none, none, some (.bipush 6, 36, 0, 0, [], 6), none, some (.iaload, 37, 0, 0, [], 0), some (.if_icmp .ge 38, 40, 75, 0, [], 0), none, none, some (.aload_n 0, 41, 0, 0, [], 0), some (.iload_n 3, 42, 3, 0, [], 0), some (.invokevirtual 243, 45, 1, 230, [1, 12], 0), none, none, some (.istore 4, 47, 4, 0, [], 0), none, some (.iload_n 2, 48, 2, 0, [], 0)],
  [some (.iload 4, 50, 4, 0, [], 0), none, some (.ifCond .eq 16, 53, 66, 0, [], 0), none, none, some (.iload 4, 55, 4, 0, [], 0), none, some (.iconst 1, 56, 0, 0, [], 1), some (.iload_n 3, 57, 3, 0, [], 0), some (.ishl, 58, 0, 0, [], 0), some (.irem, 59, 0, 0, [], 0), some (.ifCond .ne 7, 62, 66, 0, [], 0), none, none, some (.iconst 1, 63, 0, 0, [], 1), some (.goto 4, 66, 67, 0, [], 0)],
  [none, none, some (.iconst 0, 67, 0, 0, [], 0), some (.iadd, 68, 0, 0, [], 0), some (.istore_n 2, 69, 2, 0, [], 0), some (.iinc 3 1, 72, 3, 0, [], 1), none, none, some (.goto (-43), 75, 29, 0, [], 0), none, none, some (.iload_n 2, 76, 2, 0, [], 0), some (.ireturn, 77, 0, 0, [], 0)]])
end
section
/-- BrokenLoavesModel.goesRound(IIII)V -/
def mm_232 : am_M := (⟨"BrokenLoavesModel", "goesRound", "(IIII)V"⟩, prog_14_method_71_code, 7, (Option.none : Option FieldType), [[some (.iload_n 1, 1, 1, 0, [], 0), some (.ifCond .ne 30, 4, 31, 0, [], 0), none, none, some (.aload_n 0, 5, 0, 0, [], 0), some (.getfield 246, 8, 12, 16, [], 0), none, none, some (.ifCond .lt 11, 11, 19, 0, [], 0), none, none, some (.iload_n 3, 12, 3, 0, [], 0), some (.aload_n 0, 13, 0, 0, [], 0), some (.getfield 246, 16, 12, 16, [], 0), none, none],
  [some (.if_icmp .ge 14, 19, 30, 0, [], 0), none, none, some (.aload_n 0, 20, 0, 0, [], 0), some (.iload_n 3, 21, 3, 0, [], 0), some (.putfield 246, 24, 12, 16, [], 0), none, none, some (.aload_n 0, 25, 0, 0, [], 0), some (.iload 4, 27, 4, 0, [], 0), none, some (.putfield 249, 30, 12, 17, [], 0), none, none, some (.return_, 31, 0, 0, [], 0), some (.iconst 0, 32, 0, 0, [], 0)],
  [some (.istore 5, 34, 5, 0, [], 0), none, some (.iload 5, 36, 5, 0, [], 0), none, some (.aload_n 0, 37, 0, 0, [], 0), some (.getfield 9, 40, 12, 0, [], 0), none, none, some (.bipush 6, 42, 0, 0, [], 6), none, some (.iaload, 43, 0, 0, [], 0), some (.if_icmp .ge 88, 46, 131, 0, [], 0), none, none, some (.iload_n 1, 47, 1, 0, [], 0), some (.iload 5, 49, 5, 0, [], 0)],
  [none, some (.ishr, 50, 0, 0, [], 0), some (.iconst 1, 51, 0, 0, [], 1), some (.iand, 52, 0, 0, [], 0), some (.iconst 1, 53, 0, 0, [], 1), some (.if_icmp .ne 72, 56, 125, 0, [], 0), none, none, some (.aload_n 0, 57, 0, 0, [], 0), some (.iload 5, 59, 5, 0, [], 0), none, some (.iconst 1, 60, 0, 0, [], 1), some (.invokevirtual 79, 63, 1, 167, [2, 12], 0), none, none, some (.iload_n 2, 64, 2, 0, [], 0)],
  [some (.if_icmp .ge 15, 67, 79, 0, [], 0), none, none, some (.iload_n 2, 68, 2, 0, [], 0), some (.aload_n 0, 69, 0, 0, [], 0), some (.iload 5, 71, 5, 0, [], 0), none, some (.iconst 1, 72, 0, 0, [], 1), some (.invokevirtual 79, 75, 1, 167, [2, 12], 0), none, none, some (.isub, 76, 0, 0, [], 0), some (.goto 12, 79, 88, 0, [], 0), none, none, some (.aload_n 0, 80, 0, 0, [], 0)],
  [some (.iload 5, 82, 5, 0, [], 0), none, some (.iconst 1, 83, 0, 0, [], 1), some (.invokevirtual 79, 86, 1, 167, [2, 12], 0), none, none, some (.iload_n 2, 87, 2, 0, [], 0), some (.isub, 88, 0, 0, [], 0), some (.istore 6, 90, 6, 0, [], 0), none, some (.aload_n 0, 91, 0, 0, [], 0), some (.iload_n 1, 92, 1, 0, [], 0), some (.iconst 1, 93, 0, 0, [], 1), some (.iload 5, 95, 5, 0, [], 0), none, some (.ishl, 96, 0, 0, [], 0)],
  [some (.iconst (-1), 97, 0, 0, [], (-1)), some (.ixor, 98, 0, 0, [], 0), some (.iand, 99, 0, 0, [], 0), some (.aload_n 0, 100, 0, 0, [], 0), some (.iload 5, 102, 5, 0, [], 0), none, some (.iconst 1, 103, 0, 0, [], 1), some (.invokevirtual 79, 106, 1, 167, [2, 12], 0), none, none, some (.iload_n 3, 107, 3, 0, [], 0), some (.iload 6, 109, 6, 0, [], 0), none, some (.iadd, 110, 0, 0, [], 0), some (.iload 4, 112, 4, 0, [], 0), none],
  [some (.ifCond .ge 8, 115, 120, 0, [], 0), none, none, some (.iload 5, 117, 5, 0, [], 0), none, some (.goto 5, 120, 122, 0, [], 0), none, none, some (.iload 4, 122, 4, 0, [], 0), none, some (.invokevirtual 252, 125, 1, 232, [4, 12], 0), none, none, some (.iinc 5 1, 128, 5, 0, [], 1), none, none],
  [some (.goto (-94), 131, 34, 0, [], 0), none, none, some (.return_, 132, 0, 0, [], 0)]])
/-- BrokenLoavesModel.rounds(II)I -/
def mm_233 : am_M := (⟨"BrokenLoavesModel", "rounds", "(II)I"⟩, prog_14_method_72_code, 4, (Option.some FieldType.int), [[some (.iload_n 1, 1, 1, 0, [], 0), some (.iconst 0, 2, 0, 0, [], 0), some (.sipush 999, 5, 0, 0, [], 999), none, none, some (.invokestatic 71, 8, 0, 163, [3], 0), none, none, some (.ifCond .eq 12, 11, 20, 0, [], 0), none, none, some (.iload_n 2, 12, 2, 0, [], 0), some (.iconst 0, 13, 0, 0, [], 0), some (.iconst 1, 14, 0, 0, [], 1), some (.invokestatic 71, 17, 0, 163, [3], 0), none],
  [none, some (.ifCond .ne 5, 20, 22, 0, [], 0), none, none, some (.iconst (-1), 21, 0, 0, [], (-1)), some (.ireturn, 22, 0, 0, [], 0), some (.iconst 1, 23, 0, 0, [], 1), some (.aload_n 0, 24, 0, 0, [], 0), some (.getfield 9, 27, 12, 0, [], 0), none, none, some (.bipush 6, 29, 0, 0, [], 6), none, some (.iaload, 30, 0, 0, [], 0), some (.ishl, 31, 0, 0, [], 0), some (.iconst 1, 32, 0, 0, [], 1)],
  [some (.isub, 33, 0, 0, [], 0), some (.aload_n 0, 34, 0, 0, [], 0), some (.iconst 5, 35, 0, 0, [], 5), some (.invokevirtual 222, 38, 1, 218, [1, 12], 0), none, none, some (.iconst (-1), 39, 0, 0, [], (-1)), some (.ixor, 40, 0, 0, [], 0), some (.iand, 41, 0, 0, [], 0), some (.istore_n 3, 42, 3, 0, [], 0), some (.aload_n 0, 43, 0, 0, [], 0), some (.iconst (-1), 44, 0, 0, [], (-1)), some (.putfield 246, 47, 12, 16, [], 0), none, none, some (.aload_n 0, 48, 0, 0, [], 0)],
  [some (.iload_n 3, 49, 3, 0, [], 0), some (.iload_n 1, 50, 1, 0, [], 0), some (.iconst 0, 51, 0, 0, [], 0), some (.iconst (-1), 52, 0, 0, [], (-1)), some (.invokevirtual 252, 55, 1, 232, [4, 12], 0), none, none, some (.iload_n 2, 56, 2, 0, [], 0), some (.ifCond .ne 10, 59, 66, 0, [], 0), none, none, some (.aload_n 0, 60, 0, 0, [], 0), some (.getfield 246, 63, 12, 16, [], 0), none, none, some (.goto 16, 66, 79, 0, [], 0)],
  [none, none, some (.iload_n 3, 67, 3, 0, [], 0), some (.ifCond .ne 8, 70, 75, 0, [], 0), none, none, some (.bipush (-3), 72, 0, 0, [], (-3)), none, some (.goto 7, 75, 79, 0, [], 0), none, none, some (.aload_n 0, 76, 0, 0, [], 0), some (.getfield 249, 79, 12, 17, [], 0), none, none, some (.ireturn, 80, 0, 0, [], 0)]])
/-- BrokenLoavesModel.saves(I)V -/
def mm_234 : am_M := (⟨"BrokenLoavesModel", "saves", "(I)V"⟩, prog_14_method_73_code, 3, (Option.none : Option FieldType), [[some (.iconst 0, 1, 0, 0, [], 0), some (.istore_n 2, 2, 2, 0, [], 0), some (.iload_n 2, 3, 2, 0, [], 0), some (.bipush 74, 5, 0, 0, [], 74), none, some (.if_icmp .ge 26, 8, 31, 0, [], 0), none, none, some (.aload_n 0, 9, 0, 0, [], 0), some (.getfield 35, 12, 12, 18, [], 0), none, none, some (.bipush 74, 14, 0, 0, [], 74), none, some (.iload_n 1, 15, 1, 0, [], 0), some (.imul, 16, 0, 0, [], 0)],
  [some (.iload_n 2, 17, 2, 0, [], 0), some (.iadd, 18, 0, 0, [], 0), some (.aload_n 0, 19, 0, 0, [], 0), some (.getfield 9, 22, 12, 0, [], 0), none, none, some (.iload_n 2, 23, 2, 0, [], 0), some (.iaload, 24, 0, 0, [], 0), some (.iastore, 25, 0, 0, [], 0), some (.iinc 2 1, 28, 2, 0, [], 1), none, none, some (.goto (-26), 31, 2, 0, [], 0), none, none, some (.return_, 32, 0, 0, [], 0)]])
/-- BrokenLoavesModel.restores(I)V -/
def mm_235 : am_M := (⟨"BrokenLoavesModel", "restores", "(I)V"⟩, prog_14_method_74_code, 3, (Option.none : Option FieldType), [[some (.iconst 0, 1, 0, 0, [], 0), some (.istore_n 2, 2, 2, 0, [], 0), some (.iload_n 2, 3, 2, 0, [], 0), some (.bipush 74, 5, 0, 0, [], 74), none, some (.if_icmp .ge 26, 8, 31, 0, [], 0), none, none, some (.aload_n 0, 9, 0, 0, [], 0), some (.getfield 9, 12, 12, 0, [], 0), none, none, some (.iload_n 2, 13, 2, 0, [], 0), some (.aload_n 0, 14, 0, 0, [], 0), some (.getfield 35, 17, 12, 18, [], 0), none],
  [none, some (.bipush 74, 19, 0, 0, [], 74), none, some (.iload_n 1, 20, 1, 0, [], 0), some (.imul, 21, 0, 0, [], 0), some (.iload_n 2, 22, 2, 0, [], 0), some (.iadd, 23, 0, 0, [], 0), some (.iaload, 24, 0, 0, [], 0), some (.iastore, 25, 0, 0, [], 0), some (.iinc 2 1, 28, 2, 0, [], 1), none, none, some (.goto (-26), 31, 2, 0, [], 0), none, none, some (.return_, 32, 0, 0, [], 0)]])
/-- BrokenLoavesModel.daysOf(I)I -/
def mm_236 : am_M := (⟨"BrokenLoavesModel", "daysOf", "(I)I"⟩, prog_14_method_75_code, 3, (Option.some FieldType.int), [[some (.aload_n 0, 1, 0, 0, [], 0), some (.invokevirtual 219, 4, 1, 171, [0, 12], 0), none, none, some (.ifCond .eq 7, 7, 11, 0, [], 0), none, none, some (.iconst 0, 8, 0, 0, [], 0), some (.goto 16, 11, 24, 0, [], 0), none, none, some (.aload_n 0, 12, 0, 0, [], 0), some (.getfield 9, 15, 12, 0, [], 0), none, none, some (.iconst 1, 16, 0, 0, [], 1)],
  [some (.iaload, 17, 0, 0, [], 0), some (.aload_n 0, 18, 0, 0, [], 0), some (.getfield 9, 21, 12, 0, [], 0), none, none, some (.iconst 0, 22, 0, 0, [], 0), some (.iaload, 23, 0, 0, [], 0), some (.isub, 24, 0, 0, [], 0), some (.istore_n 2, 25, 2, 0, [], 0), some (.iload_n 1, 26, 1, 0, [], 0), some (.iload_n 2, 27, 2, 0, [], 0), some (.if_icmp .ge 7, 30, 34, 0, [], 0), none, none, some (.iload_n 1, 31, 1, 0, [], 0), some (.goto 4, 34, 35, 0, [], 0)],
  [none, none, some (.iload_n 2, 35, 2, 0, [], 0), some (.ireturn, 36, 0, 0, [], 0)]])
/-- BrokenLoavesModel.endsPlan(IIII)V -/
def mm_237 : am_M := (⟨"BrokenLoavesModel", "endsPlan", "(IIII)V"⟩, prog_14_method_76_code, 6, (Option.none : Option FieldType), [[some (.iload_n 2, 1, 2, 0, [], 0), some (.aload_n 0, 2, 0, 0, [], 0), some (.getfield 256, 5, 12, 21, [], 0), none, none, some (.if_icmp .le 42, 8, 47, 0, [], 0), none, none, some (.aload_n 0, 9, 0, 0, [], 0), some (.iconst 0, 10, 0, 0, [], 0), some (.putfield 259, 13, 12, 22, [], 0), none, none, some (.aload_n 0, 14, 0, 0, [], 0), some (.iload_n 2, 15, 2, 0, [], 0), some (.putfield 256, 18, 12, 21, [], 0)],
  [none, none, some (.iconst 0, 19, 0, 0, [], 0), some (.istore 5, 21, 5, 0, [], 0), none, some (.iload 5, 23, 5, 0, [], 0), none, some (.iload_n 1, 24, 1, 0, [], 0), some (.if_icmp .ge 23, 27, 47, 0, [], 0), none, none, some (.aload_n 0, 28, 0, 0, [], 0), some (.getfield 41, 31, 12, 20, [], 0), none, none, some (.iload 5, 33, 5, 0, [], 0)],
  [none, some (.aload_n 0, 34, 0, 0, [], 0), some (.getfield 38, 37, 12, 19, [], 0), none, none, some (.iload 5, 39, 5, 0, [], 0), none, some (.iaload, 40, 0, 0, [], 0), some (.iastore, 41, 0, 0, [], 0), some (.iinc 5 1, 44, 5, 0, [], 1), none, none, some (.goto (-23), 47, 21, 0, [], 0), none, none, some (.aload_n 0, 48, 0, 0, [], 0)],
  [some (.dup, 49, 0, 0, [], 0), some (.getfield 259, 52, 12, 22, [], 0), none, none, some (.iload_n 2, 53, 2, 0, [], 0), some (.aload_n 0, 54, 0, 0, [], 0), some (.getfield 256, 57, 12, 21, [], 0), none, none, some (.if_icmp .ne 7, 60, 64, 0, [], 0), none, none, some (.iconst 1, 61, 0, 0, [], 1), some (.goto 4, 64, 65, 0, [], 0), none, none],
  [some (.iconst 0, 65, 0, 0, [], 0), some (.iadd, 66, 0, 0, [], 0), some (.putfield 259, 69, 12, 22, [], 0), none, none, some (.aload_n 0, 70, 0, 0, [], 0), some (.iconst 5, 71, 0, 0, [], 5), some (.invokevirtual 222, 74, 1, 218, [1, 12], 0), none, none, some (.istore 5, 76, 5, 0, [], 0), none, some (.aload_n 0, 77, 0, 0, [], 0), some (.iload 4, 79, 4, 0, [], 0), none, some (.iload 5, 81, 5, 0, [], 0)],
  [none, some (.iconst (-1), 82, 0, 0, [], (-1)), some (.ixor, 83, 0, 0, [], 0), some (.iand, 84, 0, 0, [], 0), some (.ifCond .ne 15, 87, 99, 0, [], 0), none, none, some (.iload_n 3, 88, 3, 0, [], 0), some (.aload_n 0, 89, 0, 0, [], 0), some (.getfield 262, 92, 12, 23, [], 0), none, none, some (.if_icmp .ge 7, 95, 99, 0, [], 0), none, none, some (.iload_n 3, 96, 3, 0, [], 0)],
  [some (.goto 7, 99, 103, 0, [], 0), none, none, some (.aload_n 0, 100, 0, 0, [], 0), some (.getfield 262, 103, 12, 23, [], 0), none, none, some (.putfield 262, 106, 12, 23, [], 0), none, none, some (.aload_n 0, 107, 0, 0, [], 0), some (.dup, 108, 0, 0, [], 0), some (.getfield 265, 111, 12, 24, [], 0), none, none, some (.iload 5, 113, 5, 0, [], 0)],
  [none, some (.ior, 114, 0, 0, [], 0), some (.putfield 265, 117, 12, 24, [], 0), none, none, some (.return_, 118, 0, 0, [], 0)]])
/-- BrokenLoavesModel.goesPlans(IIIII)V -/
def mm_238 : am_M := (⟨"BrokenLoavesModel", "goesPlans", "(IIIII)V"⟩, prog_14_method_77_code, 8, (Option.none : Option FieldType), [[some (.iload_n 1, 1, 1, 0, [], 0), some (.iload_n 2, 2, 2, 0, [], 0), some (.if_icmp .ne 14, 5, 16, 0, [], 0), none, none, some (.aload_n 0, 6, 0, 0, [], 0), some (.iload_n 2, 7, 2, 0, [], 0), some (.iload_n 3, 8, 3, 0, [], 0), some (.iload 4, 10, 4, 0, [], 0), none, some (.iload 5, 12, 5, 0, [], 0), none, some (.invokevirtual 268, 15, 1, 237, [4, 12], 0), none, none, some (.return_, 16, 0, 0, [], 0)],
  [some (.aload_n 0, 17, 0, 0, [], 0), some (.iload_n 1, 18, 1, 0, [], 0), some (.invokevirtual 271, 21, 1, 234, [1, 12], 0), none, none, some (.iconst 0, 22, 0, 0, [], 0), some (.istore 6, 24, 6, 0, [], 0), none, some (.iload 6, 26, 6, 0, [], 0), none, some (.aload_n 0, 27, 0, 0, [], 0), some (.getfield 9, 30, 12, 0, [], 0), none, none, some (.bipush 6, 32, 0, 0, [], 6), none],
  [some (.iaload, 33, 0, 0, [], 0), some (.if_icmp .gt 58, 36, 91, 0, [], 0), none, none, some (.aload_n 0, 37, 0, 0, [], 0), some (.getfield 38, 40, 12, 19, [], 0), none, none, some (.iload_n 1, 41, 1, 0, [], 0), some (.iload 6, 43, 6, 0, [], 0), none, some (.iastore, 44, 0, 0, [], 0), some (.aload_n 0, 45, 0, 0, [], 0), some (.iload 6, 47, 6, 0, [], 0), none, some (.invokevirtual 225, 50, 1, 204, [1, 12], 0)],
  [none, none, some (.istore 7, 52, 7, 0, [], 0), none, some (.aload_n 0, 53, 0, 0, [], 0), some (.iload_n 1, 54, 1, 0, [], 0), some (.iconst 1, 55, 0, 0, [], 1), some (.iadd, 56, 0, 0, [], 0), some (.iload_n 2, 57, 2, 0, [], 0), some (.iload_n 3, 58, 3, 0, [], 0), some (.iload 7, 60, 7, 0, [], 0), none, some (.iadd, 61, 0, 0, [], 0), some (.iload 6, 63, 6, 0, [], 0), none, some (.ifCond .le 10, 66, 73, 0, [], 0)],
  [none, none, some (.iload 4, 68, 4, 0, [], 0), none, some (.iconst 1, 69, 0, 0, [], 1), some (.iadd, 70, 0, 0, [], 0), some (.goto 5, 73, 75, 0, [], 0), none, none, some (.iload 4, 75, 4, 0, [], 0), none, some (.iload 5, 77, 5, 0, [], 0), none, some (.invokevirtual 274, 80, 1, 238, [5, 12], 0), none, none],
  [some (.aload_n 0, 81, 0, 0, [], 0), some (.iload_n 1, 82, 1, 0, [], 0), some (.invokevirtual 278, 85, 1, 235, [1, 12], 0), none, none, some (.iinc 6 1, 88, 6, 0, [], 1), none, none, some (.goto (-64), 91, 24, 0, [], 0), none, none, some (.return_, 92, 0, 0, [], 0)]])
/-- BrokenLoavesModel.triesAll(II)V -/
def mm_239 : am_M := (⟨"BrokenLoavesModel", "triesAll", "(II)V"⟩, prog_14_method_78_code, 3, (Option.none : Option FieldType), [[some (.aload_n 0, 1, 0, 0, [], 0), some (.iconst (-1), 2, 0, 0, [], (-1)), some (.putfield 256, 5, 12, 21, [], 0), none, none, some (.aload_n 0, 6, 0, 0, [], 0), some (.iconst 0, 7, 0, 0, [], 0), some (.putfield 259, 10, 12, 22, [], 0), none, none, some (.aload_n 0, 11, 0, 0, [], 0), some (.iconst 5, 12, 0, 0, [], 5), some (.putfield 262, 15, 12, 23, [], 0), none, none, some (.aload_n 0, 16, 0, 0, [], 0)],
  [some (.iconst 0, 17, 0, 0, [], 0), some (.putfield 265, 20, 12, 24, [], 0), none, none, some (.aload_n 0, 21, 0, 0, [], 0), some (.iconst 0, 22, 0, 0, [], 0), some (.aload_n 0, 23, 0, 0, [], 0), some (.iload_n 1, 24, 1, 0, [], 0), some (.invokevirtual 281, 27, 1, 236, [1, 12], 0), none, none, some (.iconst 0, 28, 0, 0, [], 0), some (.iconst 0, 29, 0, 0, [], 0), some (.iload_n 2, 30, 2, 0, [], 0), some (.invokevirtual 274, 33, 1, 238, [5, 12], 0), none],
  [none, some (.return_, 34, 0, 0, [], 0)]])
/-- BrokenLoavesModel.isPlan(I)Z -/
def mm_240 : am_M := (⟨"BrokenLoavesModel", "isPlan", "(I)Z"⟩, prog_14_method_79_code, 1, (Option.some FieldType.boolean), [[some (.iload_n 0, 1, 0, 0, [], 0), some (.iconst 0, 2, 0, 0, [], 0), some (.iconst 4, 3, 0, 0, [], 4), some (.invokestatic 71, 6, 0, 163, [3], 0), none, none, some (.ireturn, 7, 2, 0, [], 0)]])
/-- BrokenLoavesModel.best(I)I -/
def mm_241 : am_M := (⟨"BrokenLoavesModel", "best", "(I)I"⟩, prog_14_method_80_code, 2, (Option.some FieldType.int), [[some (.iload_n 1, 1, 1, 0, [], 0), some (.invokestatic 284, 4, 0, 240, [1], 0), none, none, some (.ifCond .ne 5, 7, 9, 0, [], 0), none, none, some (.iconst (-1), 8, 0, 0, [], (-1)), some (.ireturn, 9, 0, 0, [], 0), some (.aload_n 0, 10, 0, 0, [], 0), some (.iload_n 1, 11, 1, 0, [], 0), some (.iconst 0, 12, 0, 0, [], 0), some (.invokevirtual 287, 15, 1, 239, [2, 12], 0), none, none, some (.aload_n 0, 16, 0, 0, [], 0)],
  [some (.getfield 256, 19, 12, 21, [], 0), none, none, some (.ireturn, 20, 0, 0, [], 0)]])
/-- BrokenLoavesModel.ith(II)I -/
def mm_242 : am_M := (⟨"BrokenLoavesModel", "ith", "(II)I"⟩, prog_14_method_81_code, 3, (Option.some FieldType.int), [[some (.iload_n 1, 1, 1, 0, [], 0), some (.invokestatic 284, 4, 0, 240, [1], 0), none, none, some (.ifCond .eq 12, 7, 16, 0, [], 0), none, none, some (.iload_n 2, 8, 2, 0, [], 0), some (.iconst 0, 9, 0, 0, [], 0), some (.iconst 3, 10, 0, 0, [], 3), some (.invokestatic 71, 13, 0, 163, [3], 0), none, none, some (.ifCond .ne 5, 16, 18, 0, [], 0), none, none],
  [some (.iconst (-1), 17, 0, 0, [], (-1)), some (.ireturn, 18, 0, 0, [], 0), some (.aload_n 0, 19, 0, 0, [], 0), some (.iload_n 1, 20, 1, 0, [], 0), some (.iconst 0, 21, 0, 0, [], 0), some (.invokevirtual 287, 24, 1, 239, [2, 12], 0), none, none, some (.iload_n 2, 25, 2, 0, [], 0), some (.aload_n 0, 26, 0, 0, [], 0), some (.iload_n 1, 27, 1, 0, [], 0), some (.invokevirtual 281, 30, 1, 236, [1, 12], 0), none, none, some (.if_icmp .ge 12, 33, 42, 0, [], 0), none],
  [none, some (.aload_n 0, 34, 0, 0, [], 0), some (.getfield 41, 37, 12, 20, [], 0), none, none, some (.iload_n 2, 38, 2, 0, [], 0), some (.iaload, 39, 0, 0, [], 0), some (.goto 5, 42, 44, 0, [], 0), none, none, some (.bipush (-3), 44, 0, 0, [], (-3)), none, some (.ireturn, 45, 0, 0, [], 0)]])
/-- BrokenLoavesModel.ways(I)I -/
def mm_243 : am_M := (⟨"BrokenLoavesModel", "ways", "(I)I"⟩, prog_14_method_82_code, 2, (Option.some FieldType.int), [[some (.iload_n 1, 1, 1, 0, [], 0), some (.invokestatic 284, 4, 0, 240, [1], 0), none, none, some (.ifCond .ne 5, 7, 9, 0, [], 0), none, none, some (.iconst (-1), 8, 0, 0, [], (-1)), some (.ireturn, 9, 0, 0, [], 0), some (.aload_n 0, 10, 0, 0, [], 0), some (.iload_n 1, 11, 1, 0, [], 0), some (.iconst 0, 12, 0, 0, [], 0), some (.invokevirtual 287, 15, 1, 239, [2, 12], 0), none, none, some (.aload_n 0, 16, 0, 0, [], 0)],
  [some (.getfield 259, 19, 12, 22, [], 0), none, none, some (.ireturn, 20, 0, 0, [], 0)]])
/-- BrokenLoavesModel.isSet(I)Z -/
def mm_244 : am_M := (⟨"BrokenLoavesModel", "isSet", "(I)Z"⟩, prog_14_method_83_code, 2, (Option.some FieldType.boolean), [[some (.iload_n 1, 1, 1, 0, [], 0), some (.iconst 0, 2, 0, 0, [], 0), some (.iconst 1, 3, 0, 0, [], 1), some (.aload_n 0, 4, 0, 0, [], 0), some (.getfield 9, 7, 12, 0, [], 0), none, none, some (.bipush 6, 9, 0, 0, [], 6), none, some (.iaload, 10, 0, 0, [], 0), some (.ishl, 11, 0, 0, [], 0), some (.iconst 1, 12, 0, 0, [], 1), some (.isub, 13, 0, 0, [], 0), some (.invokestatic 71, 16, 0, 163, [3], 0), none, none],
  [some (.ireturn, 17, 2, 0, [], 0)]])
/-- BrokenLoavesModel.feast(II)I -/
def mm_245 : am_M := (⟨"BrokenLoavesModel", "feast", "(II)I"⟩, prog_14_method_84_code, 3, (Option.some FieldType.int), [[some (.iload_n 1, 1, 1, 0, [], 0), some (.invokestatic 284, 4, 0, 240, [1], 0), none, none, some (.ifCond .eq 11, 7, 15, 0, [], 0), none, none, some (.aload_n 0, 8, 0, 0, [], 0), some (.iload_n 2, 9, 2, 0, [], 0), some (.invokevirtual 291, 12, 1, 244, [1, 12], 0), none, none, some (.ifCond .ne 5, 15, 17, 0, [], 0), none, none, some (.iconst (-1), 16, 0, 0, [], (-1))],
  [some (.ireturn, 17, 0, 0, [], 0), some (.aload_n 0, 18, 0, 0, [], 0), some (.iload_n 1, 19, 1, 0, [], 0), some (.iload_n 2, 20, 2, 0, [], 0), some (.invokevirtual 287, 23, 1, 239, [2, 12], 0), none, none, some (.aload_n 0, 24, 0, 0, [], 0), some (.getfield 262, 27, 12, 23, [], 0), none, none, some (.iconst 4, 28, 0, 0, [], 4), some (.if_icmp .le 8, 31, 36, 0, [], 0), none, none, some (.bipush (-3), 33, 0, 0, [], (-3))],
  [none, some (.goto 7, 36, 40, 0, [], 0), none, none, some (.aload_n 0, 37, 0, 0, [], 0), some (.getfield 262, 40, 12, 23, [], 0), none, none, some (.ireturn, 41, 0, 0, [], 0)]])
/-- BrokenLoavesModel.bars(II)I -/
def mm_246 : am_M := (⟨"BrokenLoavesModel", "bars", "(II)I"⟩, prog_14_method_85_code, 5, (Option.some FieldType.int), [[some (.iload_n 1, 1, 1, 0, [], 0), some (.invokestatic 284, 4, 0, 240, [1], 0), none, none, some (.ifCond .eq 11, 7, 15, 0, [], 0), none, none, some (.aload_n 0, 8, 0, 0, [], 0), some (.iload_n 2, 9, 2, 0, [], 0), some (.invokevirtual 291, 12, 1, 244, [1, 12], 0), none, none, some (.ifCond .ne 5, 15, 17, 0, [], 0), none, none, some (.iconst (-1), 16, 0, 0, [], (-1))],
  [some (.ireturn, 17, 0, 0, [], 0), some (.aload_n 0, 18, 0, 0, [], 0), some (.iload_n 1, 19, 1, 0, [], 0), some (.iload_n 2, 20, 2, 0, [], 0), some (.invokevirtual 287, 23, 1, 239, [2, 12], 0), none, none, some (.iload_n 2, 24, 2, 0, [], 0), some (.aload_n 0, 25, 0, 0, [], 0), some (.getfield 265, 28, 12, 24, [], 0), none, none, some (.iconst (-1), 29, 0, 0, [], (-1)), some (.ixor, 30, 0, 0, [], 0), some (.iand, 31, 0, 0, [], 0), some (.istore_n 3, 32, 3, 0, [], 0)],
  [some (.iconst 0, 33, 0, 0, [], 0), some (.istore 4, 35, 4, 0, [], 0), none, some (.iload 4, 37, 4, 0, [], 0), none, some (.aload_n 0, 38, 0, 0, [], 0), some (.getfield 9, 41, 12, 0, [], 0), none, none, some (.bipush 6, 43, 0, 0, [], 6), none, some (.iaload, 44, 0, 0, [], 0), some (.if_icmp .ge 18, 47, 62, 0, [], 0), none, none, some (.iload_n 3, 48, 3, 0, [], 0)],
  [some (.iload 4, 50, 4, 0, [], 0), none, some (.ishr, 51, 0, 0, [], 0), some (.iconst 1, 52, 0, 0, [], 1), some (.iand, 53, 0, 0, [], 0), some (.ifCond .ne 9, 56, 62, 0, [], 0), none, none, some (.iinc 4 1, 59, 4, 0, [], 1), none, none, some (.goto (-24), 62, 35, 0, [], 0), none, none, some (.iload 4, 64, 4, 0, [], 0), none],
  [some (.aload_n 0, 65, 0, 0, [], 0), some (.getfield 9, 68, 12, 0, [], 0), none, none, some (.bipush 6, 70, 0, 0, [], 6), none, some (.iaload, 71, 0, 0, [], 0), some (.if_icmp .ge 8, 74, 79, 0, [], 0), none, none, some (.iload 4, 76, 4, 0, [], 0), none, some (.goto 5, 79, 81, 0, [], 0), none, none, some (.bipush (-3), 81, 0, 0, [], (-3))],
  [none, some (.ireturn, 82, 0, 0, [], 0)]])
/-- BrokenLoavesModel.playedFrom(II)I -/
def mm_247 : am_M := (⟨"BrokenLoavesModel", "playedFrom", "(II)I"⟩, prog_14_method_86_code, 9, (Option.some FieldType.int), [[some (.iload_n 1, 1, 1, 0, [], 0), some (.iload_n 2, 2, 2, 0, [], 0), some (.if_icmp .ne 5, 5, 7, 0, [], 0), none, none, some (.iconst 0, 6, 0, 0, [], 0), some (.ireturn, 7, 0, 0, [], 0), some (.aload_n 0, 8, 0, 0, [], 0), some (.iload_n 1, 9, 1, 0, [], 0), some (.invokevirtual 271, 12, 1, 234, [1, 12], 0), none, none, some (.iconst 0, 13, 0, 0, [], 0), some (.istore_n 3, 14, 3, 0, [], 0), some (.iconst (-1), 15, 0, 0, [], (-1)), some (.istore 4, 17, 4, 0, [], 0)],
  [none, some (.iconst 0, 18, 0, 0, [], 0), some (.istore 5, 20, 5, 0, [], 0), none, some (.iload 5, 22, 5, 0, [], 0), none, some (.aload_n 0, 23, 0, 0, [], 0), some (.getfield 9, 26, 12, 0, [], 0), none, none, some (.bipush 6, 28, 0, 0, [], 6), none, some (.iaload, 29, 0, 0, [], 0), some (.if_icmp .gt 94, 32, 123, 0, [], 0), none, none],
  [some (.aload_n 0, 33, 0, 0, [], 0), some (.iload 5, 35, 5, 0, [], 0), none, some (.invokevirtual 225, 38, 1, 204, [1, 12], 0), none, none, some (.istore 6, 40, 6, 0, [], 0), none, some (.iload 6, 42, 6, 0, [], 0), none, some (.aload_n 0, 43, 0, 0, [], 0), some (.iload_n 1, 44, 1, 0, [], 0), some (.iconst 1, 45, 0, 0, [], 1), some (.iadd, 46, 0, 0, [], 0), some (.iload_n 2, 47, 2, 0, [], 0), some (.invokevirtual 294, 50, 1, 247, [2, 12], 0)],
  [none, none, some (.iadd, 51, 0, 0, [], 0), some (.istore 7, 53, 7, 0, [], 0), none, some (.aload_n 0, 54, 0, 0, [], 0), some (.iload_n 1, 55, 1, 0, [], 0), some (.invokevirtual 278, 58, 1, 235, [1, 12], 0), none, none, some (.iload 4, 60, 4, 0, [], 0), none, some (.ifCond .lt 24, 63, 84, 0, [], 0), none, none, some (.iload_n 1, 64, 1, 0, [], 0)],
  [some (.iconst 2, 65, 0, 0, [], 2), some (.irem, 66, 0, 0, [], 0), some (.ifCond .ne 12, 69, 78, 0, [], 0), none, none, some (.iload 7, 71, 7, 0, [], 0), none, some (.iload_n 3, 72, 3, 0, [], 0), some (.if_icmp .le 16, 75, 88, 0, [], 0), none, none, some (.goto 9, 78, 84, 0, [], 0), none, none, some (.iload 7, 80, 7, 0, [], 0), none],
  [some (.iload_n 3, 81, 3, 0, [], 0), some (.if_icmp .ge 7, 84, 88, 0, [], 0), none, none, some (.iconst 1, 85, 0, 0, [], 1), some (.goto 4, 88, 89, 0, [], 0), none, none, some (.iconst 0, 89, 0, 0, [], 0), some (.istore 8, 91, 8, 0, [], 0), none, some (.iload 8, 93, 8, 0, [], 0), none, some (.ifCond .eq 8, 96, 101, 0, [], 0), none, none],
  [some (.iload 5, 98, 5, 0, [], 0), none, some (.goto 5, 101, 103, 0, [], 0), none, none, some (.iload 4, 103, 4, 0, [], 0), none, some (.istore 4, 105, 4, 0, [], 0), none, some (.iload 8, 107, 8, 0, [], 0), none, some (.ifCond .eq 8, 110, 115, 0, [], 0), none, none, some (.iload 7, 112, 7, 0, [], 0), none],
  [some (.goto 4, 115, 116, 0, [], 0), none, none, some (.iload_n 3, 116, 3, 0, [], 0), some (.istore_n 3, 117, 3, 0, [], 0), some (.iinc 5 1, 120, 5, 0, [], 1), none, none, some (.goto (-100), 123, 20, 0, [], 0), none, none, some (.aload_n 0, 124, 0, 0, [], 0), some (.getfield 38, 127, 12, 19, [], 0), none, none, some (.iload_n 1, 128, 1, 0, [], 0)],
  [some (.iload 4, 130, 4, 0, [], 0), none, some (.iastore, 131, 0, 0, [], 0), some (.iload_n 3, 132, 3, 0, [], 0), some (.ireturn, 133, 0, 0, [], 0)]])
/-- BrokenLoavesModel.game(I)I -/
def mm_248 : am_M := (⟨"BrokenLoavesModel", "game", "(I)I"⟩, prog_14_method_87_code, 2, (Option.some FieldType.int), [[some (.iload_n 1, 1, 1, 0, [], 0), some (.iconst 1, 2, 0, 0, [], 1), some (.iconst 4, 3, 0, 0, [], 4), some (.invokestatic 71, 6, 0, 163, [3], 0), none, none, some (.ifCond .eq 16, 9, 22, 0, [], 0), none, none, some (.aload_n 0, 10, 0, 0, [], 0), some (.iconst 0, 11, 0, 0, [], 0), some (.aload_n 0, 12, 0, 0, [], 0), some (.iload_n 1, 13, 1, 0, [], 0), some (.invokevirtual 281, 16, 1, 236, [1, 12], 0), none, none],
  [some (.invokevirtual 294, 19, 1, 247, [2, 12], 0), none, none, some (.goto 4, 22, 23, 0, [], 0), none, none, some (.iconst (-1), 23, 0, 0, [], (-1)), some (.ireturn, 24, 0, 0, [], 0)]])
/-- BrokenLoavesModel.play(I)I -/
def mm_249 : am_M := (⟨"BrokenLoavesModel", "play", "(I)I"⟩, prog_14_method_88_code, 3, (Option.some FieldType.int), [[some (.iload_n 1, 1, 1, 0, [], 0), some (.iconst 1, 2, 0, 0, [], 1), some (.iconst 4, 3, 0, 0, [], 4), some (.invokestatic 71, 6, 0, 163, [3], 0), none, none, some (.ifCond .ne 5, 9, 11, 0, [], 0), none, none, some (.iconst (-1), 10, 0, 0, [], (-1)), some (.ireturn, 11, 0, 0, [], 0), some (.aload_n 0, 12, 0, 0, [], 0), some (.invokevirtual 219, 15, 1, 171, [0, 12], 0), none, none, some (.ifCond .eq 6, 18, 21, 0, [], 0)],
  [none, none, some (.bipush (-3), 20, 0, 0, [], (-3)), none, some (.ireturn, 21, 0, 0, [], 0), some (.aload_n 0, 22, 0, 0, [], 0), some (.iconst 0, 23, 0, 0, [], 0), some (.aload_n 0, 24, 0, 0, [], 0), some (.iload_n 1, 25, 1, 0, [], 0), some (.invokevirtual 281, 28, 1, 236, [1, 12], 0), none, none, some (.invokevirtual 294, 31, 1, 247, [2, 12], 0), none, none, some (.istore_n 2, 32, 2, 0, [], 0)],
  [some (.iload_n 2, 33, 2, 0, [], 0), some (.ifCond .ge 8, 36, 41, 0, [], 0), none, none, some (.bipush (-3), 38, 0, 0, [], (-3)), none, some (.goto 9, 41, 47, 0, [], 0), none, none, some (.aload_n 0, 42, 0, 0, [], 0), some (.getfield 38, 45, 12, 19, [], 0), none, none, some (.iconst 0, 46, 0, 0, [], 0), some (.iaload, 47, 0, 0, [], 0), some (.ireturn, 48, 0, 0, [], 0)]])
/-- BrokenLoavesModel.report(IIII)I -/
def mm_250 : am_M := (⟨"BrokenLoavesModel", "report", "(IIII)I"⟩, prog_14_method_89_code, 7, (Option.some FieldType.int), [[some (.iload_n 2, 1, 2, 0, [], 0), some (.ifCond .ne 9, 4, 10, 0, [], 0), none, none, some (.sipush 999, 7, 0, 0, [], 999), none, none, some (.goto 5, 10, 12, 0, [], 0), none, none, some (.bipush 9, 12, 0, 0, [], 9), none, some (.istore 5, 14, 5, 0, [], 0), none, some (.iload_n 1, 15, 1, 0, [], 0), some (.iconst 0, 16, 0, 0, [], 0)],
  [some (.bipush 15, 18, 0, 0, [], 15), none, some (.invokestatic 71, 21, 0, 163, [3], 0), none, none, some (.ifCond .eq 33, 24, 54, 0, [], 0), none, none, some (.iload_n 2, 25, 2, 0, [], 0), some (.iconst 0, 26, 0, 0, [], 0), some (.iconst 1, 27, 0, 0, [], 1), some (.invokestatic 71, 30, 0, 163, [3], 0), none, none, some (.ifCond .eq 24, 33, 54, 0, [], 0), none],
  [none, some (.iload_n 3, 34, 3, 0, [], 0), some (.iconst 0, 35, 0, 0, [], 0), some (.iload 5, 37, 5, 0, [], 0), none, some (.invokestatic 71, 40, 0, 163, [3], 0), none, none, some (.ifCond .eq 14, 43, 54, 0, [], 0), none, none, some (.iload 4, 45, 4, 0, [], 0), none, some (.iload_n 3, 46, 3, 0, [], 0), some (.iload 5, 48, 5, 0, [], 0), none],
  [some (.invokestatic 71, 51, 0, 163, [3], 0), none, none, some (.ifCond .ne 5, 54, 56, 0, [], 0), none, none, some (.iconst (-1), 55, 0, 0, [], (-1)), some (.ireturn, 56, 0, 0, [], 0), some (.aload_n 0, 57, 0, 0, [], 0), some (.getfield 9, 60, 12, 0, [], 0), none, none, some (.bipush 8, 62, 0, 0, [], 8), none, some (.iaload, 63, 0, 0, [], 0), some (.bipush 6, 65, 0, 0, [], 6)],
  [none, some (.if_icmp .ne 6, 68, 71, 0, [], 0), none, none, some (.bipush (-2), 70, 0, 0, [], (-2)), none, some (.ireturn, 71, 0, 0, [], 0), some (.bipush 74, 73, 0, 0, [], 74), none, some (.iconst 4, 74, 0, 0, [], 4), some (.aload_n 0, 75, 0, 0, [], 0), some (.getfield 9, 78, 12, 0, [], 0), none, none, some (.bipush 8, 80, 0, 0, [], 8), none],
  [some (.iaload, 81, 0, 0, [], 0), some (.imul, 82, 0, 0, [], 0), some (.iadd, 83, 0, 0, [], 0), some (.istore 6, 85, 6, 0, [], 0), none, some (.aload_n 0, 86, 0, 0, [], 0), some (.getfield 9, 89, 12, 0, [], 0), none, none, some (.iload 6, 91, 6, 0, [], 0), none, some (.iload_n 1, 92, 1, 0, [], 0), some (.iastore, 93, 0, 0, [], 0), some (.aload_n 0, 94, 0, 0, [], 0), some (.getfield 9, 97, 12, 0, [], 0), none],
  [none, some (.iload 6, 99, 6, 0, [], 0), none, some (.iconst 1, 100, 0, 0, [], 1), some (.iadd, 101, 0, 0, [], 0), some (.iload_n 2, 102, 2, 0, [], 0), some (.iastore, 103, 0, 0, [], 0), some (.aload_n 0, 104, 0, 0, [], 0), some (.getfield 9, 107, 12, 0, [], 0), none, none, some (.iload 6, 109, 6, 0, [], 0), none, some (.iconst 2, 110, 0, 0, [], 2), some (.iadd, 111, 0, 0, [], 0), some (.iload_n 3, 112, 3, 0, [], 0)],
  [some (.iastore, 113, 0, 0, [], 0), some (.aload_n 0, 114, 0, 0, [], 0), some (.getfield 9, 117, 12, 0, [], 0), none, none, some (.iload 6, 119, 6, 0, [], 0), none, some (.iconst 3, 120, 0, 0, [], 3), some (.iadd, 121, 0, 0, [], 0), some (.iload 4, 123, 4, 0, [], 0), none, some (.iastore, 124, 0, 0, [], 0), some (.aload_n 0, 125, 0, 0, [], 0), some (.getfield 9, 128, 12, 0, [], 0), none, none],
  [some (.bipush 8, 130, 0, 0, [], 8), none, some (.dup2, 131, 0, 0, [], 0), some (.iaload, 132, 0, 0, [], 0), some (.iconst 1, 133, 0, 0, [], 1), some (.iadd, 134, 0, 0, [], 0), some (.iastore, 135, 0, 0, [], 0), some (.aload_n 0, 136, 0, 0, [], 0), some (.getfield 9, 139, 12, 0, [], 0), none, none, some (.bipush 8, 141, 0, 0, [], 8), none, some (.iaload, 142, 0, 0, [], 0), some (.iconst 1, 143, 0, 0, [], 1), some (.isub, 144, 0, 0, [], 0)],
  [some (.ireturn, 145, 0, 0, [], 0)]])
/-- BrokenLoavesModel.forget()I -/
def mm_251 : am_M := (⟨"BrokenLoavesModel", "forget", "()I"⟩, prog_14_method_90_code, 1, (Option.some FieldType.int), [[some (.aload_n 0, 1, 0, 0, [], 0), some (.bipush 8, 3, 0, 0, [], 8), none, some (.iconst 0, 4, 0, 0, [], 0), some (.invokevirtual 216, 7, 1, 172, [2, 12], 0), none, none, some (.ireturn, 8, 0, 0, [], 0)]])
/-- BrokenLoavesModel.tellsStranger(III)V -/
def mm_252 : am_M := (⟨"BrokenLoavesModel", "tellsStranger", "(III)V"⟩, prog_14_method_91_code, 9, (Option.none : Option FieldType), [[some (.iload_n 3, 1, 3, 0, [], 0), some (.istore 4, 3, 4, 0, [], 0), none, some (.bipush 12, 5, 0, 0, [], 12), none, some (.istore 5, 7, 5, 0, [], 0), none, some (.iconst 0, 8, 0, 0, [], 0), some (.istore 6, 10, 6, 0, [], 0), none, some (.iconst 0, 11, 0, 0, [], 0), some (.istore 7, 13, 7, 0, [], 0), none, some (.iload 7, 15, 7, 0, [], 0), none, some (.bipush 16, 17, 0, 0, [], 16)],
  [none, some (.if_icmp .ge 107, 20, 124, 0, [], 0), none, none, some (.aload_n 0, 21, 0, 0, [], 0), some (.getfield 44, 24, 12, 25, [], 0), none, none, some (.iload 7, 26, 7, 0, [], 0), none, some (.iload 5, 28, 5, 0, [], 0), none, some (.iastore, 29, 0, 0, [], 0), some (.aload_n 0, 30, 0, 0, [], 0), some (.getfield 47, 33, 12, 26, [], 0), none],
  [none, some (.iload 7, 35, 7, 0, [], 0), none, some (.iload 4, 37, 4, 0, [], 0), none, some (.iastore, 38, 0, 0, [], 0), some (.iload 4, 40, 4, 0, [], 0), none, some (.aload_n 0, 41, 0, 0, [], 0), some (.getfield 9, 44, 12, 0, [], 0), none, none, some (.bipush 10, 46, 0, 0, [], 10), none, some (.iload 7, 48, 7, 0, [], 0), none],
  [some (.iadd, 49, 0, 0, [], 0), some (.iaload, 50, 0, 0, [], 0), some (.invokestatic 194, 53, 0, 200, [2], 0), none, none, some (.istore 4, 55, 4, 0, [], 0), none, some (.iload 7, 57, 7, 0, [], 0), none, some (.iconst 2, 58, 0, 0, [], 2), some (.irem, 59, 0, 0, [], 0), some (.ifCond .ne 42, 62, 101, 0, [], 0), none, none, some (.iload_n 1, 63, 1, 0, [], 0), some (.iload_n 2, 64, 2, 0, [], 0)],
  [some (.iload 7, 66, 7, 0, [], 0), none, some (.invokestatic 83, 69, 0, 175, [3], 0), none, none, some (.iconst 2, 70, 0, 0, [], 2), some (.iload 6, 72, 6, 0, [], 0), none, some (.imul, 73, 0, 0, [], 0), some (.isub, 74, 0, 0, [], 0), some (.istore 8, 76, 8, 0, [], 0), none, some (.iload 5, 78, 5, 0, [], 0), none, some (.iload 8, 80, 8, 0, [], 0), none],
  [some (.ifCond .ge 7, 83, 87, 0, [], 0), none, none, some (.iconst 0, 84, 0, 0, [], 0), some (.goto 5, 87, 89, 0, [], 0), none, none, some (.iload 8, 89, 8, 0, [], 0), none, some (.iadd, 90, 0, 0, [], 0), some (.sipush 999, 93, 0, 0, [], 999), none, none, some (.invokestatic 175, 96, 0, 164, [2], 0), none, none],
  [some (.istore 5, 98, 5, 0, [], 0), none, some (.iinc 6 1, 101, 6, 0, [], 1), none, none, some (.iload 5, 103, 5, 0, [], 0), none, some (.iconst 1, 104, 0, 0, [], 1), some (.isub, 105, 0, 0, [], 0), some (.iload 4, 107, 4, 0, [], 0), none, some (.iconst 3, 108, 0, 0, [], 3), some (.idiv, 109, 0, 0, [], 0), some (.isub, 110, 0, 0, [], 0), some (.sipush 999, 113, 0, 0, [], 999), none],
  [none, some (.invokestatic 175, 116, 0, 164, [2], 0), none, none, some (.istore 5, 118, 5, 0, [], 0), none, some (.iinc 7 1, 121, 7, 0, [], 1), none, none, some (.goto (-108), 124, 13, 0, [], 0), none, none, some (.return_, 125, 0, 0, [], 0)]])
/-- BrokenLoavesModel.isSo(I)Z -/
def mm_253 : am_M := (⟨"BrokenLoavesModel", "isSo", "(I)Z"⟩, prog_14_method_92_code, 4, (Option.some FieldType.boolean), [[some (.bipush 74, 2, 0, 0, [], 74), none, some (.iconst 4, 3, 0, 0, [], 4), some (.iload_n 1, 4, 1, 0, [], 0), some (.imul, 5, 0, 0, [], 0), some (.iadd, 6, 0, 0, [], 0), some (.istore_n 2, 7, 2, 0, [], 0), some (.aload_n 0, 8, 0, 0, [], 0), some (.getfield 9, 11, 12, 0, [], 0), none, none, some (.iload_n 2, 12, 2, 0, [], 0), some (.iconst 1, 13, 0, 0, [], 1), some (.iadd, 14, 0, 0, [], 0), some (.iaload, 15, 0, 0, [], 0), some (.ifCond .ne 17, 18, 32, 0, [], 0)],
  [none, none, some (.aload_n 0, 19, 0, 0, [], 0), some (.getfield 44, 22, 12, 25, [], 0), none, none, some (.aload_n 0, 23, 0, 0, [], 0), some (.getfield 9, 26, 12, 0, [], 0), none, none, some (.iload_n 2, 27, 2, 0, [], 0), some (.iaload, 28, 0, 0, [], 0), some (.iaload, 29, 0, 0, [], 0), some (.goto 14, 32, 43, 0, [], 0), none, none],
  [some (.aload_n 0, 33, 0, 0, [], 0), some (.getfield 47, 36, 12, 26, [], 0), none, none, some (.aload_n 0, 37, 0, 0, [], 0), some (.getfield 9, 40, 12, 0, [], 0), none, none, some (.iload_n 2, 41, 2, 0, [], 0), some (.iaload, 42, 0, 0, [], 0), some (.iaload, 43, 0, 0, [], 0), some (.istore_n 3, 44, 3, 0, [], 0), some (.iload_n 3, 45, 3, 0, [], 0), some (.aload_n 0, 46, 0, 0, [], 0), some (.getfield 9, 49, 12, 0, [], 0), none],
  [none, some (.iload_n 2, 50, 2, 0, [], 0), some (.iconst 2, 51, 0, 0, [], 2), some (.iadd, 52, 0, 0, [], 0), some (.iaload, 53, 0, 0, [], 0), some (.aload_n 0, 54, 0, 0, [], 0), some (.getfield 9, 57, 12, 0, [], 0), none, none, some (.iload_n 2, 58, 2, 0, [], 0), some (.iconst 3, 59, 0, 0, [], 3), some (.iadd, 60, 0, 0, [], 0), some (.iaload, 61, 0, 0, [], 0), some (.invokestatic 71, 64, 0, 163, [3], 0), none, none],
  [some (.ireturn, 65, 2, 0, [], 0)]])
/-- BrokenLoavesModel.fitting(I)I -/
def mm_254 : am_M := (⟨"BrokenLoavesModel", "fitting", "(I)I"⟩, prog_14_method_93_code, 6, (Option.some FieldType.int), [[some (.iconst 0, 1, 0, 0, [], 0), some (.istore_n 2, 2, 2, 0, [], 0), some (.aload_n 0, 3, 0, 0, [], 0), some (.iconst (-1), 4, 0, 0, [], (-1)), some (.putfield 297, 7, 12, 27, [], 0), none, none, some (.iconst 0, 8, 0, 0, [], 0), some (.istore_n 3, 9, 3, 0, [], 0), some (.iload_n 3, 10, 3, 0, [], 0), some (.sipush 500, 13, 0, 0, [], 500), none, none, some (.if_icmp .ge 118, 16, 131, 0, [], 0), none, none],
  [some (.aload_n 0, 17, 0, 0, [], 0), some (.iconst 1, 18, 0, 0, [], 1), some (.iload_n 3, 19, 3, 0, [], 0), some (.bipush 100, 21, 0, 0, [], 100), none, some (.idiv, 22, 0, 0, [], 0), some (.iadd, 23, 0, 0, [], 0), some (.iload_n 3, 24, 3, 0, [], 0), some (.bipush 10, 26, 0, 0, [], 10), none, some (.idiv, 27, 0, 0, [], 0), some (.bipush 10, 29, 0, 0, [], 10), none, some (.irem, 30, 0, 0, [], 0), some (.iload_n 3, 31, 3, 0, [], 0), some (.bipush 10, 33, 0, 0, [], 10)],
  [none, some (.irem, 34, 0, 0, [], 0), some (.invokevirtual 300, 37, 1, 252, [3, 12], 0), none, none, some (.iconst 1, 38, 0, 0, [], 1), some (.istore 4, 40, 4, 0, [], 0), none, some (.iconst 0, 41, 0, 0, [], 0), some (.istore 5, 43, 5, 0, [], 0), none, some (.iload 5, 45, 5, 0, [], 0), none, some (.aload_n 0, 46, 0, 0, [], 0), some (.getfield 9, 49, 12, 0, [], 0), none],
  [none, some (.bipush 8, 51, 0, 0, [], 8), none, some (.iaload, 52, 0, 0, [], 0), some (.if_icmp .ge 36, 55, 88, 0, [], 0), none, none, some (.iload 4, 57, 4, 0, [], 0), none, some (.ifCond .eq 31, 60, 88, 0, [], 0), none, none, some (.iload 5, 62, 5, 0, [], 0), none, some (.iload_n 1, 63, 1, 0, [], 0), some (.if_icmp .eq 12, 66, 75, 0, [], 0)],
  [none, none, some (.aload_n 0, 67, 0, 0, [], 0), some (.iload 5, 69, 5, 0, [], 0), none, some (.invokevirtual 303, 72, 1, 253, [1, 12], 0), none, none, some (.ifCond .eq 7, 75, 79, 0, [], 0), none, none, some (.iconst 1, 76, 0, 0, [], 1), some (.goto 4, 79, 80, 0, [], 0), none, none, some (.iconst 0, 80, 0, 0, [], 0)],
  [some (.istore 4, 82, 4, 0, [], 0), none, some (.iinc 5 1, 85, 5, 0, [], 1), none, none, some (.goto (-42), 88, 43, 0, [], 0), none, none, some (.iload_n 2, 89, 2, 0, [], 0), some (.iload 4, 91, 4, 0, [], 0), none, some (.ifCond .eq 7, 94, 98, 0, [], 0), none, none, some (.iconst 1, 95, 0, 0, [], 1), some (.goto 4, 98, 99, 0, [], 0)],
  [none, none, some (.iconst 0, 99, 0, 0, [], 0), some (.iadd, 100, 0, 0, [], 0), some (.istore_n 2, 101, 2, 0, [], 0), some (.aload_n 0, 102, 0, 0, [], 0), some (.iload 4, 104, 4, 0, [], 0), none, some (.ifCond .eq 14, 107, 118, 0, [], 0), none, none, some (.aload_n 0, 108, 0, 0, [], 0), some (.getfield 297, 111, 12, 27, [], 0), none, none, some (.ifCond .ge 7, 114, 118, 0, [], 0)],
  [none, none, some (.iload_n 3, 115, 3, 0, [], 0), some (.goto 7, 118, 122, 0, [], 0), none, none, some (.aload_n 0, 119, 0, 0, [], 0), some (.getfield 297, 122, 12, 27, [], 0), none, none, some (.putfield 297, 125, 12, 27, [], 0), none, none, some (.iinc 3 1, 128, 3, 0, [], 1), none, none],
  [some (.goto (-119), 131, 9, 0, [], 0), none, none, some (.iload_n 2, 132, 2, 0, [], 0), some (.ireturn, 133, 0, 0, [], 0)]])
/-- BrokenLoavesModel.tales(I)I -/
def mm_255 : am_M := (⟨"BrokenLoavesModel", "tales", "(I)I"⟩, prog_14_method_94_code, 3, (Option.some FieldType.int), [[some (.iload_n 1, 1, 1, 0, [], 0), some (.iconst 0, 2, 0, 0, [], 0), some (.iconst 3, 3, 0, 0, [], 3), some (.invokestatic 71, 6, 0, 163, [3], 0), none, none, some (.ifCond .ne 5, 9, 11, 0, [], 0), none, none, some (.iconst (-1), 10, 0, 0, [], (-1)), some (.ireturn, 11, 0, 0, [], 0), some (.aload_n 0, 12, 0, 0, [], 0), some (.iconst (-1), 13, 0, 0, [], (-1)), some (.invokevirtual 306, 16, 1, 254, [1, 12], 0), none, none],
  [some (.istore_n 2, 17, 2, 0, [], 0), some (.iload_n 1, 18, 1, 0, [], 0), some (.ifCond .le 10, 21, 28, 0, [], 0), none, none, some (.iload_n 2, 22, 2, 0, [], 0), some (.ifCond .ne 6, 25, 28, 0, [], 0), none, none, some (.bipush (-3), 27, 0, 0, [], (-3)), none, some (.ireturn, 28, 0, 0, [], 0), some (.iload_n 1, 29, 1, 0, [], 0), some (.ifCond .ne 7, 32, 36, 0, [], 0), none, none],
  [some (.iload_n 2, 33, 2, 0, [], 0), some (.goto 45, 36, 78, 0, [], 0), none, none, some (.iload_n 1, 37, 1, 0, [], 0), some (.iconst 1, 38, 0, 0, [], 1), some (.if_icmp .ne 15, 41, 53, 0, [], 0), none, none, some (.iconst 1, 42, 0, 0, [], 1), some (.aload_n 0, 43, 0, 0, [], 0), some (.getfield 297, 46, 12, 27, [], 0), none, none, some (.bipush 100, 48, 0, 0, [], 100), none],
  [some (.idiv, 49, 0, 0, [], 0), some (.iadd, 50, 0, 0, [], 0), some (.goto 28, 53, 78, 0, [], 0), none, none, some (.iload_n 1, 54, 1, 0, [], 0), some (.iconst 2, 55, 0, 0, [], 2), some (.if_icmp .ne 16, 58, 71, 0, [], 0), none, none, some (.aload_n 0, 59, 0, 0, [], 0), some (.getfield 297, 62, 12, 27, [], 0), none, none, some (.bipush 10, 64, 0, 0, [], 10), none],
  [some (.idiv, 65, 0, 0, [], 0), some (.bipush 10, 67, 0, 0, [], 10), none, some (.irem, 68, 0, 0, [], 0), some (.goto 10, 71, 78, 0, [], 0), none, none, some (.aload_n 0, 72, 0, 0, [], 0), some (.getfield 297, 75, 12, 27, [], 0), none, none, some (.bipush 10, 77, 0, 0, [], 10), none, some (.irem, 78, 0, 0, [], 0), some (.ireturn, 79, 0, 0, [], 0)]])
/-- BrokenLoavesModel.liar()I -/
def mm_256 : am_M := (⟨"BrokenLoavesModel", "liar", "()I"⟩, prog_14_method_95_code, 2, (Option.some FieldType.int), [[some (.aload_n 0, 1, 0, 0, [], 0), some (.iconst (-1), 2, 0, 0, [], (-1)), some (.invokevirtual 306, 5, 1, 254, [1, 12], 0), none, none, some (.ifCond .le 6, 8, 11, 0, [], 0), none, none, some (.bipush (-3), 10, 0, 0, [], (-3)), none, some (.ireturn, 11, 0, 0, [], 0), some (.iconst 0, 12, 0, 0, [], 0), some (.istore_n 1, 13, 1, 0, [], 0), some (.iload_n 1, 14, 1, 0, [], 0), some (.aload_n 0, 15, 0, 0, [], 0), some (.getfield 9, 18, 12, 0, [], 0)],
  [none, none, some (.bipush 8, 20, 0, 0, [], 8), none, some (.iaload, 21, 0, 0, [], 0), some (.if_icmp .ge 19, 24, 40, 0, [], 0), none, none, some (.aload_n 0, 25, 0, 0, [], 0), some (.iload_n 1, 26, 1, 0, [], 0), some (.invokevirtual 306, 29, 1, 254, [1, 12], 0), none, none, some (.ifCond .le 5, 32, 34, 0, [], 0), none, none],
  [some (.iload_n 1, 33, 1, 0, [], 0), some (.ireturn, 34, 0, 0, [], 0), some (.iinc 1 1, 37, 1, 0, [], 1), none, none, some (.goto (-24), 40, 13, 0, [], 0), none, none, some (.bipush (-3), 42, 0, 0, [], (-3)), none, some (.ireturn, 43, 0, 0, [], 0)]])
/-- BrokenLoavesModel.seed(I)I -/
def mm_257 : am_M := (⟨"BrokenLoavesModel", "seed", "(I)I"⟩, prog_14_method_96_code, 2, (Option.some FieldType.int), [[some (.aload_n 0, 1, 0, 0, [], 0), some (.iconst 5, 2, 0, 0, [], 5), some (.iload_n 1, 3, 1, 0, [], 0), some (.invokevirtual 216, 6, 1, 172, [2, 12], 0), none, none, some (.ireturn, 7, 0, 0, [], 0)]])
/-- BrokenLoavesModel.byLot()I -/
def mm_258 : am_M := (⟨"BrokenLoavesModel", "byLot", "()I"⟩, prog_14_method_97_code, 1, (Option.some FieldType.int), [[some (.aload_n 0, 1, 0, 0, [], 0), some (.getfield 9, 4, 12, 0, [], 0), none, none, some (.iconst 5, 5, 0, 0, [], 5), some (.aload_n 0, 6, 0, 0, [], 0), some (.getfield 9, 9, 12, 0, [], 0), none, none, some (.iconst 5, 10, 0, 0, [], 5), some (.iaload, 11, 0, 0, [], 0), some (.ldc_w 309, 14, 0, 309, [], 1103515245), none, none, some (.imul, 15, 0, 0, [], 0), some (.sipush 12345, 18, 0, 0, [], 12345)],
  [none, none, some (.iadd, 19, 0, 0, [], 0), some (.iastore, 20, 0, 0, [], 0), some (.aload_n 0, 21, 0, 0, [], 0), some (.aload_n 0, 22, 0, 0, [], 0), some (.getfield 9, 25, 12, 0, [], 0), none, none, some (.iconst 5, 26, 0, 0, [], 5), some (.iaload, 27, 0, 0, [], 0), some (.bipush 16, 29, 0, 0, [], 16), none, some (.iushr, 30, 0, 0, [], 0), some (.aload_n 0, 31, 0, 0, [], 0), some (.getfield 9, 34, 12, 0, [], 0)],
  [none, none, some (.bipush 6, 36, 0, 0, [], 6), none, some (.iaload, 37, 0, 0, [], 0), some (.iconst 1, 38, 0, 0, [], 1), some (.iadd, 39, 0, 0, [], 0), some (.irem, 40, 0, 0, [], 0), some (.invokevirtual 225, 43, 1, 204, [1, 12], 0), none, none, some (.ireturn, 44, 0, 0, [], 0)]])
/-- BrokenLoavesModel.lot()I -/
def mm_259 : am_M := (⟨"BrokenLoavesModel", "lot", "()I"⟩, prog_14_method_98_code, 1, (Option.some FieldType.int), [[some (.aload_n 0, 1, 0, 0, [], 0), some (.invokevirtual 219, 4, 1, 171, [0, 12], 0), none, none, some (.ifCond .eq 8, 7, 12, 0, [], 0), none, none, some (.bipush (-4), 9, 0, 0, [], (-4)), none, some (.goto 7, 12, 16, 0, [], 0), none, none, some (.aload_n 0, 13, 0, 0, [], 0), some (.invokevirtual 310, 16, 1, 258, [0, 12], 0), none, none],
  [some (.ireturn, 17, 0, 0, [], 0)]])
/-- BrokenLoavesModel.times(II)I -/
def mm_260 : am_M := (⟨"BrokenLoavesModel", "times", "(II)I"⟩, prog_14_method_99_code, 7, (Option.some FieldType.int), [[some (.iload_n 1, 1, 1, 0, [], 0), some (.iconst 1, 2, 0, 0, [], 1), some (.bipush 40, 4, 0, 0, [], 40), none, some (.invokestatic 71, 7, 0, 163, [3], 0), none, none, some (.ifCond .eq 14, 10, 21, 0, [], 0), none, none, some (.iload_n 2, 11, 2, 0, [], 0), some (.iconst 0, 12, 0, 0, [], 0), some (.sipush 999, 15, 0, 0, [], 999), none, none, some (.invokestatic 71, 18, 0, 163, [3], 0)],
  [none, none, some (.ifCond .ne 5, 21, 23, 0, [], 0), none, none, some (.iconst (-1), 22, 0, 0, [], (-1)), some (.ireturn, 23, 0, 0, [], 0), some (.aload_n 0, 24, 0, 0, [], 0), some (.invokevirtual 228, 27, 1, 165, [0, 12], 0), none, none, some (.iconst 0, 28, 0, 0, [], 0), some (.istore_n 3, 29, 3, 0, [], 0), some (.iconst 0, 30, 0, 0, [], 0), some (.istore 4, 32, 4, 0, [], 0), none],
  [some (.iload 4, 34, 4, 0, [], 0), none, some (.iload_n 1, 35, 1, 0, [], 0), some (.if_icmp .ge 65, 38, 100, 0, [], 0), none, none, some (.iconst 0, 39, 0, 0, [], 0), some (.istore 5, 41, 5, 0, [], 0), none, some (.aload_n 0, 42, 0, 0, [], 0), some (.invokevirtual 219, 45, 1, 171, [0, 12], 0), none, none, some (.ifCond .ne 15, 48, 60, 0, [], 0), none, none],
  [some (.iload 5, 50, 5, 0, [], 0), none, some (.aload_n 0, 51, 0, 0, [], 0), some (.invokevirtual 310, 54, 1, 258, [0, 12], 0), none, none, some (.iadd, 55, 0, 0, [], 0), some (.istore 5, 57, 5, 0, [], 0), none, some (.goto (-16), 60, 41, 0, [], 0), none, none, some (.iload_n 3, 61, 3, 0, [], 0), some (.iload 5, 63, 5, 0, [], 0), none, some (.iload_n 2, 64, 2, 0, [], 0)],
  [some (.if_icmp .lt 7, 67, 71, 0, [], 0), none, none, some (.iconst 1, 68, 0, 0, [], 1), some (.goto 4, 71, 72, 0, [], 0), none, none, some (.iconst 0, 72, 0, 0, [], 0), some (.iadd, 73, 0, 0, [], 0), some (.istore_n 3, 74, 3, 0, [], 0), some (.aload_n 0, 75, 0, 0, [], 0), some (.getfield 9, 78, 12, 0, [], 0), none, none, some (.iconst 5, 79, 0, 0, [], 5), some (.iaload, 80, 0, 0, [], 0)],
  [some (.istore 6, 82, 6, 0, [], 0), none, some (.aload_n 0, 83, 0, 0, [], 0), some (.invokevirtual 234, 86, 1, 166, [0, 12], 0), none, none, some (.aload_n 0, 87, 0, 0, [], 0), some (.getfield 9, 90, 12, 0, [], 0), none, none, some (.iconst 5, 91, 0, 0, [], 5), some (.iload 6, 93, 6, 0, [], 0), none, some (.iastore, 94, 0, 0, [], 0), some (.iinc 4 1, 97, 4, 0, [], 1), none],
  [none, some (.goto (-65), 100, 32, 0, [], 0), none, none, some (.aload_n 0, 101, 0, 0, [], 0), some (.invokevirtual 234, 104, 1, 166, [0, 12], 0), none, none, some (.iload_n 3, 105, 3, 0, [], 0), some (.ireturn, 106, 0, 0, [], 0)]])
/-- BrokenLoavesModel.prove(I)I -/
def mm_261 : am_M := (⟨"BrokenLoavesModel", "prove", "(I)I"⟩, prog_14_method_100_code, 3, (Option.some FieldType.int), [[some (.iload_n 1, 1, 1, 0, [], 0), some (.invokestatic 284, 4, 0, 240, [1], 0), none, none, some (.ifCond .ne 5, 7, 9, 0, [], 0), none, none, some (.iconst (-1), 8, 0, 0, [], (-1)), some (.ireturn, 9, 0, 0, [], 0), some (.aload_n 0, 10, 0, 0, [], 0), some (.iload_n 1, 11, 1, 0, [], 0), some (.iconst 0, 12, 0, 0, [], 0), some (.invokevirtual 287, 15, 1, 239, [2, 12], 0), none, none, some (.aload_n 0, 16, 0, 0, [], 0)],
  [some (.aload_n 0, 17, 0, 0, [], 0), some (.iload_n 1, 18, 1, 0, [], 0), some (.invokevirtual 281, 21, 1, 236, [1, 12], 0), none, none, some (.putfield 313, 24, 12, 29, [], 0), none, none, some (.aload_n 0, 25, 0, 0, [], 0), some (.invokevirtual 228, 28, 1, 165, [0, 12], 0), none, none, some (.iconst 0, 29, 0, 0, [], 0), some (.istore_n 2, 30, 2, 0, [], 0), some (.iload_n 2, 31, 2, 0, [], 0), some (.aload_n 0, 32, 0, 0, [], 0)],
  [some (.getfield 313, 35, 12, 29, [], 0), none, none, some (.if_icmp .ge 58, 38, 93, 0, [], 0), none, none, some (.aload_n 0, 39, 0, 0, [], 0), some (.getfield 50, 42, 12, 28, [], 0), none, none, some (.iconst 3, 43, 0, 0, [], 3), some (.iload_n 2, 44, 2, 0, [], 0), some (.imul, 45, 0, 0, [], 0), some (.aload_n 0, 46, 0, 0, [], 0), some (.getfield 41, 49, 12, 20, [], 0), none],
  [none, some (.iload_n 2, 50, 2, 0, [], 0), some (.iaload, 51, 0, 0, [], 0), some (.iastore, 52, 0, 0, [], 0), some (.aload_n 0, 53, 0, 0, [], 0), some (.getfield 50, 56, 12, 28, [], 0), none, none, some (.iconst 3, 57, 0, 0, [], 3), some (.iload_n 2, 58, 2, 0, [], 0), some (.imul, 59, 0, 0, [], 0), some (.iconst 1, 60, 0, 0, [], 1), some (.iadd, 61, 0, 0, [], 0), some (.aload_n 0, 62, 0, 0, [], 0), some (.aload_n 0, 63, 0, 0, [], 0), some (.getfield 41, 66, 12, 20, [], 0)],
  [none, none, some (.iload_n 2, 67, 2, 0, [], 0), some (.iaload, 68, 0, 0, [], 0), some (.invokevirtual 225, 71, 1, 204, [1, 12], 0), none, none, some (.iastore, 72, 0, 0, [], 0), some (.aload_n 0, 73, 0, 0, [], 0), some (.getfield 50, 76, 12, 28, [], 0), none, none, some (.iconst 3, 77, 0, 0, [], 3), some (.iload_n 2, 78, 2, 0, [], 0), some (.imul, 79, 0, 0, [], 0), some (.iconst 2, 80, 0, 0, [], 2)],
  [some (.iadd, 81, 0, 0, [], 0), some (.aload_n 0, 82, 0, 0, [], 0), some (.iconst 5, 83, 0, 0, [], 5), some (.invokevirtual 222, 86, 1, 218, [1, 12], 0), none, none, some (.iastore, 87, 0, 0, [], 0), some (.iinc 2 1, 90, 2, 0, [], 1), none, none, some (.goto (-60), 93, 30, 0, [], 0), none, none, some (.aload_n 0, 94, 0, 0, [], 0), some (.invokevirtual 234, 97, 1, 166, [0, 12], 0), none],
  [none, some (.aload_n 0, 98, 0, 0, [], 0), some (.getfield 313, 101, 12, 29, [], 0), none, none, some (.ireturn, 102, 0, 0, [], 0)]])
/-- BrokenLoavesModel.isRow(II)Z -/
def mm_262 : am_M := (⟨"BrokenLoavesModel", "isRow", "(II)Z"⟩, prog_14_method_101_code, 3, (Option.some FieldType.boolean), [[some (.iload_n 1, 1, 1, 0, [], 0), some (.iconst 0, 2, 0, 0, [], 0), some (.aload_n 0, 3, 0, 0, [], 0), some (.getfield 313, 6, 12, 29, [], 0), none, none, some (.iconst 1, 7, 0, 0, [], 1), some (.isub, 8, 0, 0, [], 0), some (.invokestatic 71, 11, 0, 163, [3], 0), none, none, some (.ifCond .eq 16, 14, 27, 0, [], 0), none, none, some (.iload_n 2, 15, 2, 0, [], 0), some (.iconst 0, 16, 0, 0, [], 0)],
  [some (.iconst 2, 17, 0, 0, [], 2), some (.invokestatic 71, 20, 0, 163, [3], 0), none, none, some (.ifCond .eq 7, 23, 27, 0, [], 0), none, none, some (.iconst 1, 24, 0, 0, [], 1), some (.goto 4, 27, 28, 0, [], 0), none, none, some (.iconst 0, 28, 0, 0, [], 0), some (.ireturn, 29, 2, 0, [], 0)]])
/-- BrokenLoavesModel.row(II)I -/
def mm_263 : am_M := (⟨"BrokenLoavesModel", "row", "(II)I"⟩, prog_14_method_102_code, 3, (Option.some FieldType.int), [[some (.aload_n 0, 1, 0, 0, [], 0), some (.iload_n 1, 2, 1, 0, [], 0), some (.iload_n 2, 3, 2, 0, [], 0), some (.invokevirtual 316, 6, 1, 262, [2, 12], 0), none, none, some (.ifCond .eq 16, 9, 22, 0, [], 0), none, none, some (.aload_n 0, 10, 0, 0, [], 0), some (.getfield 50, 13, 12, 28, [], 0), none, none, some (.iconst 3, 14, 0, 0, [], 3), some (.iload_n 1, 15, 1, 0, [], 0), some (.imul, 16, 0, 0, [], 0)],
  [some (.iload_n 2, 17, 2, 0, [], 0), some (.iadd, 18, 0, 0, [], 0), some (.iaload, 19, 0, 0, [], 0), some (.goto 5, 22, 24, 0, [], 0), none, none, some (.bipush (-9), 24, 0, 0, [], (-9)), none, some (.ireturn, 25, 0, 0, [], 0)]])
/-- BrokenLoavesModel.alterRow(III)I -/
def mm_264 : am_M := (⟨"BrokenLoavesModel", "alterRow", "(III)I"⟩, prog_14_method_103_code, 5, (Option.some FieldType.int), [[some (.aload_n 0, 1, 0, 0, [], 0), some (.iload_n 1, 2, 1, 0, [], 0), some (.iload_n 2, 3, 2, 0, [], 0), some (.invokevirtual 316, 6, 1, 262, [2, 12], 0), none, none, some (.ifCond .ne 6, 9, 12, 0, [], 0), none, none, some (.bipush (-9), 11, 0, 0, [], (-9)), none, some (.ireturn, 12, 0, 0, [], 0), some (.aload_n 0, 13, 0, 0, [], 0), some (.getfield 50, 16, 12, 28, [], 0), none, none],
  [some (.iconst 3, 17, 0, 0, [], 3), some (.iload_n 1, 18, 1, 0, [], 0), some (.imul, 19, 0, 0, [], 0), some (.iload_n 2, 20, 2, 0, [], 0), some (.iadd, 21, 0, 0, [], 0), some (.iaload, 22, 0, 0, [], 0), some (.istore 4, 24, 4, 0, [], 0), none, some (.aload_n 0, 25, 0, 0, [], 0), some (.getfield 50, 28, 12, 28, [], 0), none, none, some (.iconst 3, 29, 0, 0, [], 3), some (.iload_n 1, 30, 1, 0, [], 0), some (.imul, 31, 0, 0, [], 0), some (.iload_n 2, 32, 2, 0, [], 0)],
  [some (.iadd, 33, 0, 0, [], 0), some (.iload_n 3, 34, 3, 0, [], 0), some (.iastore, 35, 0, 0, [], 0), some (.iload 4, 37, 4, 0, [], 0), none, some (.ireturn, 38, 0, 0, [], 0)]])
/-- BrokenLoavesModel.judge()I -/
def mm_265 : am_M := (⟨"BrokenLoavesModel", "judge", "()I"⟩, prog_14_method_104_code, 6, (Option.some FieldType.int), [[some (.aload_n 0, 1, 0, 0, [], 0), some (.invokevirtual 228, 4, 1, 165, [0, 12], 0), none, none, some (.iconst 0, 5, 0, 0, [], 0), some (.istore_n 1, 6, 1, 0, [], 0), some (.iconst 0, 7, 0, 0, [], 0), some (.istore_n 2, 8, 2, 0, [], 0), some (.iload_n 2, 9, 2, 0, [], 0), some (.aload_n 0, 10, 0, 0, [], 0), some (.getfield 313, 13, 12, 29, [], 0), none, none, some (.if_icmp .ge 120, 16, 133, 0, [], 0), none, none],
  [some (.iload_n 1, 17, 1, 0, [], 0), some (.ifCond .ne 116, 20, 133, 0, [], 0), none, none, some (.aload_n 0, 21, 0, 0, [], 0), some (.aload_n 0, 22, 0, 0, [], 0), some (.getfield 50, 25, 12, 28, [], 0), none, none, some (.iconst 3, 26, 0, 0, [], 3), some (.iload_n 2, 27, 2, 0, [], 0), some (.imul, 28, 0, 0, [], 0), some (.iaload, 29, 0, 0, [], 0), some (.invokevirtual 319, 32, 1, 170, [1, 12], 0), none, none],
  [some (.ifCond .eq 14, 35, 46, 0, [], 0), none, none, some (.aload_n 0, 36, 0, 0, [], 0), some (.invokevirtual 219, 39, 1, 171, [0, 12], 0), none, none, some (.ifCond .ne 7, 42, 46, 0, [], 0), none, none, some (.iconst 1, 43, 0, 0, [], 1), some (.goto 4, 46, 47, 0, [], 0), none, none, some (.iconst 0, 47, 0, 0, [], 0), some (.istore_n 3, 48, 3, 0, [], 0)],
  [some (.iload_n 3, 49, 3, 0, [], 0), some (.ifCond .eq 18, 52, 67, 0, [], 0), none, none, some (.aload_n 0, 53, 0, 0, [], 0), some (.aload_n 0, 54, 0, 0, [], 0), some (.getfield 50, 57, 12, 28, [], 0), none, none, some (.iconst 3, 58, 0, 0, [], 3), some (.iload_n 2, 59, 2, 0, [], 0), some (.imul, 60, 0, 0, [], 0), some (.iaload, 61, 0, 0, [], 0), some (.invokevirtual 225, 64, 1, 204, [1, 12], 0), none, none],
  [some (.goto 4, 67, 68, 0, [], 0), none, none, some (.iconst 0, 68, 0, 0, [], 0), some (.istore 4, 70, 4, 0, [], 0), none, some (.iload_n 3, 71, 3, 0, [], 0), some (.ifCond .eq 40, 74, 111, 0, [], 0), none, none, some (.iload 4, 76, 4, 0, [], 0), none, some (.aload_n 0, 77, 0, 0, [], 0), some (.getfield 50, 80, 12, 28, [], 0), none, none],
  [some (.iconst 3, 81, 0, 0, [], 3), some (.iload_n 2, 82, 2, 0, [], 0), some (.imul, 83, 0, 0, [], 0), some (.iconst 1, 84, 0, 0, [], 1), some (.iadd, 85, 0, 0, [], 0), some (.iaload, 86, 0, 0, [], 0), some (.if_icmp .ne 25, 89, 111, 0, [], 0), none, none, some (.aload_n 0, 90, 0, 0, [], 0), some (.iconst 5, 91, 0, 0, [], 5), some (.invokevirtual 222, 94, 1, 218, [1, 12], 0), none, none, some (.aload_n 0, 95, 0, 0, [], 0), some (.getfield 50, 98, 12, 28, [], 0)],
  [none, none, some (.iconst 3, 99, 0, 0, [], 3), some (.iload_n 2, 100, 2, 0, [], 0), some (.imul, 101, 0, 0, [], 0), some (.iconst 2, 102, 0, 0, [], 2), some (.iadd, 103, 0, 0, [], 0), some (.iaload, 104, 0, 0, [], 0), some (.if_icmp .ne 7, 107, 111, 0, [], 0), none, none, some (.iconst 1, 108, 0, 0, [], 1), some (.goto 4, 111, 112, 0, [], 0), none, none, some (.iconst 0, 112, 0, 0, [], 0)],
  [some (.istore 5, 114, 5, 0, [], 0), none, some (.iload 5, 116, 5, 0, [], 0), none, some (.ifCond .eq 7, 119, 123, 0, [], 0), none, none, some (.iconst 0, 120, 0, 0, [], 0), some (.goto 6, 123, 126, 0, [], 0), none, none, some (.iconst 1, 124, 0, 0, [], 1), some (.iload_n 2, 125, 2, 0, [], 0), some (.iadd, 126, 0, 0, [], 0), some (.istore_n 1, 127, 1, 0, [], 0), some (.iinc 2 1, 130, 2, 0, [], 1)],
  [none, none, some (.goto (-122), 133, 8, 0, [], 0), none, none, some (.aload_n 0, 134, 0, 0, [], 0), some (.invokevirtual 234, 137, 1, 166, [0, 12], 0), none, none, some (.iload_n 1, 138, 1, 0, [], 0), some (.ireturn, 139, 0, 0, [], 0)]])
/-- BrokenLoavesModel.isSheet(I)Z -/
def mm_266 : am_M := (⟨"BrokenLoavesModel", "isSheet", "(I)Z"⟩, prog_14_method_105_code, 1, (Option.some FieldType.boolean), [[some (.iload_n 0, 1, 0, 0, [], 0), some (.iconst 0, 2, 0, 0, [], 0), some (.iconst 3, 3, 0, 0, [], 3), some (.invokestatic 71, 6, 0, 163, [3], 0), none, none, some (.ireturn, 7, 2, 0, [], 0)]])
/-- BrokenLoavesModel.sheet(III)I -/
def mm_267 : am_M := (⟨"BrokenLoavesModel", "sheet", "(III)I"⟩, prog_14_method_106_code, 5, (Option.some FieldType.int), [[some (.iload_n 1, 1, 1, 0, [], 0), some (.invokestatic 322, 4, 0, 266, [1], 0), none, none, some (.ifCond .eq 22, 7, 26, 0, [], 0), none, none, some (.iload_n 2, 8, 2, 0, [], 0), some (.iconst (-1), 9, 0, 0, [], (-1)), some (.iconst 4, 10, 0, 0, [], 4), some (.invokestatic 71, 13, 0, 163, [3], 0), none, none, some (.ifCond .eq 13, 16, 26, 0, [], 0), none, none],
  [some (.iload_n 2, 17, 2, 0, [], 0), some (.ifCond .lt 11, 20, 28, 0, [], 0), none, none, some (.iload_n 3, 21, 3, 0, [], 0), some (.bipush 40, 23, 0, 0, [], 40), none, some (.if_icmp .le 5, 26, 28, 0, [], 0), none, none, some (.iconst (-1), 27, 0, 0, [], (-1)), some (.ireturn, 28, 0, 0, [], 0), some (.iload_n 2, 29, 2, 0, [], 0), some (.ifCond .lt 10, 32, 39, 0, [], 0), none, none],
  [some (.iload_n 3, 33, 3, 0, [], 0), some (.ifCond .ge 6, 36, 39, 0, [], 0), none, none, some (.bipush (-14), 38, 0, 0, [], (-14)), none, some (.ireturn, 39, 0, 0, [], 0), some (.aload_n 0, 40, 0, 0, [], 0), some (.getfield 53, 43, 12, 30, [], 0), none, none, some (.iload_n 1, 44, 1, 0, [], 0), some (.iload_n 2, 45, 2, 0, [], 0), some (.iastore, 46, 0, 0, [], 0), some (.aload_n 0, 47, 0, 0, [], 0), some (.getfield 56, 50, 12, 31, [], 0)],
  [none, none, some (.iload_n 1, 51, 1, 0, [], 0), some (.iload_n 2, 52, 2, 0, [], 0), some (.ifCond .ge 7, 55, 59, 0, [], 0), none, none, some (.iconst 0, 56, 0, 0, [], 0), some (.goto 4, 59, 60, 0, [], 0), none, none, some (.iload_n 3, 60, 3, 0, [], 0), some (.iastore, 61, 0, 0, [], 0), some (.iconst 0, 62, 0, 0, [], 0), some (.istore 4, 64, 4, 0, [], 0), none],
  [some (.iload 4, 66, 4, 0, [], 0), none, some (.bipush 40, 68, 0, 0, [], 40), none, some (.if_icmp .ge 22, 71, 90, 0, [], 0), none, none, some (.aload_n 0, 72, 0, 0, [], 0), some (.getfield 59, 75, 12, 32, [], 0), none, none, some (.bipush 40, 77, 0, 0, [], 40), none, some (.iload_n 1, 78, 1, 0, [], 0), some (.imul, 79, 0, 0, [], 0), some (.iload 4, 81, 4, 0, [], 0)],
  [none, some (.iadd, 82, 0, 0, [], 0), some (.iconst 0, 83, 0, 0, [], 0), some (.iastore, 84, 0, 0, [], 0), some (.iinc 4 1, 87, 4, 0, [], 1), none, none, some (.goto (-23), 90, 64, 0, [], 0), none, none, some (.iconst 1, 91, 0, 0, [], 1), some (.ireturn, 92, 0, 0, [], 0)]])
/-- BrokenLoavesModel.narrowed(II)I -/
def mm_268 : am_M := (⟨"BrokenLoavesModel", "narrowed", "(II)I"⟩, prog_14_method_107_code, 2, (Option.some FieldType.int), [[some (.iload_n 1, 1, 1, 0, [], 0), some (.ifCond .ne 8, 4, 9, 0, [], 0), none, none, some (.iload_n 0, 5, 0, 0, [], 0), some (.i2b, 6, 0, 0, [], 0), some (.goto 31, 9, 37, 0, [], 0), none, none, some (.iload_n 1, 10, 1, 0, [], 0), some (.iconst 1, 11, 0, 0, [], 1), some (.if_icmp .ne 8, 14, 19, 0, [], 0), none, none, some (.iload_n 0, 15, 0, 0, [], 0), some (.i2s, 16, 0, 0, [], 0)],
  [some (.goto 21, 19, 37, 0, [], 0), none, none, some (.iload_n 1, 20, 1, 0, [], 0), some (.iconst 4, 21, 0, 0, [], 4), some (.if_icmp .ne 15, 24, 36, 0, [], 0), none, none, some (.iload_n 0, 25, 0, 0, [], 0), some (.ifCond .eq 7, 28, 32, 0, [], 0), none, none, some (.iconst 1, 29, 0, 0, [], 1), some (.goto 8, 32, 37, 0, [], 0), none, none],
  [some (.iconst 0, 33, 0, 0, [], 0), some (.goto 4, 36, 37, 0, [], 0), none, none, some (.iload_n 0, 37, 0, 0, [], 0), some (.ireturn, 38, 0, 0, [], 0)]])
/-- BrokenLoavesModel.write(III)I -/
def mm_269 : am_M := (⟨"BrokenLoavesModel", "write", "(III)I"⟩, prog_14_method_108_code, 4, (Option.some FieldType.int), [[some (.iload_n 1, 1, 1, 0, [], 0), some (.invokestatic 322, 4, 0, 266, [1], 0), none, none, some (.ifCond .ne 5, 7, 9, 0, [], 0), none, none, some (.iconst (-1), 8, 0, 0, [], (-1)), some (.ireturn, 9, 0, 0, [], 0), some (.aload_n 0, 10, 0, 0, [], 0), some (.getfield 53, 13, 12, 30, [], 0), none, none, some (.iload_n 1, 14, 1, 0, [], 0), some (.iaload, 15, 0, 0, [], 0), some (.ifCond .ge 6, 18, 21, 0, [], 0)],
  [none, none, some (.bipush (-11), 20, 0, 0, [], (-11)), none, some (.ireturn, 21, 0, 0, [], 0), some (.iload_n 2, 22, 2, 0, [], 0), some (.iconst 0, 23, 0, 0, [], 0), some (.aload_n 0, 24, 0, 0, [], 0), some (.getfield 56, 27, 12, 31, [], 0), none, none, some (.iload_n 1, 28, 1, 0, [], 0), some (.iaload, 29, 0, 0, [], 0), some (.iconst 1, 30, 0, 0, [], 1), some (.isub, 31, 0, 0, [], 0), some (.invokestatic 71, 34, 0, 163, [3], 0)],
  [none, none, some (.ifCond .ne 6, 37, 40, 0, [], 0), none, none, some (.bipush (-12), 39, 0, 0, [], (-12)), none, some (.ireturn, 40, 0, 0, [], 0), some (.aload_n 0, 41, 0, 0, [], 0), some (.getfield 59, 44, 12, 32, [], 0), none, none, some (.bipush 40, 46, 0, 0, [], 40), none, some (.iload_n 1, 47, 1, 0, [], 0), some (.imul, 48, 0, 0, [], 0)],
  [some (.iload_n 2, 49, 2, 0, [], 0), some (.iadd, 50, 0, 0, [], 0), some (.iload_n 3, 51, 3, 0, [], 0), some (.aload_n 0, 52, 0, 0, [], 0), some (.getfield 53, 55, 12, 30, [], 0), none, none, some (.iload_n 1, 56, 1, 0, [], 0), some (.iaload, 57, 0, 0, [], 0), some (.invokestatic 325, 60, 0, 268, [2], 0), none, none, some (.iastore, 61, 0, 0, [], 0), some (.iconst 1, 62, 0, 0, [], 1), some (.ireturn, 63, 0, 0, [], 0)]])
/-- BrokenLoavesModel.lacks(II)I -/
def mm_270 : am_M := (⟨"BrokenLoavesModel", "lacks", "(II)I"⟩, prog_14_method_109_code, 3, (Option.some FieldType.int), [[some (.aload_n 0, 1, 0, 0, [], 0), some (.getfield 53, 4, 12, 30, [], 0), none, none, some (.iload_n 1, 5, 1, 0, [], 0), some (.iaload, 6, 0, 0, [], 0), some (.ifCond .ge 8, 9, 14, 0, [], 0), none, none, some (.bipush (-11), 11, 0, 0, [], (-11)), none, some (.goto 19, 14, 30, 0, [], 0), none, none, some (.aload_n 0, 15, 0, 0, [], 0), some (.getfield 53, 18, 12, 30, [], 0)],
  [none, none, some (.iload_n 1, 19, 1, 0, [], 0), some (.iaload, 20, 0, 0, [], 0), some (.iload_n 2, 21, 2, 0, [], 0), some (.if_icmp .eq 8, 24, 29, 0, [], 0), none, none, some (.bipush (-13), 26, 0, 0, [], (-13)), none, some (.goto 4, 29, 30, 0, [], 0), none, none, some (.iconst 0, 30, 0, 0, [], 0), some (.ireturn, 31, 0, 0, [], 0)]])
/-- BrokenLoavesModel.item(III)I -/
def mm_271 : am_M := (⟨"BrokenLoavesModel", "item", "(III)I"⟩, prog_14_method_110_code, 5, (Option.some FieldType.int), [[some (.iload_n 1, 1, 1, 0, [], 0), some (.invokestatic 322, 4, 0, 266, [1], 0), none, none, some (.ifCond .eq 12, 7, 16, 0, [], 0), none, none, some (.iload_n 2, 8, 2, 0, [], 0), some (.iconst 0, 9, 0, 0, [], 0), some (.iconst 4, 10, 0, 0, [], 4), some (.invokestatic 71, 13, 0, 163, [3], 0), none, none, some (.ifCond .ne 5, 16, 18, 0, [], 0), none, none],
  [some (.iconst (-1), 17, 0, 0, [], (-1)), some (.ireturn, 18, 0, 0, [], 0), some (.aload_n 0, 19, 0, 0, [], 0), some (.iload_n 1, 20, 1, 0, [], 0), some (.iload_n 2, 21, 2, 0, [], 0), some (.invokevirtual 328, 24, 1, 270, [2, 12], 0), none, none, some (.istore 4, 26, 4, 0, [], 0), none, some (.iload 4, 28, 4, 0, [], 0), none, some (.ifCond .eq 8, 31, 36, 0, [], 0), none, none, some (.iload 4, 33, 4, 0, [], 0)],
  [none, some (.goto 35, 36, 68, 0, [], 0), none, none, some (.iload_n 3, 37, 3, 0, [], 0), some (.iconst 0, 38, 0, 0, [], 0), some (.aload_n 0, 39, 0, 0, [], 0), some (.getfield 56, 42, 12, 31, [], 0), none, none, some (.iload_n 1, 43, 1, 0, [], 0), some (.iaload, 44, 0, 0, [], 0), some (.iconst 1, 45, 0, 0, [], 1), some (.isub, 46, 0, 0, [], 0), some (.invokestatic 71, 49, 0, 163, [3], 0), none],
  [none, some (.ifCond .eq 17, 52, 66, 0, [], 0), none, none, some (.aload_n 0, 53, 0, 0, [], 0), some (.getfield 59, 56, 12, 32, [], 0), none, none, some (.bipush 40, 58, 0, 0, [], 40), none, some (.iload_n 1, 59, 1, 0, [], 0), some (.imul, 60, 0, 0, [], 0), some (.iload_n 3, 61, 3, 0, [], 0), some (.iadd, 62, 0, 0, [], 0), some (.iaload, 63, 0, 0, [], 0), some (.goto 5, 66, 68, 0, [], 0)],
  [none, none, some (.bipush (-12), 68, 0, 0, [], (-12)), none, some (.ireturn, 69, 0, 0, [], 0)]])
/-- BrokenLoavesModel.isItem(III)Z -/
def mm_272 : am_M := (⟨"BrokenLoavesModel", "isItem", "(III)Z"⟩, prog_14_method_111_code, 4, (Option.some FieldType.boolean), [[some (.iload_n 2, 1, 2, 0, [], 0), some (.ifCond .lt 19, 4, 20, 0, [], 0), none, none, some (.iload_n 2, 5, 2, 0, [], 0), some (.aload_n 0, 6, 0, 0, [], 0), some (.getfield 56, 9, 12, 31, [], 0), none, none, some (.iload_n 1, 10, 1, 0, [], 0), some (.iaload, 11, 0, 0, [], 0), some (.iload_n 3, 12, 3, 0, [], 0), some (.isub, 13, 0, 0, [], 0), some (.if_icmp .ge 7, 16, 20, 0, [], 0), none, none],
  [some (.iconst 1, 17, 0, 0, [], 1), some (.goto 4, 20, 21, 0, [], 0), none, none, some (.iconst 0, 21, 0, 0, [], 0), some (.ireturn, 22, 2, 0, [], 0)]])
/-- BrokenLoavesModel.goAll(III)I -/
def mm_273 : am_M := (⟨"BrokenLoavesModel", "goAll", "(III)I"⟩, prog_14_method_112_code, 8, (Option.some FieldType.int), [[some (.iload_n 1, 1, 1, 0, [], 0), some (.invokestatic 322, 4, 0, 266, [1], 0), none, none, some (.ifCond .eq 13, 7, 17, 0, [], 0), none, none, some (.iload_n 3, 8, 3, 0, [], 0), some (.iconst 0, 9, 0, 0, [], 0), some (.bipush 20, 11, 0, 0, [], 20), none, some (.invokestatic 71, 14, 0, 163, [3], 0), none, none, some (.ifCond .ne 5, 17, 19, 0, [], 0), none],
  [none, some (.iconst (-1), 18, 0, 0, [], (-1)), some (.ireturn, 19, 0, 0, [], 0), some (.aload_n 0, 20, 0, 0, [], 0), some (.iload_n 1, 21, 1, 0, [], 0), some (.iconst 0, 22, 0, 0, [], 0), some (.invokevirtual 328, 25, 1, 270, [2, 12], 0), none, none, some (.istore 4, 27, 4, 0, [], 0), none, some (.iload 4, 29, 4, 0, [], 0), none, some (.ifCond .eq 6, 32, 35, 0, [], 0), none, none],
  [some (.iload 4, 34, 4, 0, [], 0), none, some (.ireturn, 35, 0, 0, [], 0), some (.iconst 0, 36, 0, 0, [], 0), some (.istore 5, 38, 5, 0, [], 0), none, some (.iconst 0, 39, 0, 0, [], 0), some (.istore 6, 41, 6, 0, [], 0), none, some (.iload 6, 43, 6, 0, [], 0), none, some (.iload_n 3, 44, 3, 0, [], 0), some (.if_icmp .ge 70, 47, 114, 0, [], 0), none, none, some (.aload_n 0, 48, 0, 0, [], 0)],
  [some (.iload_n 1, 49, 1, 0, [], 0), some (.iload_n 2, 50, 2, 0, [], 0), some (.iload 6, 52, 6, 0, [], 0), none, some (.invokevirtual 331, 55, 1, 272, [3, 12], 0), none, none, some (.ifCond .ne 6, 58, 61, 0, [], 0), none, none, some (.bipush (-12), 60, 0, 0, [], (-12)), none, some (.ireturn, 61, 0, 0, [], 0), some (.aload_n 0, 62, 0, 0, [], 0), some (.getfield 59, 65, 12, 32, [], 0), none],
  [none, some (.bipush 40, 67, 0, 0, [], 40), none, some (.iload_n 1, 68, 1, 0, [], 0), some (.imul, 69, 0, 0, [], 0), some (.iload_n 2, 70, 2, 0, [], 0), some (.iadd, 71, 0, 0, [], 0), some (.iload 6, 73, 6, 0, [], 0), none, some (.iadd, 74, 0, 0, [], 0), some (.iaload, 75, 0, 0, [], 0), some (.istore 7, 77, 7, 0, [], 0), none, some (.iload 5, 79, 5, 0, [], 0), none, some (.aload_n 0, 80, 0, 0, [], 0)],
  [some (.iload 7, 82, 7, 0, [], 0), none, some (.invokevirtual 319, 85, 1, 170, [1, 12], 0), none, none, some (.ifCond .eq 19, 88, 104, 0, [], 0), none, none, some (.aload_n 0, 89, 0, 0, [], 0), some (.invokevirtual 219, 92, 1, 171, [0, 12], 0), none, none, some (.ifCond .ne 12, 95, 104, 0, [], 0), none, none, some (.aload_n 0, 96, 0, 0, [], 0)],
  [some (.iload 7, 98, 7, 0, [], 0), none, some (.invokevirtual 225, 101, 1, 204, [1, 12], 0), none, none, some (.goto 4, 104, 105, 0, [], 0), none, none, some (.iconst 0, 105, 0, 0, [], 0), some (.iadd, 106, 0, 0, [], 0), some (.istore 5, 108, 5, 0, [], 0), none, some (.iinc 6 1, 111, 6, 0, [], 1), none, none, some (.goto (-70), 114, 41, 0, [], 0)],
  [none, none, some (.iload 5, 116, 5, 0, [], 0), none, some (.ireturn, 117, 0, 0, [], 0)]])
/-- BrokenLoavesModel.wouldBe(III)I -/
def mm_274 : am_M := (⟨"BrokenLoavesModel", "wouldBe", "(III)I"⟩, prog_14_method_113_code, 8, (Option.some FieldType.int), [[some (.iload_n 1, 1, 1, 0, [], 0), some (.invokestatic 322, 4, 0, 266, [1], 0), none, none, some (.ifCond .eq 13, 7, 17, 0, [], 0), none, none, some (.iload_n 3, 8, 3, 0, [], 0), some (.iconst 0, 9, 0, 0, [], 0), some (.bipush 20, 11, 0, 0, [], 20), none, some (.invokestatic 71, 14, 0, 163, [3], 0), none, none, some (.ifCond .ne 5, 17, 19, 0, [], 0), none],
  [none, some (.iconst (-1), 18, 0, 0, [], (-1)), some (.ireturn, 19, 0, 0, [], 0), some (.aload_n 0, 20, 0, 0, [], 0), some (.iload_n 1, 21, 1, 0, [], 0), some (.iconst 0, 22, 0, 0, [], 0), some (.invokevirtual 328, 25, 1, 270, [2, 12], 0), none, none, some (.istore 4, 27, 4, 0, [], 0), none, some (.iconst 0, 28, 0, 0, [], 0), some (.istore 5, 30, 5, 0, [], 0), none, some (.aload_n 0, 31, 0, 0, [], 0), some (.invokevirtual 228, 34, 1, 165, [0, 12], 0)],
  [none, none, some (.iconst 0, 35, 0, 0, [], 0), some (.istore 6, 37, 6, 0, [], 0), none, some (.iload 6, 39, 6, 0, [], 0), none, some (.iload_n 3, 40, 3, 0, [], 0), some (.if_icmp .ge 105, 43, 145, 0, [], 0), none, none, some (.iload 4, 45, 4, 0, [], 0), none, some (.ifCond .ne 100, 48, 145, 0, [], 0), none, none],
  [some (.aload_n 0, 49, 0, 0, [], 0), some (.iload_n 1, 50, 1, 0, [], 0), some (.iload_n 2, 51, 2, 0, [], 0), some (.iload 6, 53, 6, 0, [], 0), none, some (.invokevirtual 331, 56, 1, 272, [3, 12], 0), none, none, some (.ifCond .eq 20, 59, 76, 0, [], 0), none, none, some (.aload_n 0, 60, 0, 0, [], 0), some (.getfield 59, 63, 12, 32, [], 0), none, none, some (.bipush 40, 65, 0, 0, [], 40)],
  [none, some (.iload_n 1, 66, 1, 0, [], 0), some (.imul, 67, 0, 0, [], 0), some (.iload_n 2, 68, 2, 0, [], 0), some (.iadd, 69, 0, 0, [], 0), some (.iload 6, 71, 6, 0, [], 0), none, some (.iadd, 72, 0, 0, [], 0), some (.iaload, 73, 0, 0, [], 0), some (.goto 4, 76, 77, 0, [], 0), none, none, some (.iconst (-1), 77, 0, 0, [], (-1)), some (.istore 7, 79, 7, 0, [], 0), none, some (.aload_n 0, 80, 0, 0, [], 0)],
  [some (.iload_n 1, 81, 1, 0, [], 0), some (.iload_n 2, 82, 2, 0, [], 0), some (.iload 6, 84, 6, 0, [], 0), none, some (.invokevirtual 331, 87, 1, 272, [3, 12], 0), none, none, some (.ifCond .ne 8, 90, 95, 0, [], 0), none, none, some (.bipush (-12), 92, 0, 0, [], (-12)), none, some (.goto 25, 95, 117, 0, [], 0), none, none, some (.aload_n 0, 96, 0, 0, [], 0)],
  [some (.iload 7, 98, 7, 0, [], 0), none, some (.invokevirtual 319, 101, 1, 170, [1, 12], 0), none, none, some (.ifCond .eq 10, 104, 111, 0, [], 0), none, none, some (.aload_n 0, 105, 0, 0, [], 0), some (.invokevirtual 219, 108, 1, 171, [0, 12], 0), none, none, some (.ifCond .eq 8, 111, 116, 0, [], 0), none, none, some (.bipush (-4), 113, 0, 0, [], (-4))],
  [none, some (.goto 4, 116, 117, 0, [], 0), none, none, some (.iconst 0, 117, 0, 0, [], 0), some (.istore 4, 119, 4, 0, [], 0), none, some (.iload 5, 121, 5, 0, [], 0), none, some (.iload 4, 123, 4, 0, [], 0), none, some (.ifCond .ne 12, 126, 135, 0, [], 0), none, none, some (.aload_n 0, 127, 0, 0, [], 0), some (.iload 7, 129, 7, 0, [], 0)],
  [none, some (.invokevirtual 225, 132, 1, 204, [1, 12], 0), none, none, some (.goto 4, 135, 136, 0, [], 0), none, none, some (.iconst 0, 136, 0, 0, [], 0), some (.iadd, 137, 0, 0, [], 0), some (.istore 5, 139, 5, 0, [], 0), none, some (.iinc 6 1, 142, 6, 0, [], 1), none, none, some (.goto (-105), 145, 37, 0, [], 0), none],
  [none, some (.aload_n 0, 146, 0, 0, [], 0), some (.invokevirtual 234, 149, 1, 166, [0, 12], 0), none, none, some (.iload 4, 151, 4, 0, [], 0), none, some (.ifCond .eq 8, 154, 159, 0, [], 0), none, none, some (.iload 4, 156, 4, 0, [], 0), none, some (.goto 5, 159, 161, 0, [], 0), none, none, some (.iload 5, 161, 5, 0, [], 0)],
  [none, some (.ireturn, 162, 0, 0, [], 0)]])
/-- BrokenLoavesModel.shelf(III)I -/
def mm_275 : am_M := (⟨"BrokenLoavesModel", "shelf", "(III)I"⟩, prog_14_method_114_code, 4, (Option.some FieldType.int), [[some (.iload_n 1, 1, 1, 0, [], 0), some (.invokestatic 322, 4, 0, 266, [1], 0), none, none, some (.ifCond .eq 36, 7, 40, 0, [], 0), none, none, some (.iload_n 2, 8, 2, 0, [], 0), some (.iconst 0, 9, 0, 0, [], 0), some (.iconst 2, 10, 0, 0, [], 2), some (.invokestatic 71, 13, 0, 163, [3], 0), none, none, some (.ifCond .eq 27, 16, 40, 0, [], 0), none, none],
  [some (.iload_n 2, 17, 2, 0, [], 0), some (.ifCond .ne 11, 20, 28, 0, [], 0), none, none, some (.aload_n 0, 21, 0, 0, [], 0), some (.iload_n 3, 22, 3, 0, [], 0), some (.invokevirtual 213, 25, 1, 169, [1, 12], 0), none, none, some (.ifCond .eq 15, 28, 40, 0, [], 0), none, none, some (.iload_n 2, 29, 2, 0, [], 0), some (.iconst 1, 30, 0, 0, [], 1), some (.if_icmp .ne 12, 33, 42, 0, [], 0), none],
  [none, some (.iload_n 3, 34, 3, 0, [], 0), some (.invokestatic 322, 37, 0, 266, [1], 0), none, none, some (.ifCond .ne 5, 40, 42, 0, [], 0), none, none, some (.iconst (-1), 41, 0, 0, [], (-1)), some (.ireturn, 42, 0, 0, [], 0), some (.aload_n 0, 43, 0, 0, [], 0), some (.getfield 62, 46, 12, 33, [], 0), none, none, some (.iload_n 1, 47, 1, 0, [], 0), some (.iload_n 2, 48, 2, 0, [], 0)],
  [some (.ifCond .ne 7, 51, 55, 0, [], 0), none, none, some (.iconst 0, 52, 0, 0, [], 0), some (.goto 30, 55, 82, 0, [], 0), none, none, some (.iload_n 2, 56, 2, 0, [], 0), some (.iconst 1, 57, 0, 0, [], 1), some (.if_icmp .ne 24, 60, 81, 0, [], 0), none, none, some (.aload_n 0, 61, 0, 0, [], 0), some (.getfield 53, 64, 12, 30, [], 0), none, none],
  [some (.iload_n 3, 65, 3, 0, [], 0), some (.iaload, 66, 0, 0, [], 0), some (.ifCond .lt 15, 69, 81, 0, [], 0), none, none, some (.bipush 10, 71, 0, 0, [], 10), none, some (.aload_n 0, 72, 0, 0, [], 0), some (.getfield 53, 75, 12, 30, [], 0), none, none, some (.iload_n 3, 76, 3, 0, [], 0), some (.iaload, 77, 0, 0, [], 0), some (.iadd, 78, 0, 0, [], 0), some (.goto 4, 81, 82, 0, [], 0), none],
  [none, some (.iconst (-1), 82, 0, 0, [], (-1)), some (.iastore, 83, 0, 0, [], 0), some (.aload_n 0, 84, 0, 0, [], 0), some (.getfield 65, 87, 12, 34, [], 0), none, none, some (.iload_n 1, 88, 1, 0, [], 0), some (.iload_n 2, 89, 2, 0, [], 0), some (.ifCond .ne 7, 92, 96, 0, [], 0), none, none, some (.iload_n 3, 93, 3, 0, [], 0), some (.goto 18, 96, 111, 0, [], 0), none, none],
  [some (.iload_n 2, 97, 2, 0, [], 0), some (.iconst 1, 98, 0, 0, [], 1), some (.if_icmp .ne 12, 101, 110, 0, [], 0), none, none, some (.aload_n 0, 102, 0, 0, [], 0), some (.getfield 56, 105, 12, 31, [], 0), none, none, some (.iload_n 3, 106, 3, 0, [], 0), some (.iaload, 107, 0, 0, [], 0), some (.goto 4, 110, 111, 0, [], 0), none, none, some (.iconst 0, 111, 0, 0, [], 0), some (.iastore, 112, 0, 0, [], 0)],
  [some (.iconst 1, 113, 0, 0, [], 1), some (.ireturn, 114, 0, 0, [], 0)]])
/-- BrokenLoavesModel.heldOn(I)I -/
def mm_276 : am_M := (⟨"BrokenLoavesModel", "heldOn", "(I)I"⟩, prog_14_method_115_code, 2, (Option.some FieldType.int), [[some (.aload_n 0, 1, 0, 0, [], 0), some (.getfield 62, 4, 12, 33, [], 0), none, none, some (.iload_n 1, 5, 1, 0, [], 0), some (.iaload, 6, 0, 0, [], 0), some (.ifCond .ne 20, 9, 26, 0, [], 0), none, none, some (.aload_n 0, 10, 0, 0, [], 0), some (.aload_n 0, 11, 0, 0, [], 0), some (.getfield 65, 14, 12, 34, [], 0), none, none, some (.iload_n 1, 15, 1, 0, [], 0), some (.iaload, 16, 0, 0, [], 0)],
  [some (.invokevirtual 213, 19, 1, 169, [1, 12], 0), none, none, some (.ifCond .ne 7, 22, 26, 0, [], 0), none, none, some (.iconst (-1), 23, 0, 0, [], (-1)), some (.goto 9, 26, 32, 0, [], 0), none, none, some (.aload_n 0, 27, 0, 0, [], 0), some (.getfield 62, 30, 12, 33, [], 0), none, none, some (.iload_n 1, 31, 1, 0, [], 0), some (.iaload, 32, 0, 0, [], 0)],
  [some (.ireturn, 33, 0, 0, [], 0)]])
end
section
/-- BrokenLoavesModel.taken(II)I -/
def mm_277 : am_M := (⟨"BrokenLoavesModel", "taken", "(II)I"⟩, prog_14_method_116_code, 5, (Option.some FieldType.int), [[some (.iload_n 1, 1, 1, 0, [], 0), some (.invokestatic 322, 4, 0, 266, [1], 0), none, none, some (.ifCond .eq 23, 7, 27, 0, [], 0), none, none, some (.iload_n 2, 8, 2, 0, [], 0), some (.iconst 0, 9, 0, 0, [], 0), some (.iconst 5, 10, 0, 0, [], 5), some (.invokestatic 71, 13, 0, 163, [3], 0), none, none, some (.ifCond .ne 16, 16, 29, 0, [], 0), none, none],
  [some (.iload_n 2, 17, 2, 0, [], 0), some (.bipush 10, 19, 0, 0, [], 10), none, some (.bipush 14, 21, 0, 0, [], 14), none, some (.invokestatic 71, 24, 0, 163, [3], 0), none, none, some (.ifCond .ne 5, 27, 29, 0, [], 0), none, none, some (.iconst (-1), 28, 0, 0, [], (-1)), some (.ireturn, 29, 0, 0, [], 0), some (.aload_n 0, 30, 0, 0, [], 0), some (.iload_n 1, 31, 1, 0, [], 0), some (.invokevirtual 334, 34, 1, 276, [1, 12], 0)],
  [none, none, some (.istore_n 3, 35, 3, 0, [], 0), some (.iload_n 3, 36, 3, 0, [], 0), some (.ifCond .ge 6, 39, 42, 0, [], 0), none, none, some (.bipush (-11), 41, 0, 0, [], (-11)), none, some (.ireturn, 42, 0, 0, [], 0), some (.iload_n 3, 43, 3, 0, [], 0), some (.ifCond .ne 35, 46, 78, 0, [], 0), none, none, some (.iload_n 2, 47, 2, 0, [], 0), some (.bipush 10, 49, 0, 0, [], 10)],
  [none, some (.if_icmp .ge 25, 52, 74, 0, [], 0), none, none, some (.aload_n 0, 53, 0, 0, [], 0), some (.aload_n 0, 54, 0, 0, [], 0), some (.getfield 65, 57, 12, 34, [], 0), none, none, some (.iload_n 1, 58, 1, 0, [], 0), some (.iaload, 59, 0, 0, [], 0), some (.iconst 0, 60, 0, 0, [], 0), some (.invokevirtual 79, 63, 1, 167, [2, 12], 0), none, none, some (.iload_n 2, 64, 2, 0, [], 0)],
  [some (.invokestatic 99, 67, 0, 174, [2], 0), none, none, some (.ifCond .eq 7, 70, 74, 0, [], 0), none, none, some (.iconst 1, 71, 0, 0, [], 1), some (.goto 17, 74, 88, 0, [], 0), none, none, some (.iconst 0, 75, 0, 0, [], 0), some (.goto 13, 78, 88, 0, [], 0), none, none, some (.iload_n 3, 79, 3, 0, [], 0), some (.iload_n 2, 80, 2, 0, [], 0)],
  [some (.if_icmp .ne 7, 83, 87, 0, [], 0), none, none, some (.iconst 1, 84, 0, 0, [], 1), some (.goto 4, 87, 88, 0, [], 0), none, none, some (.iconst 0, 88, 0, 0, [], 0), some (.istore 4, 90, 4, 0, [], 0), none, some (.iload 4, 92, 4, 0, [], 0), none, some (.ifCond .eq 12, 95, 104, 0, [], 0), none, none, some (.aload_n 0, 96, 0, 0, [], 0)],
  [some (.getfield 65, 99, 12, 34, [], 0), none, none, some (.iload_n 1, 100, 1, 0, [], 0), some (.iaload, 101, 0, 0, [], 0), some (.goto 5, 104, 106, 0, [], 0), none, none, some (.bipush (-13), 106, 0, 0, [], (-13)), none, some (.ireturn, 107, 0, 0, [], 0)]])
/-- BrokenLoavesModel.starts(I)V -/
def mm_278 : am_M := (⟨"BrokenLoavesModel", "starts", "(I)V"⟩, prog_14_method_117_code, 2, (Option.none : Option FieldType), [[some (.aload_n 0, 1, 0, 0, [], 0), some (.getfield 337, 4, 12, 36, [], 0), none, none, some (.bipush 30, 6, 0, 0, [], 30), none, some (.if_icmp .ge 23, 9, 29, 0, [], 0), none, none, some (.aload_n 0, 10, 0, 0, [], 0), some (.getfield 68, 13, 12, 35, [], 0), none, none, some (.aload_n 0, 14, 0, 0, [], 0), some (.getfield 337, 17, 12, 36, [], 0), none],
  [none, some (.iload_n 1, 18, 1, 0, [], 0), some (.iastore, 19, 0, 0, [], 0), some (.aload_n 0, 20, 0, 0, [], 0), some (.dup, 21, 0, 0, [], 0), some (.getfield 337, 24, 12, 36, [], 0), none, none, some (.iconst 1, 25, 0, 0, [], 1), some (.iadd, 26, 0, 0, [], 0), some (.putfield 337, 29, 12, 36, [], 0), none, none, some (.return_, 30, 0, 0, [], 0)]])
/-- BrokenLoavesModel.hailsAs(II)I -/
def mm_279 : am_M := (⟨"BrokenLoavesModel", "hailsAs", "(II)I"⟩, prog_14_method_118_code, 3, (Option.some FieldType.int), [[some (.iload_n 1, 1, 1, 0, [], 0), some (.iconst 1, 2, 0, 0, [], 1), some (.if_icmp .ne 18, 5, 20, 0, [], 0), none, none, some (.aload_n 0, 6, 0, 0, [], 0), some (.bipush 20, 8, 0, 0, [], 20), none, some (.invokevirtual 340, 11, 1, 278, [1, 12], 0), none, none, some (.aload_n 0, 12, 0, 0, [], 0), some (.iconst 0, 13, 0, 0, [], 0), some (.iload_n 2, 14, 2, 0, [], 0), some (.iconst 2, 15, 0, 0, [], 2), some (.iadd, 16, 0, 0, [], 0)],
  [some (.invokevirtual 343, 19, 1, 279, [2, 12], 0), none, none, some (.ireturn, 20, 0, 0, [], 0), some (.iload_n 1, 21, 1, 0, [], 0), some (.iconst 3, 22, 0, 0, [], 3), some (.if_icmp .ne 19, 25, 41, 0, [], 0), none, none, some (.aload_n 0, 26, 0, 0, [], 0), some (.bipush 50, 28, 0, 0, [], 50), none, some (.invokevirtual 340, 31, 1, 278, [1, 12], 0), none, none, some (.aload_n 0, 32, 0, 0, [], 0)],
  [some (.iconst 2, 33, 0, 0, [], 2), some (.iload_n 2, 34, 2, 0, [], 0), some (.invokevirtual 343, 37, 1, 279, [2, 12], 0), none, none, some (.bipush 7, 39, 0, 0, [], 7), none, some (.isub, 40, 0, 0, [], 0), some (.ireturn, 41, 0, 0, [], 0), some (.aload_n 0, 42, 0, 0, [], 0), some (.bipush 10, 44, 0, 0, [], 10), none, some (.invokevirtual 340, 47, 1, 278, [1, 12], 0), none, none, some (.iload_n 2, 48, 2, 0, [], 0)],
  [some (.aload_n 0, 49, 0, 0, [], 0), some (.getfield 346, 52, 12, 37, [], 0), none, none, some (.ixor, 53, 0, 0, [], 0), some (.ireturn, 54, 0, 0, [], 0)]])
/-- BrokenLoavesModel.sharesAs(II)I -/
def mm_280 : am_M := (⟨"BrokenLoavesModel", "sharesAs", "(II)I"⟩, prog_14_method_119_code, 3, (Option.some FieldType.int), [[some (.iload_n 1, 1, 1, 0, [], 0), some (.iconst 2, 2, 0, 0, [], 2), some (.if_icmp .eq 8, 5, 10, 0, [], 0), none, none, some (.iload_n 1, 6, 1, 0, [], 0), some (.iconst 3, 7, 0, 0, [], 3), some (.if_icmp .ne 26, 10, 33, 0, [], 0), none, none, some (.aload_n 0, 11, 0, 0, [], 0), some (.bipush 30, 13, 0, 0, [], 30), none, some (.invokevirtual 340, 16, 1, 278, [1, 12], 0), none, none],
  [some (.aload_n 0, 17, 0, 0, [], 0), some (.iconst 0, 18, 0, 0, [], 0), some (.iload_n 2, 19, 2, 0, [], 0), some (.invokevirtual 349, 22, 1, 280, [2, 12], 0), none, none, some (.aload_n 0, 23, 0, 0, [], 0), some (.aload_n 0, 24, 0, 0, [], 0), some (.getfield 346, 27, 12, 37, [], 0), none, none, some (.iconst 3, 28, 0, 0, [], 3), some (.invokevirtual 79, 31, 1, 167, [2, 12], 0), none, none, some (.iadd, 32, 0, 0, [], 0)],
  [some (.ireturn, 33, 0, 0, [], 0), some (.iload_n 1, 34, 1, 0, [], 0), some (.iconst 5, 35, 0, 0, [], 5), some (.if_icmp .ne 17, 38, 52, 0, [], 0), none, none, some (.aload_n 0, 39, 0, 0, [], 0), some (.bipush 60, 41, 0, 0, [], 60), none, some (.invokevirtual 340, 44, 1, 278, [1, 12], 0), none, none, some (.aload_n 0, 45, 0, 0, [], 0), some (.iconst 4, 46, 0, 0, [], 4), some (.iload_n 2, 47, 2, 0, [], 0), some (.invokevirtual 349, 50, 1, 280, [2, 12], 0)],
  [none, none, some (.ineg, 51, 0, 0, [], 0), some (.ireturn, 52, 0, 0, [], 0), some (.aload_n 0, 53, 0, 0, [], 0), some (.bipush 11, 55, 0, 0, [], 11), none, some (.invokevirtual 340, 58, 1, 278, [1, 12], 0), none, none, some (.aload_n 0, 59, 0, 0, [], 0), some (.aload_n 0, 60, 0, 0, [], 0), some (.aload_n 0, 61, 0, 0, [], 0), some (.getfield 346, 64, 12, 37, [], 0), none, none],
  [some (.iconst 0, 65, 0, 0, [], 0), some (.invokevirtual 79, 68, 1, 167, [2, 12], 0), none, none, some (.iload_n 2, 69, 2, 0, [], 0), some (.invokevirtual 343, 72, 1, 279, [2, 12], 0), none, none, some (.iconst 3, 73, 0, 0, [], 3), some (.imul, 74, 0, 0, [], 0), some (.ireturn, 75, 0, 0, [], 0)]])
/-- BrokenLoavesModel.weighsAs(II)I -/
def mm_281 : am_M := (⟨"BrokenLoavesModel", "weighsAs", "(II)I"⟩, prog_14_method_120_code, 4, (Option.some FieldType.int), [[some (.iload_n 1, 1, 1, 0, [], 0), some (.iconst 5, 2, 0, 0, [], 5), some (.if_icmp .ne 44, 5, 46, 0, [], 0), none, none, some (.aload_n 0, 6, 0, 0, [], 0), some (.bipush 61, 8, 0, 0, [], 61), none, some (.invokevirtual 340, 11, 1, 278, [1, 12], 0), none, none, some (.aload_n 0, 12, 0, 0, [], 0), some (.iconst 4, 13, 0, 0, [], 4), some (.iload_n 2, 14, 2, 0, [], 0), some (.invokevirtual 352, 17, 1, 281, [2, 12], 0), none],
  [none, some (.istore_n 3, 18, 3, 0, [], 0), some (.aload_n 0, 19, 0, 0, [], 0), some (.getfield 355, 22, 12, 38, [], 0), none, none, some (.ifCond .eq 7, 25, 29, 0, [], 0), none, none, some (.iconst 0, 26, 0, 0, [], 0), some (.goto 19, 29, 45, 0, [], 0), none, none, some (.iload_n 3, 30, 3, 0, [], 0), some (.aload_n 0, 31, 0, 0, [], 0), some (.iconst 5, 32, 0, 0, [], 5)],
  [some (.aload_n 0, 33, 0, 0, [], 0), some (.aload_n 0, 34, 0, 0, [], 0), some (.getfield 346, 37, 12, 37, [], 0), none, none, some (.iconst 3, 38, 0, 0, [], 3), some (.invokevirtual 79, 41, 1, 167, [2, 12], 0), none, none, some (.invokevirtual 343, 44, 1, 279, [2, 12], 0), none, none, some (.iadd, 45, 0, 0, [], 0), some (.ireturn, 46, 0, 0, [], 0), some (.iload_n 1, 47, 1, 0, [], 0), some (.iconst 4, 48, 0, 0, [], 4)],
  [some (.if_icmp .ne 18, 51, 66, 0, [], 0), none, none, some (.aload_n 0, 52, 0, 0, [], 0), some (.bipush 40, 54, 0, 0, [], 40), none, some (.invokevirtual 340, 57, 1, 278, [1, 12], 0), none, none, some (.aload_n 0, 58, 0, 0, [], 0), some (.iconst 0, 59, 0, 0, [], 0), some (.iload_n 2, 60, 2, 0, [], 0), some (.invokevirtual 352, 63, 1, 281, [2, 12], 0), none, none, some (.iconst 2, 64, 0, 0, [], 2)],
  [some (.imul, 65, 0, 0, [], 0), some (.ireturn, 66, 0, 0, [], 0), some (.aload_n 0, 67, 0, 0, [], 0), some (.bipush 12, 69, 0, 0, [], 12), none, some (.invokevirtual 340, 72, 1, 278, [1, 12], 0), none, none, some (.aload_n 0, 73, 0, 0, [], 0), some (.aload_n 0, 74, 0, 0, [], 0), some (.getfield 346, 77, 12, 37, [], 0), none, none, some (.iconst 3, 78, 0, 0, [], 3), some (.invokevirtual 79, 81, 1, 167, [2, 12], 0), none],
  [none, some (.iconst 1, 82, 0, 0, [], 1), some (.iadd, 83, 0, 0, [], 0), some (.aload_n 0, 84, 0, 0, [], 0), some (.getfield 346, 87, 12, 37, [], 0), none, none, some (.isub, 88, 0, 0, [], 0), some (.istore_n 3, 89, 3, 0, [], 0), some (.aload_n 0, 90, 0, 0, [], 0), some (.aload_n 0, 91, 0, 0, [], 0), some (.getfield 355, 94, 12, 38, [], 0), none, none, some (.ifCond .ne 7, 97, 101, 0, [], 0), none],
  [none, some (.iload_n 3, 98, 3, 0, [], 0), some (.ifCond .ne 7, 101, 105, 0, [], 0), none, none, some (.iconst 1, 102, 0, 0, [], 1), some (.goto 4, 105, 106, 0, [], 0), none, none, some (.iconst 0, 106, 0, 0, [], 0), some (.putfield 355, 109, 12, 38, [], 0), none, none, some (.aload_n 0, 110, 0, 0, [], 0), some (.getfield 355, 113, 12, 38, [], 0), none],
  [none, some (.ifCond .eq 7, 116, 120, 0, [], 0), none, none, some (.iconst 0, 117, 0, 0, [], 0), some (.goto 6, 120, 123, 0, [], 0), none, none, some (.iload_n 2, 121, 2, 0, [], 0), some (.iload_n 3, 122, 3, 0, [], 0), some (.irem, 123, 0, 0, [], 0), some (.ireturn, 124, 0, 0, [], 0)]])
/-- BrokenLoavesModel.blessesAs(II)I -/
def mm_282 : am_M := (⟨"BrokenLoavesModel", "blessesAs", "(II)I"⟩, prog_14_method_121_code, 4, (Option.some FieldType.int), [[some (.iload_n 1, 1, 1, 0, [], 0), some (.iconst 3, 2, 0, 0, [], 3), some (.if_icmp .ne 36, 5, 38, 0, [], 0), none, none, some (.aload_n 0, 6, 0, 0, [], 0), some (.bipush 51, 8, 0, 0, [], 51), none, some (.invokevirtual 340, 11, 1, 278, [1, 12], 0), none, none, some (.aload_n 0, 12, 0, 0, [], 0), some (.iconst 2, 13, 0, 0, [], 2), some (.iload_n 2, 14, 2, 0, [], 0), some (.invokevirtual 359, 17, 1, 282, [2, 12], 0), none],
  [none, some (.istore_n 3, 18, 3, 0, [], 0), some (.aload_n 0, 19, 0, 0, [], 0), some (.getfield 355, 22, 12, 38, [], 0), none, none, some (.ifCond .eq 7, 25, 29, 0, [], 0), none, none, some (.iconst 0, 26, 0, 0, [], 0), some (.goto 11, 29, 37, 0, [], 0), none, none, some (.iload_n 3, 30, 3, 0, [], 0), some (.aload_n 0, 31, 0, 0, [], 0), some (.iconst 3, 32, 0, 0, [], 3)],
  [some (.iconst 1, 33, 0, 0, [], 1), some (.invokevirtual 349, 36, 1, 280, [2, 12], 0), none, none, some (.ixor, 37, 0, 0, [], 0), some (.ireturn, 38, 0, 0, [], 0), some (.aload_n 0, 39, 0, 0, [], 0), some (.bipush 13, 41, 0, 0, [], 13), none, some (.invokevirtual 340, 44, 1, 278, [1, 12], 0), none, none, some (.aload_n 0, 45, 0, 0, [], 0), some (.aload_n 0, 46, 0, 0, [], 0), some (.aload_n 0, 47, 0, 0, [], 0), some (.getfield 346, 50, 12, 37, [], 0)],
  [none, none, some (.iconst 0, 51, 0, 0, [], 0), some (.invokevirtual 79, 54, 1, 167, [2, 12], 0), none, none, some (.iload_n 2, 55, 2, 0, [], 0), some (.invokevirtual 349, 58, 1, 280, [2, 12], 0), none, none, some (.istore_n 3, 59, 3, 0, [], 0), some (.iload_n 3, 60, 3, 0, [], 0), some (.aload_n 0, 61, 0, 0, [], 0), some (.aload_n 0, 62, 0, 0, [], 0), some (.aload_n 0, 63, 0, 0, [], 0), some (.getfield 346, 66, 12, 37, [], 0)],
  [none, none, some (.iconst 0, 67, 0, 0, [], 0), some (.invokevirtual 79, 70, 1, 167, [2, 12], 0), none, none, some (.iload_n 2, 71, 2, 0, [], 0), some (.invokevirtual 352, 74, 1, 281, [2, 12], 0), none, none, some (.isub, 75, 0, 0, [], 0), some (.ireturn, 76, 0, 0, [], 0)]])
/-- BrokenLoavesModel.act(III)I -/
def mm_283 : am_M := (⟨"BrokenLoavesModel", "act", "(III)I"⟩, prog_14_method_122_code, 6, (Option.some FieldType.int), [[some (.aload_n 0, 1, 0, 0, [], 0), some (.iconst 0, 2, 0, 0, [], 0), some (.putfield 337, 5, 12, 36, [], 0), none, none, some (.iload_n 1, 6, 1, 0, [], 0), some (.invokestatic 322, 9, 0, 266, [1], 0), none, none, some (.ifCond .eq 20, 12, 29, 0, [], 0), none, none, some (.iload_n 2, 13, 2, 0, [], 0), some (.iconst 0, 14, 0, 0, [], 0), some (.iconst 3, 15, 0, 0, [], 3), some (.invokestatic 71, 18, 0, 163, [3], 0)],
  [none, none, some (.ifCond .eq 11, 21, 29, 0, [], 0), none, none, some (.aload_n 0, 22, 0, 0, [], 0), some (.iload_n 1, 23, 1, 0, [], 0), some (.invokevirtual 334, 26, 1, 276, [1, 12], 0), none, none, some (.ifCond .eq 5, 29, 31, 0, [], 0), none, none, some (.iconst 0, 30, 0, 0, [], 0), some (.ireturn, 31, 0, 0, [], 0), some (.aload_n 0, 32, 0, 0, [], 0)],
  [some (.aload_n 0, 33, 0, 0, [], 0), some (.getfield 65, 36, 12, 34, [], 0), none, none, some (.iload_n 1, 37, 1, 0, [], 0), some (.iaload, 38, 0, 0, [], 0), some (.putfield 346, 41, 12, 37, [], 0), none, none, some (.aload_n 0, 42, 0, 0, [], 0), some (.iconst 0, 43, 0, 0, [], 0), some (.putfield 355, 46, 12, 38, [], 0), none, none, some (.aload_n 0, 47, 0, 0, [], 0), some (.aload_n 0, 48, 0, 0, [], 0)],
  [some (.getfield 346, 51, 12, 37, [], 0), none, none, some (.iconst 0, 52, 0, 0, [], 0), some (.invokevirtual 79, 55, 1, 167, [2, 12], 0), none, none, some (.istore 4, 57, 4, 0, [], 0), none, some (.iload_n 2, 58, 2, 0, [], 0), some (.ifCond .ne 13, 61, 71, 0, [], 0), none, none, some (.aload_n 0, 62, 0, 0, [], 0), some (.iload 4, 64, 4, 0, [], 0), none],
  [some (.iload_n 3, 65, 3, 0, [], 0), some (.invokevirtual 343, 68, 1, 279, [2, 12], 0), none, none, some (.goto 40, 71, 108, 0, [], 0), none, none, some (.iload_n 2, 72, 2, 0, [], 0), some (.iconst 1, 73, 0, 0, [], 1), some (.if_icmp .ne 13, 76, 86, 0, [], 0), none, none, some (.aload_n 0, 77, 0, 0, [], 0), some (.iload 4, 79, 4, 0, [], 0), none, some (.iload_n 3, 80, 3, 0, [], 0)],
  [some (.invokevirtual 349, 83, 1, 280, [2, 12], 0), none, none, some (.goto 25, 86, 108, 0, [], 0), none, none, some (.iload_n 2, 87, 2, 0, [], 0), some (.iconst 2, 88, 0, 0, [], 2), some (.if_icmp .ne 13, 91, 101, 0, [], 0), none, none, some (.aload_n 0, 92, 0, 0, [], 0), some (.iload 4, 94, 4, 0, [], 0), none, some (.iload_n 3, 95, 3, 0, [], 0), some (.invokevirtual 352, 98, 1, 281, [2, 12], 0)],
  [none, none, some (.goto 10, 101, 108, 0, [], 0), none, none, some (.aload_n 0, 102, 0, 0, [], 0), some (.iload 4, 104, 4, 0, [], 0), none, some (.iload_n 3, 105, 3, 0, [], 0), some (.invokevirtual 359, 108, 1, 282, [2, 12], 0), none, none, some (.istore 5, 110, 5, 0, [], 0), none, some (.aload_n 0, 111, 0, 0, [], 0), some (.getfield 355, 114, 12, 38, [], 0)],
  [none, none, some (.ifCond .eq 8, 117, 122, 0, [], 0), none, none, some (.bipush (-15), 119, 0, 0, [], (-15)), none, some (.goto 5, 122, 124, 0, [], 0), none, none, some (.iload 5, 124, 5, 0, [], 0), none, some (.ireturn, 125, 0, 0, [], 0)]])
/-- BrokenLoavesModel.trace(I)I -/
def mm_284 : am_M := (⟨"BrokenLoavesModel", "trace", "(I)I"⟩, prog_14_method_123_code, 2, (Option.some FieldType.int), [[some (.iload_n 1, 1, 1, 0, [], 0), some (.iconst 0, 2, 0, 0, [], 0), some (.aload_n 0, 3, 0, 0, [], 0), some (.getfield 337, 6, 12, 36, [], 0), none, none, some (.iconst 1, 7, 0, 0, [], 1), some (.isub, 8, 0, 0, [], 0), some (.invokestatic 71, 11, 0, 163, [3], 0), none, none, some (.ifCond .eq 12, 14, 23, 0, [], 0), none, none, some (.aload_n 0, 15, 0, 0, [], 0), some (.getfield 68, 18, 12, 35, [], 0)],
  [none, none, some (.iload_n 1, 19, 1, 0, [], 0), some (.iaload, 20, 0, 0, [], 0), some (.goto 5, 23, 25, 0, [], 0), none, none, some (.bipush (-3), 25, 0, 0, [], (-3)), none, some (.ireturn, 26, 0, 0, [], 0)]])
/-- BrokenLoavesModel.ones(I)I -/
def mm_285 : am_M := (⟨"BrokenLoavesModel", "ones", "(I)I"⟩, prog_14_method_124_code, 3, (Option.some FieldType.int), [[some (.iconst 0, 1, 0, 0, [], 0), some (.istore_n 1, 2, 1, 0, [], 0), some (.iload_n 0, 3, 0, 0, [], 0), some (.istore_n 2, 4, 2, 0, [], 0), some (.iload_n 2, 5, 2, 0, [], 0), some (.ifCond .eq 15, 8, 20, 0, [], 0), none, none, some (.iinc 1 1, 11, 1, 0, [], 1), none, none, some (.iload_n 2, 12, 2, 0, [], 0), some (.iload_n 2, 13, 2, 0, [], 0), some (.iconst 1, 14, 0, 0, [], 1), some (.isub, 15, 0, 0, [], 0), some (.iand, 16, 0, 0, [], 0)],
  [some (.istore_n 2, 17, 2, 0, [], 0), some (.goto (-13), 20, 4, 0, [], 0), none, none, some (.iload_n 1, 21, 1, 0, [], 0), some (.ireturn, 22, 0, 0, [], 0)]])
/-- BrokenLoavesModel.many(I)I -/
def mm_286 : am_M := (⟨"BrokenLoavesModel", "many", "(I)I"⟩, prog_14_method_125_code, 2, (Option.some FieldType.int), [[some (.iload_n 1, 1, 1, 0, [], 0), some (.tableswitch 91 0 6 #[43, 51, 59, 68, 76, 81, 86], 44, 92, 0, [44, 52, 60, 69, 77, 82, 87], 0), none, none, none, none, none, none, none, none, none, none, none, none, none, none],
  [none, none, none, none, none, none, none, none, none, none, none, none, none, none, none, none],
  [none, none, none, none, none, none, none, none, none, none, none, none, some (.aload_n 0, 45, 0, 0, [], 0), some (.getfield 9, 48, 12, 0, [], 0), none, none],
  [some (.bipush 6, 50, 0, 0, [], 6), none, some (.iaload, 51, 0, 0, [], 0), some (.ireturn, 52, 0, 0, [], 0), some (.aload_n 0, 53, 0, 0, [], 0), some (.getfield 9, 56, 12, 0, [], 0), none, none, some (.bipush 7, 58, 0, 0, [], 7), none, some (.iaload, 59, 0, 0, [], 0), some (.ireturn, 60, 0, 0, [], 0), some (.aload_n 0, 61, 0, 0, [], 0), some (.iconst 5, 62, 0, 0, [], 5), some (.invokevirtual 222, 65, 1, 218, [1, 12], 0), none],
  [none, some (.invokestatic 362, 68, 0, 285, [1], 0), none, none, some (.ireturn, 69, 0, 0, [], 0), some (.aload_n 0, 70, 0, 0, [], 0), some (.getfield 9, 73, 12, 0, [], 0), none, none, some (.bipush 8, 75, 0, 0, [], 8), none, some (.iaload, 76, 0, 0, [], 0), some (.ireturn, 77, 0, 0, [], 0), some (.aload_n 0, 78, 0, 0, [], 0), some (.getfield 313, 81, 12, 29, [], 0), none],
  [none, some (.ireturn, 82, 0, 0, [], 0), some (.aload_n 0, 83, 0, 0, [], 0), some (.getfield 106, 86, 12, 6, [], 0), none, none, some (.ireturn, 87, 0, 0, [], 0), some (.aload_n 0, 88, 0, 0, [], 0), some (.getfield 337, 91, 12, 36, [], 0), none, none, some (.ireturn, 92, 0, 0, [], 0), some (.iconst (-1), 93, 0, 0, [], (-1)), some (.ireturn, 94, 0, 0, [], 0)]])
/-- BrokenLoavesModel.keep()I -/
def mm_287 : am_M := (⟨"BrokenLoavesModel", "keep", "()I"⟩, prog_14_method_126_code, 2, (Option.some FieldType.int), [[some (.iconst 0, 1, 0, 0, [], 0), some (.istore_n 1, 2, 1, 0, [], 0), some (.iload_n 1, 3, 1, 0, [], 0), some (.sipush 322, 6, 0, 0, [], 322), none, none, some (.if_icmp .ge 21, 9, 27, 0, [], 0), none, none, some (.aload_n 0, 10, 0, 0, [], 0), some (.getfield 13, 13, 12, 1, [], 0), none, none, some (.iload_n 1, 14, 1, 0, [], 0), some (.aload_n 0, 15, 0, 0, [], 0), some (.getfield 9, 18, 12, 0, [], 0)],
  [none, none, some (.iload_n 1, 19, 1, 0, [], 0), some (.iaload, 20, 0, 0, [], 0), some (.iastore, 21, 0, 0, [], 0), some (.iinc 1 1, 24, 1, 0, [], 1), none, none, some (.goto (-22), 27, 2, 0, [], 0), none, none, some (.aload_n 0, 28, 0, 0, [], 0), some (.iconst 1, 29, 0, 0, [], 1), some (.putfield 365, 32, 12, 3, [], 0), none, none],
  [some (.iconst 1, 33, 0, 0, [], 1), some (.ireturn, 34, 0, 0, [], 0)]])
/-- BrokenLoavesModel.again()I -/
def mm_288 : am_M := (⟨"BrokenLoavesModel", "again", "()I"⟩, prog_14_method_127_code, 2, (Option.some FieldType.int), [[some (.aload_n 0, 1, 0, 0, [], 0), some (.getfield 365, 4, 12, 3, [], 0), none, none, some (.ifCond .ne 6, 7, 10, 0, [], 0), none, none, some (.bipush (-3), 9, 0, 0, [], (-3)), none, some (.ireturn, 10, 0, 0, [], 0), some (.iconst 0, 11, 0, 0, [], 0), some (.istore_n 1, 12, 1, 0, [], 0), some (.iload_n 1, 13, 1, 0, [], 0), some (.sipush 322, 16, 0, 0, [], 322), none, none],
  [some (.if_icmp .ge 21, 19, 37, 0, [], 0), none, none, some (.aload_n 0, 20, 0, 0, [], 0), some (.getfield 9, 23, 12, 0, [], 0), none, none, some (.iload_n 1, 24, 1, 0, [], 0), some (.aload_n 0, 25, 0, 0, [], 0), some (.getfield 13, 28, 12, 1, [], 0), none, none, some (.iload_n 1, 29, 1, 0, [], 0), some (.iaload, 30, 0, 0, [], 0), some (.iastore, 31, 0, 0, [], 0), some (.iinc 1 1, 34, 1, 0, [], 1)],
  [none, none, some (.goto (-22), 37, 12, 0, [], 0), none, none, some (.aload_n 0, 38, 0, 0, [], 0), some (.getfield 9, 41, 12, 0, [], 0), none, none, some (.bipush 6, 43, 0, 0, [], 6), none, some (.iaload, 44, 0, 0, [], 0), some (.ireturn, 45, 0, 0, [], 0)]])
set_option maxRecDepth 100000 in
/-- BrokenLoavesLaw.law([I)Z -/
def mm_289 : am_M := (⟨"BrokenLoavesLaw", "law", "([I)Z"⟩, code, 4, ret, [[none, none, none, some (.dup, 4, 0, 0, [], 0), none, none, none, some (.astore_n 1, 8, 1, 0, [], 0), none, none, none, some (.dup, 12, 0, 0, [], 0), none, none, none, some (.astore_n 2, 16, 2, 0, [], 0)],
  [some (.iconst 0, 17, 0, 0, [], 0), some (.istore_n 3, 18, 3, 0, [], 0), some (.iload_n 3, 19, 3, 0, [], 0), some (.aload_n 0, 20, 0, 0, [], 0), some (.arraylength, 21, 0, 0, [], 0), some (.iconst 5, 22, 0, 0, [], 5), some (.isub, 23, 0, 0, [], 0), some (.if_icmp .gt 1765, 26, 1788, 0, [], 0), none, none, some (.aload_n 0, 27, 0, 0, [], 0), some (.iload_n 3, 28, 3, 0, [], 0), some (.iaload, 29, 0, 0, [], 0), some (.bipush 63, 31, 0, 0, [], 63), none, some (.iand, 32, 0, 0, [], 0)],
  [some (.tableswitch 1750 0 51 #[224, 277, 310, 353, 386, 419, 462, 495, 528, 551, 564, 587, 650, 663, 676, 699, 722, 745, 768, 791, 814, 837, 870, 893, 926, 949, 982, 1015, 1038, 1061, 1114, 1127, 1150, 1163, 1186, 1199, 1232, 1255, 1288, 1331, 1344, 1387, 1430, 1473, 1516, 1559, 1602, 1635, 1678, 1701, 1724, 1737], 256, 1782, 0, [256, 309, 342, 385, 418, 451, 494, 527, 560, 583, 596, 619, 682, 695, 708, 731, 754, 777, 800, 823, 846, 869, 902, 925, 958, 981, 1014, 1047, 1070, 1093, 1146, 1159, 1182, 1195, 1218, 1231, 1264, 1287, 1320, 1363, 1376, 1419, 1462, 1505, 1548, 1591, 1634, 1667, 1710, 1733, 1756, 1769], 0), none, none, none, none, none, none, none, none, none, none, none, none, none, none, none],
  [none, none, none, none, none, none, none, none, none, none, none, none, none, none, none, none],
  [none, none, none, none, none, none, none, none, none, none, none, none, none, none, none, none],
  [none, none, none, none, none, none, none, none, none, none, none, none, none, none, none, none],
  [none, none, none, none, none, none, none, none, none, none, none, none, none, none, none, none],
  [none, none, none, none, none, none, none, none, none, none, none, none, none, none, none, none],
  [none, none, none, none, none, none, none, none, none, none, none, none, none, none, none, none],
  [none, none, none, none, none, none, none, none, none, none, none, none, none, none, none, none],
  [none, none, none, none, none, none, none, none, none, none, none, none, none, none, none, none],
  [none, none, none, none, none, none, none, none, none, none, none, none, none, none, none, none],
  [none, none, none, none, none, none, none, none, none, none, none, none, none, none, none, none],
  [none, none, none, none, none, none, none, none, none, none, none, none, none, none, none, none],
  [none, none, none, none, none, none, none, none, none, none, none, none, none, none, none, none],
  [none, none, none, none, none, none, none, none, none, none, none, none, none, none, none, none],
  [some (.aload_n 1, 257, 1, 0, [], 0), some (.aload_n 0, 258, 0, 0, [], 0), some (.iload_n 3, 259, 3, 0, [], 0), some (.iconst 1, 260, 0, 0, [], 1), some (.iadd, 261, 0, 0, [], 0), some (.iaload, 262, 0, 0, [], 0), some (.aload_n 0, 263, 0, 0, [], 0), some (.iload_n 3, 264, 3, 0, [], 0), some (.iconst 2, 265, 0, 0, [], 2), some (.iadd, 266, 0, 0, [], 0), some (.iaload, 267, 0, 0, [], 0), some (.aload_n 0, 268, 0, 0, [], 0), some (.iload_n 3, 269, 3, 0, [], 0), some (.iconst 3, 270, 0, 0, [], 3), some (.iadd, 271, 0, 0, [], 0), some (.iaload, 272, 0, 0, [], 0)],
  [some (.aload_n 0, 273, 0, 0, [], 0), some (.iload_n 3, 274, 3, 0, [], 0), some (.iconst 4, 275, 0, 0, [], 4), some (.iadd, 276, 0, 0, [], 0), some (.iaload, 277, 0, 0, [], 0), some (.invokevirtual 13, 280, 1, 91, [4, 11], 0), none, none, some (.aload_n 2, 281, 2, 0, [], 0), some (.aload_n 0, 282, 0, 0, [], 0), some (.iload_n 3, 283, 3, 0, [], 0), some (.iconst 1, 284, 0, 0, [], 1), some (.iadd, 285, 0, 0, [], 0), some (.iaload, 286, 0, 0, [], 0), some (.aload_n 0, 287, 0, 0, [], 0), some (.iload_n 3, 288, 3, 0, [], 0)],
  [some (.iconst 2, 289, 0, 0, [], 2), some (.iadd, 290, 0, 0, [], 0), some (.iaload, 291, 0, 0, [], 0), some (.aload_n 0, 292, 0, 0, [], 0), some (.iload_n 3, 293, 3, 0, [], 0), some (.iconst 3, 294, 0, 0, [], 3), some (.iadd, 295, 0, 0, [], 0), some (.iaload, 296, 0, 0, [], 0), some (.aload_n 0, 297, 0, 0, [], 0), some (.iload_n 3, 298, 3, 0, [], 0), some (.iconst 4, 299, 0, 0, [], 4), some (.iadd, 300, 0, 0, [], 0), some (.iaload, 301, 0, 0, [], 0), some (.invokevirtual 17, 304, 1, 208, [4, 12], 0), none, none],
  [some (.if_icmp .eq 1478, 307, 1782, 0, [], 0), none, none, some (.iconst 0, 308, 0, 0, [], 0), some (.ireturn, 309, 2, 0, [], 0), some (.aload_n 1, 310, 1, 0, [], 0), some (.aload_n 0, 311, 0, 0, [], 0), some (.iload_n 3, 312, 3, 0, [], 0), some (.iconst 1, 313, 0, 0, [], 1), some (.iadd, 314, 0, 0, [], 0), some (.iaload, 315, 0, 0, [], 0), some (.aload_n 0, 316, 0, 0, [], 0), some (.iload_n 3, 317, 3, 0, [], 0), some (.iconst 2, 318, 0, 0, [], 2), some (.iadd, 319, 0, 0, [], 0), some (.iaload, 320, 0, 0, [], 0)],
  [some (.invokevirtual 18, 323, 1, 92, [2, 11], 0), none, none, some (.aload_n 2, 324, 2, 0, [], 0), some (.aload_n 0, 325, 0, 0, [], 0), some (.iload_n 3, 326, 3, 0, [], 0), some (.iconst 1, 327, 0, 0, [], 1), some (.iadd, 328, 0, 0, [], 0), some (.iaload, 329, 0, 0, [], 0), some (.aload_n 0, 330, 0, 0, [], 0), some (.iload_n 3, 331, 3, 0, [], 0), some (.iconst 2, 332, 0, 0, [], 2), some (.iadd, 333, 0, 0, [], 0), some (.iaload, 334, 0, 0, [], 0), some (.invokevirtual 22, 337, 1, 209, [2, 12], 0), none],
  [none, some (.if_icmp .eq 1445, 340, 1782, 0, [], 0), none, none, some (.iconst 0, 341, 0, 0, [], 0), some (.ireturn, 342, 2, 0, [], 0), some (.aload_n 1, 343, 1, 0, [], 0), some (.aload_n 0, 344, 0, 0, [], 0), some (.iload_n 3, 345, 3, 0, [], 0), some (.iconst 1, 346, 0, 0, [], 1), some (.iadd, 347, 0, 0, [], 0), some (.iaload, 348, 0, 0, [], 0), some (.aload_n 0, 349, 0, 0, [], 0), some (.iload_n 3, 350, 3, 0, [], 0), some (.iconst 2, 351, 0, 0, [], 2), some (.iadd, 352, 0, 0, [], 0)],
  [some (.iaload, 353, 0, 0, [], 0), some (.aload_n 0, 354, 0, 0, [], 0), some (.iload_n 3, 355, 3, 0, [], 0), some (.iconst 3, 356, 0, 0, [], 3), some (.iadd, 357, 0, 0, [], 0), some (.iaload, 358, 0, 0, [], 0), some (.invokevirtual 23, 361, 1, 93, [3, 11], 0), none, none, some (.aload_n 2, 362, 2, 0, [], 0), some (.aload_n 0, 363, 0, 0, [], 0), some (.iload_n 3, 364, 3, 0, [], 0), some (.iconst 1, 365, 0, 0, [], 1), some (.iadd, 366, 0, 0, [], 0), some (.iaload, 367, 0, 0, [], 0), some (.aload_n 0, 368, 0, 0, [], 0)],
  [some (.iload_n 3, 369, 3, 0, [], 0), some (.iconst 2, 370, 0, 0, [], 2), some (.iadd, 371, 0, 0, [], 0), some (.iaload, 372, 0, 0, [], 0), some (.aload_n 0, 373, 0, 0, [], 0), some (.iload_n 3, 374, 3, 0, [], 0), some (.iconst 3, 375, 0, 0, [], 3), some (.iadd, 376, 0, 0, [], 0), some (.iaload, 377, 0, 0, [], 0), some (.invokevirtual 27, 380, 1, 210, [3, 12], 0), none, none, some (.if_icmp .eq 1402, 383, 1782, 0, [], 0), none, none, some (.iconst 0, 384, 0, 0, [], 0)],
  [some (.ireturn, 385, 2, 0, [], 0), some (.aload_n 1, 386, 1, 0, [], 0), some (.aload_n 0, 387, 0, 0, [], 0), some (.iload_n 3, 388, 3, 0, [], 0), some (.iconst 1, 389, 0, 0, [], 1), some (.iadd, 390, 0, 0, [], 0), some (.iaload, 391, 0, 0, [], 0), some (.aload_n 0, 392, 0, 0, [], 0), some (.iload_n 3, 393, 3, 0, [], 0), some (.iconst 2, 394, 0, 0, [], 2), some (.iadd, 395, 0, 0, [], 0), some (.iaload, 396, 0, 0, [], 0), some (.invokevirtual 28, 399, 1, 95, [2, 11], 0), none, none, some (.aload_n 2, 400, 2, 0, [], 0)],
  [some (.aload_n 0, 401, 0, 0, [], 0), some (.iload_n 3, 402, 3, 0, [], 0), some (.iconst 1, 403, 0, 0, [], 1), some (.iadd, 404, 0, 0, [], 0), some (.iaload, 405, 0, 0, [], 0), some (.aload_n 0, 406, 0, 0, [], 0), some (.iload_n 3, 407, 3, 0, [], 0), some (.iconst 2, 408, 0, 0, [], 2), some (.iadd, 409, 0, 0, [], 0), some (.iaload, 410, 0, 0, [], 0), some (.invokevirtual 31, 413, 1, 211, [2, 12], 0), none, none, some (.if_icmp .eq 1369, 416, 1782, 0, [], 0), none, none],
  [some (.iconst 0, 417, 0, 0, [], 0), some (.ireturn, 418, 2, 0, [], 0), some (.aload_n 1, 419, 1, 0, [], 0), some (.aload_n 0, 420, 0, 0, [], 0), some (.iload_n 3, 421, 3, 0, [], 0), some (.iconst 1, 422, 0, 0, [], 1), some (.iadd, 423, 0, 0, [], 0), some (.iaload, 424, 0, 0, [], 0), some (.aload_n 0, 425, 0, 0, [], 0), some (.iload_n 3, 426, 3, 0, [], 0), some (.iconst 2, 427, 0, 0, [], 2), some (.iadd, 428, 0, 0, [], 0), some (.iaload, 429, 0, 0, [], 0), some (.invokevirtual 32, 432, 1, 96, [2, 11], 0), none, none],
  [some (.aload_n 2, 433, 2, 0, [], 0), some (.aload_n 0, 434, 0, 0, [], 0), some (.iload_n 3, 435, 3, 0, [], 0), some (.iconst 1, 436, 0, 0, [], 1), some (.iadd, 437, 0, 0, [], 0), some (.iaload, 438, 0, 0, [], 0), some (.aload_n 0, 439, 0, 0, [], 0), some (.iload_n 3, 440, 3, 0, [], 0), some (.iconst 2, 441, 0, 0, [], 2), some (.iadd, 442, 0, 0, [], 0), some (.iaload, 443, 0, 0, [], 0), some (.invokevirtual 35, 446, 1, 212, [2, 12], 0), none, none, some (.if_icmp .eq 1336, 449, 1782, 0, [], 0), none],
  [none, some (.iconst 0, 450, 0, 0, [], 0), some (.ireturn, 451, 2, 0, [], 0), some (.aload_n 1, 452, 1, 0, [], 0), some (.aload_n 0, 453, 0, 0, [], 0), some (.iload_n 3, 454, 3, 0, [], 0), some (.iconst 1, 455, 0, 0, [], 1), some (.iadd, 456, 0, 0, [], 0), some (.iaload, 457, 0, 0, [], 0), some (.aload_n 0, 458, 0, 0, [], 0), some (.iload_n 3, 459, 3, 0, [], 0), some (.iconst 2, 460, 0, 0, [], 2), some (.iadd, 461, 0, 0, [], 0), some (.iaload, 462, 0, 0, [], 0), some (.aload_n 0, 463, 0, 0, [], 0), some (.iload_n 3, 464, 3, 0, [], 0)],
  [some (.iconst 3, 465, 0, 0, [], 3), some (.iadd, 466, 0, 0, [], 0), some (.iaload, 467, 0, 0, [], 0), some (.invokevirtual 36, 470, 1, 97, [3, 11], 0), none, none, some (.aload_n 2, 471, 2, 0, [], 0), some (.aload_n 0, 472, 0, 0, [], 0), some (.iload_n 3, 473, 3, 0, [], 0), some (.iconst 1, 474, 0, 0, [], 1), some (.iadd, 475, 0, 0, [], 0), some (.iaload, 476, 0, 0, [], 0), some (.aload_n 0, 477, 0, 0, [], 0), some (.iload_n 3, 478, 3, 0, [], 0), some (.iconst 2, 479, 0, 0, [], 2), some (.iadd, 480, 0, 0, [], 0)],
  [some (.iaload, 481, 0, 0, [], 0), some (.aload_n 0, 482, 0, 0, [], 0), some (.iload_n 3, 483, 3, 0, [], 0), some (.iconst 3, 484, 0, 0, [], 3), some (.iadd, 485, 0, 0, [], 0), some (.iaload, 486, 0, 0, [], 0), some (.invokevirtual 39, 489, 1, 213, [3, 12], 0), none, none, some (.if_icmp .eq 1293, 492, 1782, 0, [], 0), none, none, some (.iconst 0, 493, 0, 0, [], 0), some (.ireturn, 494, 2, 0, [], 0), some (.aload_n 1, 495, 1, 0, [], 0), some (.aload_n 0, 496, 0, 0, [], 0)],
  [some (.iload_n 3, 497, 3, 0, [], 0), some (.iconst 1, 498, 0, 0, [], 1), some (.iadd, 499, 0, 0, [], 0), some (.iaload, 500, 0, 0, [], 0), some (.aload_n 0, 501, 0, 0, [], 0), some (.iload_n 3, 502, 3, 0, [], 0), some (.iconst 2, 503, 0, 0, [], 2), some (.iadd, 504, 0, 0, [], 0), some (.iaload, 505, 0, 0, [], 0), some (.invokevirtual 40, 508, 1, 98, [2, 11], 0), none, none, some (.aload_n 2, 509, 2, 0, [], 0), some (.aload_n 0, 510, 0, 0, [], 0), some (.iload_n 3, 511, 3, 0, [], 0), some (.iconst 1, 512, 0, 0, [], 1)],
  [some (.iadd, 513, 0, 0, [], 0), some (.iaload, 514, 0, 0, [], 0), some (.aload_n 0, 515, 0, 0, [], 0), some (.iload_n 3, 516, 3, 0, [], 0), some (.iconst 2, 517, 0, 0, [], 2), some (.iadd, 518, 0, 0, [], 0), some (.iaload, 519, 0, 0, [], 0), some (.invokevirtual 43, 522, 1, 214, [2, 12], 0), none, none, some (.if_icmp .eq 1260, 525, 1782, 0, [], 0), none, none, some (.iconst 0, 526, 0, 0, [], 0), some (.ireturn, 527, 2, 0, [], 0), some (.aload_n 1, 528, 1, 0, [], 0)],
  [some (.aload_n 0, 529, 0, 0, [], 0), some (.iload_n 3, 530, 3, 0, [], 0), some (.iconst 1, 531, 0, 0, [], 1), some (.iadd, 532, 0, 0, [], 0), some (.iaload, 533, 0, 0, [], 0), some (.aload_n 0, 534, 0, 0, [], 0), some (.iload_n 3, 535, 3, 0, [], 0), some (.iconst 2, 536, 0, 0, [], 2), some (.iadd, 537, 0, 0, [], 0), some (.iaload, 538, 0, 0, [], 0), some (.invokevirtual 44, 541, 1, 99, [2, 11], 0), none, none, some (.aload_n 2, 542, 2, 0, [], 0), some (.aload_n 0, 543, 0, 0, [], 0), some (.iload_n 3, 544, 3, 0, [], 0)],
  [some (.iconst 1, 545, 0, 0, [], 1), some (.iadd, 546, 0, 0, [], 0), some (.iaload, 547, 0, 0, [], 0), some (.aload_n 0, 548, 0, 0, [], 0), some (.iload_n 3, 549, 3, 0, [], 0), some (.iconst 2, 550, 0, 0, [], 2), some (.iadd, 551, 0, 0, [], 0), some (.iaload, 552, 0, 0, [], 0), some (.invokevirtual 47, 555, 1, 215, [2, 12], 0), none, none, some (.if_icmp .eq 1227, 558, 1782, 0, [], 0), none, none, some (.iconst 0, 559, 0, 0, [], 0), some (.ireturn, 560, 2, 0, [], 0)],
  [some (.aload_n 1, 561, 1, 0, [], 0), some (.aload_n 0, 562, 0, 0, [], 0), some (.iload_n 3, 563, 3, 0, [], 0), some (.iconst 1, 564, 0, 0, [], 1), some (.iadd, 565, 0, 0, [], 0), some (.iaload, 566, 0, 0, [], 0), some (.invokevirtual 48, 569, 1, 100, [1, 11], 0), none, none, some (.aload_n 2, 570, 2, 0, [], 0), some (.aload_n 0, 571, 0, 0, [], 0), some (.iload_n 3, 572, 3, 0, [], 0), some (.iconst 1, 573, 0, 0, [], 1), some (.iadd, 574, 0, 0, [], 0), some (.iaload, 575, 0, 0, [], 0), some (.invokevirtual 52, 578, 1, 216, [1, 12], 0)],
  [none, none, some (.if_icmp .eq 1204, 581, 1782, 0, [], 0), none, none, some (.iconst 0, 582, 0, 0, [], 0), some (.ireturn, 583, 2, 0, [], 0), some (.aload_n 1, 584, 1, 0, [], 0), some (.invokevirtual 53, 587, 1, 101, [0, 11], 0), none, none, some (.aload_n 2, 588, 2, 0, [], 0), some (.invokevirtual 57, 591, 1, 217, [0, 12], 0), none, none, some (.if_icmp .eq 1191, 594, 1782, 0, [], 0)],
  [none, none, some (.iconst 0, 595, 0, 0, [], 0), some (.ireturn, 596, 2, 0, [], 0), some (.aload_n 1, 597, 1, 0, [], 0), some (.aload_n 0, 598, 0, 0, [], 0), some (.iload_n 3, 599, 3, 0, [], 0), some (.iconst 1, 600, 0, 0, [], 1), some (.iadd, 601, 0, 0, [], 0), some (.iaload, 602, 0, 0, [], 0), some (.invokevirtual 58, 605, 1, 102, [1, 11], 0), none, none, some (.aload_n 2, 606, 2, 0, [], 0), some (.aload_n 0, 607, 0, 0, [], 0), some (.iload_n 3, 608, 3, 0, [], 0)],
  [some (.iconst 1, 609, 0, 0, [], 1), some (.iadd, 610, 0, 0, [], 0), some (.iaload, 611, 0, 0, [], 0), some (.invokevirtual 61, 614, 1, 219, [1, 12], 0), none, none, some (.if_icmp .eq 1168, 617, 1782, 0, [], 0), none, none, some (.iconst 0, 618, 0, 0, [], 0), some (.ireturn, 619, 2, 0, [], 0), some (.aload_n 1, 620, 1, 0, [], 0), some (.aload_n 0, 621, 0, 0, [], 0), some (.iload_n 3, 622, 3, 0, [], 0), some (.iconst 1, 623, 0, 0, [], 1), some (.iadd, 624, 0, 0, [], 0)],
  [some (.iaload, 625, 0, 0, [], 0), some (.i2l, 626, 0, 0, [], 0), some (.bipush 32, 628, 0, 0, [], 32), none, some (.lshl, 629, 0, 0, [], 0), some (.aload_n 0, 630, 0, 0, [], 0), some (.iload_n 3, 631, 3, 0, [], 0), some (.iconst 2, 632, 0, 0, [], 2), some (.iadd, 633, 0, 0, [], 0), some (.iaload, 634, 0, 0, [], 0), some (.i2l, 635, 0, 0, [], 0), some (.ldc2_w 62, 638, 0, 4294967295, [], 0), none, none, some (.land, 639, 0, 0, [], 0), some (.lor, 640, 0, 0, [], 0)],
  [some (.aload_n 0, 641, 0, 0, [], 0), some (.iload_n 3, 642, 3, 0, [], 0), some (.iconst 3, 643, 0, 0, [], 3), some (.iadd, 644, 0, 0, [], 0), some (.iaload, 645, 0, 0, [], 0), some (.invokevirtual 64, 648, 1, 103, [2, 11], 0), none, none, some (.aload_n 2, 649, 2, 0, [], 0), some (.aload_n 0, 650, 0, 0, [], 0), some (.iload_n 3, 651, 3, 0, [], 0), some (.iconst 1, 652, 0, 0, [], 1), some (.iadd, 653, 0, 0, [], 0), some (.iaload, 654, 0, 0, [], 0), some (.i2l, 655, 0, 0, [], 0), some (.bipush 32, 657, 0, 0, [], 32)],
  [none, some (.lshl, 658, 0, 0, [], 0), some (.aload_n 0, 659, 0, 0, [], 0), some (.iload_n 3, 660, 3, 0, [], 0), some (.iconst 2, 661, 0, 0, [], 2), some (.iadd, 662, 0, 0, [], 0), some (.iaload, 663, 0, 0, [], 0), some (.i2l, 664, 0, 0, [], 0), some (.ldc2_w 62, 667, 0, 4294967295, [], 0), none, none, some (.land, 668, 0, 0, [], 0), some (.lor, 669, 0, 0, [], 0), some (.aload_n 0, 670, 0, 0, [], 0), some (.iload_n 3, 671, 3, 0, [], 0), some (.iconst 3, 672, 0, 0, [], 3)],
  [some (.iadd, 673, 0, 0, [], 0), some (.iaload, 674, 0, 0, [], 0), some (.invokevirtual 68, 677, 1, 198, [2, 12], 0), none, none, some (.if_icmp .eq 1105, 680, 1782, 0, [], 0), none, none, some (.iconst 0, 681, 0, 0, [], 0), some (.ireturn, 682, 2, 0, [], 0), some (.aload_n 1, 683, 1, 0, [], 0), some (.invokevirtual 69, 686, 1, 104, [0, 11], 0), none, none, some (.aload_n 2, 687, 2, 0, [], 0), some (.invokevirtual 72, 690, 1, 199, [0, 12], 0)],
  [none, none, some (.if_icmp .eq 1092, 693, 1782, 0, [], 0), none, none, some (.iconst 0, 694, 0, 0, [], 0), some (.ireturn, 695, 2, 0, [], 0), some (.aload_n 1, 696, 1, 0, [], 0), some (.invokevirtual 73, 699, 1, 105, [0, 11], 0), none, none, some (.aload_n 2, 700, 2, 0, [], 0), some (.invokevirtual 76, 703, 1, 220, [0, 12], 0), none, none, some (.if_icmp .eq 1079, 706, 1782, 0, [], 0)],
  [none, none, some (.iconst 0, 707, 0, 0, [], 0), some (.ireturn, 708, 2, 0, [], 0), some (.aload_n 1, 709, 1, 0, [], 0), some (.aload_n 0, 710, 0, 0, [], 0), some (.iload_n 3, 711, 3, 0, [], 0), some (.iconst 1, 712, 0, 0, [], 1), some (.iadd, 713, 0, 0, [], 0), some (.iaload, 714, 0, 0, [], 0), some (.invokevirtual 77, 717, 1, 106, [1, 11], 0), none, none, some (.aload_n 2, 718, 2, 0, [], 0), some (.aload_n 0, 719, 0, 0, [], 0), some (.iload_n 3, 720, 3, 0, [], 0)],
  [some (.iconst 1, 721, 0, 0, [], 1), some (.iadd, 722, 0, 0, [], 0), some (.iaload, 723, 0, 0, [], 0), some (.invokevirtual 80, 726, 1, 222, [1, 12], 0), none, none, some (.if_icmp .eq 1056, 729, 1782, 0, [], 0), none, none, some (.iconst 0, 730, 0, 0, [], 0), some (.ireturn, 731, 2, 0, [], 0), some (.aload_n 1, 732, 1, 0, [], 0), some (.aload_n 0, 733, 0, 0, [], 0), some (.iload_n 3, 734, 3, 0, [], 0), some (.iconst 1, 735, 0, 0, [], 1), some (.iadd, 736, 0, 0, [], 0)],
  [some (.iaload, 737, 0, 0, [], 0), some (.invokevirtual 81, 740, 1, 107, [1, 11], 0), none, none, some (.aload_n 2, 741, 2, 0, [], 0), some (.aload_n 0, 742, 0, 0, [], 0), some (.iload_n 3, 743, 3, 0, [], 0), some (.iconst 1, 744, 0, 0, [], 1), some (.iadd, 745, 0, 0, [], 0), some (.iaload, 746, 0, 0, [], 0), some (.invokevirtual 84, 749, 1, 223, [1, 12], 0), none, none, some (.if_icmp .eq 1033, 752, 1782, 0, [], 0), none, none],
  [some (.iconst 0, 753, 0, 0, [], 0), some (.ireturn, 754, 2, 0, [], 0), some (.aload_n 1, 755, 1, 0, [], 0), some (.aload_n 0, 756, 0, 0, [], 0), some (.iload_n 3, 757, 3, 0, [], 0), some (.iconst 1, 758, 0, 0, [], 1), some (.iadd, 759, 0, 0, [], 0), some (.iaload, 760, 0, 0, [], 0), some (.invokevirtual 85, 763, 1, 108, [1, 11], 0), none, none, some (.aload_n 2, 764, 2, 0, [], 0), some (.aload_n 0, 765, 0, 0, [], 0), some (.iload_n 3, 766, 3, 0, [], 0), some (.iconst 1, 767, 0, 0, [], 1), some (.iadd, 768, 0, 0, [], 0)],
  [some (.iaload, 769, 0, 0, [], 0), some (.invokevirtual 88, 772, 1, 225, [1, 12], 0), none, none, some (.if_icmp .eq 1010, 775, 1782, 0, [], 0), none, none, some (.iconst 0, 776, 0, 0, [], 0), some (.ireturn, 777, 2, 0, [], 0), some (.aload_n 1, 778, 1, 0, [], 0), some (.aload_n 0, 779, 0, 0, [], 0), some (.iload_n 3, 780, 3, 0, [], 0), some (.iconst 1, 781, 0, 0, [], 1), some (.iadd, 782, 0, 0, [], 0), some (.iaload, 783, 0, 0, [], 0), some (.invokevirtual 89, 786, 1, 109, [1, 11], 0)],
  [none, none, some (.aload_n 2, 787, 2, 0, [], 0), some (.aload_n 0, 788, 0, 0, [], 0), some (.iload_n 3, 789, 3, 0, [], 0), some (.iconst 1, 790, 0, 0, [], 1), some (.iadd, 791, 0, 0, [], 0), some (.iaload, 792, 0, 0, [], 0), some (.invokevirtual 92, 795, 1, 226, [1, 12], 0), none, none, some (.if_icmp .eq 987, 798, 1782, 0, [], 0), none, none, some (.iconst 0, 799, 0, 0, [], 0), some (.ireturn, 800, 2, 0, [], 0)],
  [some (.aload_n 1, 801, 1, 0, [], 0), some (.aload_n 0, 802, 0, 0, [], 0), some (.iload_n 3, 803, 3, 0, [], 0), some (.iconst 1, 804, 0, 0, [], 1), some (.iadd, 805, 0, 0, [], 0), some (.iaload, 806, 0, 0, [], 0), some (.invokevirtual 93, 809, 1, 113, [1, 11], 0), none, none, some (.aload_n 2, 810, 2, 0, [], 0), some (.aload_n 0, 811, 0, 0, [], 0), some (.iload_n 3, 812, 3, 0, [], 0), some (.iconst 1, 813, 0, 0, [], 1), some (.iadd, 814, 0, 0, [], 0), some (.iaload, 815, 0, 0, [], 0), some (.invokevirtual 96, 818, 1, 227, [1, 12], 0)],
  [none, none, some (.if_icmp .eq 964, 821, 1782, 0, [], 0), none, none, some (.iconst 0, 822, 0, 0, [], 0), some (.ireturn, 823, 2, 0, [], 0), some (.aload_n 1, 824, 1, 0, [], 0), some (.aload_n 0, 825, 0, 0, [], 0), some (.iload_n 3, 826, 3, 0, [], 0), some (.iconst 1, 827, 0, 0, [], 1), some (.iadd, 828, 0, 0, [], 0), some (.iaload, 829, 0, 0, [], 0), some (.invokevirtual 97, 832, 1, 114, [1, 11], 0), none, none],
  [some (.aload_n 2, 833, 2, 0, [], 0), some (.aload_n 0, 834, 0, 0, [], 0), some (.iload_n 3, 835, 3, 0, [], 0), some (.iconst 1, 836, 0, 0, [], 1), some (.iadd, 837, 0, 0, [], 0), some (.iaload, 838, 0, 0, [], 0), some (.invokevirtual 100, 841, 1, 228, [1, 12], 0), none, none, some (.if_icmp .eq 941, 844, 1782, 0, [], 0), none, none, some (.iconst 0, 845, 0, 0, [], 0), some (.ireturn, 846, 2, 0, [], 0), some (.aload_n 1, 847, 1, 0, [], 0), some (.aload_n 0, 848, 0, 0, [], 0)],
  [some (.iload_n 3, 849, 3, 0, [], 0), some (.iconst 1, 850, 0, 0, [], 1), some (.iadd, 851, 0, 0, [], 0), some (.iaload, 852, 0, 0, [], 0), some (.invokevirtual 101, 855, 1, 115, [1, 11], 0), none, none, some (.aload_n 2, 856, 2, 0, [], 0), some (.aload_n 0, 857, 0, 0, [], 0), some (.iload_n 3, 858, 3, 0, [], 0), some (.iconst 1, 859, 0, 0, [], 1), some (.iadd, 860, 0, 0, [], 0), some (.iaload, 861, 0, 0, [], 0), some (.invokevirtual 104, 864, 1, 231, [1, 12], 0), none, none],
  [some (.if_icmp .eq 918, 867, 1782, 0, [], 0), none, none, some (.iconst 0, 868, 0, 0, [], 0), some (.ireturn, 869, 2, 0, [], 0), some (.aload_n 1, 870, 1, 0, [], 0), some (.aload_n 0, 871, 0, 0, [], 0), some (.iload_n 3, 872, 3, 0, [], 0), some (.iconst 1, 873, 0, 0, [], 1), some (.iadd, 874, 0, 0, [], 0), some (.iaload, 875, 0, 0, [], 0), some (.aload_n 0, 876, 0, 0, [], 0), some (.iload_n 3, 877, 3, 0, [], 0), some (.iconst 2, 878, 0, 0, [], 2), some (.iadd, 879, 0, 0, [], 0), some (.iaload, 880, 0, 0, [], 0)],
  [some (.invokevirtual 105, 883, 1, 117, [2, 11], 0), none, none, some (.aload_n 2, 884, 2, 0, [], 0), some (.aload_n 0, 885, 0, 0, [], 0), some (.iload_n 3, 886, 3, 0, [], 0), some (.iconst 1, 887, 0, 0, [], 1), some (.iadd, 888, 0, 0, [], 0), some (.iaload, 889, 0, 0, [], 0), some (.aload_n 0, 890, 0, 0, [], 0), some (.iload_n 3, 891, 3, 0, [], 0), some (.iconst 2, 892, 0, 0, [], 2), some (.iadd, 893, 0, 0, [], 0), some (.iaload, 894, 0, 0, [], 0), some (.invokevirtual 108, 897, 1, 233, [2, 12], 0), none],
  [none, some (.if_icmp .eq 885, 900, 1782, 0, [], 0), none, none, some (.iconst 0, 901, 0, 0, [], 0), some (.ireturn, 902, 2, 0, [], 0), some (.aload_n 1, 903, 1, 0, [], 0), some (.aload_n 0, 904, 0, 0, [], 0), some (.iload_n 3, 905, 3, 0, [], 0), some (.iconst 1, 906, 0, 0, [], 1), some (.iadd, 907, 0, 0, [], 0), some (.iaload, 908, 0, 0, [], 0), some (.invokevirtual 109, 911, 1, 118, [1, 11], 0), none, none, some (.aload_n 2, 912, 2, 0, [], 0)],
  [some (.aload_n 0, 913, 0, 0, [], 0), some (.iload_n 3, 914, 3, 0, [], 0), some (.iconst 1, 915, 0, 0, [], 1), some (.iadd, 916, 0, 0, [], 0), some (.iaload, 917, 0, 0, [], 0), some (.invokevirtual 112, 920, 1, 241, [1, 12], 0), none, none, some (.if_icmp .eq 862, 923, 1782, 0, [], 0), none, none, some (.iconst 0, 924, 0, 0, [], 0), some (.ireturn, 925, 2, 0, [], 0), some (.aload_n 1, 926, 1, 0, [], 0), some (.aload_n 0, 927, 0, 0, [], 0), some (.iload_n 3, 928, 3, 0, [], 0)],
  [some (.iconst 1, 929, 0, 0, [], 1), some (.iadd, 930, 0, 0, [], 0), some (.iaload, 931, 0, 0, [], 0), some (.aload_n 0, 932, 0, 0, [], 0), some (.iload_n 3, 933, 3, 0, [], 0), some (.iconst 2, 934, 0, 0, [], 2), some (.iadd, 935, 0, 0, [], 0), some (.iaload, 936, 0, 0, [], 0), some (.invokevirtual 113, 939, 1, 119, [2, 11], 0), none, none, some (.aload_n 2, 940, 2, 0, [], 0), some (.aload_n 0, 941, 0, 0, [], 0), some (.iload_n 3, 942, 3, 0, [], 0), some (.iconst 1, 943, 0, 0, [], 1), some (.iadd, 944, 0, 0, [], 0)],
  [some (.iaload, 945, 0, 0, [], 0), some (.aload_n 0, 946, 0, 0, [], 0), some (.iload_n 3, 947, 3, 0, [], 0), some (.iconst 2, 948, 0, 0, [], 2), some (.iadd, 949, 0, 0, [], 0), some (.iaload, 950, 0, 0, [], 0), some (.invokevirtual 116, 953, 1, 242, [2, 12], 0), none, none, some (.if_icmp .eq 829, 956, 1782, 0, [], 0), none, none, some (.iconst 0, 957, 0, 0, [], 0), some (.ireturn, 958, 2, 0, [], 0), some (.aload_n 1, 959, 1, 0, [], 0), some (.aload_n 0, 960, 0, 0, [], 0)],
  [some (.iload_n 3, 961, 3, 0, [], 0), some (.iconst 1, 962, 0, 0, [], 1), some (.iadd, 963, 0, 0, [], 0), some (.iaload, 964, 0, 0, [], 0), some (.invokevirtual 117, 967, 1, 120, [1, 11], 0), none, none, some (.aload_n 2, 968, 2, 0, [], 0), some (.aload_n 0, 969, 0, 0, [], 0), some (.iload_n 3, 970, 3, 0, [], 0), some (.iconst 1, 971, 0, 0, [], 1), some (.iadd, 972, 0, 0, [], 0), some (.iaload, 973, 0, 0, [], 0), some (.invokevirtual 120, 976, 1, 243, [1, 12], 0), none, none],
  [some (.if_icmp .eq 806, 979, 1782, 0, [], 0), none, none, some (.iconst 0, 980, 0, 0, [], 0), some (.ireturn, 981, 2, 0, [], 0), some (.aload_n 1, 982, 1, 0, [], 0), some (.aload_n 0, 983, 0, 0, [], 0), some (.iload_n 3, 984, 3, 0, [], 0), some (.iconst 1, 985, 0, 0, [], 1), some (.iadd, 986, 0, 0, [], 0), some (.iaload, 987, 0, 0, [], 0), some (.aload_n 0, 988, 0, 0, [], 0), some (.iload_n 3, 989, 3, 0, [], 0), some (.iconst 2, 990, 0, 0, [], 2), some (.iadd, 991, 0, 0, [], 0), some (.iaload, 992, 0, 0, [], 0)],
  [some (.invokevirtual 121, 995, 1, 121, [2, 11], 0), none, none, some (.aload_n 2, 996, 2, 0, [], 0), some (.aload_n 0, 997, 0, 0, [], 0), some (.iload_n 3, 998, 3, 0, [], 0), some (.iconst 1, 999, 0, 0, [], 1), some (.iadd, 1000, 0, 0, [], 0), some (.iaload, 1001, 0, 0, [], 0), some (.aload_n 0, 1002, 0, 0, [], 0), some (.iload_n 3, 1003, 3, 0, [], 0), some (.iconst 2, 1004, 0, 0, [], 2), some (.iadd, 1005, 0, 0, [], 0), some (.iaload, 1006, 0, 0, [], 0), some (.invokevirtual 124, 1009, 1, 245, [2, 12], 0), none],
  [none, some (.if_icmp .eq 773, 1012, 1782, 0, [], 0), none, none, some (.iconst 0, 1013, 0, 0, [], 0), some (.ireturn, 1014, 2, 0, [], 0), some (.aload_n 1, 1015, 1, 0, [], 0), some (.aload_n 0, 1016, 0, 0, [], 0), some (.iload_n 3, 1017, 3, 0, [], 0), some (.iconst 1, 1018, 0, 0, [], 1), some (.iadd, 1019, 0, 0, [], 0), some (.iaload, 1020, 0, 0, [], 0), some (.aload_n 0, 1021, 0, 0, [], 0), some (.iload_n 3, 1022, 3, 0, [], 0), some (.iconst 2, 1023, 0, 0, [], 2), some (.iadd, 1024, 0, 0, [], 0)],
  [some (.iaload, 1025, 0, 0, [], 0), some (.invokevirtual 125, 1028, 1, 122, [2, 11], 0), none, none, some (.aload_n 2, 1029, 2, 0, [], 0), some (.aload_n 0, 1030, 0, 0, [], 0), some (.iload_n 3, 1031, 3, 0, [], 0), some (.iconst 1, 1032, 0, 0, [], 1), some (.iadd, 1033, 0, 0, [], 0), some (.iaload, 1034, 0, 0, [], 0), some (.aload_n 0, 1035, 0, 0, [], 0), some (.iload_n 3, 1036, 3, 0, [], 0), some (.iconst 2, 1037, 0, 0, [], 2), some (.iadd, 1038, 0, 0, [], 0), some (.iaload, 1039, 0, 0, [], 0), some (.invokevirtual 128, 1042, 1, 246, [2, 12], 0)],
  [none, none, some (.if_icmp .eq 740, 1045, 1782, 0, [], 0), none, none, some (.iconst 0, 1046, 0, 0, [], 0), some (.ireturn, 1047, 2, 0, [], 0), some (.aload_n 1, 1048, 1, 0, [], 0), some (.aload_n 0, 1049, 0, 0, [], 0), some (.iload_n 3, 1050, 3, 0, [], 0), some (.iconst 1, 1051, 0, 0, [], 1), some (.iadd, 1052, 0, 0, [], 0), some (.iaload, 1053, 0, 0, [], 0), some (.invokevirtual 129, 1056, 1, 125, [1, 11], 0), none, none],
  [some (.aload_n 2, 1057, 2, 0, [], 0), some (.aload_n 0, 1058, 0, 0, [], 0), some (.iload_n 3, 1059, 3, 0, [], 0), some (.iconst 1, 1060, 0, 0, [], 1), some (.iadd, 1061, 0, 0, [], 0), some (.iaload, 1062, 0, 0, [], 0), some (.invokevirtual 132, 1065, 1, 248, [1, 12], 0), none, none, some (.if_icmp .eq 717, 1068, 1782, 0, [], 0), none, none, some (.iconst 0, 1069, 0, 0, [], 0), some (.ireturn, 1070, 2, 0, [], 0), some (.aload_n 1, 1071, 1, 0, [], 0), some (.aload_n 0, 1072, 0, 0, [], 0)],
  [some (.iload_n 3, 1073, 3, 0, [], 0), some (.iconst 1, 1074, 0, 0, [], 1), some (.iadd, 1075, 0, 0, [], 0), some (.iaload, 1076, 0, 0, [], 0), some (.invokevirtual 133, 1079, 1, 126, [1, 11], 0), none, none, some (.aload_n 2, 1080, 2, 0, [], 0), some (.aload_n 0, 1081, 0, 0, [], 0), some (.iload_n 3, 1082, 3, 0, [], 0), some (.iconst 1, 1083, 0, 0, [], 1), some (.iadd, 1084, 0, 0, [], 0), some (.iaload, 1085, 0, 0, [], 0), some (.invokevirtual 136, 1088, 1, 249, [1, 12], 0), none, none],
  [some (.if_icmp .eq 694, 1091, 1782, 0, [], 0), none, none, some (.iconst 0, 1092, 0, 0, [], 0), some (.ireturn, 1093, 2, 0, [], 0), some (.aload_n 1, 1094, 1, 0, [], 0), some (.aload_n 0, 1095, 0, 0, [], 0), some (.iload_n 3, 1096, 3, 0, [], 0), some (.iconst 1, 1097, 0, 0, [], 1), some (.iadd, 1098, 0, 0, [], 0), some (.iaload, 1099, 0, 0, [], 0), some (.aload_n 0, 1100, 0, 0, [], 0), some (.iload_n 3, 1101, 3, 0, [], 0), some (.iconst 2, 1102, 0, 0, [], 2), some (.iadd, 1103, 0, 0, [], 0), some (.iaload, 1104, 0, 0, [], 0)],
  [some (.aload_n 0, 1105, 0, 0, [], 0), some (.iload_n 3, 1106, 3, 0, [], 0), some (.iconst 3, 1107, 0, 0, [], 3), some (.iadd, 1108, 0, 0, [], 0), some (.iaload, 1109, 0, 0, [], 0), some (.aload_n 0, 1110, 0, 0, [], 0), some (.iload_n 3, 1111, 3, 0, [], 0), some (.iconst 4, 1112, 0, 0, [], 4), some (.iadd, 1113, 0, 0, [], 0), some (.iaload, 1114, 0, 0, [], 0), some (.invokevirtual 137, 1117, 1, 127, [4, 11], 0), none, none, some (.aload_n 2, 1118, 2, 0, [], 0), some (.aload_n 0, 1119, 0, 0, [], 0), some (.iload_n 3, 1120, 3, 0, [], 0)],
  [some (.iconst 1, 1121, 0, 0, [], 1), some (.iadd, 1122, 0, 0, [], 0), some (.iaload, 1123, 0, 0, [], 0), some (.aload_n 0, 1124, 0, 0, [], 0), some (.iload_n 3, 1125, 3, 0, [], 0), some (.iconst 2, 1126, 0, 0, [], 2), some (.iadd, 1127, 0, 0, [], 0), some (.iaload, 1128, 0, 0, [], 0), some (.aload_n 0, 1129, 0, 0, [], 0), some (.iload_n 3, 1130, 3, 0, [], 0), some (.iconst 3, 1131, 0, 0, [], 3), some (.iadd, 1132, 0, 0, [], 0), some (.iaload, 1133, 0, 0, [], 0), some (.aload_n 0, 1134, 0, 0, [], 0), some (.iload_n 3, 1135, 3, 0, [], 0), some (.iconst 4, 1136, 0, 0, [], 4)],
  [some (.iadd, 1137, 0, 0, [], 0), some (.iaload, 1138, 0, 0, [], 0), some (.invokevirtual 140, 1141, 1, 250, [4, 12], 0), none, none, some (.if_icmp .eq 641, 1144, 1782, 0, [], 0), none, none, some (.iconst 0, 1145, 0, 0, [], 0), some (.ireturn, 1146, 2, 0, [], 0), some (.aload_n 1, 1147, 1, 0, [], 0), some (.invokevirtual 141, 1150, 1, 128, [0, 11], 0), none, none, some (.aload_n 2, 1151, 2, 0, [], 0), some (.invokevirtual 144, 1154, 1, 251, [0, 12], 0)],
  [none, none, some (.if_icmp .eq 628, 1157, 1782, 0, [], 0), none, none, some (.iconst 0, 1158, 0, 0, [], 0), some (.ireturn, 1159, 2, 0, [], 0), some (.aload_n 1, 1160, 1, 0, [], 0), some (.aload_n 0, 1161, 0, 0, [], 0), some (.iload_n 3, 1162, 3, 0, [], 0), some (.iconst 1, 1163, 0, 0, [], 1), some (.iadd, 1164, 0, 0, [], 0), some (.iaload, 1165, 0, 0, [], 0), some (.invokevirtual 145, 1168, 1, 129, [1, 11], 0), none, none],
  [some (.aload_n 2, 1169, 2, 0, [], 0), some (.aload_n 0, 1170, 0, 0, [], 0), some (.iload_n 3, 1171, 3, 0, [], 0), some (.iconst 1, 1172, 0, 0, [], 1), some (.iadd, 1173, 0, 0, [], 0), some (.iaload, 1174, 0, 0, [], 0), some (.invokevirtual 148, 1177, 1, 255, [1, 12], 0), none, none, some (.if_icmp .eq 605, 1180, 1782, 0, [], 0), none, none, some (.iconst 0, 1181, 0, 0, [], 0), some (.ireturn, 1182, 2, 0, [], 0), some (.aload_n 1, 1183, 1, 0, [], 0), some (.invokevirtual 149, 1186, 1, 130, [0, 11], 0)],
  [none, none, some (.aload_n 2, 1187, 2, 0, [], 0), some (.invokevirtual 152, 1190, 1, 256, [0, 12], 0), none, none, some (.if_icmp .eq 592, 1193, 1782, 0, [], 0), none, none, some (.iconst 0, 1194, 0, 0, [], 0), some (.ireturn, 1195, 2, 0, [], 0), some (.aload_n 1, 1196, 1, 0, [], 0), some (.aload_n 0, 1197, 0, 0, [], 0), some (.iload_n 3, 1198, 3, 0, [], 0), some (.iconst 1, 1199, 0, 0, [], 1), some (.iadd, 1200, 0, 0, [], 0)],
  [some (.iaload, 1201, 0, 0, [], 0), some (.invokevirtual 153, 1204, 1, 131, [1, 11], 0), none, none, some (.aload_n 2, 1205, 2, 0, [], 0), some (.aload_n 0, 1206, 0, 0, [], 0), some (.iload_n 3, 1207, 3, 0, [], 0), some (.iconst 1, 1208, 0, 0, [], 1), some (.iadd, 1209, 0, 0, [], 0), some (.iaload, 1210, 0, 0, [], 0), some (.invokevirtual 156, 1213, 1, 257, [1, 12], 0), none, none, some (.if_icmp .eq 569, 1216, 1782, 0, [], 0), none, none],
  [some (.iconst 0, 1217, 0, 0, [], 0), some (.ireturn, 1218, 2, 0, [], 0), some (.aload_n 1, 1219, 1, 0, [], 0), some (.invokevirtual 157, 1222, 1, 132, [0, 11], 0), none, none, some (.aload_n 2, 1223, 2, 0, [], 0), some (.invokevirtual 160, 1226, 1, 259, [0, 12], 0), none, none, some (.if_icmp .eq 556, 1229, 1782, 0, [], 0), none, none, some (.iconst 0, 1230, 0, 0, [], 0), some (.ireturn, 1231, 2, 0, [], 0), some (.aload_n 1, 1232, 1, 0, [], 0)],
  [some (.aload_n 0, 1233, 0, 0, [], 0), some (.iload_n 3, 1234, 3, 0, [], 0), some (.iconst 1, 1235, 0, 0, [], 1), some (.iadd, 1236, 0, 0, [], 0), some (.iaload, 1237, 0, 0, [], 0), some (.aload_n 0, 1238, 0, 0, [], 0), some (.iload_n 3, 1239, 3, 0, [], 0), some (.iconst 2, 1240, 0, 0, [], 2), some (.iadd, 1241, 0, 0, [], 0), some (.iaload, 1242, 0, 0, [], 0), some (.invokevirtual 161, 1245, 1, 133, [2, 11], 0), none, none, some (.aload_n 2, 1246, 2, 0, [], 0), some (.aload_n 0, 1247, 0, 0, [], 0), some (.iload_n 3, 1248, 3, 0, [], 0)],
  [some (.iconst 1, 1249, 0, 0, [], 1), some (.iadd, 1250, 0, 0, [], 0), some (.iaload, 1251, 0, 0, [], 0), some (.aload_n 0, 1252, 0, 0, [], 0), some (.iload_n 3, 1253, 3, 0, [], 0), some (.iconst 2, 1254, 0, 0, [], 2), some (.iadd, 1255, 0, 0, [], 0), some (.iaload, 1256, 0, 0, [], 0), some (.invokevirtual 164, 1259, 1, 260, [2, 12], 0), none, none, some (.if_icmp .eq 523, 1262, 1782, 0, [], 0), none, none, some (.iconst 0, 1263, 0, 0, [], 0), some (.ireturn, 1264, 2, 0, [], 0)],
  [some (.aload_n 1, 1265, 1, 0, [], 0), some (.aload_n 0, 1266, 0, 0, [], 0), some (.iload_n 3, 1267, 3, 0, [], 0), some (.iconst 1, 1268, 0, 0, [], 1), some (.iadd, 1269, 0, 0, [], 0), some (.iaload, 1270, 0, 0, [], 0), some (.invokevirtual 165, 1273, 1, 136, [1, 11], 0), none, none, some (.aload_n 2, 1274, 2, 0, [], 0), some (.aload_n 0, 1275, 0, 0, [], 0), some (.iload_n 3, 1276, 3, 0, [], 0), some (.iconst 1, 1277, 0, 0, [], 1), some (.iadd, 1278, 0, 0, [], 0), some (.iaload, 1279, 0, 0, [], 0), some (.invokevirtual 168, 1282, 1, 261, [1, 12], 0)],
  [none, none, some (.if_icmp .eq 500, 1285, 1782, 0, [], 0), none, none, some (.iconst 0, 1286, 0, 0, [], 0), some (.ireturn, 1287, 2, 0, [], 0), some (.aload_n 1, 1288, 1, 0, [], 0), some (.aload_n 0, 1289, 0, 0, [], 0), some (.iload_n 3, 1290, 3, 0, [], 0), some (.iconst 1, 1291, 0, 0, [], 1), some (.iadd, 1292, 0, 0, [], 0), some (.iaload, 1293, 0, 0, [], 0), some (.aload_n 0, 1294, 0, 0, [], 0), some (.iload_n 3, 1295, 3, 0, [], 0), some (.iconst 2, 1296, 0, 0, [], 2)],
  [some (.iadd, 1297, 0, 0, [], 0), some (.iaload, 1298, 0, 0, [], 0), some (.invokevirtual 169, 1301, 1, 137, [2, 11], 0), none, none, some (.aload_n 2, 1302, 2, 0, [], 0), some (.aload_n 0, 1303, 0, 0, [], 0), some (.iload_n 3, 1304, 3, 0, [], 0), some (.iconst 1, 1305, 0, 0, [], 1), some (.iadd, 1306, 0, 0, [], 0), some (.iaload, 1307, 0, 0, [], 0), some (.aload_n 0, 1308, 0, 0, [], 0), some (.iload_n 3, 1309, 3, 0, [], 0), some (.iconst 2, 1310, 0, 0, [], 2), some (.iadd, 1311, 0, 0, [], 0), some (.iaload, 1312, 0, 0, [], 0)],
  [some (.invokevirtual 172, 1315, 1, 263, [2, 12], 0), none, none, some (.if_icmp .eq 467, 1318, 1782, 0, [], 0), none, none, some (.iconst 0, 1319, 0, 0, [], 0), some (.ireturn, 1320, 2, 0, [], 0), some (.aload_n 1, 1321, 1, 0, [], 0), some (.aload_n 0, 1322, 0, 0, [], 0), some (.iload_n 3, 1323, 3, 0, [], 0), some (.iconst 1, 1324, 0, 0, [], 1), some (.iadd, 1325, 0, 0, [], 0), some (.iaload, 1326, 0, 0, [], 0), some (.aload_n 0, 1327, 0, 0, [], 0), some (.iload_n 3, 1328, 3, 0, [], 0)],
  [some (.iconst 2, 1329, 0, 0, [], 2), some (.iadd, 1330, 0, 0, [], 0), some (.iaload, 1331, 0, 0, [], 0), some (.aload_n 0, 1332, 0, 0, [], 0), some (.iload_n 3, 1333, 3, 0, [], 0), some (.iconst 3, 1334, 0, 0, [], 3), some (.iadd, 1335, 0, 0, [], 0), some (.iaload, 1336, 0, 0, [], 0), some (.invokevirtual 173, 1339, 1, 138, [3, 11], 0), none, none, some (.aload_n 2, 1340, 2, 0, [], 0), some (.aload_n 0, 1341, 0, 0, [], 0), some (.iload_n 3, 1342, 3, 0, [], 0), some (.iconst 1, 1343, 0, 0, [], 1), some (.iadd, 1344, 0, 0, [], 0)],
  [some (.iaload, 1345, 0, 0, [], 0), some (.aload_n 0, 1346, 0, 0, [], 0), some (.iload_n 3, 1347, 3, 0, [], 0), some (.iconst 2, 1348, 0, 0, [], 2), some (.iadd, 1349, 0, 0, [], 0), some (.iaload, 1350, 0, 0, [], 0), some (.aload_n 0, 1351, 0, 0, [], 0), some (.iload_n 3, 1352, 3, 0, [], 0), some (.iconst 3, 1353, 0, 0, [], 3), some (.iadd, 1354, 0, 0, [], 0), some (.iaload, 1355, 0, 0, [], 0), some (.invokevirtual 176, 1358, 1, 264, [3, 12], 0), none, none, some (.if_icmp .eq 424, 1361, 1782, 0, [], 0), none],
  [none, some (.iconst 0, 1362, 0, 0, [], 0), some (.ireturn, 1363, 2, 0, [], 0), some (.aload_n 1, 1364, 1, 0, [], 0), some (.invokevirtual 177, 1367, 1, 139, [0, 11], 0), none, none, some (.aload_n 2, 1368, 2, 0, [], 0), some (.invokevirtual 180, 1371, 1, 265, [0, 12], 0), none, none, some (.if_icmp .eq 411, 1374, 1782, 0, [], 0), none, none, some (.iconst 0, 1375, 0, 0, [], 0), some (.ireturn, 1376, 2, 0, [], 0)],
  [some (.aload_n 1, 1377, 1, 0, [], 0), some (.aload_n 0, 1378, 0, 0, [], 0), some (.iload_n 3, 1379, 3, 0, [], 0), some (.iconst 1, 1380, 0, 0, [], 1), some (.iadd, 1381, 0, 0, [], 0), some (.iaload, 1382, 0, 0, [], 0), some (.aload_n 0, 1383, 0, 0, [], 0), some (.iload_n 3, 1384, 3, 0, [], 0), some (.iconst 2, 1385, 0, 0, [], 2), some (.iadd, 1386, 0, 0, [], 0), some (.iaload, 1387, 0, 0, [], 0), some (.aload_n 0, 1388, 0, 0, [], 0), some (.iload_n 3, 1389, 3, 0, [], 0), some (.iconst 3, 1390, 0, 0, [], 3), some (.iadd, 1391, 0, 0, [], 0), some (.iaload, 1392, 0, 0, [], 0)],
  [some (.invokevirtual 181, 1395, 1, 142, [3, 11], 0), none, none, some (.aload_n 2, 1396, 2, 0, [], 0), some (.aload_n 0, 1397, 0, 0, [], 0), some (.iload_n 3, 1398, 3, 0, [], 0), some (.iconst 1, 1399, 0, 0, [], 1), some (.iadd, 1400, 0, 0, [], 0), some (.iaload, 1401, 0, 0, [], 0), some (.aload_n 0, 1402, 0, 0, [], 0), some (.iload_n 3, 1403, 3, 0, [], 0), some (.iconst 2, 1404, 0, 0, [], 2), some (.iadd, 1405, 0, 0, [], 0), some (.iaload, 1406, 0, 0, [], 0), some (.aload_n 0, 1407, 0, 0, [], 0), some (.iload_n 3, 1408, 3, 0, [], 0)],
  [some (.iconst 3, 1409, 0, 0, [], 3), some (.iadd, 1410, 0, 0, [], 0), some (.iaload, 1411, 0, 0, [], 0), some (.invokevirtual 184, 1414, 1, 267, [3, 12], 0), none, none, some (.if_icmp .eq 368, 1417, 1782, 0, [], 0), none, none, some (.iconst 0, 1418, 0, 0, [], 0), some (.ireturn, 1419, 2, 0, [], 0), some (.aload_n 1, 1420, 1, 0, [], 0), some (.aload_n 0, 1421, 0, 0, [], 0), some (.iload_n 3, 1422, 3, 0, [], 0), some (.iconst 1, 1423, 0, 0, [], 1), some (.iadd, 1424, 0, 0, [], 0)],
  [some (.iaload, 1425, 0, 0, [], 0), some (.aload_n 0, 1426, 0, 0, [], 0), some (.iload_n 3, 1427, 3, 0, [], 0), some (.iconst 2, 1428, 0, 0, [], 2), some (.iadd, 1429, 0, 0, [], 0), some (.iaload, 1430, 0, 0, [], 0), some (.aload_n 0, 1431, 0, 0, [], 0), some (.iload_n 3, 1432, 3, 0, [], 0), some (.iconst 3, 1433, 0, 0, [], 3), some (.iadd, 1434, 0, 0, [], 0), some (.iaload, 1435, 0, 0, [], 0), some (.invokevirtual 185, 1438, 1, 143, [3, 11], 0), none, none, some (.aload_n 2, 1439, 2, 0, [], 0), some (.aload_n 0, 1440, 0, 0, [], 0)],
  [some (.iload_n 3, 1441, 3, 0, [], 0), some (.iconst 1, 1442, 0, 0, [], 1), some (.iadd, 1443, 0, 0, [], 0), some (.iaload, 1444, 0, 0, [], 0), some (.aload_n 0, 1445, 0, 0, [], 0), some (.iload_n 3, 1446, 3, 0, [], 0), some (.iconst 2, 1447, 0, 0, [], 2), some (.iadd, 1448, 0, 0, [], 0), some (.iaload, 1449, 0, 0, [], 0), some (.aload_n 0, 1450, 0, 0, [], 0), some (.iload_n 3, 1451, 3, 0, [], 0), some (.iconst 3, 1452, 0, 0, [], 3), some (.iadd, 1453, 0, 0, [], 0), some (.iaload, 1454, 0, 0, [], 0), some (.invokevirtual 188, 1457, 1, 269, [3, 12], 0), none],
  [none, some (.if_icmp .eq 325, 1460, 1782, 0, [], 0), none, none, some (.iconst 0, 1461, 0, 0, [], 0), some (.ireturn, 1462, 2, 0, [], 0), some (.aload_n 1, 1463, 1, 0, [], 0), some (.aload_n 0, 1464, 0, 0, [], 0), some (.iload_n 3, 1465, 3, 0, [], 0), some (.iconst 1, 1466, 0, 0, [], 1), some (.iadd, 1467, 0, 0, [], 0), some (.iaload, 1468, 0, 0, [], 0), some (.aload_n 0, 1469, 0, 0, [], 0), some (.iload_n 3, 1470, 3, 0, [], 0), some (.iconst 2, 1471, 0, 0, [], 2), some (.iadd, 1472, 0, 0, [], 0)],
  [some (.iaload, 1473, 0, 0, [], 0), some (.aload_n 0, 1474, 0, 0, [], 0), some (.iload_n 3, 1475, 3, 0, [], 0), some (.iconst 3, 1476, 0, 0, [], 3), some (.iadd, 1477, 0, 0, [], 0), some (.iaload, 1478, 0, 0, [], 0), some (.invokevirtual 189, 1481, 1, 145, [3, 11], 0), none, none, some (.aload_n 2, 1482, 2, 0, [], 0), some (.aload_n 0, 1483, 0, 0, [], 0), some (.iload_n 3, 1484, 3, 0, [], 0), some (.iconst 1, 1485, 0, 0, [], 1), some (.iadd, 1486, 0, 0, [], 0), some (.iaload, 1487, 0, 0, [], 0), some (.aload_n 0, 1488, 0, 0, [], 0)],
  [some (.iload_n 3, 1489, 3, 0, [], 0), some (.iconst 2, 1490, 0, 0, [], 2), some (.iadd, 1491, 0, 0, [], 0), some (.iaload, 1492, 0, 0, [], 0), some (.aload_n 0, 1493, 0, 0, [], 0), some (.iload_n 3, 1494, 3, 0, [], 0), some (.iconst 3, 1495, 0, 0, [], 3), some (.iadd, 1496, 0, 0, [], 0), some (.iaload, 1497, 0, 0, [], 0), some (.invokevirtual 192, 1500, 1, 271, [3, 12], 0), none, none, some (.if_icmp .eq 282, 1503, 1782, 0, [], 0), none, none, some (.iconst 0, 1504, 0, 0, [], 0)],
  [some (.ireturn, 1505, 2, 0, [], 0), some (.aload_n 1, 1506, 1, 0, [], 0), some (.aload_n 0, 1507, 0, 0, [], 0), some (.iload_n 3, 1508, 3, 0, [], 0), some (.iconst 1, 1509, 0, 0, [], 1), some (.iadd, 1510, 0, 0, [], 0), some (.iaload, 1511, 0, 0, [], 0), some (.aload_n 0, 1512, 0, 0, [], 0), some (.iload_n 3, 1513, 3, 0, [], 0), some (.iconst 2, 1514, 0, 0, [], 2), some (.iadd, 1515, 0, 0, [], 0), some (.iaload, 1516, 0, 0, [], 0), some (.aload_n 0, 1517, 0, 0, [], 0), some (.iload_n 3, 1518, 3, 0, [], 0), some (.iconst 3, 1519, 0, 0, [], 3), some (.iadd, 1520, 0, 0, [], 0)],
  [some (.iaload, 1521, 0, 0, [], 0), some (.invokevirtual 193, 1524, 1, 146, [3, 11], 0), none, none, some (.aload_n 2, 1525, 2, 0, [], 0), some (.aload_n 0, 1526, 0, 0, [], 0), some (.iload_n 3, 1527, 3, 0, [], 0), some (.iconst 1, 1528, 0, 0, [], 1), some (.iadd, 1529, 0, 0, [], 0), some (.iaload, 1530, 0, 0, [], 0), some (.aload_n 0, 1531, 0, 0, [], 0), some (.iload_n 3, 1532, 3, 0, [], 0), some (.iconst 2, 1533, 0, 0, [], 2), some (.iadd, 1534, 0, 0, [], 0), some (.iaload, 1535, 0, 0, [], 0), some (.aload_n 0, 1536, 0, 0, [], 0)],
  [some (.iload_n 3, 1537, 3, 0, [], 0), some (.iconst 3, 1538, 0, 0, [], 3), some (.iadd, 1539, 0, 0, [], 0), some (.iaload, 1540, 0, 0, [], 0), some (.invokevirtual 196, 1543, 1, 273, [3, 12], 0), none, none, some (.if_icmp .eq 239, 1546, 1782, 0, [], 0), none, none, some (.iconst 0, 1547, 0, 0, [], 0), some (.ireturn, 1548, 2, 0, [], 0), some (.aload_n 1, 1549, 1, 0, [], 0), some (.aload_n 0, 1550, 0, 0, [], 0), some (.iload_n 3, 1551, 3, 0, [], 0), some (.iconst 1, 1552, 0, 0, [], 1)],
  [some (.iadd, 1553, 0, 0, [], 0), some (.iaload, 1554, 0, 0, [], 0), some (.aload_n 0, 1555, 0, 0, [], 0), some (.iload_n 3, 1556, 3, 0, [], 0), some (.iconst 2, 1557, 0, 0, [], 2), some (.iadd, 1558, 0, 0, [], 0), some (.iaload, 1559, 0, 0, [], 0), some (.aload_n 0, 1560, 0, 0, [], 0), some (.iload_n 3, 1561, 3, 0, [], 0), some (.iconst 3, 1562, 0, 0, [], 3), some (.iadd, 1563, 0, 0, [], 0), some (.iaload, 1564, 0, 0, [], 0), some (.invokevirtual 197, 1567, 1, 147, [3, 11], 0), none, none, some (.aload_n 2, 1568, 2, 0, [], 0)],
  [some (.aload_n 0, 1569, 0, 0, [], 0), some (.iload_n 3, 1570, 3, 0, [], 0), some (.iconst 1, 1571, 0, 0, [], 1), some (.iadd, 1572, 0, 0, [], 0), some (.iaload, 1573, 0, 0, [], 0), some (.aload_n 0, 1574, 0, 0, [], 0), some (.iload_n 3, 1575, 3, 0, [], 0), some (.iconst 2, 1576, 0, 0, [], 2), some (.iadd, 1577, 0, 0, [], 0), some (.iaload, 1578, 0, 0, [], 0), some (.aload_n 0, 1579, 0, 0, [], 0), some (.iload_n 3, 1580, 3, 0, [], 0), some (.iconst 3, 1581, 0, 0, [], 3), some (.iadd, 1582, 0, 0, [], 0), some (.iaload, 1583, 0, 0, [], 0), some (.invokevirtual 200, 1586, 1, 274, [3, 12], 0)],
  [none, none, some (.if_icmp .eq 196, 1589, 1782, 0, [], 0), none, none, some (.iconst 0, 1590, 0, 0, [], 0), some (.ireturn, 1591, 2, 0, [], 0), some (.aload_n 1, 1592, 1, 0, [], 0), some (.aload_n 0, 1593, 0, 0, [], 0), some (.iload_n 3, 1594, 3, 0, [], 0), some (.iconst 1, 1595, 0, 0, [], 1), some (.iadd, 1596, 0, 0, [], 0), some (.iaload, 1597, 0, 0, [], 0), some (.aload_n 0, 1598, 0, 0, [], 0), some (.iload_n 3, 1599, 3, 0, [], 0), some (.iconst 2, 1600, 0, 0, [], 2)],
  [some (.iadd, 1601, 0, 0, [], 0), some (.iaload, 1602, 0, 0, [], 0), some (.aload_n 0, 1603, 0, 0, [], 0), some (.iload_n 3, 1604, 3, 0, [], 0), some (.iconst 3, 1605, 0, 0, [], 3), some (.iadd, 1606, 0, 0, [], 0), some (.iaload, 1607, 0, 0, [], 0), some (.invokevirtual 201, 1610, 1, 151, [3, 11], 0), none, none, some (.aload_n 2, 1611, 2, 0, [], 0), some (.aload_n 0, 1612, 0, 0, [], 0), some (.iload_n 3, 1613, 3, 0, [], 0), some (.iconst 1, 1614, 0, 0, [], 1), some (.iadd, 1615, 0, 0, [], 0), some (.iaload, 1616, 0, 0, [], 0)],
  [some (.aload_n 0, 1617, 0, 0, [], 0), some (.iload_n 3, 1618, 3, 0, [], 0), some (.iconst 2, 1619, 0, 0, [], 2), some (.iadd, 1620, 0, 0, [], 0), some (.iaload, 1621, 0, 0, [], 0), some (.aload_n 0, 1622, 0, 0, [], 0), some (.iload_n 3, 1623, 3, 0, [], 0), some (.iconst 3, 1624, 0, 0, [], 3), some (.iadd, 1625, 0, 0, [], 0), some (.iaload, 1626, 0, 0, [], 0), some (.invokevirtual 204, 1629, 1, 275, [3, 12], 0), none, none, some (.if_icmp .eq 153, 1632, 1782, 0, [], 0), none, none],
  [some (.iconst 0, 1633, 0, 0, [], 0), some (.ireturn, 1634, 2, 0, [], 0), some (.aload_n 1, 1635, 1, 0, [], 0), some (.aload_n 0, 1636, 0, 0, [], 0), some (.iload_n 3, 1637, 3, 0, [], 0), some (.iconst 1, 1638, 0, 0, [], 1), some (.iadd, 1639, 0, 0, [], 0), some (.iaload, 1640, 0, 0, [], 0), some (.aload_n 0, 1641, 0, 0, [], 0), some (.iload_n 3, 1642, 3, 0, [], 0), some (.iconst 2, 1643, 0, 0, [], 2), some (.iadd, 1644, 0, 0, [], 0), some (.iaload, 1645, 0, 0, [], 0), some (.invokevirtual 205, 1648, 1, 154, [2, 11], 0), none, none],
  [some (.aload_n 2, 1649, 2, 0, [], 0), some (.aload_n 0, 1650, 0, 0, [], 0), some (.iload_n 3, 1651, 3, 0, [], 0), some (.iconst 1, 1652, 0, 0, [], 1), some (.iadd, 1653, 0, 0, [], 0), some (.iaload, 1654, 0, 0, [], 0), some (.aload_n 0, 1655, 0, 0, [], 0), some (.iload_n 3, 1656, 3, 0, [], 0), some (.iconst 2, 1657, 0, 0, [], 2), some (.iadd, 1658, 0, 0, [], 0), some (.iaload, 1659, 0, 0, [], 0), some (.invokevirtual 208, 1662, 1, 277, [2, 12], 0), none, none, some (.if_icmp .eq 120, 1665, 1782, 0, [], 0), none],
  [none, some (.iconst 0, 1666, 0, 0, [], 0), some (.ireturn, 1667, 2, 0, [], 0), some (.aload_n 1, 1668, 1, 0, [], 0), some (.aload_n 0, 1669, 0, 0, [], 0), some (.iload_n 3, 1670, 3, 0, [], 0), some (.iconst 1, 1671, 0, 0, [], 1), some (.iadd, 1672, 0, 0, [], 0), some (.iaload, 1673, 0, 0, [], 0), some (.aload_n 0, 1674, 0, 0, [], 0), some (.iload_n 3, 1675, 3, 0, [], 0), some (.iconst 2, 1676, 0, 0, [], 2), some (.iadd, 1677, 0, 0, [], 0), some (.iaload, 1678, 0, 0, [], 0), some (.aload_n 0, 1679, 0, 0, [], 0), some (.iload_n 3, 1680, 3, 0, [], 0)],
  [some (.iconst 3, 1681, 0, 0, [], 3), some (.iadd, 1682, 0, 0, [], 0), some (.iaload, 1683, 0, 0, [], 0), some (.invokevirtual 209, 1686, 1, 155, [3, 11], 0), none, none, some (.aload_n 2, 1687, 2, 0, [], 0), some (.aload_n 0, 1688, 0, 0, [], 0), some (.iload_n 3, 1689, 3, 0, [], 0), some (.iconst 1, 1690, 0, 0, [], 1), some (.iadd, 1691, 0, 0, [], 0), some (.iaload, 1692, 0, 0, [], 0), some (.aload_n 0, 1693, 0, 0, [], 0), some (.iload_n 3, 1694, 3, 0, [], 0), some (.iconst 2, 1695, 0, 0, [], 2), some (.iadd, 1696, 0, 0, [], 0)],
  [some (.iaload, 1697, 0, 0, [], 0), some (.aload_n 0, 1698, 0, 0, [], 0), some (.iload_n 3, 1699, 3, 0, [], 0), some (.iconst 3, 1700, 0, 0, [], 3), some (.iadd, 1701, 0, 0, [], 0), some (.iaload, 1702, 0, 0, [], 0), some (.invokevirtual 212, 1705, 1, 283, [3, 12], 0), none, none, some (.if_icmp .eq 77, 1708, 1782, 0, [], 0), none, none, some (.iconst 0, 1709, 0, 0, [], 0), some (.ireturn, 1710, 2, 0, [], 0), some (.aload_n 1, 1711, 1, 0, [], 0), some (.aload_n 0, 1712, 0, 0, [], 0)],
  [some (.iload_n 3, 1713, 3, 0, [], 0), some (.iconst 1, 1714, 0, 0, [], 1), some (.iadd, 1715, 0, 0, [], 0), some (.iaload, 1716, 0, 0, [], 0), some (.invokevirtual 213, 1719, 1, 158, [1, 11], 0), none, none, some (.aload_n 2, 1720, 2, 0, [], 0), some (.aload_n 0, 1721, 0, 0, [], 0), some (.iload_n 3, 1722, 3, 0, [], 0), some (.iconst 1, 1723, 0, 0, [], 1), some (.iadd, 1724, 0, 0, [], 0), some (.iaload, 1725, 0, 0, [], 0), some (.invokevirtual 216, 1728, 1, 284, [1, 12], 0), none, none],
  [some (.if_icmp .eq 54, 1731, 1782, 0, [], 0), none, none, some (.iconst 0, 1732, 0, 0, [], 0), some (.ireturn, 1733, 2, 0, [], 0), some (.aload_n 1, 1734, 1, 0, [], 0), some (.aload_n 0, 1735, 0, 0, [], 0), some (.iload_n 3, 1736, 3, 0, [], 0), some (.iconst 1, 1737, 0, 0, [], 1), some (.iadd, 1738, 0, 0, [], 0), some (.iaload, 1739, 0, 0, [], 0), some (.invokevirtual 217, 1742, 1, 159, [1, 11], 0), none, none, some (.aload_n 2, 1743, 2, 0, [], 0), some (.aload_n 0, 1744, 0, 0, [], 0)],
  [some (.iload_n 3, 1745, 3, 0, [], 0), some (.iconst 1, 1746, 0, 0, [], 1), some (.iadd, 1747, 0, 0, [], 0), some (.iaload, 1748, 0, 0, [], 0), some (.invokevirtual 220, 1751, 1, 286, [1, 12], 0), none, none, some (.if_icmp .eq 31, 1754, 1782, 0, [], 0), none, none, some (.iconst 0, 1755, 0, 0, [], 0), some (.ireturn, 1756, 2, 0, [], 0), some (.aload_n 1, 1757, 1, 0, [], 0), some (.invokevirtual 221, 1760, 1, 160, [0, 11], 0), none, none],
  [some (.aload_n 2, 1761, 2, 0, [], 0), some (.invokevirtual 224, 1764, 1, 287, [0, 12], 0), none, none, some (.if_icmp .eq 18, 1767, 1782, 0, [], 0), none, none, some (.iconst 0, 1768, 0, 0, [], 0), some (.ireturn, 1769, 2, 0, [], 0), some (.aload_n 1, 1770, 1, 0, [], 0), some (.invokevirtual 225, 1773, 1, 161, [0, 11], 0), none, none, some (.aload_n 2, 1774, 2, 0, [], 0), some (.invokevirtual 228, 1777, 1, 288, [0, 12], 0), none],
  [none, some (.if_icmp .eq 5, 1780, 1782, 0, [], 0), none, none, some (.iconst 0, 1781, 0, 0, [], 0), some (.ireturn, 1782, 2, 0, [], 0), some (.iinc 3 5, 1785, 3, 0, [], 5), none, none, some (.goto (-1767), 1788, 18, 0, [], 0), none, none, some (.iconst 1, 1789, 0, 0, [], 1), some (.ireturn, 1790, 2, 0, [], 0)]])
end
section
def am_ms : List (List am_M) := [[mm_0, mm_1, mm_2, mm_3, mm_4, mm_5, mm_6, mm_7, mm_8, mm_9, mm_10, mm_11, mm_12, mm_13, mm_14, mm_15],
  [mm_16, mm_17, mm_18, mm_19, mm_20, mm_21, mm_22, mm_23, mm_24, mm_25, mm_26, mm_27, mm_28, mm_29, mm_30, mm_31],
  [mm_32, mm_33, mm_34, mm_35, mm_36, mm_37, mm_38, mm_39, mm_40, mm_41, mm_42, mm_43, mm_44, mm_45, mm_46, mm_47],
  [mm_48, mm_49, mm_50, mm_51, mm_52, mm_53, mm_54, mm_55, mm_56, mm_57, mm_58, mm_59, mm_60, mm_61, mm_62, mm_63],
  [mm_64, mm_65, mm_66, mm_67, mm_68, mm_69, mm_70, mm_71, mm_72, mm_73, mm_74, mm_75, mm_76, mm_77, mm_78, mm_79],
  [mm_80, mm_81, mm_82, mm_83, mm_84, mm_85, mm_86, mm_87, mm_88, mm_89, mm_90, mm_91, mm_92, mm_93, mm_94, mm_95],
  [mm_96, mm_97, mm_98, mm_99, mm_100, mm_101, mm_102, mm_103, mm_104, mm_105, mm_106, mm_107, mm_108, mm_109, mm_110, mm_111],
  [mm_112, mm_113, mm_114, mm_115, mm_116, mm_117, mm_118, mm_119, mm_120, mm_121, mm_122, mm_123, mm_124, mm_125, mm_126, mm_127],
  [mm_128, mm_129, mm_130, mm_131, mm_132, mm_133, mm_134, mm_135, mm_136, mm_137, mm_138, mm_139, mm_140, mm_141, mm_142, mm_143],
  [mm_144, mm_145, mm_146, mm_147, mm_148, mm_149, mm_150, mm_151, mm_152, mm_153, mm_154, mm_155, mm_156, mm_157, mm_158, mm_159],
  [mm_160, mm_161, mm_162, mm_163, mm_164, mm_165, mm_166, mm_167, mm_168, mm_169, mm_170, mm_171, mm_172, mm_173, mm_174, mm_175],
  [mm_176, mm_177, mm_178, mm_179, mm_180, mm_181, mm_182, mm_183, mm_184, mm_185, mm_186, mm_187, mm_188, mm_189, mm_190, mm_191],
  [mm_192, mm_193, mm_194, mm_195, mm_196, mm_197, mm_198, mm_199, mm_200, mm_201, mm_202, mm_203, mm_204, mm_205, mm_206, mm_207],
  [mm_208, mm_209, mm_210, mm_211, mm_212, mm_213, mm_214, mm_215, mm_216, mm_217, mm_218, mm_219, mm_220, mm_221, mm_222, mm_223],
  [mm_224, mm_225, mm_226, mm_227, mm_228, mm_229, mm_230, mm_231, mm_232, mm_233, mm_234, mm_235, mm_236, mm_237, mm_238, mm_239],
  [mm_240, mm_241, mm_242, mm_243, mm_244, mm_245, mm_246, mm_247, mm_248, mm_249, mm_250, mm_251, mm_252, mm_253, mm_254, mm_255],
  [mm_256, mm_257, mm_258, mm_259, mm_260, mm_261, mm_262, mm_263, mm_264, mm_265, mm_266, mm_267, mm_268, mm_269, mm_270, mm_271],
  [mm_272, mm_273, mm_274, mm_275, mm_276, mm_277, mm_278, mm_279, mm_280, mm_281, mm_282, mm_283, mm_284, mm_285, mm_286, mm_287],
  [mm_288, mm_289]]
def am_meth (mi : Nat) : Option am_M := match am_nth am_ms (mi / 16) with
  | some l => am_nth l (mi % 16)
  | none => none
abbrev q_Integer_numberOfTrailingZeros : Nat := 0
abbrev q_Integer_bitCount : Nat := 1
abbrev q_Arrays_fill : Nat := 2
abbrev q_Bishop_strange : Nat := 3
abbrev q_Bishop_eats : Nat := 4
abbrev q_Bishop_hails : Nat := 5
abbrev q_Bishop_blesses : Nat := 6
abbrev q_Course_copyFrom : Nat := 7
abbrev q_Course_startAnew : Nat := 8
abbrev q_Course_metOf : Nat := 9
abbrev q_Course_setMet : Nat := 10
abbrev q_Course_isFed : Nat := 11
abbrev q_Course_setFed : Nat := 12
abbrev q_Course_metSet : Nat := 13
abbrev q_Deed_clear : Nat := 14
abbrev q_Deed_by : Nat := 15
abbrev q_Deed_began : Nat := 16
abbrev q_Friend_strange : Nat := 17
abbrev q_Friend_eats : Nat := 18
abbrev q_Friend_weighs : Nat := 19
abbrev q_Person_strange : Nat := 20
abbrev q_Person_eats : Nat := 21
abbrev q_Person_hails : Nat := 22
abbrev q_Person_shares : Nat := 23
abbrev q_Person_weighs : Nat := 24
abbrev q_Person_blesses : Nat := 25
abbrev q_Pilgrim_strange : Nat := 26
abbrev q_Pilgrim_eats : Nat := 27
abbrev q_Pilgrim_shares : Nat := 28
abbrev q_Planner_start : Nat := 29
abbrev q_Planner_tryPlans : Nat := 30
abbrev q_Planner_tryActs : Nat := 31
abbrev q_Planner_weighPlan : Nat := 32
abbrev q_Planner_valueOfGame : Nat := 33
abbrev q_Planner_valueFrom : Nat := 34
abbrev q_Road_copyFrom : Nat := 35
abbrev q_Road_copyRow : Nat := 36
abbrev q_Road_takeRules : Nat := 37
abbrev q_Road_has : Nat := 38
abbrev q_Road_isAct : Nat := 39
abbrev q_Road_isOver : Nat := 40
abbrev q_Road_daysLeft : Nat := 41
abbrev q_Road_thingOf : Nat := 42
abbrev q_Road_takesBy : Nat := 43
abbrev q_Road_strangeStill : Nat := 44
abbrev q_Road_isOrIsUnder : Nat := 45
abbrev q_Road_snowBehind : Nat := 46
abbrev q_Road_goBy : Nat := 47
abbrev q_Road_breakWith : Nat := 48
abbrev q_Road_lessByDay : Nat := 49
abbrev q_Road_restAct : Nat := 50
abbrev q_Road_willOf : Nat := 51
abbrev q_Road_holds : Nat := 52
abbrev q_Road_compared : Nat := 53
abbrev q_Road_valueOf : Nat := 54
abbrev q_Road_hungry : Nat := 55
abbrev q_Road_tableOf : Nat := 56
abbrev q_Road_isCloseToAny : Nat := 57
abbrev q_Road_partsOver : Nat := 58
abbrev q_Road_partsBy : Nat := 59
abbrev q_Road_kindOfStranger : Nat := 60
abbrev q_Road_taleOfStranger : Nat := 61
abbrev q_Road_snowOfStranger : Nat := 62
abbrev q_Road_reportsAgainst : Nat := 63
abbrev q_Road_lastReported : Nat := 64
abbrev q_Road_reportsAgainstDay : Nat := 65
abbrev q_RuleText_takeByte : Nat := 66
abbrev q_RuleText_readAll : Nat := 67
abbrev q_RuleText_splitTape : Nat := 68
abbrev q_RuleText_isLetter : Nat := 69
abbrev q_RuleText_isDigit : Nat := 70
abbrev q_RuleText_addToken : Nat := 71
abbrev q_RuleText_numberAt : Nat := 72
abbrev q_RuleText_wordAt : Nat := 73
abbrev q_RuleText_isWordAt : Nat := 74
abbrev q_RuleText_word : Nat := 75
abbrev q_RuleText_token : Nat := 76
abbrev q_RuleText_readRule : Nat := 77
abbrev q_RuleText_readAny : Nat := 78
abbrev q_RuleText_readEach : Nat := 79
abbrev q_RuleText_readOne : Nat := 80
abbrev q_RuleText_readComparison : Nat := 81
abbrev q_RuleText_isValue : Nat := 82
abbrev q_RuleText_put : Nat := 83
abbrev q_Tramp_strange : Nat := 84
abbrev q_Tramp_eats : Nat := 85
abbrev q_Tramp_hails : Nat := 86
abbrev q_Twin_strange : Nat := 87
abbrev q_Twin_eats : Nat := 88
abbrev q_Twin_shares : Nat := 89
abbrev q_Twin_weighs : Nat := 90
abbrev q_X_person : Nat := 91
abbrev q_X_personOf : Nat := 92
abbrev q_X_change : Nat := 93
abbrev q_X_mostToChange : Nat := 94
abbrev q_X_remake : Nat := 95
abbrev q_X_weather : Nat := 96
abbrev q_X_gate : Nat := 97
abbrev q_X_gateOf : Nat := 98
abbrev q_X_house : Nat := 99
abbrev q_X_ends : Nat := 100
abbrev q_X_anew : Nat := 101
abbrev q_X_state : Nat := 102
abbrev q_X_feed : Nat := 103
abbrev q_X_rules : Nat := 104
abbrev q_X_day : Nat := 105
abbrev q_X_on : Nat := 106
abbrev q_X_when : Nat := 107
abbrev q_X_taleFor : Nat := 108
abbrev q_X_gateFor : Nat := 109
abbrev q_X_mostWorthBy : Nat := 110
abbrev q_X_startAhead : Nat := 111
abbrev q_X_worthOfRest : Nat := 112
abbrev q_X_bakery : Nat := 113
abbrev q_X_winter : Nat := 114
abbrev q_X_tables : Nat := 115
abbrev q_X_countTables : Nat := 116
abbrev q_X_rounds : Nat := 117
abbrev q_X_best : Nat := 118
abbrev q_X_ith : Nat := 119
abbrev q_X_ways : Nat := 120
abbrev q_X_feast : Nat := 121
abbrev q_X_bars : Nat := 122
abbrev q_X_isSetOfPeople : Nat := 123
abbrev q_X_leastOf : Nat := 124
abbrev q_X_game : Nat := 125
abbrev q_X_play : Nat := 126
abbrev q_X_report : Nat := 127
abbrev q_X_forget : Nat := 128
abbrev q_X_tales : Nat := 129
abbrev q_X_liar : Nat := 130
abbrev q_X_seed : Nat := 131
abbrev q_X_lot : Nat := 132
abbrev q_X_times : Nat := 133
abbrev q_X_nextChance : Nat := 134
abbrev q_X_actByChance : Nat := 135
abbrev q_X_prove : Nat := 136
abbrev q_X_row : Nat := 137
abbrev q_X_alterRow : Nat := 138
abbrev q_X_judge : Nat := 139
abbrev q_X_isInRows : Nat := 140
abbrev q_X_placeInRow : Nat := 141
abbrev q_X_sheet : Nat := 142
abbrev q_X_write : Nat := 143
abbrev q_X_narrowed : Nat := 144
abbrev q_X_item : Nat := 145
abbrev q_X_goAll : Nat := 146
abbrev q_X_wouldBe : Nat := 147
abbrev q_X_isSheet : Nat := 148
abbrev q_X_hasItem : Nat := 149
abbrev q_X_refusalAs : Nat := 150
abbrev q_X_shelf : Nat := 151
abbrev q_X_putPerson : Nat := 152
abbrev q_X_putRow : Nat := 153
abbrev q_X_taken : Nat := 154
abbrev q_X_act : Nat := 155
abbrev q_X_isShelf : Nat := 156
abbrev q_X_personOn : Nat := 157
abbrev q_X_trace : Nat := 158
abbrev q_X_many : Nat := 159
abbrev q_X_keep : Nat := 160
abbrev q_X_again : Nat := 161
abbrev q_X_within : Nat := 162
abbrev q_M_in1 : Nat := 163
abbrev q_M_held : Nat := 164
abbrev q_M_layDown : Nat := 165
abbrev q_M_layBack : Nat := 166
abbrev q_M_get : Nat := 167
abbrev q_M_puts : Nat := 168
abbrev q_M_isPerson : Nat := 169
abbrev q_M_isAct : Nat := 170
abbrev q_M_isOver : Nat := 171
abbrev q_M_becomes : Nat := 172
abbrev q_M_above : Nat := 173
abbrev q_M_isUnder : Nat := 174
abbrev q_M_strangeOf : Nat := 175
abbrev q_M_stillOf : Nat := 176
abbrev q_M_eatsOf : Nat := 177
abbrev q_M_isTaken : Nat := 178
abbrev q_M_knownOf : Nat := 179
abbrev q_M_joined : Nat := 180
abbrev q_M_ruleOf : Nat := 181
abbrev q_M_holdsFor : Nat := 182
abbrev q_M_willOf : Nat := 183
abbrev q_M_byteAt : Nat := 184
abbrev q_M_isNameOf : Nat := 185
abbrev q_M_readsName : Nat := 186
abbrev q_M_readsNumber : Nat := 187
abbrev q_M_next : Nat := 188
abbrev q_M_takes : Nat := 189
abbrev q_M_lays : Nat := 190
abbrev q_M_readsValue : Nat := 191
abbrev q_M_readsLike : Nat := 192
abbrev q_M_readsWithin : Nat := 193
abbrev q_M_readsOne : Nat := 194
abbrev q_M_readsAll : Nat := 195
abbrev q_M_readsCondition : Nat := 196
abbrev q_M_readsRule : Nat := 197
abbrev q_M_feed : Nat := 198
abbrev q_M_rules : Nat := 199
abbrev q_M_snowBy : Nat := 200
abbrev q_M_feeds : Nat := 201
abbrev q_M_meets : Nat := 202
abbrev q_M_restOne : Nat := 203
abbrev q_M_goesBy : Nat := 204
abbrev q_M_isNeed : Nat := 205
abbrev q_M_isDigit : Nat := 206
abbrev q_M_isGate : Nat := 207
abbrev q_M_person : Nat := 208
abbrev q_M_personOf : Nat := 209
abbrev q_M_change : Nat := 210
abbrev q_M_remake : Nat := 211
abbrev q_M_weather : Nat := 212
abbrev q_M_gate : Nat := 213
abbrev q_M_gateOf : Nat := 214
abbrev q_M_house : Nat := 215
abbrev q_M_ends : Nat := 216
abbrev q_M_anew : Nat := 217
abbrev q_M_those : Nat := 218
abbrev q_M_state : Nat := 219
abbrev q_M_day : Nat := 220
abbrev q_M_restOf : Nat := 221
abbrev q_M_on : Nat := 222
abbrev q_M_when : Nat := 223
abbrev q_M_bestFor : Nat := 224
abbrev q_M_taleFor : Nat := 225
abbrev q_M_gateFor : Nat := 226
abbrev q_M_bakery : Nat := 227
abbrev q_M_winter : Nat := 228
abbrev q_M_areClose : Nat := 229
abbrev q_M_tableOf : Nat := 230
abbrev q_M_tables : Nat := 231
abbrev q_M_goesRound : Nat := 232
abbrev q_M_rounds : Nat := 233
abbrev q_M_saves : Nat := 234
abbrev q_M_restores : Nat := 235
abbrev q_M_daysOf : Nat := 236
abbrev q_M_endsPlan : Nat := 237
abbrev q_M_goesPlans : Nat := 238
abbrev q_M_triesAll : Nat := 239
abbrev q_M_isPlan : Nat := 240
abbrev q_M_best : Nat := 241
abbrev q_M_ith : Nat := 242
abbrev q_M_ways : Nat := 243
abbrev q_M_isSet : Nat := 244
abbrev q_M_feast : Nat := 245
abbrev q_M_bars : Nat := 246
abbrev q_M_playedFrom : Nat := 247
abbrev q_M_game : Nat := 248
abbrev q_M_play : Nat := 249
abbrev q_M_report : Nat := 250
abbrev q_M_forget : Nat := 251
abbrev q_M_tellsStranger : Nat := 252
abbrev q_M_isSo : Nat := 253
abbrev q_M_fitting : Nat := 254
abbrev q_M_tales : Nat := 255
abbrev q_M_liar : Nat := 256
abbrev q_M_seed : Nat := 257
abbrev q_M_byLot : Nat := 258
abbrev q_M_lot : Nat := 259
abbrev q_M_times : Nat := 260
abbrev q_M_prove : Nat := 261
abbrev q_M_isRow : Nat := 262
abbrev q_M_row : Nat := 263
abbrev q_M_alterRow : Nat := 264
abbrev q_M_judge : Nat := 265
abbrev q_M_isSheet : Nat := 266
abbrev q_M_sheet : Nat := 267
abbrev q_M_narrowed : Nat := 268
abbrev q_M_write : Nat := 269
abbrev q_M_lacks : Nat := 270
abbrev q_M_item : Nat := 271
abbrev q_M_isItem : Nat := 272
abbrev q_M_goAll : Nat := 273
abbrev q_M_wouldBe : Nat := 274
abbrev q_M_shelf : Nat := 275
abbrev q_M_heldOn : Nat := 276
abbrev q_M_taken : Nat := 277
abbrev q_M_starts : Nat := 278
abbrev q_M_hailsAs : Nat := 279
abbrev q_M_sharesAs : Nat := 280
abbrev q_M_weighsAs : Nat := 281
abbrev q_M_blessesAs : Nat := 282
abbrev q_M_act : Nat := 283
abbrev q_M_trace : Nat := 284
abbrev q_M_ones : Nat := 285
abbrev q_M_many : Nat := 286
abbrev q_M_keep : Nat := 287
abbrev q_M_again : Nat := 288
abbrev q_L_law : Nat := 289
end
section
def am_le (X X' : am_J) : Prop := ∀ d mi pc lv st I Q, X d mi pc lv st I Q → X' d mi pc lv st I Q
def am_mo (Y : am_J) : Prop := ∀ d mi pc lv st I (Q Q' : am_Q), (∀ r I', Q r I' → Q' r I') → Y d mi pc lv st I Q → Y d mi pc lv st I Q'
section
variable {mt : Nat → Option am_M} {L : Nat} {xs : Nat → Int32} {Y X X' : am_J} {d mi n a b : Nat} {lv : List (Option Value)} {st : List Value} {I : am_I} {Q : am_Q}
theorem am_call_m (hY : am_mo Y) (hX : am_le X X') {args rest : List Value} (h : am_call mt Y X b args rest d mi n lv I Q) : am_call mt Y X' b args rest d mi n lv I Q := by
  unfold am_call at h ⊢
  cases d with
  | zero => exact h
  | succ d =>
    dsimp only at h ⊢
    cases hm : mt b with
    | none => rw [hm] at h; exact h
    | some M =>
      rw [hm] at h
      dsimp only at h ⊢
      cases hb : (Nat.ble (am_cs rest) 8 && (Nat.ble (am_cs args) M.2.2.1 && am_argok b args)) with
      | false => rw [hb] at h; exact h
      | true =>
        rw [hb] at h
        exact hY _ _ _ _ _ _ _ _ (fun r I' q => hX _ _ _ _ _ _ _ q) h
theorem am_sw_m (hX : am_le X X') : ∀ (ts : List Nat) (v : Int32) {x : Int32} {df : Nat}, am_sw X ts v x df d mi lv st I Q → am_sw X' ts v x df d mi lv st I Q
  | [], _, _, _, h => hX _ _ _ _ _ _ _ h
  | _ :: ts, v, _, _, h => ⟨fun c => hX _ _ _ _ _ _ _ (h.1 c), fun c => am_sw_m hX ts (v + 1) (h.2 c)⟩
theorem am_bin_m (hX : am_le X X') {f : Int32 → Int32 → Int32} (h : am_bin X f d mi n lv st I Q) : am_bin X' f d mi n lv st I Q := by
  unfold am_bin at h ⊢
  split at h
  · exact hX _ _ _ _ _ _ _ h
  · exact h.elim
theorem am_div_m (hX : am_le X X') {f : Int32 → Int32 → Int32} (h : am_div X f d mi n lv st I Q) : am_div X' f d mi n lv st I Q := by
  unfold am_div at h ⊢
  split at h
  · exact ⟨h.1, hX _ _ _ _ _ _ _ h.2⟩
  · exact h.elim
theorem am_br2_m (hX : am_le X X') {f : Int32 → Int32 → Prop} (h : am_br2 X f a d mi n lv st I Q) : am_br2 X' f a d mi n lv st I Q := by
  unfold am_br2 at h ⊢
  split at h
  · exact ⟨fun c => hX _ _ _ _ _ _ _ (h.1 c), fun c => hX _ _ _ _ _ _ _ (h.2 c)⟩
  · exact h.elim
theorem am_br1_m (hX : am_le X X') {f : Int32 → Prop} (h : am_br1 X f a d mi n lv st I Q) : am_br1 X' f a d mi n lv st I Q := by
  unfold am_br1 at h ⊢
  split at h
  · exact ⟨fun c => hX _ _ _ _ _ _ _ (h.1 c), fun c => hX _ _ _ _ _ _ _ (h.2 c)⟩
  · exact h.elim
theorem am_una_m (hX : am_le X X') {f : Int32 → Int32} (h : am_una X f d mi n lv st I Q) : am_una X' f d mi n lv st I Q := by
  unfold am_una at h ⊢
  split at h
  · exact hX _ _ _ _ _ _ _ h
  · exact h.elim
theorem am_lbin_m (hX : am_le X X') {f : Int64 → Int64 → Int64} (h : am_lbin X f d mi n lv st I Q) : am_lbin X' f d mi n lv st I Q := by
  unfold am_lbin at h ⊢
  split at h
  · exact hX _ _ _ _ _ _ _ h
  · exact h.elim
theorem am_lsh_m (hX : am_le X X') {f : Int64 → Int32 → Int64} (h : am_lsh X f d mi n lv st I Q) : am_lsh X' f d mi n lv st I Q := by
  unfold am_lsh at h ⊢
  split at h
  · exact hX _ _ _ _ _ _ _ h
  · exact h.elim
theorem am_ild_m (hX : am_le X X') (h : am_ild X a d mi n lv st I Q) : am_ild X' a d mi n lv st I Q := by
  unfold am_ild at h ⊢
  split at h
  · exact hX _ _ _ _ _ _ _ h
  · exact h.elim
theorem am_lld_m (hX : am_le X X') (h : am_lld X a d mi n lv st I Q) : am_lld X' a d mi n lv st I Q := by
  unfold am_lld at h ⊢
  split at h
  · exact hX _ _ _ _ _ _ _ h
  · exact h.elim
theorem am_ald_m (hX : am_le X X') (h : am_ald X a d mi n lv st I Q) : am_ald X' a d mi n lv st I Q := by
  unfold am_ald at h ⊢
  split at h
  · exact hX _ _ _ _ _ _ _ h
  · exact h.elim
theorem am_ist_m (hX : am_le X X') (h : am_ist X a d mi n lv st I Q) : am_ist X' a d mi n lv st I Q := by
  unfold am_ist at h ⊢
  split at h
  · exact hX _ _ _ _ _ _ _ h
  · exact h.elim
theorem am_ast_m (hX : am_le X X') (h : am_ast X a d mi n lv st I Q) : am_ast X' a d mi n lv st I Q := by
  unfold am_ast at h ⊢
  split at h
  · exact hX _ _ _ _ _ _ _ h
  · exact h.elim
theorem am_inc_m (hX : am_le X X') {v : Int32} (h : am_inc X a v d mi n lv st I Q) : am_inc X' a v d mi n lv st I Q := by
  unfold am_inc at h ⊢
  split at h
  · exact hX _ _ _ _ _ _ _ h
  · exact h.elim
theorem am_getf_m (hX : am_le X X') {ci k : Nat} (h : am_getf X ci k d mi n lv st I Q) : am_getf X' ci k d mi n lv st I Q := by
  unfold am_getf at h ⊢
  repeat' split at h
  all_goals first
    | exact h.elim
    | exact hX _ _ _ _ _ _ _ h
theorem am_putf_m (hX : am_le X X') {ci k : Nat} (h : am_putf X ci k d mi n lv st I Q) : am_putf X' ci k d mi n lv st I Q := by
  unfold am_putf at h ⊢
  repeat' split at h
  all_goals first
    | exact h.elim
    | exact hX _ _ _ _ _ _ _ h
    | exact ⟨h.1, hX _ _ _ _ _ _ _ h.2⟩
theorem am_ald1_m (hX : am_le X X') {t : Nat} (h : am_ald1 L xs X t d mi n lv st I Q) : am_ald1 L xs X' t d mi n lv st I Q := by
  unfold am_ald1 at h ⊢
  repeat' split at h
  all_goals first
    | exact h.elim
    | exact ⟨h.1, hX _ _ _ _ _ _ _ h.2⟩
theorem am_ast1_m (hX : am_le X X') {t : Nat} (h : am_ast1 X t d mi n lv st I Q) : am_ast1 X' t d mi n lv st I Q := by
  unfold am_ast1 at h ⊢
  repeat' split at h
  all_goals first
    | exact h.elim
    | exact ⟨h.1, hX _ _ _ _ _ _ _ h.2⟩
theorem am_aald_m (hX : am_le X X') (h : am_aald X d mi n lv st I Q) : am_aald X' d mi n lv st I Q := by
  unfold am_aald at h ⊢
  repeat' split at h
  all_goals first
    | exact h.elim
    | exact ⟨h.1, hX _ _ _ _ _ _ _ h.2⟩
    | exact h.2.elim
theorem am_alen_m (hX : am_le X X') (h : am_alen L X d mi n lv st I Q) : am_alen L X' d mi n lv st I Q := by
  unfold am_alen at h ⊢
  repeat' split at h
  all_goals first
    | exact h.elim
    | exact hX _ _ _ _ _ _ _ h
theorem am_inv_m (hY : am_mo Y) (hX : am_le X X') {ts : List Nat} (h : am_inv mt Y X a b ts d mi n lv st I Q) : am_inv mt Y X' a b ts d mi n lv st I Q := by
  unfold am_inv at h ⊢
  repeat' split at h
  all_goals first
    | exact h.elim
    | exact am_call_m hY hX h
    | exact hX _ _ _ _ _ _ _ h
    | exact ⟨h.1, hX _ _ _ _ _ _ _ h.2⟩
theorem am_step_m (hY : am_mo Y) (hX : am_le X X') {i : Instr} {ts : List Nat} {v : Int32} (h : am_step mt L xs Y X i n a b ts v d mi lv st I Q) : am_step mt L xs Y X' i n a b ts v d mi lv st I Q := by
  unfold am_step at h ⊢
  split at h
  all_goals first
    | exact h.elim
    | exact hX _ _ _ _ _ _ _ h
    | exact am_bin_m hX h
    | exact am_div_m hX h
    | exact am_br2_m hX h
    | exact am_br1_m hX h
    | exact am_una_m hX h
    | exact am_lbin_m hX h
    | exact am_lsh_m hX h
    | exact am_ild_m hX h
    | exact am_lld_m hX h
    | exact am_ald_m hX h
    | exact am_ist_m hX h
    | exact am_ast_m hX h
    | exact am_inc_m hX h
    | exact am_getf_m hX h
    | exact am_putf_m hX h
    | exact am_ald1_m hX h
    | exact am_ast1_m hX h
    | exact am_aald_m hX h
    | exact am_alen_m hX h
    | exact am_inv_m hY hX h
    | exact h
    | (split at h
       all_goals first
         | exact h.elim
         | exact hX _ _ _ _ _ _ _ h
         | exact am_sw_m hX _ _ h)
theorem am_F_m (hY : am_mo Y) (hX : am_le X X') {pc : Nat} (h : am_F mt L xs Y X d mi pc lv st I Q) : am_F mt L xs Y X' d mi pc lv st I Q := by
  unfold am_F at h ⊢
  split at h
  · exact h
  · split at h
    · exact h
    · exact am_step_m hY hX h
end
/-- n instructions on, for a closed judgement -/
theorem am_vc {mt : Nat → Option am_M} {L : Nat} {xs : Nat → Int32} {J : am_J} (hJ : am_Cl mt L xs J) : ∀ n : Nat, am_le (am_N mt L xs J n) J
  | 0 => fun _ _ _ _ _ _ _ h => h
  | n + 1 => fun _ _ _ _ _ _ _ h => hJ.1 _ _ _ _ _ _ _ (am_F_m hJ.2 (am_vc hJ n) h)
end
section
/-! THE REAL MACHINE HOLDS AN ABSTRACT STATE: addresses of the cells by 'ad', array classes by 'cA' -/
def am_up (ad : Nat → Nat) : Value → Value
  | .ref o => .ref (ad o)
  | v => v
theorem am_up_cat (ad : Nat → Nat) (v : Value) : (am_up ad v).category = v.category := by cases v <;> rfl
def am_cn (ci : Nat) : Nat := match am_nth [0, 6, 5, 0, 0, 0, 11, 20, 9, 0, 0, 15, 39] ci with
  | some n => n
  | none => 0
def am_fv (ad : Nat → Nat) (I : am_I) (o ci k : Nat) : Value := match am_ft ci k with
  | 1 => va_rf ((am_R o k).map ad)
  | _ => .int (I o k)
def am_fs (ad : Nat → Nat) (I : am_I) (o ci : Nat) : List Value := (List.range (am_cn ci)).map (am_fv ad I o ci)
def am_isR : FieldType → Bool
  | .object _ => true
  | .array _ => true
  | _ => false
def am_ar (ad : Nat → Nat) (I : am_I) (o : Nat) (ty : FieldType) : (Nat → Int32) ⊕ (Nat → Int64) ⊕ (Nat → UInt32) ⊕ (Nat → UInt64) ⊕ (Nat → Option Nat) := match am_isR ty with
  | true => .inr (.inr (.inr (.inr (fun j => (am_R o j).map ad))))
  | false => .inl (I o)
def am_cell (cA : FieldType → ClassId) (ad : Nat → Nat) (I : am_I) (o : Nat) : va_E := match am_G o with
  | some (.inl ci) => .inr (ci, am_fs ad I o ci)
  | some (.inr (ty, n)) => .inl (cA ty, n, am_ar ad I o ty)
  | none => .inl (cA .int, 0, .inl (I o))
def am_ws (cA : FieldType → ClassId) (ad : Nat → Nat) (I : am_I) : va_W := (List.range am_n).map (fun o => (ad o, am_cell cA ad I o))
def am_A (ad : Nat → Nat) : Nat → Prop := fun q => ∃ o, o < am_n ∧ q = ad o
def am_inj (ad : Nat → Nat) : Prop := ∀ i j, i < am_n → j < am_n → ad i = ad j → i = j
def am_tl : List FieldType := [.int, .byte, .char, .object "BrokenLoaves$Person", .object "BrokenLoaves$Course", .array .int]
def am_tys (cA : FieldType → ClassId) : List (ClassId × FieldType) := am_tl.map (fun t => (cA t, t))
theorem am_nth_lt {α : Type} : ∀ (l : List α) (k : Nat) {x : α}, am_nth l k = some x → k < l.length
  | [], _, _, h => by simp [am_nth] at h
  | _ :: l, 0, _, _ => by simp
  | _ :: l, n + 1, _, h => by have := am_nth_lt l n h; simp; omega
theorem am_nth_get {α : Type} : ∀ (l : List α) (k : Nat), am_nth l k = l[k]?
  | [], _ => by simp [am_nth]
  | _ :: l, 0 => by simp [am_nth]
  | _ :: l, n + 1 => by simp [am_nth, am_nth_get l n]
theorem am_G_lt {o : Nat} {x : am_S} (h : am_G o = some x) : o < am_n := am_nth_lt am_Gl o h
theorem am_ws_at (cA : FieldType → ClassId) (ad : Nat → Nat) (I : am_I) {o : Nat} (h : o < am_n) : (am_ws cA ad I)[o]? = some (ad o, am_cell cA ad I o) := by
  unfold am_ws
  rw [List.getElem?_map, List.getElem?_range h]
  rfl
theorem am_ws_none (cA : FieldType → ClassId) (ad : Nat → Nat) (I : am_I) {o : Nat} (h : ¬ o < am_n) : (am_ws cA ad I)[o]? = none := by
  unfold am_ws
  rw [List.getElem?_map, List.getElem?_eq_none (by simp; omega)]
  rfl
theorem am_ws_D {ad : Nat → Nat} (hi : am_inj ad) (cA : FieldType → ClassId) (I : am_I) : va_D (am_A ad) (am_ws cA ad I) := by
  refine ⟨fun i j x y h1 h2 e => ?_, fun k q h => ?_⟩
  · by_cases hi1 : i < am_n
    · by_cases hj : j < am_n
      · rw [am_ws_at cA ad I hi1] at h1
        rw [am_ws_at cA ad I hj] at h2
        cases h1
        cases h2
        exact hi i j hi1 hj e
      · rw [am_ws_none cA ad I hj] at h2
        cases h2
    · rw [am_ws_none cA ad I hi1] at h1
      cases h1
  · by_cases hk : k < am_n
    · rw [am_ws_at cA ad I hk] at h
      cases h
      exact ⟨k, hk, rfl⟩
    · rw [am_ws_none cA ad I hk] at h
      cases h
theorem am_put_o {I : am_I} {o k o' : Nat} {v : Int32} (h : o' ≠ o) : am_put I o k v o' = I o' := by
  funext j
  simp [am_put, h]
theorem am_put_s {I : am_I} {o k : Nat} {v : Int32} : am_put I o k v o = upd (I o) k v := by
  funext j
  simp [am_put, upd]
theorem am_cell_o (cA : FieldType → ClassId) (ad : Nat → Nat) {I I' : am_I} {o : Nat} (h : I' o = I o) : am_cell cA ad I' o = am_cell cA ad I o := by
  unfold am_cell am_ar am_fs am_fv
  rw [h]
theorem am_ws_set (cA : FieldType → ClassId) (ad : Nat → Nat) {I I' : am_I} {o : Nat} {e : va_E} (ho : o < am_n) (he : e = am_cell cA ad I' o) (h : ∀ o', o' ≠ o → I' o' = I o') : (am_ws cA ad I).set o (ad o, e) = am_ws cA ad I' := by
  subst he
  refine List.ext_getElem? fun j => ?_
  by_cases hj : j = o
  · subst hj
    rw [am_ws_at cA ad I' ho, List.getElem?_set_self (by simp [am_ws]; exact ho)]
  · rw [List.getElem?_set_ne (Ne.symm hj)]
    by_cases hn : j < am_n
    · rw [am_ws_at cA ad I hn, am_ws_at cA ad I' hn, am_cell_o cA ad (h j hj)]
    · rw [am_ws_none cA ad I hn, am_ws_none cA ad I' hn]
theorem am_fs_at {ad : Nat → Nat} {I : am_I} {o ci k : Nat} (h : k < am_cn ci) : (am_fs ad I o ci)[k]? = some (am_fv ad I o ci k) := by
  unfold am_fs
  rw [List.getElem?_map, List.getElem?_range h]
  rfl
theorem am_fs_put {ad : Nat → Nat} {I : am_I} {o ci k : Nat} {v : Int32} (h : k < am_cn ci) (ht : am_ft ci k ≠ 1) : (am_fs ad I o ci).set k (.int v) = am_fs ad (am_put I o k v) o ci := by
  refine List.ext_getElem? fun j => ?_
  by_cases hj : j = k
  · subst hj
    rw [List.getElem?_set_self (by simp [am_fs]; exact h), am_fs_at h]
    unfold am_fv
    split
    · next e => exact absurd e ht
    · simp [am_put]
  · rw [List.getElem?_set_ne (Ne.symm hj)]
    by_cases hn : j < am_cn ci
    · rw [am_fs_at hn, am_fs_at hn]
      unfold am_fv
      split
      · rfl
      · simp [am_put, hj]
    · unfold am_fs
      rw [List.getElem?_eq_none (by simp; omega), List.getElem?_eq_none (by simp; omega)]
/-- the texts: their addresses, pool places -/
def am_sx : List Nat := [90, 92, 94, 96, 98, 100, 102, 104, 106, 108, 110, 112, 114, 116, 118, 120, 122, 124]
def am_st : List String := ["person", "tramp", "pilgrim", "bishop", "friend", "double", "break", "pass", "shut", "if", "or", "and", "not", "day", "tale", "strange", "snow", "number"]
def am_slen : List Nat := am_txt.map List.length
/-- the words that stay true whatever is linked, and the two links of nest mates -/
def am_tb : List Cond := lw_tbl.filter goodWord
def am_nest : List (String × Nat × MethodName × String) := [("BrokenLoaves$Road", 109, ⟨"BrokenLoaves", "within", "(III)Z"⟩, "BrokenLoaves"), ("BrokenLoaves$RuleText", 70, ⟨"BrokenLoaves", "within", "(III)Z"⟩, "BrokenLoaves")]
def am_X (ad : Nat → Nat) (L : Nat) (xs : Nat → Int32) (U : State) : Prop :=
  (va_X (ad am_scr) L xs U U.heap ∧ ¬ am_A ad (ad am_scr)) ∧ vk_S 18 am_slen am_txt (fun w => ad (1000 + w)) (fun w => ad (2000 + w)) (am_A ad) U U.heap ∧ (∀ w, w < 18 → vk_R "BrokenLoaves$RuleText" (am_sx.getD w 0) (am_st.getD w "") (ad (1000 + w)) U) ∧ ∀ q ∈ am_nest, va_Nw (.methodLinkNest q.1 q.2.1 q.2.2.1 q.2.2.2) U
/-- the world at a method's entry -/
def am_Wd (D : va_G) (cA : FieldType → ClassId) (ad : Nat → Nat) (L : Nat) (xs : Nat → Int32) (I : am_I) (U : State) : Prop :=
  va_P D vwCl (am_ws cA ad I) U.heap ∧ va_K D vwCl (am_tys cA) U ∧ am_X ad L xs U
def am_Qc (D : va_G) (cA : FieldType → ClassId) (ad : Nat → Nat) (Q : am_Q) : Array Value → State → Outcome → State → Prop := fun _ st oc t =>
  (∃ (r : Option Value) (I' : am_I), oc = .returned (r.map (am_up ad)) ∧ Q r I' ∧ va_P D vwCl (am_ws cA ad I') t.heap) ∧ va_F (am_A ad) st t
def am_rm (d : Nat) : Room := { frames := d, cells := 0, slots := 0, locals := 64 * d }
def am_wd (M : am_M) : List Cond := Cond.code M.1 M.2.1 M.2.2.1 M.2.2.2.1 :: am_tb
/-- what stands about a method that runs -/
def am_Cx (D : va_G) (cA : FieldType → ClassId) (ad : Nat → Nat) (L : Nat) (xs : Nat → Int32) (M : am_M) (d : Nat) (p : Program) (R : Room) (s : State) (m : MethodId) (args : Array Value) (c : Code) (cells slots : Nat) : Prop :=
  p.tables.exec = Jvm.exec ∧ c.code = M.2.1 ∧ c.maxLocals = M.2.2.1 ∧ s.vm.findClass M.1.cls = some m.cls ∧ (∀ w ∈ am_tb, w.before args s = true) ∧ va_K D vwCl (am_tys cA) s ∧ (d ≤ R.frames ∧ 64 * d ≤ R.locals) ∧ (cells ≤ R.cells ∧ slots ≤ R.slots) ∧ am_X ad L xs s
def am_ls (ad : Nat → Nat) (M : am_M) (mi : Nat) (ls : Array Slot) (lv : List (Option Value)) : Prop :=
  ls.size = M.2.2.1 ∧ lv_wf ls ∧ (∀ i v, am_nth lv i = some (some v) → ls[i]? = some (.val (am_up ad v))) ∧ ∀ i v, am_nth lv i = some (some v) → v.category = 2 → i = 1 ∧ am_lg mi = true
def am_rt (M : am_M) (pc : Nat) (r : Option Value) : Prop := match r with
  | none => decode M.2.1 pc = .ok (.return_, 1) ∧ M.2.2.2.1 = none
  | some (.int v) => decode M.2.1 pc = .ok (.ireturn, 1) ∧ ((M.2.2.2.1 = some .int) ∨ (M.2.2.2.1 = some .boolean ∧ (v = 0 ∨ v = 1)))
  | some (.ref _) => decode M.2.1 pc = .ok (.areturn, 1) ∧ ((∃ n, M.2.2.2.1 = some (.object n)) ∨ ∃ t, M.2.2.2.1 = some (.array t))
  | _ => False
/-- THE JUDGEMENT ABOUT THE REAL MACHINE: from every state that holds the abstract one the method comes to an end with Q (or to whatever Z its ends lead to) -/
def am_Jm (l : Launch) (D : va_G) (cA : FieldType → ClassId) (ad : Nat → Nat) (L : Nat) (xs : Nat → Int32) : am_J := fun d mi pc lv st I Q =>
  ∀ (M : am_M), am_meth mi = some M → ∀ (p : Program) (e : Env) (R : Room) (s : State) (m : MethodId) (args : Array Value) (below : List Frame) (meth : Method) (c : Code) (H : Heap) (locs : List Loc) (cells slots : Nat) (ls : Array Slot) (Z : State → Prop),
    am_Cx D cA ad L xs M d p R s m args c cells slots → va_P D vwCl (am_ws cA ad I) H → va_S (am_A ad) s.heap H locs → am_ls ad M mi ls lv →
    (∀ (r : Option Value) (I' : am_I) (H' : Heap) (locs' : List Loc) (ls' : Array Slot) (pc' : Nat), Q r I' → va_P D vwCl (am_ws cA ad I') H' → va_S (am_A ad) s.heap H' locs' → am_rt M pc' r → W p l e R s m args below meth c H' locs' cells slots Z (F0 m pc' ls' (r.map (am_up ad)).toList)) →
    W p l e R s m args below meth c H locs cells slots Z (F0 m pc ls (st.map (am_up ad)))
theorem am_Jm_mo (l : Launch) (D : va_G) (cA : FieldType → ClassId) (ad : Nat → Nat) (L : Nat) (xs : Nat → Int32) : am_mo (am_Jm l D cA ad L xs) := by
  intro d mi pc lv st I Q Q' hQ h M hM p e R s m args below meth c H locs cells slots ls Z hC hP hS hl hr
  exact h M hM p e R s m args below meth c H locs cells slots ls Z hC hP hS hl (fun r I' H' locs' ls' pc' q => hr r I' H' locs' ls' pc' (hQ r I' q))
end
section
/-! THE TABLES ARE THE CODE: each row decodes, its words stand in lw_tbl -/
def am_at (p : Nat) (w : Cond) : Bool := decide (lw_tbl[p]? = some w) && goodWord w
theorem am_at_in {p : Nat} {w : Cond} (h : am_at p w = true) : w ∈ am_tb := by
  unfold am_at at h
  rw [Bool.and_eq_true] at h
  exact List.mem_filter.mpr ⟨List.mem_of_getElem? (of_decide_eq_true h.1), h.2⟩
def am_okst (M : am_M) (mi a : Nat) : Bool := decide (a < M.2.2.1) && (!(am_lg mi) || decide (a ≠ 2))
def am_okf (M : am_M) (idx a b : Nat) (ps : List Nat) : Bool := match vwCl[a]?, ps with
  | some q, [p0] => decide (b < q.2.2) && am_at p0 (.fieldLink M.1.cls idx (q.2.1 b).1 (q.2.1 b).2.1 (q.2.1 b).2.2.1)
  | _, _ => false
def am_okput (a b : Nat) : Bool := match vwCl[a]? with
  | some q => !(q.2.1 b).2.2.2
  | none => false
def am_cname (ci : Nat) : String := match vwCl[ci]? with
  | some q => q.1
  | none => ""
def am_okd (M' : am_M) (np : Nat) : Bool := decide (M'.1.cls ≠ "java/lang/invoke/MethodHandle") && decide (M'.1.cls ≠ "java/lang/invoke/VarHandle") && decide ((parseMethodDescriptor M'.1.desc).map (fun d => d.parameters.length) = some np) && decide (M'.2.2.1 ≤ 45) && decide (M'.1.cls ≠ "BrokenLoavesLaw")
/-- the row of one class in a call that its object selects -/
def am_oksel (x : MethodName) (np c b' : Nat) (ps : List Nat) : Bool := match b', ps with
  | 0, _ => true
  | b' + 1, [p0, p1, p2] => match am_meth b' with
    | some M' => am_okd M' np && am_at p0 (.selects (am_cname c) x M'.1) && am_at p1 (.instanceMethod M'.1) && am_at p2 (.initialized M'.1.cls)
    | none => false
  | _, _ => false
def am_oksels (x : MethodName) (np : Nat) : Nat → List Nat → List Nat → Bool
  | _, [], _ => true
  | c, b' :: tb, p0 :: p1 :: p2 :: ps => am_oksel x np c b' [p0, p1, p2] && am_oksels x np (c + 1) tb ps
  | _, _, _ => false
def am_okow (bo : Nat) (y : MethodName) : Bool := match am_meth bo with
  | some Mo => decide (Mo.1 = y) && decide (Mo.1.cls ≠ "BrokenLoavesLaw")
  | none => false
def am_okinv (M : am_M) (i : Instr) (a b : Nat) (ts ps : List Nat) : Bool := match i, a, ts, ps with
  | .invokestatic idx, 0, [np], [p0, p1, p2] => match am_meth b with
    | some M' => am_okd M' np && am_at p0 (.methodLink M.1.cls idx M'.1) && am_at p1 (.static M'.1) && am_at p2 (.initialized M'.1.cls)
    | none => false
  | .invokestatic idx, 4, [np], [_, p1, p2] => match am_meth b with
    | some M' => am_okd M' np && decide ((M.1.cls, idx, M'.1, "BrokenLoaves") ∈ am_nest) && am_at p1 (.static M'.1) && am_at p2 (.initialized M'.1.cls)
    | none => false
  | .invokevirtual idx, 1, [np, ci], [p0, p1, p2, p3] => match am_meth b with
    | some M' => am_okd M' np && decide (M'.1.cls = am_cname ci) && am_at p0 (.methodLink M.1.cls idx M'.1) && am_at p1 (.instanceMethod M'.1) && am_at p2 (.selects (am_cname ci) M'.1 M'.1) && am_at p3 (.initialized (am_cname ci))
    | none => false
  | .invokevirtual idx, 2, np :: tb, p0 :: p1 :: p2 :: bo :: ps => match tb.find? (fun t => t != 0) with
    | some (b' + 1) => match am_meth b' with
      | some M' => am_okow bo ⟨am_cname (b % 100), M'.1.name, M'.1.desc⟩ && am_at p0 (.methodLink M.1.cls idx ⟨am_cname (b / 100), M'.1.name, M'.1.desc⟩) && am_at p1 (.sameMethod (am_cname (b / 100)) (am_cname (b % 100)) M'.1.name M'.1.desc) && am_at p2 (.instanceMethod ⟨am_cname (b % 100), M'.1.name, M'.1.desc⟩) && am_oksels ⟨am_cname (b / 100), M'.1.name, M'.1.desc⟩ np 0 tb ps && decide ((parseMethodDescriptor M'.1.desc).map (fun d => d.parameters.length) = some np) && decide (am_cname (b % 100) ≠ "java/lang/invoke/MethodHandle") && decide (am_cname (b % 100) ≠ "java/lang/invoke/VarHandle")
      | none => false
    | _ => false
  | .invokespecial idx, 3, [np, xc], [p0, p1, p2, p3, p4, p5] => match am_meth b with
    | some M' => am_okd M' np && decide (M'.1.name ≠ "<init>") && am_at p0 (.methodLink M.1.cls idx ⟨am_cname xc, M'.1.name, M'.1.desc⟩) && am_at p1 (.sameMethod (am_cname xc) M'.1.cls M'.1.name M'.1.desc) && am_at p2 (.superclass M.1.cls (am_cname xc)) && am_at p3 (.instanceMethod M'.1) && am_at p4 (.initialized M'.1.cls) && (decide (am_cname xc = M'.1.cls) || am_at p5 (.superclass (am_cname xc) M'.1.cls))
    | none => false
  | .invokestatic idx, 5, [], [p0, p1, p2, p3] => am_at p0 (.methodLink M.1.cls idx arraycopyName) && am_at p1 (.native arraycopyName) && am_at p2 (.static arraycopyName) && am_at p3 (.initialized "java/lang/System")
  | .invokestatic idx, 8, [], [p0, p1, p2, p3] => am_at p0 (.methodLink M.1.cls idx Lib.Math.max.name) && am_at p1 (.static Lib.Math.max.name) && am_at p2 (.initialized "java/lang/Math") && am_at p3 (.code Lib.Math.max.name Lib.Math.max.code 2 (some .int))
  | .invokestatic idx, 9, [], [p0, p1, p2, p3] => am_at p0 (.methodLink M.1.cls idx Lib.Math.min.name) && am_at p1 (.static Lib.Math.min.name) && am_at p2 (.initialized "java/lang/Math") && am_at p3 (.code Lib.Math.min.name Lib.Math.min.code 2 (some .int))
  | .invokestatic idx, 10, [], [p0, p1, p2, p3] => am_at p0 (.methodLink M.1.cls idx Lib.Math.abs.name) && am_at p1 (.static Lib.Math.abs.name) && am_at p2 (.initialized "java/lang/Math") && am_at p3 (.code Lib.Math.abs.name Lib.Math.abs.code 1 (some .int))
  | .invokevirtual idx, 6, [], [p0] => am_at p0 (.methodLink M.1.cls idx ⟨"java/lang/String", "length", "()I"⟩)
  | .invokevirtual idx, 7, [], [p0] => am_at p0 (.methodLink M.1.cls idx ⟨"java/lang/String", "charAt", "(I)C"⟩)
  | _, _, _, _ => false
def am_isRo : Option FieldType → Bool
  | some (.object _) => true
  | some (.array _) => true
  | _ => false
def am_okI (M : am_M) (mi pc : Nat) (i : Instr) (n a b : Nat) (ts : List Nat) (v : Int32) (ps : List Nat) : Bool := match i with
  | .iconst k => decide (n = pc + 1) && decide (Int32.ofInt k = v)
  | .bipush k => decide (n = pc + 2) && decide ((Int8.ofInt k).toInt32 = v)
  | .sipush k => decide (n = pc + 3) && decide ((Int16.ofInt k).toInt32 = v)
  | .ldc idx => decide (n = pc + 2) && (match a, ps with
    | 0, [p0] => am_at p0 (.constant M.1.cls idx v)
    | _ + 1, _ => decide (b < 18) && decide (am_sx.getD b 0 = idx) && decide (M.1.cls = "BrokenLoaves$RuleText")
    | _, _ => false)
  | .ldc_w idx => decide (n = pc + 3) && (match ps with
    | [p0] => am_at p0 (.constant M.1.cls idx v)
    | _ => false)
  | .ldc2_w idx => decide (n = pc + 3) && (match ps with
    | [p0] => am_at p0 (.constantLong M.1.cls idx (Int64.ofNat b))
    | _ => false)
  | .iload k => decide (n = pc + 2) && decide (a = k)
  | .iload_n k => decide (n = pc + 1) && decide (a = k.val)
  | .lload_n k => decide (n = pc + 1) && decide (a = k.val)
  | .aload k => decide (n = pc + 2) && decide (a = k)
  | .aload_n k => decide (n = pc + 1) && decide (a = k.val)
  | .istore k => decide (n = pc + 2) && decide (a = k) && am_okst M mi a
  | .istore_n k => decide (n = pc + 1) && decide (a = k.val) && am_okst M mi a
  | .astore k => decide (n = pc + 2) && decide (a = k) && am_okst M mi a
  | .astore_n k => decide (n = pc + 1) && decide (a = k.val) && am_okst M mi a
  | .iinc k q => decide (n = pc + 3) && decide (a = k) && decide (Int32.ofInt q = v) && am_okst M mi a
  | .goto off => decide (n = pc + 3) && decide ((pc : Int) + off = (a : Int))
  | .ifCond _ off => decide (n = pc + 3) && decide ((pc : Int) + off = (a : Int))
  | .if_icmp _ off => decide (n = pc + 3) && decide ((pc : Int) + off = (a : Int))
  | .tableswitch df lo hi offs => decide ((pc : Int) + df = (a : Int)) && decide (v.toInt = lo) && decide (offs.toList.map (fun o => (pc : Int) + o) = ts.map (fun (t : Nat) => (t : Int))) && decide (hi = lo + ts.length - 1) && decide (0 ≤ lo ∧ lo < 50000) && decide (ts.length < 1000)
  | .getfield idx => decide (n = pc + 3) && am_okf M idx a b ps
  | .putfield idx => decide (n = pc + 3) && am_okf M idx a b ps && am_okput a b
  | .ireturn => decide (n = pc + 1) && ((decide (a = 0) && decide (M.2.2.2.1 = some .int)) || (decide (a ≠ 0) && decide (M.2.2.2.1 = some .boolean)))
  | .areturn => decide (n = pc + 1) && am_isRo M.2.2.2.1
  | .return_ => decide (n = pc + 1) && decide (M.2.2.2.1 = none)
  | .invokestatic k => decide (n = pc + 3) && am_okinv M (.invokestatic k) a b ts ps
  | .invokevirtual k => decide (n = pc + 3) && am_okinv M (.invokevirtual k) a b ts ps
  | .invokespecial k => decide (n = pc + 3) && am_okinv M (.invokespecial k) a b ts ps
  | _ => decide (n = pc + 1)
def am_okE (M : am_M) (mi pc : Nat) (e : Option am_E) (ps : List Nat) : Bool := match e with
  | none => true
  | some (i, n, a, b, ts, v) => decide (decode M.2.1 pc = .ok (i, n - pc)) && am_okI M mi pc i n a b ts v ps
def am_okR (M : am_M) (mi : Nat) : Nat → List (Option am_E) → List (List Nat) → Bool
  | _, [], _ => true
  | pc, e :: l, [] => am_okE M mi pc e [] && am_okR M mi (pc + 1) l []
  | pc, e :: l, ps :: pl => am_okE M mi pc e ps && am_okR M mi (pc + 1) l pl
def am_okC (M : am_M) (mi : Nat) : Nat → List (List (Option am_E)) → List (List (List Nat)) → Bool
  | _, [], _ => true
  | q, l :: ls, [] => am_okR M mi (16 * q) l [] && decide (l.length ≤ 16) && am_okC M mi (q + 1) ls []
  | q, l :: ls, pl :: pls => am_okR M mi (16 * q) l pl && decide (l.length ≤ 16) && am_okC M mi (q + 1) ls pls
theorem am_okR_at {M : am_M} {mi : Nat} : ∀ (l : List (Option am_E)) (pc : Nat) (pl : List (List Nat)), am_okR M mi pc l pl = true → ∀ (k : Nat) (e : Option am_E), am_nth l k = some e → ∃ ps, am_okE M mi (pc + k) e ps = true
  | [], _, _, _, _, _, h => by simp [am_nth] at h
  | x :: l, pc, [], h, 0, e, hk => by
    simp only [am_okR, Bool.and_eq_true] at h
    simp only [am_nth, Option.some.injEq] at hk
    subst hk
    exact ⟨_, h.1⟩
  | x :: l, pc, ps :: pl, h, 0, e, hk => by
    simp only [am_okR, Bool.and_eq_true] at h
    simp only [am_nth, Option.some.injEq] at hk
    subst hk
    exact ⟨_, h.1⟩
  | x :: l, pc, [], h, k + 1, e, hk => by
    simp only [am_okR, Bool.and_eq_true] at h
    have := am_okR_at l (pc + 1) [] h.2 k e hk
    rw [show pc + (k + 1) = pc + 1 + k by omega]
    exact this
  | x :: l, pc, ps :: pl, h, k + 1, e, hk => by
    simp only [am_okR, Bool.and_eq_true] at h
    have := am_okR_at l (pc + 1) pl h.2 k e hk
    rw [show pc + (k + 1) = pc + 1 + k by omega]
    exact this
theorem am_okC_at {M : am_M} {mi : Nat} : ∀ (ls : List (List (Option am_E))) (q : Nat) (pls : List (List (List Nat))), am_okC M mi q ls pls = true → ∀ (k : Nat) (l : List (Option am_E)), am_nth ls k = some l → ∃ pl, am_okR M mi (16 * (q + k)) l pl = true
  | [], _, _, _, _, _, h => by simp [am_nth] at h
  | x :: ls, q, [], h, 0, l, hk => by
    simp only [am_okC, Bool.and_eq_true] at h
    simp only [am_nth, Option.some.injEq] at hk
    subst hk
    exact ⟨_, h.1.1⟩
  | x :: ls, q, ps :: pl, h, 0, l, hk => by
    simp only [am_okC, Bool.and_eq_true] at h
    simp only [am_nth, Option.some.injEq] at hk
    subst hk
    exact ⟨_, h.1.1⟩
  | x :: ls, q, [], h, k + 1, l, hk => by
    simp only [am_okC, Bool.and_eq_true] at h
    have := am_okC_at ls (q + 1) [] h.2 k l hk
    rw [show q + (k + 1) = q + 1 + k by omega]
    exact this
  | x :: ls, q, ps :: pl, h, k + 1, l, hk => by
    simp only [am_okC, Bool.and_eq_true] at h
    have := am_okC_at ls (q + 1) pl h.2 k l hk
    rw [show q + (k + 1) = q + 1 + k by omega]
    exact this
/-- a method's table is checked -/
def am_okM (mi : Nat) (M : am_M) : Prop := (∃ pls, am_okC M mi 0 M.2.2.2.2 pls = true) ∧ plainName M.1.cls = true ∧ M.2.2.1 ≤ 45
theorem am_ok_ins {M : am_M} {mi pc : Nat} (h : am_okM mi M) {e : am_E} (hi : am_ins M pc = some e) : ∃ ps, am_okE M mi pc (some e) ps = true := by
  obtain ⟨⟨pls, h⟩, -⟩ := h
  unfold am_ins at hi
  split at hi
  · next l hl =>
    split at hi
    · next x hx =>
      subst hi
      obtain ⟨pl, h2⟩ := am_okC_at _ _ _ h _ _ hl
      obtain ⟨ps, h3⟩ := am_okR_at _ _ _ h2 _ _ hx
      rw [show 16 * (0 + pc / 16) + pc % 16 = pc by omega] at h3
      exact ⟨ps, h3⟩
    · cases hi
  · cases hi
end
section
/-! SOUNDNESS: the judgement about the real machine is closed under what an instruction asks -/
theorem am_good : ∀ w ∈ am_tb, (w.onTables && w.keeps) = true ∨ ∃ ty, w = .arrayClass ty := fun w hw => good_of_word (List.mem_filter.mp hw).2
theorem inW0 : ∀ w ∈ u_ws RX0 TX0 0, w ∈ am_tb := by
  have h : u_ws RX0 TX0 0 = ([] : List Nat).filterMap (fun i => lw_tbl[i]?) ∧ (u_ws RX0 TX0 0).all goodWord = true := by decide +kernel
  intro w hw
  have h2 := List.all_eq_true.mp h.2 w hw
  rw [h.1] at hw
  obtain ⟨i, -, hi⟩ := List.mem_filterMap.mp hw
  exact List.mem_filter.mpr ⟨List.mem_of_getElem? hi, h2⟩
theorem inW1 : ∀ w ∈ u_ws RX1 TX1 6, w ∈ am_tb := by
  have h : u_ws RX1 TX1 6 = ([198, 200, 202, 204, 206, 208] : List Nat).filterMap (fun i => lw_tbl[i]?) ∧ (u_ws RX1 TX1 6).all goodWord = true := by decide +kernel
  intro w hw
  have h2 := List.all_eq_true.mp h.2 w hw
  rw [h.1] at hw
  obtain ⟨i, -, hi⟩ := List.mem_filterMap.mp hw
  exact List.mem_filter.mpr ⟨List.mem_of_getElem? hi, h2⟩
theorem inW2 : ∀ w ∈ u_ws RX2 TX2 5, w ∈ am_tb := by
  have h : u_ws RX2 TX2 5 = ([407, 409, 411, 413, 415] : List Nat).filterMap (fun i => lw_tbl[i]?) ∧ (u_ws RX2 TX2 5).all goodWord = true := by decide +kernel
  intro w hw
  have h2 := List.all_eq_true.mp h.2 w hw
  rw [h.1] at hw
  obtain ⟨i, -, hi⟩ := List.mem_filterMap.mp hw
  exact List.mem_filter.mpr ⟨List.mem_of_getElem? hi, h2⟩
theorem inW3 : ∀ w ∈ u_ws RX3 TX3 0, w ∈ am_tb := by
  have h : u_ws RX3 TX3 0 = ([] : List Nat).filterMap (fun i => lw_tbl[i]?) ∧ (u_ws RX3 TX3 0).all goodWord = true := by decide +kernel
  intro w hw
  have h2 := List.all_eq_true.mp h.2 w hw
  rw [h.1] at hw
  obtain ⟨i, -, hi⟩ := List.mem_filterMap.mp hw
  exact List.mem_filter.mpr ⟨List.mem_of_getElem? hi, h2⟩
theorem inW4 : ∀ w ∈ u_ws RX4 TX4 0, w ∈ am_tb := by
  have h : u_ws RX4 TX4 0 = ([] : List Nat).filterMap (fun i => lw_tbl[i]?) ∧ (u_ws RX4 TX4 0).all goodWord = true := by decide +kernel
  intro w hw
  have h2 := List.all_eq_true.mp h.2 w hw
  rw [h.1] at hw
  obtain ⟨i, -, hi⟩ := List.mem_filterMap.mp hw
  exact List.mem_filter.mpr ⟨List.mem_of_getElem? hi, h2⟩
theorem inW5 : ∀ w ∈ u_ws RX5 TX5 0, w ∈ am_tb := by
  have h : u_ws RX5 TX5 0 = ([] : List Nat).filterMap (fun i => lw_tbl[i]?) ∧ (u_ws RX5 TX5 0).all goodWord = true := by decide +kernel
  intro w hw
  have h2 := List.all_eq_true.mp h.2 w hw
  rw [h.1] at hw
  obtain ⟨i, -, hi⟩ := List.mem_filterMap.mp hw
  exact List.mem_filter.mpr ⟨List.mem_of_getElem? hi, h2⟩
theorem inW6 : ∀ w ∈ u_ws RX6 TX6 11, w ∈ am_tb := by
  have h : u_ws RX6 TX6 11 = ([360, 362, 364, 366, 368, 370, 372, 374, 376, 378, 380] : List Nat).filterMap (fun i => lw_tbl[i]?) ∧ (u_ws RX6 TX6 11).all goodWord = true := by decide +kernel
  intro w hw
  have h2 := List.all_eq_true.mp h.2 w hw
  rw [h.1] at hw
  obtain ⟨i, -, hi⟩ := List.mem_filterMap.mp hw
  exact List.mem_filter.mpr ⟨List.mem_of_getElem? hi, h2⟩
theorem inW7 : ∀ w ∈ u_ws RX7 TX7 20, w ∈ am_tb := by
  have h : u_ws RX7 TX7 20 = ([253, 255, 257, 259, 261, 263, 265, 267, 269, 271, 273, 275, 277, 279, 281, 283, 285, 287, 289, 291] : List Nat).filterMap (fun i => lw_tbl[i]?) ∧ (u_ws RX7 TX7 20).all goodWord = true := by decide +kernel
  intro w hw
  have h2 := List.all_eq_true.mp h.2 w hw
  rw [h.1] at hw
  obtain ⟨i, -, hi⟩ := List.mem_filterMap.mp hw
  exact List.mem_filter.mpr ⟨List.mem_of_getElem? hi, h2⟩
theorem inW8 : ∀ w ∈ u_ws RX8 TX8 9, w ∈ am_tb := by
  have h : u_ws RX8 TX8 9 = ([313, 315, 317, 319, 321, 323, 325, 327, 329] : List Nat).filterMap (fun i => lw_tbl[i]?) ∧ (u_ws RX8 TX8 9).all goodWord = true := by decide +kernel
  intro w hw
  have h2 := List.all_eq_true.mp h.2 w hw
  rw [h.1] at hw
  obtain ⟨i, -, hi⟩ := List.mem_filterMap.mp hw
  exact List.mem_filter.mpr ⟨List.mem_of_getElem? hi, h2⟩
theorem inW9 : ∀ w ∈ u_ws RX9 TX9 0, w ∈ am_tb := by
  have h : u_ws RX9 TX9 0 = ([] : List Nat).filterMap (fun i => lw_tbl[i]?) ∧ (u_ws RX9 TX9 0).all goodWord = true := by decide +kernel
  intro w hw
  have h2 := List.all_eq_true.mp h.2 w hw
  rw [h.1] at hw
  obtain ⟨i, -, hi⟩ := List.mem_filterMap.mp hw
  exact List.mem_filter.mpr ⟨List.mem_of_getElem? hi, h2⟩
theorem inW10 : ∀ w ∈ u_ws RX10 TX10 0, w ∈ am_tb := by
  have h : u_ws RX10 TX10 0 = ([] : List Nat).filterMap (fun i => lw_tbl[i]?) ∧ (u_ws RX10 TX10 0).all goodWord = true := by decide +kernel
  intro w hw
  have h2 := List.all_eq_true.mp h.2 w hw
  rw [h.1] at hw
  obtain ⟨i, -, hi⟩ := List.mem_filterMap.mp hw
  exact List.mem_filter.mpr ⟨List.mem_of_getElem? hi, h2⟩
theorem inW11 : ∀ w ∈ u_ws RX11 TX11 15, w ∈ am_tb := by
  have h : u_ws RX11 TX11 15 = ([433, 435, 437, 439, 441, 443, 445, 447, 449, 451, 453, 455, 457, 459, 461] : List Nat).filterMap (fun i => lw_tbl[i]?) ∧ (u_ws RX11 TX11 15).all goodWord = true := by decide +kernel
  intro w hw
  have h2 := List.all_eq_true.mp h.2 w hw
  rw [h.1] at hw
  obtain ⟨i, -, hi⟩ := List.mem_filterMap.mp hw
  exact List.mem_filter.mpr ⟨List.mem_of_getElem? hi, h2⟩
theorem inW12 : ∀ w ∈ u_ws RX12 TX12 39, w ∈ am_tb := by
  have h : u_ws RX12 TX12 39 = ([1287, 1289, 1291, 1293, 1295, 1297, 1299, 1301, 1303, 1305, 1307, 1309, 1311, 1313, 1315, 1317, 1319, 1321, 1323, 1325, 1327, 1329, 1331, 1333, 1335, 1337, 1339, 1341, 1343, 1345, 1347, 1349, 1351, 1353, 1355, 1357, 1359, 1361, 1363] : List Nat).filterMap (fun i => lw_tbl[i]?) ∧ (u_ws RX12 TX12 39).all goodWord = true := by decide +kernel
  intro w hw
  have h2 := List.all_eq_true.mp h.2 w hw
  rw [h.1] at hw
  obtain ⟨i, -, hi⟩ := List.mem_filterMap.mp hw
  exact List.mem_filter.mpr ⟨List.mem_of_getElem? hi, h2⟩
theorem am_cls : ∀ (ci : Nat) (q : vw_C), vwCl[ci]? = some q → (∀ w ∈ u_ws q.1 q.2.1 q.2.2, w ∈ am_tb) ∧ am_cn ci = q.2.2 ∧ ∃ ty0 : Nat → FieldType, (∀ k, k < q.2.2 → parseFieldDescriptor (q.2.1 k).2.2.1 = some (ty0 k)) ∧ (∀ a, a < q.2.2 → ∀ b, b < q.2.2 → a ≠ b → (q.2.1 a).2.1 ≠ (q.2.1 b).2.1) ∧ ∀ k, k < q.2.2 → (am_ft ci k = 0 → ty0 k = .int) ∧ (am_ft ci k = 2 → ty0 k = .boolean) := by
  intro ci q h
  match ci, h with
  | 0, h => cases h; exact ⟨inW0, rfl, tyX0, tyX0_ok, nmX0, by decide +kernel⟩
  | 1, h => cases h; exact ⟨inW1, rfl, tyX1, tyX1_ok, nmX1, by decide +kernel⟩
  | 2, h => cases h; exact ⟨inW2, rfl, tyX2, tyX2_ok, nmX2, by decide +kernel⟩
  | 3, h => cases h; exact ⟨inW3, rfl, tyX3, tyX3_ok, nmX3, by decide +kernel⟩
  | 4, h => cases h; exact ⟨inW4, rfl, tyX4, tyX4_ok, nmX4, by decide +kernel⟩
  | 5, h => cases h; exact ⟨inW5, rfl, tyX5, tyX5_ok, nmX5, by decide +kernel⟩
  | 6, h => cases h; exact ⟨inW6, rfl, tyX6, tyX6_ok, nmX6, by decide +kernel⟩
  | 7, h => cases h; exact ⟨inW7, rfl, tyX7, tyX7_ok, nmX7, by decide +kernel⟩
  | 8, h => cases h; exact ⟨inW8, rfl, tyX8, tyX8_ok, nmX8, by decide +kernel⟩
  | 9, h => cases h; exact ⟨inW9, rfl, tyX9, tyX9_ok, nmX9, by decide +kernel⟩
  | 10, h => cases h; exact ⟨inW10, rfl, tyX10, tyX10_ok, nmX10, by decide +kernel⟩
  | 11, h => cases h; exact ⟨inW11, rfl, tyX11, tyX11_ok, nmX11, by decide +kernel⟩
  | 12, h => cases h; exact ⟨inW12, rfl, tyX12, tyX12_ok, nmX12, by decide +kernel⟩
  | n + 13, h => simp [vwCl] at h
def am_as (ad : Nat → Nat) : Nat → List (Option Value) → List (Nat × Value)
  | _, [] => []
  | k, none :: l => am_as ad (k + 1) l
  | k, some v :: l => (k, am_up ad v) :: am_as ad (k + 1) l
theorem am_as_mem (ad : Nat → Nat) : ∀ (l : List (Option Value)) (k i : Nat) (w : Value), (i, w) ∈ am_as ad k l → ∃ v j, i = k + j ∧ am_nth l j = some (some v) ∧ w = am_up ad v
  | [], _, _, _, h => by simp [am_as] at h
  | none :: l, k, i, w, h => by
    obtain ⟨v, j, h1, h2, h3⟩ := am_as_mem ad l (k + 1) i w h
    exact ⟨v, j + 1, by omega, h2, h3⟩
  | some v :: l, k, i, w, h => by
    simp only [am_as, List.mem_cons, Prod.mk.injEq] at h
    rcases h with ⟨h1, h2⟩ | h
    · exact ⟨v, 0, by omega, rfl, h2⟩
    · obtain ⟨v, j, h1, h2, h3⟩ := am_as_mem ad l (k + 1) i w h
      exact ⟨v, j + 1, by omega, h2, h3⟩
theorem am_as_of (ad : Nat → Nat) : ∀ (l : List (Option Value)) (k j : Nat) (v : Value), am_nth l j = some (some v) → (k + j, am_up ad v) ∈ am_as ad k l
  | [], _, _, _, h => by simp [am_nth] at h
  | none :: l, k, 0, v, h => by simp [am_nth] at h
  | none :: l, k, j + 1, v, h => by
    have := am_as_of ad l (k + 1) j v h
    rw [show k + (j + 1) = k + 1 + j by omega]
    exact this
  | some x :: l, k, 0, v, h => by
    simp only [am_nth, Option.some.injEq] at h
    subst h
    exact List.mem_cons_self
  | some x :: l, k, j + 1, v, h => by
    have := am_as_of ad l (k + 1) j v h
    rw [show k + (j + 1) = k + 1 + j by omega]
    exact List.mem_cons_of_mem _ this
theorem am_nth_set : ∀ (l : List (Option Value)) (a i : Nat) (v w : Value), am_nth (am_set l a v) i = some (some w) → (i = a ∧ w = v) ∨ (i ≠ a ∧ am_nth l i = some (some w))
  | [], _, _, _, _, h => by simp [am_set, am_nth] at h
  | x :: l, 0, 0, v, w, h => by
    simp only [am_set, am_nth, Option.some.injEq] at h
    exact Or.inl ⟨rfl, h.symm⟩
  | x :: l, 0, i + 1, v, w, h => Or.inr ⟨by omega, h⟩
  | x :: l, a + 1, 0, v, w, h => Or.inr ⟨by omega, h⟩
  | x :: l, a + 1, i + 1, v, w, h => by
    rcases am_nth_set l a i v w h with ⟨h1, h2⟩ | ⟨h1, h2⟩
    · exact Or.inl ⟨by omega, h2⟩
    · exact Or.inr ⟨by omega, h2⟩
theorem am_ls_has {ad : Nat → Nat} {M : am_M} {mi : Nat} {ls : Array Slot} {lv : List (Option Value)} (h : am_ls ad M mi ls lv) : lv_has ls M.2.2.1 (am_as ad 0 lv) := by
  refine ⟨h.1, h.2.1, fun q hq => ?_⟩
  obtain ⟨i, w⟩ := q
  obtain ⟨v, j, h1, h2, h3⟩ := am_as_mem ad lv 0 i w hq
  have : i = j := by omega
  subst this
  rw [h3]
  exact h.2.2.1 i v h2
theorem am_ls_set {ad : Nat → Nat} {M : am_M} {mi a : Nat} {ls ls' : Array Slot} {lv : List (Option Value)} {v : Value} (h : am_ls ad M mi ls lv) (hok : am_okst M mi a = true) (hc : v.category = 1)
    (h' : lv_has ls' M.2.2.1 ((a, am_up ad v) :: (am_as ad 0 lv).filter (fun q => !(q.1 == a) && !(q.1 + 1 == a && q.2.category == 2)))) : am_ls ad M mi ls' (am_set lv a v) := by
  simp only [am_okst, Bool.and_eq_true, decide_eq_true_eq, Bool.or_eq_true, Bool.not_eq_true'] at hok
  refine ⟨h'.1, h'.2.1, fun i w hw => ?_, fun i w hw hcat => ?_⟩
  · rcases am_nth_set lv a i v w hw with ⟨h1, h2⟩ | ⟨h1, h2⟩
    · subst h1
      subst h2
      exact h'.2.2 (i, am_up ad w) List.mem_cons_self
    · refine h'.2.2 (i, am_up ad w) (List.mem_cons_of_mem _ (List.mem_filter.mpr ⟨?_, ?_⟩))
      · have := am_as_of ad lv 0 i w h2
        rw [Nat.zero_add] at this
        exact this
      · by_cases hl : w.category = 2
        · obtain ⟨e1, e2⟩ := h.2.2.2 i w h2 hl
          rcases hok.2 with q | q
          · rw [q] at e2; cases e2
          · subst e1
            simp [h1, Ne.symm q]
        · simp [h1, am_up_cat, hl]
  · rcases am_nth_set lv a i v w hw with ⟨h1, h2⟩ | ⟨h1, h2⟩
    · subst h2
      omega
    · exact h.2.2.2 i w h2 hcat
theorem am_cell_obj {cA : FieldType → ClassId} {ad : Nat → Nat} {I : am_I} {o ci : Nat} (h : am_G o = some (.inl ci)) : (am_ws cA ad I)[o]? = some (ad o, .inr (ci, am_fs ad I o ci)) := by
  rw [am_ws_at cA ad I (am_G_lt h)]
  unfold am_cell
  rw [h]
theorem am_cell_arr {cA : FieldType → ClassId} {ad : Nat → Nat} {I : am_I} {o n : Nat} {ty : FieldType} (h : am_G o = some (.inr (ty, n))) : (am_ws cA ad I)[o]? = some (ad o, .inl (cA ty, n, am_ar ad I o ty)) := by
  rw [am_ws_at cA ad I (am_G_lt h)]
  unfold am_cell
  rw [h]
theorem am_G_ty {o n : Nat} {ty : FieldType} (h : am_G o = some (.inr (ty, n))) : ∃ t0 : Nat, am_tl[t0]? = some ty := by
  have hall : am_Gl.all (fun x => match x with
    | .inl _ => true
    | .inr q => decide (q.1 ∈ am_tl)) = true := by decide +kernel
  have hm : (Sum.inr (ty, n) : am_S) ∈ am_Gl := by
    unfold am_G at h
    rw [am_nth_get] at h
    exact List.mem_of_getElem? h
  have h2 := List.all_eq_true.mp hall _ hm
  simp only [decide_eq_true_eq] at h2
  exact List.getElem?_of_mem h2
theorem am_G_ci {o ci : Nat} (h : am_G o = some (.inl ci)) : ci < 13 := by
  have hall : am_Gl.all (fun x => match x with
    | .inl c => decide (c < 13)
    | .inr _ => true) = true := by decide +kernel
  have hm : (Sum.inl ci : am_S) ∈ am_Gl := by
    unfold am_G at h
    rw [am_nth_get] at h
    exact List.mem_of_getElem? h
  have h2 := List.all_eq_true.mp hall _ hm
  simpa using h2
theorem am_tys_at {cA : FieldType → ClassId} {t0 : Nat} {ty : FieldType} (h : am_tl[t0]? = some ty) : (am_tys cA)[t0]? = some (cA ty, ty) := by
  unfold am_tys
  rw [List.getElem?_map, h]
  rfl
theorem am_put_arr {cA : FieldType → ClassId} {ad : Nat → Nat} {I : am_I} {o n k : Nat} {ty : FieldType} {v : Int32} (h : am_G o = some (.inr (ty, n))) (ht : am_isR ty = false) : (am_ws cA ad I).set o (ad o, .inl (cA ty, n, .inl (upd (I o) k v))) = am_ws cA ad (am_put I o k v) := by
  refine am_ws_set cA ad (am_G_lt h) ?_ (fun o' ho => am_put_o ho)
  unfold am_cell am_ar
  rw [h]
  dsimp only
  rw [ht, am_put_s]
theorem am_put_obj {cA : FieldType → ClassId} {ad : Nat → Nat} {I : am_I} {o ci k : Nat} {v : Int32} (h : am_G o = some (.inl ci)) (hk : k < am_cn ci) (ht : am_ft ci k ≠ 1) : (am_ws cA ad I).set o (ad o, .inr (ci, (am_fs ad I o ci).set k (.int v))) = am_ws cA ad (am_put I o k v) := by
  refine am_ws_set cA ad (am_G_lt h) ?_ (fun o' ho => am_put_o ho)
  unfold am_cell
  rw [h, am_fs_put hk ht]
theorem am_sw_use {X : am_J} {x : Int32} {df d mi : Nat} {lv : List (Option Value)} {st : List Value} {I : am_I} {Q : am_Q} : ∀ (ts : List Nat) (v : Int32) (lo : Int), am_sw X ts v x df d mi lv st I Q → v.toInt = lo → 0 ≤ lo → lo + ts.length < 100000 →
    (∃ (j t : Nat), ts[j]? = some t ∧ x.toInt = lo + j ∧ X d mi t lv st I Q) ∨ ((x.toInt < lo ∨ lo + ts.length - 1 < x.toInt) ∧ X d mi df lv st I Q)
  | [], v, lo, h, _, _, _ => Or.inr ⟨by simp; omega, h⟩
  | t :: ts, v, lo, h, hv, h0, hl => by
    by_cases e : x = v
    · exact Or.inl ⟨0, t, rfl, by rw [e, hv]; simp, h.1 e⟩
    · have hv1 : (v + 1).toInt = lo + 1 := by
        rw [Int32.toInt_add, hv]
        simp only [List.length_cons] at hl
        have : (1 : Int32).toInt = 1 := rfl
        rw [this]
        exact Int.bmod_eq_of_le (by omega) (by omega)
      rcases am_sw_use ts (v + 1) (lo + 1) (h.2 e) hv1 (by omega) (by simp only [List.length_cons] at hl; omega) with ⟨j, t', h1, h2, h3⟩ | ⟨h1, h2⟩
      · exact Or.inl ⟨j + 1, t', h1, by omega, h3⟩
      · refine Or.inr ⟨?_, h2⟩
        have hne : x.toInt ≠ lo := fun q => e (Int32.toInt_inj.mp (by rw [q, hv]))
        simp only [List.length_cons]
        omega
end
section
theorem am_Wd_at {D : va_G} {cA : FieldType → ClassId} {ad : Nat → Nat} {L : Nat} {xs : Nat → Int32} {I : am_I} {s U : State} {H : Heap} {locs : List Loc} (hP : va_P D vwCl (am_ws cA ad I) H) (hS : va_S (am_A ad) s.heap H locs) (hK : va_K D vwCl (am_tys cA) s) (hX : am_X ad L xs s) (hU : U.heap = H) (hW : s.WarmedH U.vm) : am_Wd D cA ad L xs I U := by
  obtain ⟨⟨hx, hnA⟩, hv, hr, hn⟩ := hX
  refine ⟨by rw [hU]; exact hP, va_K.moved hW.alike hK, ⟨?_, hnA⟩, ?_, fun w hw => vk_R.warm hW (hr w hw), fun q hq => va_Nw.warmM hW (hn q hq)⟩
  · have hb : ad am_scr < s.heap.size := by
      obtain ⟨scr, h1, -⟩ := hx
      exact (Array.getElem?_eq_some_iff.mp h1).1
    exact va_X.moved hW.alike (hx.kept (by rw [hU]; exact hS.2.1 _ hb hnA))
  · exact vk_S.moved hW.alike (hv.kept (fun a h1 h2 => by rw [hU]; exact hS.2.1 a h1 h2))
theorem am_Wd_blind {D : va_G} {cA : FieldType → ClassId} {ad : Nat → Nat} {L : Nat} {xs : Nat → Int32} {I : am_I} {av : List Value} : FrameBlind (va_Pc av (am_Wd D cA ad L xs I)) := by
  intro a U g mk h
  obtain ⟨h0, hP, hK, ⟨hx, hnA⟩, hv, hr, hn⟩ := h
  exact ⟨h0, hP, va_K.moved (u := U) (U := U.calling g mk a) (Vm.Alike.refl U.vm) hK, ⟨va_X.moved (u := U) (U := U.calling g mk a) (Vm.Alike.refl U.vm) hx, hnA⟩, vk_S.moved (u := U) (U := U.calling g mk a) (Vm.Alike.refl U.vm) hv, fun w hw => vk_R.same (u := U) rfl (hr w hw), fun q hq => va_Nw.same (u := U) (U := U.calling g mk a) rfl rfl (hn q hq)⟩
theorem am_nth_pad : ∀ (n : Nat) (l : List (Option Value)) (i : Nat) (v : Value), am_nth (am_pad n l) i = some (some v) → am_nth l i = some (some v)
  | 0, _, _, _, h => by simp [am_pad, am_nth] at h
  | n + 1, [], 0, v, h => by simp [am_pad, am_nth] at h
  | n + 1, [], i + 1, v, h => by
    have := am_nth_pad n [] i v h
    simp [am_nth] at this
  | n + 1, x :: l, 0, v, h => h
  | n + 1, x :: l, i + 1, v, h => am_nth_pad n l i v h
theorem am_exp_args (ad : Nat → Nat) : ∀ (l : List Value), (∀ w ∈ l, ∀ x, w ≠ .double x) → ∀ (k i : Nat) (v : Value), am_nth (am_exp l) i = some (some v) → (k + i, am_up ad v) ∈ lv_args k (l.map (am_up ad))
  | [], _, _, _, _, h => by simp [am_exp, am_nth] at h
  | w :: l, hd, k, i, v, h => by
    have hd' : ∀ w ∈ l, ∀ x, w ≠ .double x := fun w hw => hd w (List.mem_cons_of_mem _ hw)
    by_cases hc : w.category = 2
    · have key : ∀ (e : am_exp (w :: l) = some w :: none :: am_exp l), (k + i, am_up ad v) ∈ lv_args k ((w :: l).map (am_up ad)) := by
        intro e
        rw [e] at h
        simp only [List.map_cons, lv_args]
        rw [if_pos (by rw [am_up_cat]; exact hc)]
        match i, h with
        | 0, h =>
          simp only [am_nth, Option.some.injEq] at h
          subst h
          exact List.mem_cons_self
        | 1, h => simp [am_nth] at h
        | i + 2, h =>
          have := am_exp_args ad l hd' (k + 2) i v h
          rw [show k + (i + 2) = k + 2 + i by omega]
          exact List.mem_cons_of_mem _ this
      cases w with
      | long x => exact key rfl
      | double x => exact absurd rfl (hd _ List.mem_cons_self x)
      | _ => simp [Value.category] at hc
    · have key : ∀ (e : am_exp (w :: l) = some w :: am_exp l), (k + i, am_up ad v) ∈ lv_args k ((w :: l).map (am_up ad)) := by
        intro e
        rw [e] at h
        simp only [List.map_cons, lv_args]
        rw [if_neg (by rw [am_up_cat]; exact hc)]
        match i, h with
        | 0, h =>
          simp only [am_nth, Option.some.injEq] at h
          subst h
          exact List.mem_cons_self
        | i + 1, h =>
          have := am_exp_args ad l hd' (k + 1) i v h
          rw [show k + (i + 1) = k + 1 + i by omega]
          exact List.mem_cons_of_mem _ this
      cases w with
      | long x => simp [Value.category] at hc
      | double x => simp [Value.category] at hc
      | _ => exact key rfl
theorem am_nol_mem : ∀ (l : List Value), am_nol l = true → ∀ w ∈ l, w.category = 1
  | [], _, w, hw => by simp at hw
  | x :: l, h, w, hw => by
    cases x with
    | long y => simp [am_nol] at h
    | double y => simp [am_nol] at h
    | _ =>
      rcases List.mem_cons.mp hw with e | hw
      · subst e; rfl
      · exact am_nol_mem l h w hw
theorem am_exp_mem : ∀ (l : List Value) (i : Nat) (v : Value), am_nth (am_exp l) i = some (some v) → v ∈ l
  | [], _, _, h => by simp [am_exp, am_nth] at h
  | w :: l, i, v, h => by
    have key1 : am_exp (w :: l) = some w :: none :: am_exp l → v ∈ w :: l := by
      intro e
      rw [e] at h
      match i, h with
      | 0, h =>
        simp only [am_nth, Option.some.injEq] at h
        subst h
        exact List.mem_cons_self
      | 1, h => simp [am_nth] at h
      | i + 2, h => exact List.mem_cons_of_mem _ (am_exp_mem l i v h)
    have key2 : am_exp (w :: l) = some w :: am_exp l → v ∈ w :: l := by
      intro e
      rw [e] at h
      match i, h with
      | 0, h =>
        simp only [am_nth, Option.some.injEq] at h
        subst h
        exact List.mem_cons_self
      | i + 1, h => exact List.mem_cons_of_mem _ (am_exp_mem l i v h)
    cases w with
    | long x => exact key1 rfl
    | _ => exact key2 rfl
theorem am_argok_use {b : Nat} {args : List Value} (h : am_argok b args = true) : (∀ w ∈ args, ∀ x, w ≠ .double x) ∧ ∀ i v, am_nth (am_exp args) i = some (some v) → v.category = 2 → i = 1 ∧ am_lg b = true := by
  unfold am_argok at h
  split at h
  · refine ⟨fun w hw x e => by subst e; simp at hw, fun i v hi hc => ?_⟩
    match i, hi with
    | 0, hi =>
      simp only [am_exp, am_nth, Option.some.injEq] at hi
      subst hi
      simp [Value.category] at hc
    | 1, hi => exact ⟨rfl, h⟩
    | 2, hi => simp [am_exp, am_nth] at hi
    | 3, hi =>
      simp only [am_exp, am_nth, Option.some.injEq] at hi
      subst hi
      simp [Value.category] at hc
    | i + 4, hi => simp [am_exp, am_nth] at hi
  · refine ⟨fun w hw x e => ?_, fun i v hi hc => ?_⟩
    · have := am_nol_mem _ h w hw
      subst e
      simp [Value.category] at this
    · have := am_nol_mem _ h v (am_exp_mem _ i v hi)
      omega
theorem am_cs_sum : ∀ (l : List Value), (l.map fun v => v.category).sum = am_cs l
  | [] => rfl
  | v :: l => by simp [am_cs, am_cs_sum l]
theorem am_cs_up (ad : Nat → Nat) : ∀ (l : List Value), am_cs (l.map (am_up ad)) = am_cs l
  | [] => rfl
  | v :: l => by simp [am_cs, am_cs_up ad l, am_up_cat]
theorem am_sl_len : ∀ (l : List Value), (lg_sl l).length = am_cs l
  | [] => rfl
  | v :: l => by
    have := am_sl_len l
    unfold lg_sl at this ⊢
    rw [List.flatMap_cons, List.length_append, this]
    show _ = v.category + am_cs l
    cases v <;> rfl
/-- a callee's contract out of the judgement -/
theorem am_met {l : Launch} {D : va_G} {cA : FieldType → ClassId} {ad : Nat → Nat} {L : Nat} {xs : Nat → Int32} {d b : Nat} {M : am_M} {av : List Value} {I : am_I} {Q : am_Q} (hM : am_meth b = some M) (hpl : plainName M.1.cls = true)
    (hcs : am_cs av ≤ M.2.2.1) (hav : am_argok b av = true) (h : am_Jm l D cA ad L xs d b 0 (am_pad M.2.2.1 (am_exp av)) [] I Q) :
    Met l M.1 (am_wd M) (am_rm d) (va_Pc (av.map (am_up ad)) (am_Wd D cA ad L xs I)) (am_Qc D cA ad Q) 0 0 (am_A ad) := by
  refine Met.ofW (cc := M.2.1) (maxL := M.2.2.1) (ret := M.2.2.2.1) hpl rfl ?_
  intro p e s m args below meth c s₁ B hml hv
  obtain ⟨rfl, hP, hK, hX⟩ := hv
  have hts0 := atoms_spec (ws := am_wd M) B.pre
  have hts : ∀ w ∈ am_tb, w.before (av.map (am_up ad)).toArray s = true := fun w hw => hts0 w (List.mem_cons_of_mem _ hw)
  have hown : s.vm.findClass M.1.cls = some m.cls := findClass_of_methodNamed B.named
  have hlocks := B.notSynchronized
  have hlen : (lg_sl (av.map (am_up ad))).length ≤ M.2.2.1 := by rw [am_sl_len, am_cs_up]; exact hcs
  have hl := lv_entry (av.map (am_up ad)) (n := M.2.2.1) hlen
  rw [lg_entry_eq]
  generalize (lg_sl (av.map (am_up ad)) ++ List.replicate (M.2.2.1 - (lg_sl (av.map (am_up ad))).length) Slot.unset).toArray = ls at hl ⊢
  obtain ⟨hnd, hlg⟩ := am_argok_use hav
  have hls : am_ls ad M b ls (am_pad M.2.2.1 (am_exp av)) := by
    refine ⟨hl.1, hl.2.1, fun i v hi => ?_, fun i v hi hc => hlg i v (am_nth_pad _ _ i v hi) hc⟩
    have h1 := am_exp_args ad av hnd 0 i v (am_nth_pad _ _ i v hi)
    rw [Nat.zero_add] at h1
    exact hl.2.2 _ h1
  refine h M hM p e (am_rm d) s m _ below meth c s.heap [] 0 0 ls _ ⟨B.exec, B.bytes, hml, hown, hts, hK, ⟨Nat.le_refl _, Nat.le_refl _⟩, ⟨Nat.le_refl _, Nat.le_refl _⟩, hX⟩ hP va_S.rf hls ?_
  intro r I' H' locs' ls' pc' hq hP' hS' hrt
  have hr := B.returns
  have hb := B.bytes
  have hx := B.exec
  cases r with
  | none => exact W.vret hx hb (hr.trans hrt.2) (fun t ht hW => ⟨⟨none, I', rfl, hq, by rw [ht]; exact hP'⟩, hS'.F ht⟩) hS'.2.2 hrt.1
  | some v =>
    cases v with
    | int v =>
      rcases hrt with ⟨hd, hrt | ⟨hrt, hv⟩⟩
      · exact W.iret hx hb (hr.trans hrt) (fun t ht hW => ⟨⟨some (.int v), I', rfl, hq, by rw [ht]; exact hP'⟩, hS'.F ht⟩) hS'.2.2 hd
      · exact W.zret hx hb (hr.trans hrt) (by rcases hv with rfl | rfl <;> rfl) (fun t ht hW => ⟨⟨some (.int v), I', rfl, hq, by rw [ht]; exact hP'⟩, hS'.F ht⟩) hS'.2.2 hd
    | ref o =>
      obtain ⟨hd, hrt⟩ := hrt
      obtain ⟨rt, hrt, hk⟩ : ∃ rt, M.2.2.2.1 = some rt ∧ ((∃ n, rt = .object n) ∨ ∃ t, rt = .array t) := by
        rcases hrt with ⟨n, e⟩ | ⟨t, e⟩
        · exact ⟨_, e, Or.inl ⟨n, rfl⟩⟩
        · exact ⟨_, e, Or.inr ⟨t, rfl⟩⟩
      exact W.aret hx hb (hr.trans hrt) hk (Or.inr ⟨ad o, rfl⟩) (fun t ht hW => ⟨⟨some (.ref o), I', rfl, hq, by rw [ht]; exact hP'⟩, hS'.F ht⟩) hS'.2.2 hd
    | _ => exact hrt.elim
theorem am_cont {l : Launch} {D : va_G} {cA : FieldType → ClassId} {ad : Nat → Nat} {p : Program} {e : Env} {R : Room} {s : State} {m : MethodId} {args : Array Value} {below : List Frame} {meth : Method} {c : Code} {H : Heap} {locs : List Loc} {cells slots : Nat} {Z : State → Prop} {pc : Nat} {ls : Array Slot} {st0 rest : List Value} {aa : Array Value} {Q : am_Q}
    (hr : va_Run p l e R s m args below meth c H locs cells slots 0 0 (F0 m pc ls st0) rest (am_Qc D cA ad Q aa) (am_A ad)) (hS : va_S (am_A ad) s.heap H locs)
    (kk : ∀ (r : Option Value) (I' : am_I) (H1 : Heap) (locs1 : List Loc), Q r I' → va_P D vwCl (am_ws cA ad I') H1 → va_S (am_A ad) s.heap H1 locs1 → W p l e R s m args below meth c H1 locs1 cells slots Z (F0 m (pc + 3) ls ((r.map (am_up ad)).toList ++ rest))) : W p l e R s m args below meth c H locs cells slots Z (F0 m pc ls st0) := by
  intro T hT X
  obtain ⟨v, st₀, t, T', L, h0, X', hL, e1, e2, ⟨⟨r, I', hv, hq, hp⟩, hz, hk⟩, st⟩ := hr T hT X
  cases hv
  rw [h0] at hz hk
  obtain ⟨t2, a1, b1⟩ := kk r I' T'.heap (locs ++ L) hq (by rw [e1]; exact hp)
    ⟨Nat.le_trans hS.1 (by rw [e1]; exact hz), fun q h1 h2 => by rw [e1, hk q (Nat.lt_of_lt_of_le h1 hS.1) h2]; exact hS.2.1 q h1 h2, fun q hq => by
      rcases List.mem_append.mp hq with h | h
      · exact hS.2.2 q h
      · exact hL q h⟩ T' rfl X'
  exact ⟨t2, st t2 a1, b1⟩
end
section
/-- what is checked of the tables -/
def am_Ok : Prop := ∀ (mi : Nat) (M : am_M), am_meth mi = some M → am_okM mi M ∧ (M.1.cls ≠ "BrokenLoavesLaw" → Cond.code M.1 M.2.1 M.2.2.1 M.2.2.2.1 ∈ am_tb)
theorem am_okd_use {M : am_M} {np : Nat} (h : am_okd M np = true) : (M.1.cls ≠ "java/lang/invoke/MethodHandle" ∧ M.1.cls ≠ "java/lang/invoke/VarHandle" ∧ (parseMethodDescriptor M.1.desc).map (fun d => d.parameters.length) = some np) ∧ M.2.2.1 ≤ 45 ∧ M.1.cls ≠ "BrokenLoavesLaw" := by
  simp only [am_okd, Bool.and_eq_true, decide_eq_true_eq] at h
  exact ⟨⟨h.1.1.1.1, h.1.1.1.2, h.1.1.2⟩, h.1.2, h.2⟩
theorem am_wd_good {M : am_M} (h : Cond.code M.1 M.2.1 M.2.2.1 M.2.2.2.1 ∈ am_tb) : GoodIn am_tb (am_wd M) := by
  intro w hw
  rcases List.mem_cons.mp hw with e | hw
  · subst e; exact ⟨h, am_good _ h⟩
  · exact ⟨hw, am_good _ hw⟩
theorem am_room {d : Nat} {R : Room} {M : am_M} (h : d + 1 ≤ R.frames ∧ 64 * (d + 1) ≤ R.locals) (hm : M.2.2.1 ≤ 45) : (am_rm d).frames + 1 ≤ R.frames ∧ 8 + (M.2.2.1 + 11) + (am_rm d).locals ≤ R.locals := by
  refine ⟨h.1, ?_⟩
  show 8 + (M.2.2.1 + 11) + 64 * d ≤ R.locals
  omega
theorem am_pop_spec : ∀ (np : Nat) (st acc as rest : List Value), am_pop np st acc = some (as, rest) → ∃ bs, as = bs ++ acc ∧ st = bs.reverse ++ rest ∧ bs.length = np
  | 0, st, acc, as, rest, h => by
    simp only [am_pop, Option.some.injEq, Prod.mk.injEq] at h
    exact ⟨[], h.1.symm, by simpa using h.2, rfl⟩
  | n + 1, [], acc, as, rest, h => by simp [am_pop] at h
  | n + 1, v :: st, acc, as, rest, h => by
    obtain ⟨bs, h1, h2, h3⟩ := am_pop_spec n st (v :: acc) as rest h
    exact ⟨bs ++ [v], by simp [h1], by simp [h2], by simp [h3]⟩
theorem am_pop_stack {ad : Nat → Nat} {np : Nat} {st as rest : List Value} (h : am_pop np st [] = some (as, rest)) : st.map (am_up ad) = (as.map (am_up ad)).reverse ++ rest.map (am_up ad) ∧ (as.map (am_up ad)).length = np := by
  obtain ⟨bs, h1, h2, h3⟩ := am_pop_spec np st [] as rest h
  rw [List.append_nil] at h1
  subst h1
  rw [h2]
  exact ⟨by simp, by simpa using h3⟩
section
variable {l : Launch} {D : va_G} {cA : FieldType → ClassId} {ad : Nat → Nat} {L : Nat} {xs : Nat → Int32}
variable {p : Program} {e : Env} {R : Room} {s : State} {m : MethodId} {args : Array Value} {below : List Frame} {meth : Method} {c : Code} {H : Heap} {locs : List Loc} {cells slots : Nat} {Z : State → Prop} {pc : Nat} {ls : Array Slot}
variable {M : am_M} {d mi n a b : Nat} {lv : List (Option Value)} {st : List Value} {I : am_I} {Q : am_Q}
/-- what a call gives: the callee's contract, and its room -/
theorem am_call_use (hOk : am_Ok) {as rest : List Value} (h : am_call am_meth (am_Jm l D cA ad L xs) (am_Jm l D cA ad L xs) b as rest d mi n lv I Q) (np : Nat) (hnp : ∀ M', am_meth b = some M' → am_okd M' np = true) :
    ∃ (d' : Nat) (M' : am_M) (Q' : am_Q), d = d' + 1 ∧ am_meth b = some M' ∧ am_okd M' np = true ∧ Cond.code M'.1 M'.2.1 M'.2.2.1 M'.2.2.2.1 ∈ am_tb ∧ ((rest.map (am_up ad)).map fun v => v.category).sum ≤ 8 ∧
      Met l M'.1 (am_wd M') (am_rm d') (va_Pc (as.map (am_up ad)) (am_Wd D cA ad L xs I)) (am_Qc D cA ad Q') 0 0 (am_A ad) ∧
      ∀ r I', Q' r I' → am_Jm l D cA ad L xs d mi n lv (r.toList ++ rest) I' Q := by
  unfold am_call at h
  cases d with
  | zero => exact h.elim
  | succ d' =>
    dsimp only at h
    cases hM : am_meth b with
    | none => rw [hM] at h; exact h.elim
    | some M' =>
      rw [hM] at h
      dsimp only at h
      cases hb : (Nat.ble (am_cs rest) 8 && (Nat.ble (am_cs as) M'.2.2.1 && am_argok b as)) with
      | false => rw [hb] at h; exact h.elim
      | true =>
        rw [hb] at h
        dsimp only at h
        simp only [Bool.and_eq_true, Nat.ble_eq] at hb
        have hd := hnp M' hM
        obtain ⟨hok, hcw⟩ := hOk b M' hM
        refine ⟨d', M', _, rfl, rfl, hd, hcw (am_okd_use hd).2.2, ?_, am_met hM hok.2.1 hb.2.1 hb.2.2 h, fun r I' q => q⟩
        rw [am_cs_sum, am_cs_up]
        exact hb.1
theorem am_toList (r : Option Value) (rest : List Value) : (r.toList ++ rest).map (am_up ad) = (r.map (am_up ad)).toList ++ rest.map (am_up ad) := by
  cases r <;> simp
theorem am_pre (hC : am_Cx D cA ad L xs M d p R s m args c cells slots) (hP : va_P D vwCl (am_ws cA ad I) H) (hS : va_S (am_A ad) s.heap H locs) {as : List Value} : PreS s H (va_Pc (as.map (am_up ad)) (am_Wd D cA ad L xs I)) (as.map (am_up ad)) := by
  obtain ⟨-, -, -, -, -, hK, -, -, hX⟩ := hC
  exact ⟨am_Wd_blind, fun U hU hW => ⟨rfl, am_Wd_at hP hS hK hX hU hW⟩⟩
theorem am_preV (hC : am_Cx D cA ad L xs M d p R s m args c cells slots) (hP : va_P D vwCl (am_ws cA ad I) H) (hS : va_S (am_A ad) s.heap H locs) {as : List Value} {o ci : Nat} (ho : am_G o = some (.inl ci)) : PreV s H (am_cname ci) (ad o) (va_Pc ((Value.ref o :: as).map (am_up ad)) (am_Wd D cA ad L xs I)) (as.map (am_up ad)) := by
  obtain ⟨-, -, -, -, -, hK, -, -, hX⟩ := hC
  refine ⟨am_Wd_blind, ?_, fun U hU hW => ⟨rfl, am_Wd_at hP hS hK hX hU hW⟩⟩
  have hlt := am_G_ci ho
  obtain ⟨q, hq⟩ : ∃ q, vwCl[ci]? = some q := ⟨vwCl[ci], List.getElem?_eq_getElem (by simpa using hlt)⟩
  have hn : am_cname ci = q.1 := by unfold am_cname; rw [hq]
  rw [hn]
  exact va_recv hK hP hq (am_cell_obj ho)
end
end
section
theorem am_callSU {p : Program} {l : Launch} {e : Env} {R : Room} {s : State} {m : MethodId} {args : Array Value} {below : List Frame} {meth : Method} {c : Code} {T : State} {locs : List Loc} {cells slots : Nat} (X : Stand p l e R s m args below meth c T locs cells slots) (hexec : p.tables.exec = Jvm.exec) {own xc : String} {index : Nat} {y : MethodName} {bytes : ByteArray} {maxL : Nat} {ret : Option FieldType}
    (hown : s.vm.findClass own = some m.cls) (hlink : (Cond.methodLink own index ⟨xc, y.name, y.desc⟩).before args s = true) (hsame : (Cond.sameMethod xc y.cls y.name y.desc).before args s = true) (hsup : (Cond.superclass own xc).before args s = true)
    (hsc : xc = y.cls ∨ (Cond.superclass xc y.cls).before args s = true) (hinst : (Cond.instanceMethod y).before args s = true) (hcode : (Cond.code y bytes maxL ret).before args s = true) (hno : y.name ≠ "<init>")
    {W : Nat} {Pre : Pt → Array Value → Prop} {Post : Pt → Array Value → Option Value → Pt → Prop} (hK : Back l R p e below s args y 3 W Pre Post)
    {b : Addr} {cellB : Cell} {kB : Class} (hcell : T.heap[b]? = some cellB) (hobj : cellB.vm.isStatics = false) (hkB : s.vm.classes[cellB.cls]? = some kB)
    {g : JFrame} (hg : g.method = m) (hsize : g.locals.size = c.maxLocals) {argsL rest : List Value} (hlen : ∀ sig, parseMethodDescriptor y.desc = some sig → argsL.length = sig.parameters.length)
    (hstack : g.stack = argsL.reverse ++ .ref b :: rest) (hW : 2 * g.monitorRoom + (rest.map fun v => v.category).sum ≤ W) (hdg : decode c.code g.pc = .ok (.invokespecial index, 3))
    (hpre : ∀ vm₁, s.WarmedH vm₁ → Pre ⟨T.setVm vm₁, locs, cells, slots⟩ (Value.ref b :: argsL).toArray) :
    ∃ (v : Option Value) (vm₁ : Vm) (B : Pt), s.WarmedH vm₁ ∧ Stand p l e R s m args below meth c B.U B.locs B.cells B.slots ∧ Post ⟨T.setVm vm₁, locs, cells, slots⟩ (Value.ref b :: argsL).toArray v B ∧
      ∀ target, Steps p.tables e below (B.U.setTop { g with pc := g.pc + 3, stack := v.toList ++ rest }) target → Steps p.tables e below (T.setTop g) target := by
  obtain ⟨mk, methM, hnamed, hmethM, hstM, habM⟩ := Cond.instanceMethod_spec hinst
  obtain ⟨methM', cM, hmethM', -, -, -, -, -, -, hsigM⟩ := Cond.code_spec hnamed hcode
  cases hmethM.symm.trans hmethM'
  obtain ⟨ps, dk, kp, hps, hdk, hkp, hsuper, -, -, hnid⟩ := Cond.superclass_spec hown hsup
  have hn : s.methodNamed? ⟨y.cls, y.name, y.desc⟩ = some mk := hnamed
  have hmk := findClass_of_methodNamed hnamed
  have hsub : s.vm.isSubclass ps mk.cls = true := by
    rcases hsc with e | hsc
    · have hpm : ps = mk.cls := Option.some.inj (hps.symm.trans (by rw [e]; exact hmk))
      rw [hpm]; simp [Vm.isSubclass, Vm.isSubclassAux]
    · obtain ⟨p2, k2, kp2, g1, g2, g3, g4, -, -, -⟩ := Cond.superclass_spec hps hsc
      have hpm : p2 = mk.cls := Option.some.inj (g1.symm.trans hmk)
      subst hpm
      have hsz : ps < s.vm.classes.size := (Array.getElem?_eq_some_iff.mp g2).1
      obtain ⟨q, hq⟩ := Nat.exists_eq_succ_of_ne_zero (Nat.ne_of_gt (Nat.lt_of_le_of_lt (Nat.zero_le _) hsz))
      unfold Vm.isSubclass
      rw [hq]
      simp [Vm.isSubclassAux, g2, g4]
  obtain ⟨vm₁, X₁, hstep₁⟩ := X.invokespecialUp hexec (owner := y.cls) (x := ⟨xc, y.name, y.desc⟩) hown hlink hsame hn hmethM hstM habM hno hdk hnid hps hsuper hsub (a := b) (cell := cellB) hcell
    (fun z h => by rw [h] at hobj; cases hobj) hkB (g := g) hg (argsL := argsL) (rest := rest) (hlen _ hsigM) hstack hdg
  obtain ⟨v, B, X', hpost, hsteps⟩ := hK m meth c ⟨T.setVm vm₁, locs, cells, slots⟩ { g with stack := rest } (.invokespecial index) mk (Value.ref b :: argsL).toArray X₁ hg hsize hdg hW (X₁.named hnamed) (hpre vm₁ X₁.warmed)
  exact ⟨v, vm₁, B, X₁.warmed, X', hpost, fun target h => hstep₁ _ (by rw [doInvoke_state]; exact hsteps.trans h)⟩
section
variable {l : Launch} {D : va_G} {cA : FieldType → ClassId} {ad : Nat → Nat} {L : Nat} {xs : Nat → Int32}
variable {p : Program} {e : Env} {R : Room} {s : State} {m : MethodId} {args : Array Value} {below : List Frame} {meth : Method} {c : Code} {H : Heap} {locs : List Loc} {cells slots : Nat} {Z : State → Prop} {pc : Nat} {ls : Array Slot}
variable {M : am_M} {d mi n a b : Nat} {lv : List (Option Value)} {st : List Value} {I : am_I} {Q : am_Q}
/-- what the walk goes on with -/
def am_KK (l : Launch) (D : va_G) (cA : FieldType → ClassId) (ad : Nat → Nat) (L : Nat) (xs : Nat → Int32) (p : Program) (e : Env) (R : Room) (s : State) (m : MethodId) (args : Array Value) (below : List Frame) (meth : Method) (c : Code) (cells slots : Nat) (Z : State → Prop) (M : am_M) (d mi : Nat) (Q : am_Q) : Prop :=
  ∀ (n' : Nat) (lv' : List (Option Value)) (st' : List Value) (I' : am_I) (H' : Heap) (locs' : List Loc) (ls' : Array Slot), am_Jm l D cA ad L xs d mi n' lv' st' I' Q → va_P D vwCl (am_ws cA ad I') H' → va_S (am_A ad) s.heap H' locs' → am_ls ad M mi ls' lv' → W p l e R s m args below meth c H' locs' cells slots Z (F0 m n' ls' (st'.map (am_up ad)))
theorem am_goS (hOk : am_Ok) (hC : am_Cx D cA ad L xs M d p R s m args c cells slots) (hP : va_P D vwCl (am_ws cA ad I) H) (hS : va_S (am_A ad) s.heap H locs) (hl : am_ls ad M mi ls lv) (K : am_KK l D cA ad L xs p e R s m args below meth c cells slots Z M d mi Q) {np idx : Nat} {as rest : List Value}
    (hd : decode M.2.1 pc = .ok (.invokestatic idx, 3)) (hpop : am_pop np st [] = some (as, rest)) (h : am_call am_meth (am_Jm l D cA ad L xs) (am_Jm l D cA ad L xs) b as rest d mi (pc + 3) lv I Q)
    (hw : ∀ M', am_meth b = some M' → am_okd M' np = true ∧ Cond.methodLink M.1.cls idx M'.1 ∈ am_tb ∧ Cond.static M'.1 ∈ am_tb ∧ Cond.initialized M'.1.cls ∈ am_tb) : W p l e R s m args below meth c H locs cells slots Z (F0 m pc ls (st.map (am_up ad))) := by
  obtain ⟨d', M', Q', rfl, hM', hdd, hcw, hsum, hMet, hk⟩ := am_call_use hOk h np (fun M' hM' => (hw M' hM').1)
  obtain ⟨-, w1, w2, w3⟩ := hw M' hM'
  obtain ⟨hdc, hm45, -⟩ := am_okd_use hdd
  obtain ⟨hx, hb, hml, hown, hts, hK, hRd, hcs, hX⟩ := id hC
  obtain ⟨hst, hlen⟩ := am_pop_stack (ad := ad) hpop
  have hg : GoodIn am_tb (va_wsS M.1.cls idx M'.1 (am_wd M')) := by
    intro w hw
    unfold va_wsS at hw
    rcases List.mem_append.mp hw with q | q
    · simp only [List.mem_cons, List.not_mem_nil, or_false] at q
      rcases q with rfl | rfl | rfl
      · exact ⟨w1, am_good _ w1⟩
      · exact ⟨w2, am_good _ w2⟩
      · exact ⟨w3, am_good _ w3⟩
    · exact am_wd_good hcw w q
  refine am_cont (va_runS (As := as.map (am_up ad)) (rest := rest.map (am_up ad)) ⟨hx, hb, hml, hown, hts⟩ hMet (va_cwS np hts hg rfl rfl rfl hdc (am_room hRd hm45)) (am_pre hC hP hS) rfl hlen hl.1 hst (lv_room hsum) hd hcs) hS (fun r I' H1 locs1 q hP1 hS1 => ?_)
  rw [← am_toList]
  exact K _ _ _ _ _ _ _ (hk r I' q) hP1 hS1 hl
theorem am_goSN (hOk : am_Ok) (hC : am_Cx D cA ad L xs M d p R s m args c cells slots) (hP : va_P D vwCl (am_ws cA ad I) H) (hS : va_S (am_A ad) s.heap H locs) (hl : am_ls ad M mi ls lv) (K : am_KK l D cA ad L xs p e R s m args below meth c cells slots Z M d mi Q) {np idx : Nat} {as rest : List Value}
    (hd : decode M.2.1 pc = .ok (.invokestatic idx, 3)) (hpop : am_pop np st [] = some (as, rest)) (h : am_call am_meth (am_Jm l D cA ad L xs) (am_Jm l D cA ad L xs) b as rest d mi (pc + 3) lv I Q)
    (hw : ∀ M', am_meth b = some M' → am_okd M' np = true ∧ (M.1.cls, idx, M'.1, "BrokenLoaves") ∈ am_nest ∧ Cond.static M'.1 ∈ am_tb ∧ Cond.initialized M'.1.cls ∈ am_tb) : W p l e R s m args below meth c H locs cells slots Z (F0 m pc ls (st.map (am_up ad))) := by
  obtain ⟨d', M', Q', rfl, hM', hdd, hcw, hsum, hMet, hk⟩ := am_call_use hOk h np (fun M' hM' => (hw M' hM').1)
  obtain ⟨-, w1, w2, w3⟩ := hw M' hM'
  obtain ⟨hdc, hm45, -⟩ := am_okd_use hdd
  obtain ⟨hx, hb, hml, hown, hts, hK, hRd, hcs, hX⟩ := id hC
  obtain ⟨hst, hlen⟩ := am_pop_stack (ad := ad) hpop
  have hnl := hX.2.2.2 _ w1
  refine am_cont (va_runSN (As := as.map (am_up ad)) (rest := rest.map (am_up ad)) ⟨hx, hb, hml, hown, hts⟩ hMet ⟨va_cnB np hts (am_wd_good hcw) rfl rfl rfl hnl (hts _ w3) hdc (am_room hRd hm45), hts _ w2, trivial⟩ (am_pre hC hP hS) rfl hlen hl.1 hst (lv_room hsum) hd hcs) hS (fun r I' H1 locs1 q hP1 hS1 => ?_)
  rw [← am_toList]
  exact K _ _ _ _ _ _ _ (hk r I' q) hP1 hS1 hl
theorem am_goV (hOk : am_Ok) (hC : am_Cx D cA ad L xs M d p R s m args c cells slots) (hP : va_P D vwCl (am_ws cA ad I) H) (hS : va_S (am_A ad) s.heap H locs) (hl : am_ls ad M mi ls lv) (K : am_KK l D cA ad L xs p e R s m args below meth c cells slots Z M d mi Q) {np idx o ci : Nat} {as rest : List Value}
    (hd : decode M.2.1 pc = .ok (.invokevirtual idx, 3)) (hpop : am_pop np st [] = some (as, .ref o :: rest)) (ho : am_G o = some (.inl ci)) (h : am_call am_meth (am_Jm l D cA ad L xs) (am_Jm l D cA ad L xs) b (.ref o :: as) rest d mi (pc + 3) lv I Q)
    (hw : ∀ M', am_meth b = some M' → am_okd M' np = true ∧ M'.1.cls = am_cname ci ∧ Cond.methodLink M.1.cls idx M'.1 ∈ am_tb ∧ Cond.instanceMethod M'.1 ∈ am_tb ∧ Cond.selects (am_cname ci) M'.1 M'.1 ∈ am_tb ∧ Cond.initialized (am_cname ci) ∈ am_tb) : W p l e R s m args below meth c H locs cells slots Z (F0 m pc ls (st.map (am_up ad))) := by
  obtain ⟨d', M', Q', rfl, hM', hdd, hcw, hsum, hMet, hk⟩ := am_call_use hOk h np (fun M' hM' => (hw M' hM').1)
  obtain ⟨-, w0, w1, w2, w3, w4⟩ := hw M' hM'
  obtain ⟨hdc, hm45, -⟩ := am_okd_use hdd
  obtain ⟨hx, hb, hml, hown, hts, hK, hRd, hcs, hX⟩ := id hC
  obtain ⟨hst, hlen⟩ := am_pop_stack (ad := ad) hpop
  have hg : GoodIn am_tb (wsV M.1.cls idx (am_cname ci) M'.1 (am_wd M')) := by
    intro w hw
    unfold wsV at hw
    rcases List.mem_append.mp hw with q | q
    · simp only [List.mem_cons, List.not_mem_nil, or_false] at q
      rcases q with rfl | rfl | rfl | rfl
      · exact ⟨w1, am_good _ w1⟩
      · exact ⟨w2, am_good _ w2⟩
      · exact ⟨w3, am_good _ w3⟩
      · exact ⟨w4, am_good _ w4⟩
    · exact am_wd_good hcw w q
  refine am_cont (va_runV (C := am_cname ci) (b := ad o) (As := as.map (am_up ad)) (rest := rest.map (am_up ad)) ⟨hx, hb, hml, hown, hts⟩ hMet (cwV np hts hg rfl rfl rfl ⟨w0, hdc⟩ (am_room hRd hm45)) (am_preV hC hP hS ho) rfl hlen hl.1 hst (lv_room hsum) hd hcs) hS (fun r I' H1 locs1 q hP1 hS1 => ?_)
  rw [← am_toList]
  exact K _ _ _ _ _ _ _ (hk r I' q) hP1 hS1 hl
theorem am_goU (hOk : am_Ok) (hC : am_Cx D cA ad L xs M d p R s m args c cells slots) (hP : va_P D vwCl (am_ws cA ad I) H) (hS : va_S (am_A ad) s.heap H locs) (hl : am_ls ad M mi ls lv) (K : am_KK l D cA ad L xs p e R s m args below meth c cells slots Z M d mi Q) {np idx o ci : Nat} {as rest : List Value} {x : MethodName} {owner : String}
    (hd : decode M.2.1 pc = .ok (.invokevirtual idx, 3)) (hpop : am_pop np st [] = some (as, .ref o :: rest)) (ho : am_G o = some (.inl ci)) (h : am_call am_meth (am_Jm l D cA ad L xs) (am_Jm l D cA ad L xs) b (.ref o :: as) rest d mi (pc + 3) lv I Q)
    (hxo : (∃ b0 m0 r0, Cond.code ⟨owner, x.name, x.desc⟩ b0 m0 r0 ∈ am_tb) ∧ (owner ≠ "java/lang/invoke/MethodHandle" ∧ owner ≠ "java/lang/invoke/VarHandle" ∧ (parseMethodDescriptor x.desc).map (fun d => d.parameters.length) = some np) ∧ Cond.methodLink M.1.cls idx x ∈ am_tb ∧ Cond.sameMethod x.cls owner x.name x.desc ∈ am_tb ∧ Cond.instanceMethod ⟨owner, x.name, x.desc⟩ ∈ am_tb)
    (hw : ∀ M', am_meth b = some M' → am_okd M' np = true ∧ Cond.selects (am_cname ci) x M'.1 ∈ am_tb ∧ Cond.instanceMethod M'.1 ∈ am_tb ∧ Cond.initialized M'.1.cls ∈ am_tb) : W p l e R s m args below meth c H locs cells slots Z (F0 m pc ls (st.map (am_up ad))) := by
  obtain ⟨d', M', Q', rfl, hM', hdd, hcw, hsum, hMet, hk⟩ := am_call_use hOk h np (fun M' hM' => (hw M' hM').1)
  obtain ⟨-, w1, w2, w3⟩ := hw M' hM'
  obtain ⟨⟨b0, m0, r0, h0⟩, hdx, w4, w5, w6⟩ := hxo
  obtain ⟨hdc, hm45, -⟩ := am_okd_use hdd
  obtain ⟨hx, hb, hml, hown, hts, hK, hRd, hcs, hX⟩ := id hC
  obtain ⟨hst, hlen⟩ := am_pop_stack (ad := ad) hpop
  have hg : GoodIn am_tb (va_wsO M.1.cls idx (am_cname ci) owner x M'.1 (am_wd M')) := by
    intro w hw
    unfold va_wsO at hw
    rcases List.mem_append.mp hw with q | q
    · simp only [List.mem_cons, List.not_mem_nil, or_false] at q
      rcases q with rfl | rfl | rfl | rfl | rfl | rfl
      · exact ⟨w4, am_good _ w4⟩
      · exact ⟨w5, am_good _ w5⟩
      · exact ⟨w6, am_good _ w6⟩
      · exact ⟨w1, am_good _ w1⟩
      · exact ⟨w2, am_good _ w2⟩
      · exact ⟨w3, am_good _ w3⟩
    · exact am_wd_good hcw w q
  refine am_cont (va_runU (C := am_cname ci) (owner := owner) (x := x) (b := ad o) (As := as.map (am_up ad)) (rest := rest.map (am_up ad)) ⟨hx, hb, hml, hown, hts⟩ hMet (va_cwO np hts hg rfl rfl rfl h0 hdx (am_room hRd hm45)) (am_preV hC hP hS ho) rfl hlen hl.1 hst (lv_room hsum) hd hcs) hS (fun r I' H1 locs1 q hP1 hS1 => ?_)
  rw [← am_toList]
  exact K _ _ _ _ _ _ _ (hk r I' q) hP1 hS1 hl
theorem am_goSU (hOk : am_Ok) (hC : am_Cx D cA ad L xs M d p R s m args c cells slots) (hP : va_P D vwCl (am_ws cA ad I) H) (hS : va_S (am_A ad) s.heap H locs) (hl : am_ls ad M mi ls lv) (K : am_KK l D cA ad L xs p e R s m args below meth c cells slots Z M d mi Q) {np idx o ci : Nat} {as rest : List Value} {xc : String}
    (hd : decode M.2.1 pc = .ok (.invokespecial idx, 3)) (hpop : am_pop np st [] = some (as, .ref o :: rest)) (ho : am_G o = some (.inl ci)) (h : am_call am_meth (am_Jm l D cA ad L xs) (am_Jm l D cA ad L xs) b (.ref o :: as) rest d mi (pc + 3) lv I Q)
    (hw : ∀ M', am_meth b = some M' → am_okd M' np = true ∧ M'.1.name ≠ "<init>" ∧ Cond.methodLink M.1.cls idx ⟨xc, M'.1.name, M'.1.desc⟩ ∈ am_tb ∧ Cond.sameMethod xc M'.1.cls M'.1.name M'.1.desc ∈ am_tb ∧ Cond.superclass M.1.cls xc ∈ am_tb ∧ Cond.instanceMethod M'.1 ∈ am_tb ∧ Cond.initialized M'.1.cls ∈ am_tb ∧ (xc = M'.1.cls ∨ Cond.superclass xc M'.1.cls ∈ am_tb)) : W p l e R s m args below meth c H locs cells slots Z (F0 m pc ls (st.map (am_up ad))) := by
  obtain ⟨d', M', Q', rfl, hM', hdd, hcw, hsum, hMet, hk⟩ := am_call_use hOk h np (fun M' hM' => (hw M' hM').1)
  obtain ⟨-, w0, w1, w2, w3, w4, w5, w6⟩ := hw M' hM'
  obtain ⟨hdc, hm45, -⟩ := am_okd_use hdd
  obtain ⟨hx, hb, hml, hown, hts, hK, hRd, hcs, hX⟩ := id hC
  obtain ⟨hst, hlen⟩ := am_pop_stack (ad := ad) hpop
  obtain ⟨hbl, ⟨cellB, hcB, hoB, hclB⟩, hPc⟩ := am_preV (L := L) (xs := xs) (as := as) hC hP hS ho
  have hrm := am_room hRd hm45
  have hBk : Back l R p e below s args M'.1 3 8 (PreOf R 0 0 (va_Pc ((Value.ref o :: as).map (am_up ad)) (am_Wd D cA ad L xs I))) (PostOf (am_Qc D cA ad Q') 0 0 (am_A ad)) :=
    back_of (bytes := M'.2.1) (maxL := M'.2.2.1) (ret := M'.2.2.2.1) hMet hbl rfl rfl hrm.1 hrm.2 (pay_in hts (am_wd_good hcw)) List.mem_cons_self (fun a' U hW => word_at hW (Or.inl (by first | rfl | simp [Cond.onTables, Cond.keeps, Cond.steady])) (hts _ w5))
  have hlt := am_G_ci ho
  obtain ⟨q9, hq9⟩ : ∃ q, vwCl[ci]? = some q := ⟨vwCl[ci], List.getElem?_eq_getElem (by simpa using hlt)⟩
  obtain ⟨-, hfc, kB, hkB, -⟩ := hK.1 ci q9 hq9
  have hn9 : am_cname ci = q9.1 := by unfold am_cname; rw [hq9]
  rw [hn9] at hclB
  have hcc : cellB.cls = D.1 ci := Option.some.inj (hclB.symm.trans hfc)
  have hrun : va_Run p l e R s m args below meth c H locs cells slots 0 0 (F0 m pc ls (st.map (am_up ad))) (rest.map (am_up ad)) (am_Qc D cA ad Q' (Value.ref (ad o) :: as.map (am_up ad)).toArray) (am_A ad) := by
    intro T hT X
    obtain ⟨v, vm₁, ⟨U', l2, c2, s2⟩, hW₁, X', ⟨g', mk, t, L2, e1, e2, hq, h1, hL, h2, h3⟩, st3⟩ := am_callSU X hx (bytes := M'.2.1) (maxL := M'.2.2.1) (ret := M'.2.2.2.1) hown (hts _ w1) (hts _ w2) (hts _ w3) (w6.imp id (hts _)) (hts _ w4) (hts _ hcw) w0 hBk (by rw [hT]; exact hcB) hoB (by rw [hcc]; exact hkB) (g := F0 m pc ls (st.map (am_up ad))) rfl (hl.1.trans hml.symm) (argsL := as.map (am_up ad)) (rest := rest.map (am_up ad)) (fun sig h => by
        have h9 := hdc.2.2
        rw [h] at h9
        exact hlen.trans (Option.some.inj h9).symm) hst (lv_room hsum) (by rw [hb]; exact hd)
      (fun vm₁ hW₁ => ⟨hcs.1, hcs.2, hPc (T.setVm vm₁) hT hW₁⟩)
    dsimp only [Pt.U, Pt.locs, Pt.cells, Pt.slots] at X' e1 e2 h1 h2 h3 st3
    subst h1; subst h2; subst h3
    exact ⟨v, (T.setVm vm₁).calling g' mk (Value.ref (ad o) :: as.map (am_up ad)).toArray, t, U', L2, hT, X', hL, e1, e2, hq, st3⟩
  refine am_cont hrun hS (fun r I' H1 locs1 q hP1 hS1 => ?_)
  rw [← am_toList]
  exact K _ _ _ _ _ _ _ (hk r I' q) hP1 hS1 hl
end
end
section
theorem am_oksels_at {x : MethodName} {np : Nat} : ∀ (tb : List Nat) (k : Nat) (ps : List Nat), am_oksels x np k tb ps = true → ∀ (j b' : Nat), am_nth tb j = some (b' + 1) → ∃ q0 q1 q2, am_oksel x np (k + j) (b' + 1) [q0, q1, q2] = true
  | [], _, _, _, _, _, h => by simp [am_nth] at h
  | t :: tb, k, ps, h, j, b', hj => by
    match ps, h with
    | p0 :: p1 :: p2 :: ps, h =>
      simp only [am_oksels, Bool.and_eq_true] at h
      cases j with
      | zero =>
        simp only [am_nth, Option.some.injEq] at hj
        subst hj
        exact ⟨p0, p1, p2, h.1⟩
      | succ j =>
        obtain ⟨q0, q1, q2, h3⟩ := am_oksels_at tb (k + 1) ps h.2 j b' hj
        exact ⟨q0, q1, q2, by rw [show k + (j + 1) = k + 1 + j by omega]; exact h3⟩
    | [], h => simp [am_oksels] at h
    | [_], h => simp [am_oksels] at h
    | [_, _], h => simp [am_oksels] at h
theorem am_beq {a b : Nat} (h : Nat.beq a b = true) : a = b := Nat.eq_of_beq_eq_true h
section
variable {l : Launch} {D : va_G} {cA : FieldType → ClassId} {ad : Nat → Nat} {L : Nat} {xs : Nat → Int32}
variable {p : Program} {e : Env} {R : Room} {s : State} {m : MethodId} {args : Array Value} {below : List Frame} {meth : Method} {c : Code} {H : Heap} {locs : List Loc} {cells slots : Nat} {Z : State → Prop} {pc : Nat} {ls : Array Slot}
variable {M : am_M} {d mi n a b : Nat} {lv : List (Option Value)} {st : List Value} {I : am_I} {Q : am_Q}
theorem am_cpy_ws (hi : am_inj ad) {o1 o2 n1 n2 sp dp k : Nat} (h1 : am_G o1 = some (.inr (.int, n1))) (h2 : am_G o2 = some (.inr (.int, n2))) : (am_ws cA ad I).set o2 (ad o2, .inl (cA .int, n2, .inl (va_cpy (I o1) (I o2) sp dp k))) = am_ws cA ad (am_cpy I o1 sp o2 dp k) := by
  refine am_ws_set cA ad (am_G_lt h2) ?_ (fun o' ho => ?_)
  · unfold am_cell am_ar
    rw [h2]
    dsimp only [am_isR]
    congr 1
    congr 1
    congr 1
    congr 1
    funext j
    unfold va_cpy am_cpy
    simp
  · funext j
    unfold am_cpy
    simp [ho]
theorem am_goX (hOk : am_Ok) (hi : am_inj ad) (hC : am_Cx D cA ad L xs M d p R s m args c cells slots) (hP : va_P D vwCl (am_ws cA ad I) H) (hS : va_S (am_A ad) s.heap H locs) (hl : am_ls ad M mi ls lv) (K : am_KK l D cA ad L xs p e R s m args below meth c cells slots Z M d mi Q) {idx : Nat} {rest : List Value} {kk dp sp : Int32} {o1 o2 n1 n2 : Nat}
    (hd : decode M.2.1 pc = .ok (.invokestatic idx, 3)) (w1 : Cond.methodLink M.1.cls idx arraycopyName ∈ am_tb) (w2 : Cond.native arraycopyName ∈ am_tb) (w3 : Cond.static arraycopyName ∈ am_tb) (w4 : Cond.initialized "java/lang/System" ∈ am_tb) (h1 : am_G o1 = some (.inr (.int, n1))) (h2 : am_G o2 = some (.inr (.int, n2))) (hd1 : 1 ≤ d) (hrs : am_cs rest ≤ 8)
    (hc : 0 ≤ sp ∧ 0 ≤ dp ∧ 0 ≤ kk ∧ sp.toNatClampNeg + kk.toNatClampNeg ≤ n1 ∧ dp.toNatClampNeg + kk.toNatClampNeg ≤ n2) (h : am_Jm l D cA ad L xs d mi (pc + 3) lv rest (am_cpy I o1 sp.toNatClampNeg o2 dp.toNatClampNeg kk.toNatClampNeg) Q) :
    W p l e R s m args below meth c H locs cells slots Z (F0 m pc ls ((.int kk :: .int dp :: .ref o2 :: .int sp :: .ref o1 :: rest).map (am_up ad))) := by
  obtain ⟨hx, hb, hml, hown, hts, hK, hRd, hcs, hX⟩ := id hC
  obtain ⟨g1, g2, g3, g4, g5⟩ := hc
  refine va_copyi (q0 := o1) (q1 := o2) (t0 := 0) (t1 := 0) (rest := rest.map (am_up ad)) hx hb (hml.trans hl.1.symm) hown (hts _ w1) (hts _ w2) (hts _ w3) (hts _ w4) hK hP (am_ws_D hi cA I) hS (am_cell_arr h1) (am_cell_arr h2) (am_tys_at rfl) (am_tys_at rfl) rfl (Int32.not_lt.mpr g1) (Int32.not_lt.mpr g2) (Int32.not_lt.mpr g3) g4 g5 (fun i hi => rfl) (by omega) ?_ hd (fun H1 locs1 hP1 hD1 hS1 => ?_)
  · rw [am_cs_sum, am_cs_up]
    have : nativeFrameWords "java/lang/System" "arraycopy" 5 ≤ 40 := by decide +kernel
    omega
  · have hP2 : va_P D vwCl ((am_ws cA ad I).set o2 (ad o2, .inl (cA .int, n2, .inl (va_cpy (I o1) (I o2) sp.toNatClampNeg dp.toNatClampNeg kk.toNatClampNeg)))) H1 := hP1
    rw [am_cpy_ws hi h1 h2] at hP2
    exact K _ _ _ _ _ _ _ h hP2 hS1 hl
/-- all calls -/
theorem am_goInv (hOk : am_Ok) (hi : am_inj ad) (hC : am_Cx D cA ad L xs M d p R s m args c cells slots) (hP : va_P D vwCl (am_ws cA ad I) H) (hS : va_S (am_A ad) s.heap H locs) (hl : am_ls ad M mi ls lv) (K : am_KK l D cA ad L xs p e R s m args below meth c cells slots Z M d mi Q) {i : Instr} {ts ps : List Nat}
    (hd : decode M.2.1 pc = .ok (i, 3)) (hok : am_okinv M i a b ts ps = true) (h : am_inv am_meth (am_Jm l D cA ad L xs) (am_Jm l D cA ad L xs) a b ts d mi (pc + 3) lv st I Q)
    (hstr : ∀ (o : Nat) (rest : List Value) (idx : Nat), 1000 ≤ o → o < 1018 → 4 ≤ d → am_cs rest ≤ 8 → i = .invokevirtual idx → Cond.methodLink M.1.cls idx ⟨"java/lang/String", "length", "()I"⟩ ∈ am_tb → am_Jm l D cA ad L xs d mi (pc + 3) lv (.int (nI (am_txl (o - 1000))) :: rest) I Q → W p l e R s m args below meth c H locs cells slots Z (F0 m pc ls ((.ref o :: rest).map (am_up ad))))
    (hchr : ∀ (o : Nat) (k : Int32) (rest : List Value) (idx : Nat), 1000 ≤ o → o < 1018 → vp_in k (am_txl (o - 1000)) → 4 ≤ d → am_cs rest ≤ 8 → i = .invokevirtual idx → Cond.methodLink M.1.cls idx ⟨"java/lang/String", "charAt", "(I)C"⟩ ∈ am_tb → am_Jm l D cA ad L xs d mi (pc + 3) lv (.int (am_txc (o - 1000) k.toNatClampNeg) :: rest) I Q → W p l e R s m args below meth c H locs cells slots Z (F0 m pc ls ((.int k :: .ref o :: rest).map (am_up ad)))) :
    W p l e R s m args below meth c H locs cells slots Z (F0 m pc ls (st.map (am_up ad))) := by
  unfold am_okinv at hok
  split at hok
  · next idx np p0 p1 p2 =>
    simp only [am_inv] at h
    split at h
    · next as rest hpop =>
      refine am_goS hOk hC hP hS hl K hd hpop h (fun M' hM' => ?_)
      rw [hM'] at hok
      simp only [Bool.and_eq_true] at hok
      exact ⟨hok.1.1.1, am_at_in hok.1.1.2, am_at_in hok.1.2, am_at_in hok.2⟩
    · exact h.elim
  · next idx np p0 p1 p2 =>
    simp only [am_inv] at h
    split at h
    · next as rest hpop =>
      refine am_goSN hOk hC hP hS hl K hd hpop h (fun M' hM' => ?_)
      rw [hM'] at hok
      simp only [Bool.and_eq_true, decide_eq_true_eq] at hok
      exact ⟨hok.1.1.1, hok.1.1.2, am_at_in hok.1.2, am_at_in hok.2⟩
    · exact h.elim
  · next idx np ci p0 p1 p2 p3 =>
    simp only [am_inv] at h
    split at h
    · next as o rest hpop =>
      split at h
      · next c' ho =>
        split at h
        · next hb =>
          have := am_beq hb
          subst this
          refine am_goV hOk hC hP hS hl K hd hpop ho h (fun M' hM' => ?_)
          rw [hM'] at hok
          simp only [Bool.and_eq_true, decide_eq_true_eq] at hok
          exact ⟨hok.1.1.1.1.1, hok.1.1.1.1.2, am_at_in hok.1.1.1.2, am_at_in hok.1.1.2, am_at_in hok.1.2, am_at_in hok.2⟩
        · exact h.elim
      · exact h.elim
    · exact h.elim
  · next idx np tb p0 p1 p2 bo ps =>
    simp only [am_inv] at h
    split at h
    · next as o rest hpop =>
      split at h
      · next c' ho =>
        split at h
        · next b' hb' =>
          split at hok
          · next b9 hf =>
            split at hok
            · next M9 hM9 =>
              simp only [Bool.and_eq_true, decide_eq_true_eq] at hok
              obtain ⟨⟨⟨⟨⟨⟨⟨k1, k2⟩, k3⟩, k4⟩, k5⟩, k6⟩, k7⟩, k8⟩ := hok
              unfold am_okow at k1
              split at k1
              · next Mo hMo =>
                simp only [Bool.and_eq_true, decide_eq_true_eq] at k1
                have hcode := (hOk bo Mo hMo).2 k1.2
                rw [k1.1] at hcode
                refine am_goU (x := ⟨am_cname (b / 100), M9.1.name, M9.1.desc⟩) (owner := am_cname (b % 100)) hOk hC hP hS hl K hd hpop ho h ⟨⟨_, _, _, hcode⟩, ⟨k7, k8, k6⟩, am_at_in k2, am_at_in k3, am_at_in k4⟩ (fun M' hM' => ?_)
                obtain ⟨q0, q1, q2, hs⟩ := am_oksels_at _ _ _ k5 _ _ hb'
                unfold am_oksel at hs
                simp only [hM', Bool.and_eq_true] at hs
                rw [Nat.zero_add] at hs
                exact ⟨hs.1.1.1, am_at_in hs.1.1.2, am_at_in hs.1.2, am_at_in hs.2⟩
              · cases k1
            · cases hok
          · cases hok
        · exact h.elim
      · exact h.elim
    · exact h.elim
  · next idx np xc p0 p1 p2 p3 p4 p5 =>
    simp only [am_inv] at h
    split at h
    · next as o rest hpop =>
      split at h
      · next c' ho =>
        refine am_goSU (xc := am_cname xc) hOk hC hP hS hl K hd hpop ho h (fun M' hM' => ?_)
        rw [hM'] at hok
        simp only [Bool.and_eq_true, Bool.or_eq_true, decide_eq_true_eq] at hok
        obtain ⟨⟨⟨⟨⟨⟨⟨k1, k2⟩, k3⟩, k4⟩, k5⟩, k6⟩, k7⟩, k8⟩ := hok
        exact ⟨k1, k2, am_at_in k3, am_at_in k4, am_at_in k5, am_at_in k6, am_at_in k7, k8.imp id am_at_in⟩
      · exact h.elim
    · exact h.elim
  · next idx p0 p1 p2 p3 =>
    simp only [Bool.and_eq_true] at hok
    simp only [am_inv] at h
    split at h
    · next kk dp o2 sp o1 rest =>
      split at h
      · next n1 h1 =>
        split at h
        · next n2 h2 =>
          split at h
          · exact h.elim
          · next d' =>
            split at h
            · next hrs => exact am_goX hOk hi hC hP hS hl K hd (am_at_in hok.1.1.1) (am_at_in hok.1.1.2) (am_at_in hok.1.2) (am_at_in hok.2) h1 h2 (by omega) (Nat.le_of_ble_eq_true hrs) h.1 h.2
            · exact h.elim
        · exact h.elim
      · exact h.elim
    · exact h.elim
  · next idx p0 p1 p2 p3 =>
    simp only [Bool.and_eq_true] at hok
    simp only [am_inv] at h
    obtain ⟨hx, hb, hml, hown, hts, hK, hRd, hcs, hX⟩ := id hC
    split at h
    · next d' =>
      split at h
      · next y x rest =>
        split at h
        · next hrs =>
          have hr9 := Nat.le_of_ble_eq_true hrs
          refine va_mmax (rest := rest.map (am_up ad)) hx hb (hml.trans hl.1.symm) hown (hts _ (am_at_in hok.1.1.1)) (hts _ (am_at_in hok.1.1.2)) (hts _ (am_at_in hok.1.2)) (hts _ (am_at_in hok.2)) (by omega) (by rw [am_cs_sum, am_cs_up]; omega) hcs.1 hcs.2 hd ?_
          exact K _ _ _ _ _ _ _ h hP hS hl
        · exact h.elim
      · exact h.elim
    · exact h.elim
  · next idx p0 p1 p2 p3 =>
    simp only [Bool.and_eq_true] at hok
    simp only [am_inv] at h
    obtain ⟨hx, hb, hml, hown, hts, hK, hRd, hcs, hX⟩ := id hC
    split at h
    · next d' =>
      split at h
      · next y x rest =>
        split at h
        · next hrs =>
          have hr9 := Nat.le_of_ble_eq_true hrs
          refine va_mmin (rest := rest.map (am_up ad)) hx hb (hml.trans hl.1.symm) hown (hts _ (am_at_in hok.1.1.1)) (hts _ (am_at_in hok.1.1.2)) (hts _ (am_at_in hok.1.2)) (hts _ (am_at_in hok.2)) (by omega) (by rw [am_cs_sum, am_cs_up]; omega) hcs.1 hcs.2 hd ?_
          exact K _ _ _ _ _ _ _ h hP hS hl
        · exact h.elim
      · exact h.elim
    · exact h.elim
  · next idx p0 p1 p2 p3 =>
    simp only [Bool.and_eq_true] at hok
    simp only [am_inv] at h
    obtain ⟨hx, hb, hml, hown, hts, hK, hRd, hcs, hX⟩ := id hC
    split at h
    · next d' =>
      split at h
      · next x rest =>
        split at h
        · next hrs =>
          have hr9 := Nat.le_of_ble_eq_true hrs
          refine va_mabs (rest := rest.map (am_up ad)) hx hb (hml.trans hl.1.symm) hown (hts _ (am_at_in hok.1.1.1)) (hts _ (am_at_in hok.1.1.2)) (hts _ (am_at_in hok.1.2)) (hts _ (am_at_in hok.2)) (by omega) (by rw [am_cs_sum, am_cs_up]; omega) hcs.1 hcs.2 hd ?_
          exact K _ _ _ _ _ _ _ h hP hS hl
        · exact h.elim
      · exact h.elim
    · exact h.elim
  · next idx p0 =>
    simp only [am_inv] at h
    split at h
    · next d' =>
      split at h
      · next o rest =>
        split at h
        · next hrs => exact hstr o rest idx h.1.1 h.1.2 (by omega) (Nat.le_of_ble_eq_true hrs) rfl (am_at_in hok) h.2
        · exact h.elim
      · exact h.elim
    · exact h.elim
  · next idx p0 =>
    simp only [am_inv] at h
    split at h
    · next d' =>
      split at h
      · next k o rest =>
        split at h
        · next hrs => exact hchr o k rest idx h.1.1 h.1.2.1 h.1.2.2 (by omega) (Nat.le_of_ble_eq_true hrs) rfl (am_at_in hok) h.2
        · exact h.elim
      · exact h.elim
    · exact h.elim
  · cases hok
end
end
section
/-- what a String constant's length() and charAt() give, as calls of any method -/
def am_Str (l : Launch) (D : va_G) (cA : FieldType → ClassId) (ad : Nat → Nat) (L : Nat) (xs : Nat → Int32) : Prop :=
  ∀ (p : Program) (e : Env) (R : Room) (s : State) (m : MethodId) (args : Array Value) (below : List Frame) (meth : Method) (c : Code) (H : Heap) (locs : List Loc) (cells slots : Nat) (Z : State → Prop) (pc : Nat) (ls : Array Slot) (M : am_M) (d o idx : Nat) (rest : List Value),
    am_Cx D cA ad L xs M d p R s m args c cells slots → va_S (am_A ad) s.heap H locs → ls.size = M.2.2.1 → 1000 ≤ o → o < 1018 → 4 ≤ d → am_cs rest ≤ 8 → decode M.2.1 pc = .ok (.invokevirtual idx, 3) →
    (Cond.methodLink M.1.cls idx ⟨"java/lang/String", "length", "()I"⟩ ∈ am_tb → (∀ (H' : Heap) (locs' : List Loc), va_S (am_A ad) s.heap H' locs' → (∀ q, am_A ad q → H'[q]? = H[q]?) → W p l e R s m args below meth c H' locs' cells slots Z (F0 m (pc + 3) ls (.int (nI (am_txl (o - 1000))) :: rest.map (am_up ad)))) → W p l e R s m args below meth c H locs cells slots Z (F0 m pc ls (.ref (ad o) :: rest.map (am_up ad)))) ∧
    (∀ k : Int32, vp_in k (am_txl (o - 1000)) → Cond.methodLink M.1.cls idx ⟨"java/lang/String", "charAt", "(I)C"⟩ ∈ am_tb → (∀ (H' : Heap) (locs' : List Loc), va_S (am_A ad) s.heap H' locs' → (∀ q, am_A ad q → H'[q]? = H[q]?) → W p l e R s m args below meth c H' locs' cells slots Z (F0 m (pc + 3) ls (.int (am_txc (o - 1000) k.toNatClampNeg) :: rest.map (am_up ad)))) → W p l e R s m args below meth c H locs cells slots Z (F0 m pc ls (.int k :: .ref (ad o) :: rest.map (am_up ad))))
theorem am_P_kept {D : va_G} {cA : FieldType → ClassId} {ad : Nat → Nat} {I : am_I} {H H' : Heap} (hP : va_P D vwCl (am_ws cA ad I) H) (h : ∀ q, am_A ad q → H'[q]? = H[q]?) : va_P D vwCl (am_ws cA ad I) H' := by
  refine hP.kept (fun k q hk => h q.1 ?_)
  by_cases hn : k < am_n
  · rw [am_ws_at cA ad I hn] at hk
    cases hk
    exact ⟨k, hn, rfl⟩
  · rw [am_ws_none cA ad I hn] at hk
    cases hk
theorem am_okst_lt {M : am_M} {mi a : Nat} (h : am_okst M mi a = true) : a < M.2.2.1 := by
  simp only [am_okst, Bool.and_eq_true, decide_eq_true_eq] at h
  exact h.1
set_option maxHeartbeats 4000000 in
/-- THE REAL MACHINE'S JUDGEMENT IS CLOSED -/
theorem am_closed {l : Launch} {D : va_G} {cA : FieldType → ClassId} {ad : Nat → Nat} {L : Nat} {xs : Nat → Int32} (hOk : am_Ok) (hi : am_inj ad) (hStr : am_Str l D cA ad L xs) : am_Cl am_meth L xs (am_Jm l D cA ad L xs) := by
  refine ⟨?_, am_Jm_mo l D cA ad L xs⟩
  intro d mi pc lv st I Q h M hM p e R s m args below meth c H locs cells slots ls Z hC hP hS hl hr
  unfold am_F at h
  rw [hM] at h
  dsimp only at h
  cases hins : am_ins M pc with
  | none => rw [hins] at h; exact h.elim
  | some en =>
    obtain ⟨i, n, a, b, ts, v⟩ := en
    rw [hins] at h
    dsimp only at h
    obtain ⟨ps, hok⟩ := am_ok_ins (hOk mi M hM).1 hins
    simp only [am_okE, Bool.and_eq_true, decide_eq_true_eq] at hok
    obtain ⟨hd0, hok⟩ := hok
    have hd : ∀ k, n = pc + k → decode M.2.1 pc = .ok (i, k) := fun k e => by rw [hd0, e, Nat.add_sub_cancel_left]
    obtain ⟨hx, hb, hml, hown, hts, hK, hRd, hcs, hX⟩ := id hC
    have K : am_KK l D cA ad L xs p e R s m args below meth c cells slots Z M d mi Q := fun n' lv' st' I' H' locs' ls' h' hP' hS' hl' => h' M hM p e R s m args below meth c H' locs' cells slots ls' Z hC hP' hS' hl' hr
    have hD : va_D (am_A ad) (am_ws cA ad I) := am_ws_D hi cA I
    generalize hJe : am_Jm l D cA ad L xs = J at h
    have KJ : ∀ {n' : Nat} {lv' : List (Option Value)} {st' : List Value} {I' : am_I} {H' : Heap} {locs' : List Loc} {ls' : Array Slot}, J d mi n' lv' st' I' Q → va_P D vwCl (am_ws cA ad I') H' → va_S (am_A ad) s.heap H' locs' → am_ls ad M mi ls' lv' → W p l e R s m args below meth c H' locs' cells slots Z (F0 m n' ls' (st'.map (am_up ad))) := by
      intro n' lv' st' I' H' locs' ls' h' hP' hS' hl'
      rw [← hJe] at h'
      exact K _ _ _ _ _ _ _ h' hP' hS' hl'
    have inv : ∀ (i' : Instr), decode M.2.1 pc = .ok (i', 3) → am_okinv M i' a b ts ps = true → am_inv am_meth J J a b ts d mi (pc + 3) lv st I Q → W p l e R s m args below meth c H locs cells slots Z (F0 m pc ls (st.map (am_up ad))) := by
      intro i' hd' hok' h'
      rw [← hJe] at h'
      refine am_goInv hOk hi hC hP hS hl K hd' hok' h' ?_ ?_
      · intro o rest idx h1 h2 h3 h4 h5 h6 h7
        subst h5
        exact (hStr p e R s m args below meth c H locs cells slots Z pc ls M d o idx rest hC hS hl.1 h1 h2 h3 h4 hd').1 h6 (fun H' locs' hS' hk => K _ _ _ _ _ _ _ h7 (am_P_kept hP hk) hS' hl)
      · intro o k rest idx h1 h2 h3 h4 h5 h6 h7 h8
        subst h6
        exact (hStr p e R s m args below meth c H locs cells slots Z pc ls M d o idx rest hC hS hl.1 h1 h2 h4 h5 hd').2 k h3 h7 (fun H' locs' hS' hk => K _ _ _ _ _ _ _ h8 (am_P_kept hP hk) hS' hl)
    have ild : ∀ (k : Nat), n = pc + k → am_ild J a d mi n lv st I Q → ((∀ x : Int32, ls[a]? = some (.val (.int x)) → W p l e R s m args below meth c H locs cells slots Z (F0 m n ls (.int x :: st.map (am_up ad))) → W p l e R s m args below meth c H locs cells slots Z (F0 m pc ls (st.map (am_up ad))))) → W p l e R s m args below meth c H locs cells slots Z (F0 m pc ls (st.map (am_up ad))) := by
      intro k hk h' f
      unfold am_ild at h'
      split at h'
      · next x hx' => exact f x (hl.2.2.1 _ _ hx') (KJ h' hP hS hl)
      · exact h'.elim
    have ald : am_ald J a d mi n lv st I Q → ((∀ x : Nat, ls[a]? = some (.val (.ref (ad x))) → W p l e R s m args below meth c H locs cells slots Z (F0 m n ls (.ref (ad x) :: st.map (am_up ad))) → W p l e R s m args below meth c H locs cells slots Z (F0 m pc ls (st.map (am_up ad))))) → W p l e R s m args below meth c H locs cells slots Z (F0 m pc ls (st.map (am_up ad))) := by
      intro h' f
      unfold am_ald at h'
      split at h'
      · next x hx' => exact f x (hl.2.2.1 _ _ hx') (KJ h' hP hS hl)
      · exact h'.elim
    cases i with
    | iconst k =>
      simp only [am_okI, Bool.and_eq_true, decide_eq_true_eq] at hok
      obtain ⟨rfl, hv⟩ := hok
      exact lv_iconst hx hb (hd 1 rfl) hv (KJ h hP hS hl)
    | bipush k =>
      simp only [am_okI, Bool.and_eq_true, decide_eq_true_eq] at hok
      obtain ⟨rfl, hv⟩ := hok
      exact lv_bipush hx hb (hd 2 rfl) hv (KJ h hP hS hl)
    | sipush k =>
      simp only [am_okI, Bool.and_eq_true, decide_eq_true_eq] at hok
      obtain ⟨rfl, hv⟩ := hok
      exact lv_sipush hx hb (hd 3 rfl) hv (KJ h hP hS hl)
    | ldc idx =>
      simp only [am_okI, Bool.and_eq_true, decide_eq_true_eq] at hok
      obtain ⟨rfl, hok⟩ := hok
      cases a with
      | zero =>
        match ps, hok with
        | [p0], hok => exact lv_ldc hx hb hown (hts _ (am_at_in hok)) (hd 2 rfl) (KJ h hP hS hl)
        | [], hok => exact absurd hok Bool.false_ne_true
        | _ :: _ :: _, hok => exact absurd hok Bool.false_ne_true
      | succ a =>
        have hok : (decide (b < 18) && decide (am_sx.getD b 0 = idx) && decide (M.1.cls = "BrokenLoaves$RuleText")) = true := hok
        simp only [Bool.and_eq_true, decide_eq_true_eq] at hok
        obtain ⟨⟨q1, q2⟩, q3⟩ := hok
        have hR := hX.2.2.1 b q1
        rw [q2, ← q3] at hR
        exact va_ldcS hx hb hown hR (hd 2 rfl) (KJ h hP hS hl)
    | ldc_w idx =>
      simp only [am_okI, Bool.and_eq_true, decide_eq_true_eq] at hok
      obtain ⟨rfl, hok⟩ := hok
      split at hok
      · exact lv_ldcw hx hb hown (hts _ (am_at_in hok)) (hd 3 rfl) (KJ h hP hS hl)
      · cases hok
    | ldc2_w idx =>
      simp only [am_okI, Bool.and_eq_true, decide_eq_true_eq] at hok
      obtain ⟨rfl, hok⟩ := hok
      split at hok
      · exact lv_ldc2 hx hb hown (hts _ (am_at_in hok)) (hd 3 rfl) (KJ h hP hS hl)
      · cases hok
    | iload k =>
      simp only [am_okI, Bool.and_eq_true, decide_eq_true_eq] at hok
      obtain ⟨rfl, rfl⟩ := hok
      exact ild 2 rfl h (fun x q w => lv_iload hx hb (hd 2 rfl) q w)
    | iload_n k =>
      simp only [am_okI, Bool.and_eq_true, decide_eq_true_eq] at hok
      obtain ⟨rfl, rfl⟩ := hok
      exact ild 1 rfl h (fun x q w => lv_iload_n hx hb (hd 1 rfl) rfl q w)
    | lload_n k =>
      simp only [am_okI, Bool.and_eq_true, decide_eq_true_eq] at hok
      obtain ⟨rfl, rfl⟩ := hok
      simp only [am_step, am_lld] at h
      split at h
      · next x hx' => exact lv_lload_n hx hb (hd 1 rfl) rfl (hl.2.2.1 _ _ hx') (KJ h hP hS hl)
      · exact h.elim
    | aload k =>
      simp only [am_okI, Bool.and_eq_true, decide_eq_true_eq] at hok
      obtain ⟨rfl, rfl⟩ := hok
      exact ald h (fun x q w => lv_aload hx hb (hd 2 rfl) q w)
    | aload_n k =>
      simp only [am_okI, Bool.and_eq_true, decide_eq_true_eq] at hok
      obtain ⟨rfl, rfl⟩ := hok
      exact ald h (fun x q w => lv_aload_n hx hb (hd 1 rfl) rfl q w)
    | istore k =>
      simp only [am_okI, Bool.and_eq_true, decide_eq_true_eq] at hok
      obtain ⟨⟨rfl, rfl⟩, hst⟩ := hok
      simp only [am_step, am_ist] at h
      split at h
      · next x st' => exact lv_istore hx hb (hd 2 rfl) (am_ls_has hl) (am_okst_lt hst) rfl (fun ls' hl' => KJ h hP hS (am_ls_set hl hst rfl hl'))
      · exact h.elim
    | istore_n k =>
      simp only [am_okI, Bool.and_eq_true, decide_eq_true_eq] at hok
      obtain ⟨⟨rfl, rfl⟩, hst⟩ := hok
      simp only [am_step, am_ist] at h
      split at h
      · next x st' => exact lv_istore_n hx hb (hd 1 rfl) rfl (am_ls_has hl) (am_okst_lt hst) rfl (fun ls' hl' => KJ h hP hS (am_ls_set hl hst rfl hl'))
      · exact h.elim
    | astore k =>
      simp only [am_okI, Bool.and_eq_true, decide_eq_true_eq] at hok
      obtain ⟨⟨rfl, rfl⟩, hst⟩ := hok
      simp only [am_step, am_ast] at h
      split at h
      · next x st' => exact lv_astore hx hb (hd 2 rfl) (am_ls_has hl) (am_okst_lt hst) rfl (fun ls' hl' => KJ h hP hS (am_ls_set hl hst rfl hl'))
      · exact h.elim
    | astore_n k =>
      simp only [am_okI, Bool.and_eq_true, decide_eq_true_eq] at hok
      obtain ⟨⟨rfl, rfl⟩, hst⟩ := hok
      simp only [am_step, am_ast] at h
      split at h
      · next x st' => exact lv_astore_n hx hb (hd 1 rfl) rfl (am_ls_has hl) (am_okst_lt hst) rfl (fun ls' hl' => KJ h hP hS (am_ls_set hl hst rfl hl'))
      · exact h.elim
    | iinc k q =>
      simp only [am_okI, Bool.and_eq_true, decide_eq_true_eq] at hok
      obtain ⟨⟨⟨rfl, rfl⟩, hv⟩, hst⟩ := hok
      simp only [am_step, am_inc] at h
      split at h
      · next x hx' =>
        have hm := am_as_of ad lv 0 a _ hx'
        rw [Nat.zero_add] at hm
        obtain ⟨j, hj⟩ := List.getElem?_of_mem hm
        exact lv_iinc hx hb (hd 3 rfl) (am_ls_has hl) hj (by rw [hv]) (am_okst_lt hst) rfl (fun ls' hl' => KJ h hP hS (am_ls_set hl hst rfl hl'))
      · exact h.elim
    | iadd =>
      simp only [am_okI, decide_eq_true_eq] at hok
      subst hok
      simp only [am_step, am_bin] at h
      split at h
      · exact lv_iadd hx hb (hd 1 rfl) (KJ h hP hS hl)
      · exact h.elim
    | isub =>
      simp only [am_okI, decide_eq_true_eq] at hok
      subst hok
      simp only [am_step, am_bin] at h
      split at h
      · exact lv_isub hx hb (hd 1 rfl) (KJ h hP hS hl)
      · exact h.elim
    | imul =>
      simp only [am_okI, decide_eq_true_eq] at hok
      subst hok
      simp only [am_step, am_bin] at h
      split at h
      · exact lv_imul hx hb (hd 1 rfl) (KJ h hP hS hl)
      · exact h.elim
    | iand =>
      simp only [am_okI, decide_eq_true_eq] at hok
      subst hok
      simp only [am_step, am_bin] at h
      split at h
      · exact lv_iand hx hb (hd 1 rfl) (KJ h hP hS hl)
      · exact h.elim
    | ior =>
      simp only [am_okI, decide_eq_true_eq] at hok
      subst hok
      simp only [am_step, am_bin] at h
      split at h
      · exact lv_ior hx hb (hd 1 rfl) (KJ h hP hS hl)
      · exact h.elim
    | ixor =>
      simp only [am_okI, decide_eq_true_eq] at hok
      subst hok
      simp only [am_step, am_bin] at h
      split at h
      · exact lv_ixor hx hb (hd 1 rfl) (KJ h hP hS hl)
      · exact h.elim
    | ishl =>
      simp only [am_okI, decide_eq_true_eq] at hok
      subst hok
      simp only [am_step, am_bin] at h
      split at h
      · exact lv_ishl hx hb (hd 1 rfl) (KJ h hP hS hl)
      · exact h.elim
    | ishr =>
      simp only [am_okI, decide_eq_true_eq] at hok
      subst hok
      simp only [am_step, am_bin] at h
      split at h
      · exact lv_ishr hx hb (hd 1 rfl) (KJ h hP hS hl)
      · exact h.elim
    | iushr =>
      simp only [am_okI, decide_eq_true_eq] at hok
      subst hok
      simp only [am_step, am_bin] at h
      split at h
      · exact lv_iushr hx hb (hd 1 rfl) rfl (KJ h hP hS hl)
      · exact h.elim
    | idiv =>
      simp only [am_okI, decide_eq_true_eq] at hok
      subst hok
      simp only [am_step, am_div] at h
      split at h
      · exact lv_idiv hx hb (hd 1 rfl) h.1 (KJ h.2 hP hS hl)
      · exact h.elim
    | irem =>
      simp only [am_okI, decide_eq_true_eq] at hok
      subst hok
      simp only [am_step, am_div] at h
      split at h
      · exact lv_irem hx hb (hd 1 rfl) h.1 (KJ h.2 hP hS hl)
      · exact h.elim
    | ineg =>
      simp only [am_okI, decide_eq_true_eq] at hok
      subst hok
      simp only [am_step, am_una] at h
      split at h
      · exact lv_ineg hx hb (hd 1 rfl) (KJ h hP hS hl)
      · exact h.elim
    | i2b =>
      simp only [am_okI, decide_eq_true_eq] at hok
      subst hok
      simp only [am_step, am_una] at h
      split at h
      · exact lv_i2b hx hb (hd 1 rfl) rfl (KJ h hP hS hl)
      · exact h.elim
    | i2s =>
      simp only [am_okI, decide_eq_true_eq] at hok
      subst hok
      simp only [am_step, am_una] at h
      split at h
      · exact lv_i2s hx hb (hd 1 rfl) rfl (KJ h hP hS hl)
      · exact h.elim
    | i2l =>
      simp only [am_okI, decide_eq_true_eq] at hok
      subst hok
      simp only [am_step] at h
      split at h
      · exact lv_i2l hx hb (hd 1 rfl) rfl (KJ h hP hS hl)
      · exact h.elim
    | l2i =>
      simp only [am_okI, decide_eq_true_eq] at hok
      subst hok
      simp only [am_step] at h
      split at h
      · exact lv_l2i hx hb (hd 1 rfl) rfl (KJ h hP hS hl)
      · exact h.elim
    | land =>
      simp only [am_okI, decide_eq_true_eq] at hok
      subst hok
      simp only [am_step, am_lbin] at h
      split at h
      · exact lv_land hx hb (hd 1 rfl) (KJ h hP hS hl)
      · exact h.elim
    | lor =>
      simp only [am_okI, decide_eq_true_eq] at hok
      subst hok
      simp only [am_step, am_lbin] at h
      split at h
      · exact lv_lor hx hb (hd 1 rfl) (KJ h hP hS hl)
      · exact h.elim
    | lshl =>
      simp only [am_okI, decide_eq_true_eq] at hok
      subst hok
      simp only [am_step, am_lsh] at h
      split at h
      · exact lv_lshl hx hb (hd 1 rfl) rfl (KJ h hP hS hl)
      · exact h.elim
    | lshr =>
      simp only [am_okI, decide_eq_true_eq] at hok
      subst hok
      simp only [am_step, am_lsh] at h
      split at h
      · exact lv_lshr hx hb (hd 1 rfl) rfl (KJ h hP hS hl)
      · exact h.elim
    | lushr =>
      simp only [am_okI, decide_eq_true_eq] at hok
      subst hok
      simp only [am_step, am_lsh] at h
      split at h
      · exact lv_lushr hx hb (hd 1 rfl) rfl (KJ h hP hS hl)
      · exact h.elim
    | dup =>
      simp only [am_okI, decide_eq_true_eq] at hok
      subst hok
      simp only [am_step] at h
      split at h
      · exact lv_dup hx hb (hd 1 rfl) rfl (KJ h hP hS hl)
      · exact lv_dup hx hb (hd 1 rfl) rfl (KJ h hP hS hl)
      · exact h.elim
    | dup2 =>
      simp only [am_okI, decide_eq_true_eq] at hok
      subst hok
      simp only [am_step] at h
      split at h
      · exact lv_dup2_11 hx hb (hd 1 rfl) rfl rfl (KJ h hP hS hl)
      · exact h.elim
    | pop =>
      simp only [am_okI, decide_eq_true_eq] at hok
      subst hok
      simp only [am_step] at h
      split at h
      · next x st' => exact lv_pop (va := .int x) hx hb (hd 1 rfl) rfl (KJ h hP hS hl)
      · next x st' => exact lv_pop (va := .ref (ad x)) hx hb (hd 1 rfl) rfl (KJ h hP hS hl)
      · exact h.elim
    | goto off =>
      simp only [am_okI, Bool.and_eq_true, decide_eq_true_eq] at hok
      obtain ⟨rfl, ht⟩ := hok
      exact lv_goto hx hb (hd 3 rfl) ht (KJ h hP hS hl)
    | ifCond cd off =>
      simp only [am_okI, Bool.and_eq_true, decide_eq_true_eq] at hok
      obtain ⟨rfl, ht⟩ := hok
      cases cd
      all_goals
        simp only [am_step, am_br1] at h
        split at h
      · exact lv_if_eq hx hb (hd 3 rfl) ht (fun q => KJ (h.1 q) hP hS hl) (fun q => KJ (h.2 q) hP hS hl)
      · exact h.elim
      · exact lv_if_ne hx hb (hd 3 rfl) ht (fun q => KJ (h.2 q) hP hS hl) (fun q => KJ (h.1 q) hP hS hl)
      · exact h.elim
      · exact lv_if_lt hx hb (hd 3 rfl) ht (fun q => KJ (h.1 q) hP hS hl) (fun q => KJ (h.2 q) hP hS hl)
      · exact h.elim
      · exact lv_if_ge hx hb (hd 3 rfl) ht (fun q => KJ (h.1 q) hP hS hl) (fun q => KJ (h.2 q) hP hS hl)
      · exact h.elim
      · exact lv_if_gt hx hb (hd 3 rfl) ht (fun q => KJ (h.1 q) hP hS hl) (fun q => KJ (h.2 q) hP hS hl)
      · exact h.elim
      · exact lv_if_le hx hb (hd 3 rfl) ht (fun q => KJ (h.1 q) hP hS hl) (fun q => KJ (h.2 q) hP hS hl)
      · exact h.elim
    | if_icmp cd off =>
      simp only [am_okI, Bool.and_eq_true, decide_eq_true_eq] at hok
      obtain ⟨rfl, ht⟩ := hok
      cases cd
      all_goals
        simp only [am_step, am_br2] at h
        split at h
      · exact lv_icmp_eq hx hb (hd 3 rfl) ht (fun q => KJ (h.1 q) hP hS hl) (fun q => KJ (h.2 q) hP hS hl)
      · exact h.elim
      · exact lv_icmp_ne hx hb (hd 3 rfl) ht (fun q => KJ (h.2 q) hP hS hl) (fun q => KJ (h.1 q) hP hS hl)
      · exact h.elim
      · exact lv_icmp_lt hx hb (hd 3 rfl) ht (fun q => KJ (h.1 q) hP hS hl) (fun q => KJ (h.2 q) hP hS hl)
      · exact h.elim
      · exact lv_icmp_ge hx hb (hd 3 rfl) ht (fun q => KJ (h.1 q) hP hS hl) (fun q => KJ (h.2 q) hP hS hl)
      · exact h.elim
      · exact lv_icmp_gt hx hb (hd 3 rfl) ht (fun q => KJ (h.1 q) hP hS hl) (fun q => KJ (h.2 q) hP hS hl)
      · exact h.elim
      · exact lv_icmp_le hx hb (hd 3 rfl) ht (fun q => KJ (h.1 q) hP hS hl) (fun q => KJ (h.2 q) hP hS hl)
      · exact h.elim
    | tableswitch df lo hi' offs =>
      simp only [am_okI, Bool.and_eq_true, decide_eq_true_eq] at hok
      obtain ⟨⟨⟨⟨⟨h1, h2⟩, h3⟩, h4⟩, h5⟩, h6⟩ := hok
      simp only [am_step] at h
      split at h
      · next x st' =>
        rcases am_sw_use ts v lo h h2 h5.1 (by omega) with ⟨j, t, g1, g2, g3⟩ | ⟨g1, g2⟩
        · have hlt : j < ts.length := (List.getElem?_eq_some_iff.mp g1).1
          have ho : (offs.toList.map (fun o => (pc : Int) + o))[j]? = some (t : Int) := by
            rw [h3, List.getElem?_map, g1]
            rfl
          rw [List.getElem?_map] at ho
          cases hoj : offs.toList[j]? with
          | none => rw [hoj] at ho; cases ho
          | some off =>
            rw [hoj] at ho
            have hto : (pc : Int) + off = (t : Int) := Option.some.inj ho
            refine lv_tableIn (off := off) (tgt := t) hx hb hd0 (by omega) (by omega) ?_ hto (KJ g3 hP hS hl)
            rw [show (x.toInt - lo).toNat = j by omega, ← Array.getElem?_toList]
            exact hoj
        · exact lv_tableOut hx hb hd0 (by rw [h4]; exact g1) h1 (KJ g2 hP hS hl)
      · exact h.elim
    | getfield idx =>
      simp only [am_okI, Bool.and_eq_true, decide_eq_true_eq] at hok
      obtain ⟨rfl, hok⟩ := hok
      unfold am_okf at hok
      split at hok
      · next q p0 hq =>
        simp only [Bool.and_eq_true, decide_eq_true_eq] at hok
        obtain ⟨hin, hcn, ty0, hty, hnm, hft⟩ := am_cls a q hq
        simp only [am_step, am_getf] at h
        split at h
        · next o st' =>
          split at h
          · next c' ho =>
            split at h
            · next hb' =>
              have := am_beq hb'
              subst this
              have hfa := am_fs_at (ad := ad) (I := I) (o := o) (ci := c') (k := b) (by rw [hcn]; exact hok.1)
              split at h
              · next hf =>
                split at h
                · next r hR =>
                  have hv : am_fv ad I o c' b = .ref (ad r) := by
                    unfold am_fv
                    rw [hf, hR]
                    rfl
                  rw [hv] at hfa
                  exact va_get (C := q.1) (T := q.2.1) (N := q.2.2) (ref := (q.2.1 b).1) hx hb hts hin hown hK hP o (am_cell_obj ho) hq b hok.1 (hts _ (am_at_in hok.2)) (fun _ h9 => h9) hfa (hd 3 rfl) (KJ h hP hS hl)
                · exact h.elim
              · next hf =>
                have hv : am_fv ad I o c' b = .int (I o b) := by
                  unfold am_fv
                  split
                  · next e9 => exact absurd e9 hf
                  · rfl
                rw [hv] at hfa
                exact va_get (C := q.1) (T := q.2.1) (N := q.2.2) (ref := (q.2.1 b).1) hx hb hts hin hown hK hP o (am_cell_obj ho) hq b hok.1 (hts _ (am_at_in hok.2)) (fun _ h9 => h9) hfa (hd 3 rfl) (KJ h hP hS hl)
            · exact h.elim
          · exact h.elim
        · exact h.elim
      · cases hok
    | putfield idx =>
      simp only [am_okI, Bool.and_eq_true, decide_eq_true_eq] at hok
      obtain ⟨⟨rfl, hok⟩, hput⟩ := hok
      unfold am_okf at hok
      split at hok
      · next q p0 hq =>
        simp only [Bool.and_eq_true, decide_eq_true_eq] at hok
        obtain ⟨hin, hcn, ty0, hty, hnm, hft⟩ := am_cls a q hq
        have hfin : (q.2.1 b).2.2.2 = false := by
          unfold am_okput at hput
          rw [hq] at hput
          simpa using hput
        simp only [am_step, am_putf] at h
        split at h
        · next v' o st' =>
          split at h
          · next c' ho =>
            split at h
            · next hb' =>
              have := am_beq hb'
              subst this
              have go : am_ft c' b ≠ 1 → narrow (ty0 b) (.int v') = .int v' → fits (ty0 b) (.int v') = true → J d mi (pc + 3) lv st' (am_put I o b v') Q → W p l e R s m args below meth c H locs cells slots Z (F0 m pc ls ((.int v' :: .ref o :: st').map (am_up ad))) := by
                intro hf hn hfit h'
                refine va_put (C := q.1) (T := q.2.1) (N := q.2.2) (ref := (q.2.1 b).1) hx hb hts hin ty0 hty hnm hown hK hP hD hS o (am_cell_obj ho) hq b hok.1 (hts _ (am_at_in hok.2)) (fun _ h9 => h9) hfin (hty b hok.1) hn hfit (by simp [am_fs]; rw [hcn]; exact hok.1) (hd 3 rfl) (fun H1 locs1 hP1 hD1 hS1 => ?_)
                have hP2 : va_P D vwCl ((am_ws cA ad I).set o (ad o, .inr (c', (am_fs ad I o c').set b (.int v')))) H1 := hP1
                rw [am_put_obj ho (by rw [hcn]; exact hok.1) hf] at hP2
                exact KJ h' hP2 hS1 hl
              split at h
              · next hf => exact go (by rw [hf]; decide) (by rw [(hft b hok.1).1 hf]; rfl) (by rw [(hft b hok.1).1 hf]; rfl) h
              · next hf => exact go (by rw [hf]; decide) (by rw [(hft b hok.1).2 hf]; rcases h.1 with rfl | rfl <;> rfl) (by rw [(hft b hok.1).2 hf]; rcases h.1 with rfl | rfl <;> rfl) h.2
              · exact h.elim
            · exact h.elim
          · exact h.elim
        · exact h.elim
      · cases hok
    | iaload =>
      simp only [am_okI, decide_eq_true_eq] at hok
      subst hok
      simp only [am_step, am_ald1] at h
      split at h
      · next i' o st' =>
        split at h
        · next w ho => exact va_iald hx hb hK hP o 0 (am_cell_arr ho) (am_tys_at rfl) h.1 (hd 1 rfl) (KJ h.2 hP hS hl)
        · exact h.elim
        · exact h.elim
        · split at h
          · next hb' =>
            have := am_beq hb'
            subst this
            have hbl : ad am_scr < s.heap.size := by
              obtain ⟨scr, h1, -⟩ := hX.1.1
              exact (Array.getElem?_eq_some_iff.mp h1).1
            exact va_sld hx hb hX.1.1 hbl hX.1.2 hS h.1 (hd 1 rfl) (KJ h.2 hP hS hl)
          · exact h.elim
        · exact h.elim
      · exact h.elim
    | baload =>
      simp only [am_okI, decide_eq_true_eq] at hok
      subst hok
      simp only [am_step, am_ald1] at h
      split at h
      · next i' o st' =>
        split at h
        · exact h.elim
        · next w ho => exact va_bald hx hb hK hP o 1 (am_cell_arr ho) (am_tys_at rfl) h.1 (hd 1 rfl) (KJ h.2 hP hS hl)
        · exact h.elim
        · exact h.elim
        · exact h.elim
      · exact h.elim
    | caload =>
      simp only [am_okI, decide_eq_true_eq] at hok
      subst hok
      simp only [am_step, am_ald1] at h
      split at h
      · next i' o st' =>
        split at h
        · exact h.elim
        · exact h.elim
        · next w ho => exact va_cald hx hb hK hP o 2 (am_cell_arr ho) (am_tys_at rfl) h.1 (hd 1 rfl) (KJ h.2 hP hS hl)
        · exact h.elim
        · exact h.elim
      · exact h.elim
    | iastore =>
      simp only [am_okI, decide_eq_true_eq] at hok
      subst hok
      simp only [am_step, am_ast1] at h
      split at h
      · next v' i' o st' =>
        split at h
        · next w ho =>
          refine va_iast hx hb hK hP hD hS o 0 (am_cell_arr ho) (am_tys_at rfl) h.1 (hd 1 rfl) (fun H1 locs1 hP1 hD1 hS1 => ?_)
          have hP2 : va_P D vwCl ((am_ws cA ad I).set o (ad o, .inl (cA .int, w, .inl (upd (I o) i'.toNatClampNeg v')))) H1 := hP1
          rw [am_put_arr ho rfl] at hP2
          exact KJ h.2 hP2 hS1 hl
        · exact h.elim
        · exact h.elim
      · exact h.elim
    | bastore =>
      simp only [am_okI, decide_eq_true_eq] at hok
      subst hok
      simp only [am_step, am_ast1] at h
      split at h
      · next v' i' o st' =>
        split at h
        · exact h.elim
        · next w ho =>
          refine va_bast hx hb hK hP hD hS o 1 (am_cell_arr ho) (am_tys_at rfl) h.1 (hd 1 rfl) (fun H1 locs1 hP1 hD1 hS1 => ?_)
          have hP2 : va_P D vwCl ((am_ws cA ad I).set o (ad o, .inl (cA .byte, w, .inl (upd (I o) i'.toNatClampNeg (vp_nar .byte v'))))) H1 := hP1
          rw [vp_nar_byte, am_put_arr ho rfl] at hP2
          exact KJ h.2 hP2 hS1 hl
        · exact h.elim
      · exact h.elim
    | aaload =>
      simp only [am_okI, decide_eq_true_eq] at hok
      subst hok
      simp only [am_step, am_aald] at h
      split at h
      · next i' o st' =>
        split at h
        · next C w ho =>
          obtain ⟨t0, ht0⟩ := am_G_ty ho
          obtain ⟨h1, h2⟩ := h
          split at h2
          · next r hR =>
            refine va_aldq (C := C) hx hb hK hP o t0 (am_cell_arr ho) (am_tys_at ht0) h1 (hd 1 rfl) ?_
            rw [hR]
            exact KJ h2 hP hS hl
          · exact h2.elim
        · next C w ho =>
          obtain ⟨t0, ht0⟩ := am_G_ty ho
          obtain ⟨h1, h2⟩ := h
          split at h2
          · next r hR =>
            have hlt : i'.toNatClampNeg < w := Nat.not_le.mp fun q => h1 (Or.inr q)
            refine W.aald (v := va_rf ((am_R o i'.toNatClampNeg).map ad)) (ty := .array C) hx hb (hP o _ (am_cell_arr ho)) ((hK.2 t0 _ (am_tys_at ht0)).1 w (fun j => va_rf ((am_R o j).map ad))) rfl (fun q => by cases q) (by show ¬ (i' < 0 ∨ (arrV _ _ _).slots.size ≤ _); rw [arrV_size]; exact h1) (by show (arrV _ _ _).slots[_]? = _; rw [arrV_read _ _ hlt]) rfl rfl (hd 1 rfl) ?_
            rw [hR]
            exact KJ h2 hP hS hl
          · exact h2.elim
        · exact h.elim
      · exact h.elim
    | arraylength =>
      simp only [am_okI, decide_eq_true_eq] at hok
      subst hok
      simp only [am_step, am_alen] at h
      split at h
      · next o st' =>
        split at h
        · next ty w ho =>
          obtain ⟨t0, ht0⟩ := am_G_ty ho
          exact va_alen hx hb hK hP o t0 (am_cell_arr ho) (am_tys_at ht0) rfl (hd 1 rfl) (KJ h hP hS hl)
        · split at h
          · next hb' =>
            have := am_beq hb'
            subst this
            have hbl : ad am_scr < s.heap.size := by
              obtain ⟨scr, h1, -⟩ := hX.1.1
              exact (Array.getElem?_eq_some_iff.mp h1).1
            exact va_slen hx hb hX.1.1 hbl hX.1.2 hS (hd 1 rfl) (KJ h hP hS hl)
          · exact h.elim
        · exact h.elim
      · exact h.elim
    | ireturn =>
      simp only [am_okI, Bool.and_eq_true, Bool.or_eq_true, decide_eq_true_eq] at hok
      obtain ⟨rfl, hok⟩ := hok
      simp only [am_step, am_ret] at h
      split at h
      · next v' =>
        rcases hok with ⟨rfl, hret⟩ | ⟨hne, hret⟩
        · exact hr (some (.int v')) I H locs ls pc h hP hS ⟨hd 1 rfl, Or.inl hret⟩
        · cases a with
          | zero => exact absurd rfl hne
          | succ a => exact hr (some (.int v')) I H locs ls pc h.2 hP hS ⟨hd 1 rfl, Or.inr ⟨hret, h.1⟩⟩
      · exact h.elim
    | areturn =>
      simp only [am_okI, Bool.and_eq_true, decide_eq_true_eq] at hok
      obtain ⟨rfl, hok⟩ := hok
      simp only [am_step, am_aret] at h
      split at h
      · next v' =>
        refine hr (some (.ref v')) I H locs ls pc h hP hS ⟨hd 1 rfl, ?_⟩
        unfold am_isRo at hok
        split at hok
        · next n' e9 => exact Or.inl ⟨_, e9⟩
        · next n' e9 => exact Or.inr ⟨_, e9⟩
        · cases hok
      · exact h.elim
    | return_ =>
      simp only [am_okI, Bool.and_eq_true, decide_eq_true_eq] at hok
      obtain ⟨rfl, hok⟩ := hok
      simp only [am_step, am_vret] at h
      split at h
      · exact hr none I H locs ls pc h hP hS ⟨hd 1 rfl, hok⟩
      · exact h.elim
    | invokestatic k =>
      simp only [am_okI, Bool.and_eq_true, decide_eq_true_eq] at hok
      obtain ⟨rfl, hok⟩ := hok
      exact inv _ (hd 3 rfl) hok h
    | invokevirtual k =>
      simp only [am_okI, Bool.and_eq_true, decide_eq_true_eq] at hok
      obtain ⟨rfl, hok⟩ := hok
      exact inv _ (hd 3 rfl) hok h
    | invokespecial k =>
      simp only [am_okI, Bool.and_eq_true, decide_eq_true_eq] at hok
      obtain ⟨rfl, hok⟩ := hok
      exact inv _ (hd 3 rfl) hok h
    | _ => exact h.elim
end
section
set_option maxRecDepth 100000 in
theorem ok_0 : am_okM 0 mm_0 := ⟨⟨[[], [[], [], [], [], [954]]], by decide +kernel⟩, by decide +kernel, by decide +kernel⟩
set_option maxRecDepth 100000 in
theorem ok_1 : am_okM 1 mm_1 := ⟨⟨[[[], [], [], [], [1014], [], [], [], [], [], [], [1015]], [[], [], [1015], [], [], [], [], [], [], [], [], [], [], [1016]]], by decide +kernel⟩, by decide +kernel, by decide +kernel⟩
set_option maxRecDepth 100000 in
theorem ok_2 : am_okM 2 mm_2 := ⟨⟨[], by decide +kernel⟩, by decide +kernel, by decide +kernel⟩
set_option maxRecDepth 100000 in
theorem ok_3 : am_okM 3 mm_3 := ⟨⟨[[[], [], [], [503, 1860, 153, 504, 99, 0]]], by decide +kernel⟩, by decide +kernel, by decide +kernel⟩
set_option maxRecDepth 100000 in
theorem ok_4 : am_okM 4 mm_4 := ⟨⟨[[[], [], [533, 1862, 153, 534, 99, 0]]], by decide +kernel⟩, by decide +kernel, by decide +kernel⟩
set_option maxRecDepth 100000 in
theorem ok_5 : am_okM 5 mm_5 := ⟨⟨[[[], [], [], [1141, 1142, 1143, 108], [], [], [], [], [], [1145, 1146, 153, 1135, 97, 146]]], by decide +kernel⟩, by decide +kernel, by decide +kernel⟩
set_option maxRecDepth 100000 in
theorem ok_6 : am_okM 6 mm_6 := ⟨⟨[[[], [], [], [1141, 1142, 1143, 108], [], [], [], [], [], [1206, 1207, 153, 1200, 97, 146], [], [], [], [], [], [1209, 1210, 1163, 28, 1212, 1163, 99, 0, 0, 0, 0, 0, 0, 0, 0, 0, 0, 0, 0, 0, 0, 0, 0, 0, 0, 0, 0, 0, 0, 0, 0, 0, 0, 0, 0, 0, 0, 0, 0, 0, 0, 0, 0]]], by decide +kernel⟩, by decide +kernel, by decide +kernel⟩
set_option maxRecDepth 100000 in
theorem ok_7 : am_okM 7 mm_7 := ⟨⟨[[[], [], [180], [], [], [180], [], [], [], [], [183], [], [], [183]], [[], [], [186], [], [], [186], [], [], [], [], [189], [], [], [189]], [[], [], [193], [], [], [193], [], [], [], [], [194], [], [], [194]]], by decide +kernel⟩, by decide +kernel, by decide +kernel⟩
set_option maxRecDepth 100000 in
theorem ok_8 : am_okM 8 mm_8 := ⟨⟨[[[], [], [180], [], [], [], [], [183], [], [], [], [], [], [186]], [[], [], [189], [], [], [], [], [193], [], [], [], [], [194]]], by decide +kernel⟩, by decide +kernel, by decide +kernel⟩
set_option maxRecDepth 100000 in
theorem ok_9 : am_okM 9 mm_9 := ⟨⟨[[[], [193]]], by decide +kernel⟩, by decide +kernel, by decide +kernel⟩
set_option maxRecDepth 100000 in
theorem ok_10 : am_okM 10 mm_10 := ⟨⟨[[[], [], [193]], [[], [], [], [], [193]]], by decide +kernel⟩, by decide +kernel, by decide +kernel⟩
set_option maxRecDepth 100000 in
theorem ok_11 : am_okM 11 mm_11 := ⟨⟨[[[], [194]]], by decide +kernel⟩, by decide +kernel, by decide +kernel⟩
set_option maxRecDepth 100000 in
theorem ok_12 : am_okM 12 mm_12 := ⟨⟨[[[], [], [194], [], [], [], [], [], [], [], [], [], [], [], [], [194]]], by decide +kernel⟩, by decide +kernel, by decide +kernel⟩
set_option maxRecDepth 100000 in
theorem ok_13 : am_okM 13 mm_13 := ⟨⟨[[[], [], [], [], [], [], [], [], [], [], [], [], [637, 481, 482, 104]]], by decide +kernel⟩, by decide +kernel, by decide +kernel⟩
set_option maxRecDepth 100000 in
theorem ok_14 : am_okM 14 mm_14 := ⟨⟨[[[], [], [405], [], [], [], [], [400]]], by decide +kernel⟩, by decide +kernel, by decide +kernel⟩
set_option maxRecDepth 100000 in
theorem ok_15 : am_okM 15 mm_15 := ⟨⟨[[[], [], [394], [], [], [], [], [396]]], by decide +kernel⟩, by decide +kernel, by decide +kernel⟩
set_option maxRecDepth 100000 in
theorem ok_16 : am_okM 16 mm_16 := ⟨⟨[[[], [400], [], [], [], [], [], [], [405], [], [], [], [403]], [[], [], [], [], [403], [], [], [], [405], [], [], [], [], [], [], [405]], [[], [], [], [], [405]]], by decide +kernel⟩, by decide +kernel, by decide +kernel⟩
set_option maxRecDepth 100000 in
theorem ok_17 : am_okM 17 mm_17 := ⟨⟨[[[], [], [], [510, 499, 160, 497, 97, 0]]], by decide +kernel⟩, by decide +kernel, by decide +kernel⟩
set_option maxRecDepth 100000 in
theorem ok_18 : am_okM 18 mm_18 := ⟨⟨[[[], [], [], [540, 529, 160, 527, 97, 0]]], by decide +kernel⟩, by decide +kernel, by decide +kernel⟩
set_option maxRecDepth 100000 in
theorem ok_19 : am_okM 19 mm_19 := ⟨⟨[[[], [], [], [1187, 1142, 1143, 108], [], [], [], [], [], [1188, 1182, 160, 1180, 97, 0]]], by decide +kernel⟩, by decide +kernel, by decide +kernel⟩
set_option maxRecDepth 100000 in
theorem ok_20 : am_okM 20 mm_20 := ⟨⟨[], by decide +kernel⟩, by decide +kernel, by decide +kernel⟩
set_option maxRecDepth 100000 in
theorem ok_21 : am_okM 21 mm_21 := ⟨⟨[], by decide +kernel⟩, by decide +kernel, by decide +kernel⟩
set_option maxRecDepth 100000 in
theorem ok_22 : am_okM 22 mm_22 := ⟨⟨[[[], [], [], [1157, 1142, 1143, 108], [], [], [], [], [395]]], by decide +kernel⟩, by decide +kernel, by decide +kernel⟩
set_option maxRecDepth 100000 in
theorem ok_23 : am_okM 23 mm_23 := ⟨⟨[[[], [], [], [1157, 1142, 1143, 108], [], [], [], [], [], [1178, 1137, 1135, 22, 1138, 1139, 100, 0, 0, 0, 0, 0, 0, 1148, 1135, 97, 1136, 1135, 97, 1149, 1135, 97, 0, 0, 0, 0, 0, 0, 0, 0, 0, 1150, 1151, 98, 1155, 1135, 97, 0, 0, 0, 0, 0, 0]]], by decide +kernel⟩, by decide +kernel, by decide +kernel⟩
set_option maxRecDepth 100000 in
theorem ok_24 : am_okM 24 mm_24 := ⟨⟨[[[], [], [], [1157, 1142, 1143, 108], [], [], [], [399], [], [], [], [], [], [395]], [[], [], [], [], [], [], [], [], [401]]], by decide +kernel⟩, by decide +kernel, by decide +kernel⟩
set_option maxRecDepth 100000 in
theorem ok_25 : am_okM 25 mm_25 := ⟨⟨[[[], [], [], [1157, 1142, 1143, 108], [], [], [], [], [], [1218, 1161, 1159, 23, 1162, 1163, 99, 0, 0, 0, 0, 0, 0, 1167, 1159, 97, 1160, 1159, 97, 1168, 1163, 99, 0, 0, 0, 0, 0, 0, 0, 0, 0, 1169, 1159, 97, 1170, 1171, 102, 0, 0, 0, 0, 0, 0], [], [], [], [], [], [1219, 1182, 1180, 24, 1183, 1180, 97, 0, 0, 0, 0, 0, 0, 1184, 1185, 101, 1181, 1180, 97, 1189, 1180, 97, 0, 0, 0, 0, 0, 0, 0, 0, 0, 1190, 1180, 97, 1191, 1192, 102, 0, 0, 0, 0, 0, 0]]], by decide +kernel⟩, by decide +kernel, by decide +kernel⟩
set_option maxRecDepth 100000 in
theorem ok_26 : am_okM 26 mm_26 := ⟨⟨[[[], [], [], [506, 499, 146, 497, 97, 0]]], by decide +kernel⟩, by decide +kernel, by decide +kernel⟩
set_option maxRecDepth 100000 in
theorem ok_27 : am_okM 27 mm_27 := ⟨⟨[[[], [], [536, 529, 146, 527, 97, 0]]], by decide +kernel⟩, by decide +kernel, by decide +kernel⟩
set_option maxRecDepth 100000 in
theorem ok_28 : am_okM 28 mm_28 := ⟨⟨[[[], [], [], [1165, 1142, 1143, 108], [], [], [], [], [], [1166, 1161, 146, 1159, 97, 0], [], [], [], [397]]], by decide +kernel⟩, by decide +kernel, by decide +kernel⟩
set_option maxRecDepth 100000 in
theorem ok_29 : am_okM 29 mm_29 := ⟨⟨[[[], [343], [], [], [], [], [], [342], [], [], [216], [], [], [915, 835, 836, 104]], [[], [], [], [916, 563, 110, 564], [], [], [], [342], [], [], [], [342], [], [], [216]], [[], [917, 839, 840, 103], [], [], [916, 563, 110, 564], [], [], [346]]], by decide +kernel⟩, by decide +kernel, by decide +kernel⟩
set_option maxRecDepth 100000 in
theorem ok_30 : am_okM 30 mm_30 := ⟨⟨[[[], [], [911, 913, 21, 107], [], [], [], [], [345], [], [], [], [], [348]], [[], [350], [], [], [], [], [354], [], [], [], [], [356]], [[], [918, 920, 22, 107]]], by decide +kernel⟩, by decide +kernel, by decide +kernel⟩
set_option maxRecDepth 100000 in
theorem ok_31 : am_okM 31 mm_31 := ⟨⟨[[[], [], [346], [], [], [], [], [], [], [], [343]], [[922, 924, 23, 107], [], [], [], [], [343]], [[], [], [], [342], [], [], [220], [], [], [], [], [], [], [344]], [[], [], [], [], [], [], [343], [], [], [], [], [915, 835, 836, 104], [], [], [], [342]], [[], [], [], [], [], [927, 807, 808, 103]], [[], [], [], [], [], [], [], [], [], [918, 920, 22, 107]]], by decide +kernel⟩, by decide +kernel, by decide +kernel⟩
set_option maxRecDepth 100000 in
theorem ok_32 : am_okM 32 mm_32 := ⟨⟨[[[], [190], [], [], [], [343], [], [], [], [], [190]], [[], [348], [], [], [], [], [], [], [], [348], [], [], [], [], [350]], [[], [], [344], [], [], [], [], [352], [], [], [], [], [346], [], [], [926, 790, 789, 115]], [[], [], [], [], [348], [], [], [], [], [], [], [], [350]], [[], [350], [], [], [], [], [356], [], [], [], [195], [], [], [], [356]], [[], [], [195], [], [], [], [345], [], [], [], [], [345]], [[], [], [], [], [], [], [], [], [], [], [], [], [], [], [354]], [[], [], [], [], [], [], [354], [], [], [], [], [], [], [], [354]]], by decide +kernel⟩, by decide +kernel, by decide +kernel⟩
set_option maxRecDepth 100000 in
theorem ok_33 : am_okM 33 mm_33 := ⟨⟨[[[], [], [911, 913, 21, 107], [], [], [], [], [358], [], [], [], [], [963, 965, 25, 107]]], by decide +kernel⟩, by decide +kernel, by decide +kernel⟩
set_option maxRecDepth 100000 in
theorem ok_34 : am_okM 34 mm_34 := ⟨⟨[[[], [], [346]], [[], [], [], [], [], [], [], [343]], [[], [], [], [], [], [], [], [], [342], [], [], [220]], [[], [], [], [343], [], [], [], [], [915, 835, 836, 104], [], [], [], [342]], [[], [], [927, 807, 808, 103], [], [], [], [], [], [], [963, 965, 25, 107]], [], [], [[], [], [], [], [358]]], by decide +kernel⟩, by decide +kernel, by decide +kernel⟩
set_option maxRecDepth 100000 in
theorem ok_35 : am_okM 35 mm_35 := ⟨⟨[[[], [215], [], [], [], [215], [], [], [1236, 835, 836, 104], [], [], [], [], [218]], [[218], [], [], [], [221], [], [], [], [221], [], [], [785, 786, 103], [], [], [], [223]], [[], [], [], [223], [], [], [785, 786, 103], [], [], [], [225], [], [], [], [225]], [[], [785, 786, 103], [], [], [], [227], [], [], [], [227], [], [], [785, 786, 103]], [[229], [], [], [], [229], [], [], [785, 786, 103], [], [], [], [231], [], [], [], [231]], [[], [], [785, 786, 103], [], [], [], [233], [], [], [], [233], [], [], [785, 786, 103]], [[], [], [235], [], [], [235], [], [], [], [], [237], [], [], [237]], [[], [], [241], [], [], [], [239], [], [], [1237, 782, 783, 103], [], [], [], [], [243]], [[], [243], [], [], [], [245], [], [], [], [245], [], [], [785, 786, 103]], [[247], [], [], [], [247], [], [], [785, 786, 103], [], [], [], [249], [], [], [], [249]], [[], [], [785, 786, 103], [], [], [], [251], [], [], [], [251], [], [], [785, 786, 103]]], by decide +kernel⟩, by decide +kernel, by decide +kernel⟩
set_option maxRecDepth 100000 in
theorem ok_36 : am_okM 36 mm_36 := ⟨⟨[[[], [], [], [], [], [], [], [], [562, 563, 110, 564], [], [], [788, 790, 789, 115]]], by decide +kernel⟩, by decide +kernel, by decide +kernel⟩
set_option maxRecDepth 100000 in
theorem ok_37 : am_okM 37 mm_37 := ⟨⟨[[[], [], [241], [], [], [785, 786, 103], [], [], [], [], [239]]], by decide +kernel⟩, by decide +kernel, by decide +kernel⟩
set_option maxRecDepth 100000 in
theorem ok_38 : am_okM 38 mm_38 := ⟨⟨[[[], [], [], [218], [], [], [], [], [479, 469, 96]]], by decide +kernel⟩, by decide +kernel, by decide +kernel⟩
set_option maxRecDepth 100000 in
theorem ok_39 : am_okM 39 mm_39 := ⟨⟨[[[], [], [], [218], [], [], [479, 469, 96]]], by decide +kernel⟩, by decide +kernel, by decide +kernel⟩
set_option maxRecDepth 100000 in
theorem ok_40 : am_okM 40 mm_40 := ⟨⟨[[[], [181], [], [], [], [235]]], by decide +kernel⟩, by decide +kernel, by decide +kernel⟩
set_option maxRecDepth 100000 in
theorem ok_41 : am_okM 41 mm_41 := ⟨⟨[[[], [], [235], [], [], [], [181], [], [], [], [522, 523, 110, 524]]], by decide +kernel⟩, by decide +kernel, by decide +kernel⟩
set_option maxRecDepth 100000 in
theorem ok_42 : am_okM 42 mm_42 := ⟨⟨[[[], [214], [], [], [], [221]]], by decide +kernel⟩, by decide +kernel, by decide +kernel⟩
set_option maxRecDepth 100000 in
theorem ok_43 : am_okM 43 mm_43 := ⟨⟨[[[], [], [233], [], [], [], [227]]], by decide +kernel⟩, by decide +kernel, by decide +kernel⟩
set_option maxRecDepth 100000 in
theorem ok_44 : am_okM 44 mm_44 := ⟨⟨[[[], [], [492, 493, 494, 103], [], [], [], [225], [], [], [], [], [], [181], [], [], [496, 499, 497, 20, 500, 501, 100, 0, 0, 0, 0, 0, 0, 507, 508, 101, 498, 497, 97, 511, 504, 99, 0, 0, 0, 0, 0, 0, 0, 0, 0, 512, 513, 98, 516, 517, 102, 0, 0, 0, 0, 0, 0]], [[], [], [], [231], [], [], [], [227]], [[], [], [], [], [521, 481, 482, 104], [], [], [], [], [522, 523, 110, 524]]], by decide +kernel⟩, by decide +kernel, by decide +kernel⟩
set_option maxRecDepth 100000 in
theorem ok_45 : am_okM 45 mm_45 := ⟨⟨[], by decide +kernel⟩, by decide +kernel, by decide +kernel⟩
end
section
set_option maxRecDepth 100000 in
theorem ok_46 : am_okM 46 mm_46 := ⟨⟨[[[], [], [], [], [479, 469, 96], [], [], [], [], [], [], [], [], [229]], [[], [], [], [], [], [], [229]], [], [[], [], [], [], [], [], [], [], [], [], [], [], [], [562, 563, 110, 564]], [[], [], [], [], [], [522, 523, 110, 524]], [[], [], [562, 563, 110, 564], [], [], [], [], [], [], [], [], [], [522, 523, 110, 524]]], by decide +kernel⟩, by decide +kernel, by decide +kernel⟩
set_option maxRecDepth 100000 in
theorem ok_47 : am_okM 47 mm_47 := ⟨⟨[[[], [], [], [181], [], [], [], [185], [], [], [799, 800, 801, 103], [], [], [185]], [[], [], [], [], [], [], [], [], [], [], [810, 476, 477, 103]], [[], [], [185], [], [], [], [], [804, 574, 575, 103]], [[], [805, 489, 490, 103], [], [], [], [], [], [], [], [], [], [], [811, 552, 553, 103]], [[], [], [], [], [], [], [], [], [], [], [], [], [812, 814, 15, 103]], [], [[], [], [], [], [], [], [521, 481, 482, 104], [], [], [], [], [562, 563, 110, 564], [], [], [818, 586, 587, 104]], [[], [], [], [188], [], [], [], [185], [], [], [819, 820, 103], [], [], [188]], [[], [], [181], [], [], [], [], [181], [], [], [], [], [192]], [[], [192]]], by decide +kernel⟩, by decide +kernel, by decide +kernel⟩
set_option maxRecDepth 100000 in
theorem ok_48 : am_okM 48 mm_48 := ⟨⟨[[[], [], [], [], [], [], [], [], [188], [], [], [], [], [562, 563, 110, 564]], [[188], [], [], [], [188], [], [], [], [223]], [[], [], [803, 485, 486, 104], [], [], [], [], [], [], [], [], [], [], [], [816, 590, 591, 104]], [[], [], [], [], [188], [], [], [], [], [492, 493, 494, 103], [], [], [], [817, 529, 527, 21, 530, 531, 100, 0, 0, 0, 0, 0, 0, 537, 538, 101, 528, 527, 97, 541, 534, 99, 0, 0, 0, 0, 0, 0, 0, 0, 0, 542, 543, 98, 546, 547, 102, 0, 0, 0, 0, 0, 0]], [[], [522, 523, 110, 524], [], [], [188]]], by decide +kernel⟩, by decide +kernel, by decide +kernel⟩
set_option maxRecDepth 100000 in
theorem ok_49 : am_okM 49 mm_49 := ⟨⟨[[[], [], [], [], [], [], [], [], [522, 523, 110, 524]]], by decide +kernel⟩, by decide +kernel, by decide +kernel⟩
set_option maxRecDepth 100000 in
theorem ok_50 : am_okM 50 mm_50 := ⟨⟨[[[], [], [181], [], [], [], [185], [], [], [799, 800, 801, 103]], [[], [218], [], [], [], [], [], [], [], [803, 485, 486, 104]], [[], [], [804, 574, 575, 103]], [[], [], [], [], [], [188], [], [], [], [], [], [805, 489, 490, 103]], [[223]]], by decide +kernel⟩, by decide +kernel, by decide +kernel⟩
set_option maxRecDepth 100000 in
theorem ok_51 : am_okM 51 mm_51 := ⟨⟨[[[], [242], [], [], [], [], [181], [], [], [], [], [242]], [[225], [], [], [], [], [], [], [242], [], [], [], [], [], [], [242]], [[], [], [], [185], [], [], [], [], [242]], [[], [], [], [], [], [], [], [239]], [[], [], [241], [], [], [], [], [], [], [], [241]], [[], [], [], [], [], [221], [], [], [], [], [], [241]], [[], [555, 556, 103], [], [], [], [], [], [], [], [], [], [], [], [], [558, 560, 0, 103]], [[], [], [], [], [], [241]]], by decide +kernel⟩, by decide +kernel, by decide +kernel⟩
set_option maxRecDepth 100000 in
theorem ok_52 : am_okM 52 mm_52 := ⟨⟨[[[], [], [], [], [], [], [241], [], [], [], [562, 563, 110, 564]], [[], [], [], [], [], [], [], [], [], [], [241]], [], [], [], [], [], [[241], [], [], [], [], [], [], [241], [], [], [], [], [], [], [], [565, 567, 1, 103]]], by decide +kernel⟩, by decide +kernel, by decide +kernel⟩
set_option maxRecDepth 100000 in
theorem ok_53 : am_okM 53 mm_53 := ⟨⟨[[[], [], [569, 571, 2, 103], [], [], [], [], [], [], [569, 571, 2, 103]]], by decide +kernel⟩, by decide +kernel, by decide +kernel⟩
set_option maxRecDepth 100000 in
theorem ok_54 : am_okM 54 mm_54 := ⟨⟨[[[], [], [], [], [], [], [], [], [], [], [], [], [242]], [[], [], [], [], [242]]], by decide +kernel⟩, by decide +kernel, by decide +kernel⟩
set_option maxRecDepth 100000 in
theorem ok_55 : am_okM 55 mm_55 := ⟨⟨[[[], [215], [], [], [197], [], [], [], [], [], [], [218]]], by decide +kernel⟩, by decide +kernel, by decide +kernel⟩
set_option maxRecDepth 100000 in
theorem ok_56 : am_okM 56 mm_56 := ⟨⟨[[[], [215], [], [], [], [803, 485, 486, 104]], [[], [], [], [], [], [218]], [[], [218], [], [], [], [], [], [], [], [], [], [879, 881, 20, 103]]], by decide +kernel⟩, by decide +kernel, by decide +kernel⟩
set_option maxRecDepth 100000 in
theorem ok_57 : am_okM 57 mm_57 := ⟨⟨[[[], [215], [], [], [], [803, 485, 486, 104]], [[], [218]], [[], [], [], [], [], [], [], [], [], [], [], [], [227]], [[], [], [227], [], [], [], [], [], [], [], [], [223]], [[], [223], [], [], [], [], [], [883, 884, 110, 885]]], by decide +kernel⟩, by decide +kernel, by decide +kernel⟩
set_option maxRecDepth 100000 in
theorem ok_58 : am_okM 58 mm_58 := ⟨⟨[[[], [], [], [], [], [], [], [], [], [], [], [], [218]], [[], [], [], [], [], [], [], [], [], [], [], [], [], [223]], [[], [], [], [562, 563, 110, 564], [], [], [], [], [], [], [223]], [[522, 523, 110, 524]], [[], [], [], [], [], [], [], [], [883, 884, 110, 885], [], [], [], [], [], [], [883, 884, 110, 885]], [[], [], [562, 563, 110, 564]]], by decide +kernel⟩, by decide +kernel, by decide +kernel⟩
set_option maxRecDepth 100000 in
theorem ok_59 : am_okM 59 mm_59 := ⟨⟨[[[], [], [223], [], [], [], [], [], [883, 884, 110, 885], [], [], [], [], [223]], [[], [], [], [], [], [], [], [], [], [902, 895, 896, 103]]], by decide +kernel⟩, by decide +kernel, by decide +kernel⟩
set_option maxRecDepth 100000 in
theorem ok_60 : am_okM 60 mm_60 := ⟨⟨[], by decide +kernel⟩, by decide +kernel, by decide +kernel⟩
set_option maxRecDepth 100000 in
theorem ok_61 : am_okM 61 mm_61 := ⟨⟨[], by decide +kernel⟩, by decide +kernel, by decide +kernel⟩
set_option maxRecDepth 100000 in
theorem ok_62 : am_okM 62 mm_62 := ⟨⟨[], by decide +kernel⟩, by decide +kernel, by decide +kernel⟩
set_option maxRecDepth 100000 in
theorem ok_63 : am_okM 63 mm_63 := ⟨⟨[[[], [], [], [], [987, 988, 103], [], [], [], [], [], [], [], [990, 992, 26, 103]], [[], [], [], [], [], [994, 996, 27, 103]], [[], [], [], [], [], [], [], [], [799, 800, 801, 103]], [[], [], [], [], [214], [], [], [], [998, 999, 103], [], [], [], [], [1001, 1002, 103]], [[], [], [496, 499, 497, 20, 500, 501, 100, 0, 0, 0, 0, 0, 0, 507, 508, 101, 498, 497, 97, 511, 504, 99, 0, 0, 0, 0, 0, 0, 0, 0, 0, 512, 513, 98, 516, 517, 102, 0, 0, 0, 0, 0, 0]], [[], [], [], [522, 523, 110, 524], [], [], [], [562, 563, 110, 564]], [[819, 820, 103], [], [], [], [], [], [], [], [], [], [], [], [], [994, 996, 27, 103]]], by decide +kernel⟩, by decide +kernel, by decide +kernel⟩
set_option maxRecDepth 100000 in
theorem ok_64 : am_okM 64 mm_64 := ⟨⟨[[[], [], [], [], [], [], [243], [], [], [], [], [], [], [], [245]], [[], [], [], [522, 523, 110, 524]]], by decide +kernel⟩, by decide +kernel, by decide +kernel⟩
set_option maxRecDepth 100000 in
theorem ok_65 : am_okM 65 mm_65 := ⟨⟨[[[], [], [], [], [], [], [], [], [], [243]], [[245], [], [], [], [], [], [], [], [], [], [], [247]], [[], [], [], [], [], [], [], [], [], [], [], [], [], [], [249]], [[], [], [], [], [], [251], [], [], [], [], [], [479, 469, 96]]], by decide +kernel⟩, by decide +kernel, by decide +kernel⟩
set_option maxRecDepth 100000 in
theorem ok_66 : am_okM 66 mm_66 := ⟨⟨[[[], [302], [], [], [], [301], [], [], [], [], [], [], [], [301]], [[], [302], [], [], [], [], [], [], [302], [], [], [], [], [302]]], by decide +kernel⟩, by decide +kernel, by decide +kernel⟩
set_option maxRecDepth 100000 in
theorem ok_67 : am_okM 67 mm_67 := ⟨⟨[[[], [654, 656, 3, 106], [], [], [], [302], [], [], [], [], [], [302]], [[307], [], [], [], [], [310], [], [], [], [], [311]], [[], [], [], [], [311], [], [], [], [], [], [], [], [], [750, 752, 8, 106]], [[], [], [], [], [], [], [754, 756, 9, 106]], [[311], [], [], [], [], [311], [], [], [], [], [], [], [750, 752, 8, 106]], [[], [], [], [], [], [], [], [], [], [], [], [307], [], [], [], [306]], [[], [], [], [], [], [], [305], [], [], [], [307]]], by decide +kernel⟩, by decide +kernel, by decide +kernel⟩
end
section
set_option maxRecDepth 100000 in
theorem ok_68 : am_okM 68 mm_68 := ⟨⟨[[[], [], [306], [], [], [], [], [], [], [302]], [[], [], [], [], [], [301]], [[658, 659, 106], [], [], [], [], [], [], [], [302], [], [], [], [], [], [], [301]], [[], [], [], [], [658, 659, 106]], [[], [], [], [], [662, 664, 4, 106], [], [], [], [739, 741, 6, 106], [], [], [], [], [], [], [743, 744, 106]], [[], [], [], [], [], [], [], [302], [], [], [], [], [], [], [301]], [[], [], [], [743, 744, 106]], [[], [], [], [746, 748, 7, 106], [], [], [], [739, 741, 6, 106]], [[], [], [], [], [], [], [], [], [], [], [739, 741, 6, 106]]], by decide +kernel⟩, by decide +kernel, by decide +kernel⟩
set_option maxRecDepth 100000 in
theorem ok_69 : am_okM 69 mm_69 := ⟨⟨[[[], [], [], [], [], [661, 469, 96]]], by decide +kernel⟩, by decide +kernel, by decide +kernel⟩
set_option maxRecDepth 100000 in
theorem ok_70 : am_okM 70 mm_70 := ⟨⟨[[[], [], [], [], [], [661, 469, 96]]], by decide +kernel⟩, by decide +kernel, by decide +kernel⟩
set_option maxRecDepth 100000 in
theorem ok_71 : am_okM 71 mm_71 := ⟨⟨[[[], [306], [], [], [], [304], [], [], [], [], [], [], [], [304]], [[], [306], [], [], [], [], [], [305], [], [], [], [306]], [[], [], [306], [], [], [], [], [306]]], by decide +kernel⟩, by decide +kernel, by decide +kernel⟩
set_option maxRecDepth 100000 in
theorem ok_72 : am_okM 72 mm_72 := ⟨⟨[[], [[], [], [], [], [], [], [], [], [], [301]]], by decide +kernel⟩, by decide +kernel, by decide +kernel⟩
set_option maxRecDepth 100000 in
theorem ok_73 : am_okM 73 mm_73 := ⟨⟨[[[], [], [], [], [], [], [], [], [], [], [666, 667, 106], [], [], [], [], [687, 689, 5, 106]]], by decide +kernel⟩, by decide +kernel, by decide +kernel⟩
set_option maxRecDepth 100000 in
theorem ok_74 : am_okM 74 mm_74 := ⟨⟨[[[], [691]], [[], [], [691], [], [], [], [], [], [], [], [], [701], [], [], [], [301]]], by decide +kernel⟩, by decide +kernel, by decide +kernel⟩
set_option maxRecDepth 100000 in
theorem ok_75 : am_okM 75 mm_75 := ⟨⟨[[], [], [], [], [], [[], [], [], [], [669], [], [], [670], [], [], [671], [], [], [672]], [[673], [], [], [674], [], [], [675], [], [], [676], [], [], [677], [], [], [678]], [[], [], [679], [], [], [680], [], [], [681], [], [], [682], [], [], [683]], [[], [684], [], [], [685], [], [], [686]]], by decide +kernel⟩, by decide +kernel, by decide +kernel⟩
set_option maxRecDepth 100000 in
theorem ok_76 : am_okM 76 mm_76 := ⟨⟨[[[], [307], [], [], [], [306], [], [], [], [], [], [], [304]], [[307]]], by decide +kernel⟩, by decide +kernel, by decide +kernel⟩
set_option maxRecDepth 100000 in
theorem ok_77 : am_okM 77 mm_77 := ⟨⟨[[[], [750, 752, 8, 106], [], [], [], [], [], [], [], [], [], [], [661, 469, 96]], [[], [], [], [], [], [], [307], [], [], [], [], [307], [], [], [], [310]], [[], [], [], [], [], [758, 760, 10, 106], [], [], [], [], [758, 760, 10, 106], [], [], [], [], [758, 760, 10, 106]], [[], [], [], [750, 752, 8, 106], [], [], [], [], [], [], [], [], [], [], [307]], [[], [], [], [307], [], [], [], [], [762, 764, 11, 106]], [[], [750, 752, 8, 106], [], [], [], [], [], [], [], [], [], [], [661, 469, 96]], [[], [], [], [], [], [], [307], [], [], [], [], [307], [], [], [], [750, 752, 8, 106]], [[], [], [], [], [], [], [], [], [], [], [], [], [307]], [[], [307], [], [], [], [], [], [], [308]], [[308], [], [], [], [], [], [], [], [], [308]], [[310]]], by decide +kernel⟩, by decide +kernel, by decide +kernel⟩
set_option maxRecDepth 100000 in
theorem ok_78 : am_okM 78 mm_78 := ⟨⟨[[[], [], [766, 768, 12, 106], [], [], [], [], [], [], [], [], [307], [], [], [], [306]], [[], [], [], [], [], [], [750, 752, 8, 106]], [[], [307], [], [], [], [], [307], [], [], [], [], [766, 768, 12, 106]], [[], [], [], [], [], [], [], [758, 760, 10, 106]]], by decide +kernel⟩, by decide +kernel, by decide +kernel⟩
set_option maxRecDepth 100000 in
theorem ok_79 : am_okM 79 mm_79 := ⟨⟨[[[], [], [770, 772, 13, 106], [], [], [], [], [], [], [], [], [307], [], [], [], [306]], [[], [], [], [], [], [], [750, 752, 8, 106]], [[], [307], [], [], [], [], [307], [], [], [], [], [770, 772, 13, 106]], [[], [], [], [], [], [], [], [758, 760, 10, 106]]], by decide +kernel⟩, by decide +kernel, by decide +kernel⟩
set_option maxRecDepth 100000 in
theorem ok_80 : am_okM 80 mm_80 := ⟨⟨[[[], [], [], [307], [], [], [], [306], [], [], [], [], [], [], [750, 752, 8, 106]], [], [[], [], [], [307], [], [], [], [], [307], [], [], [], [], [], [], [750, 752, 8, 106]], [], [[], [307], [], [], [], [], [307], [], [], [], [], [], [], [762, 764, 11, 106]], [[], [], [], [], [750, 752, 8, 106]], [[], [307], [], [], [], [], [307], [], [], [], [], [], [], [774, 776, 14, 106]], [[], [], [], [], [], [], [], [], [], [], [], [], [], [758, 760, 10, 106]]], by decide +kernel⟩, by decide +kernel, by decide +kernel⟩
set_option maxRecDepth 100000 in
theorem ok_81 : am_okM 81 mm_81 := ⟨⟨[[[], [750, 752, 8, 106], [], [], [], [], [778, 779, 106]], [[307], [], [], [], [], [307], [], [], [], [750, 752, 8, 106]], [], [[], [], [], [], [], [], [307], [], [], [], [], [307], [], [], [], [750, 752, 8, 106]], [[], [], [], [], [778, 779, 106], [], [], [], [], [], [], [], [], [], [307]], [[], [], [], [307], [], [], [], [], [758, 760, 10, 106], [], [], [], [], [758, 760, 10, 106]], [[], [], [758, 760, 10, 106]]], by decide +kernel⟩, by decide +kernel, by decide +kernel⟩
set_option maxRecDepth 100000 in
theorem ok_82 : am_okM 82 mm_82 := ⟨⟨[], by decide +kernel⟩, by decide +kernel, by decide +kernel⟩
set_option maxRecDepth 100000 in
theorem ok_83 : am_okM 83 mm_83 := ⟨⟨[[[], [310], [], [], [], [308], [], [], [], [], [], [], [], [308]], [[], [310], [], [], [], [], [], [], [310], [], [], [], [], [310]]], by decide +kernel⟩, by decide +kernel, by decide +kernel⟩
set_option maxRecDepth 100000 in
theorem ok_84 : am_okM 84 mm_84 := ⟨⟨[[[], [], [], [], [515, 499, 139, 497, 97, 0]]], by decide +kernel⟩, by decide +kernel, by decide +kernel⟩
set_option maxRecDepth 100000 in
theorem ok_85 : am_okM 85 mm_85 := ⟨⟨[[[], [], [545, 529, 139, 527, 97, 0]]], by decide +kernel⟩, by decide +kernel, by decide +kernel⟩
set_option maxRecDepth 100000 in
theorem ok_86 : am_okM 86 mm_86 := ⟨⟨[[[], [], [], [1153, 1142, 1143, 108], [], [], [], [], [], [], [], [1154, 1137, 139, 1135, 97, 0]]], by decide +kernel⟩, by decide +kernel, by decide +kernel⟩
set_option maxRecDepth 100000 in
theorem ok_87 : am_okM 87 mm_87 := ⟨⟨[[[], [], [], [], [], [], [], [], [], [], [], [], [], [], [], [519, 1861, 167, 508, 101, 0]]], by decide +kernel⟩, by decide +kernel, by decide +kernel⟩
set_option maxRecDepth 100000 in
theorem ok_88 : am_okM 88 mm_88 := ⟨⟨[[[], [], [549, 1863, 167, 538, 101, 0]]], by decide +kernel⟩, by decide +kernel, by decide +kernel⟩
set_option maxRecDepth 100000 in
theorem ok_89 : am_okM 89 mm_89 := ⟨⟨[[[], [], [], [1173, 1142, 1143, 108], [], [], [], [], [], [], [1174, 1175, 167, 1159, 97, 160]]], by decide +kernel⟩, by decide +kernel, by decide +kernel⟩
set_option maxRecDepth 100000 in
theorem ok_90 : am_okM 90 mm_90 := ⟨⟨[[[], [], [], [1173, 1142, 1143, 108], [], [], [], [], [], [1194, 1864, 167, 1185, 101, 0], [], [], [], [], [398]], [[], [], [1195, 1196, 1135, 22, 0, 0, 0, 0, 0, 0, 0, 0, 0, 0, 0, 0, 0, 0, 0, 0, 0, 0, 0, 0, 0, 0, 0, 0, 0, 0, 0, 0, 0, 0, 1197, 1135, 97, 0, 0, 0, 0, 0, 0]]], by decide +kernel⟩, by decide +kernel, by decide +kernel⟩
set_option maxRecDepth 100000 in
theorem ok_91 : am_okM 91 mm_91 := ⟨⟨[[[], [], [], [468, 469, 96], [], [], [], [], [], [], [], [], [], [468, 469, 96]], [[], [], [], [], [], [], [], [], [], [468, 469, 96]], [[], [], [], [468, 469, 96], [], [], [], [], [], [], [], [], [418], [], [], [219]], [[], [], [], [], [], [], [], [], [], [], [], [], [], [], [], [418]], [[], [], [222], [], [], [], [], [], [], [], [418], [], [], [224]], [[], [], [], [], [], [418], [], [], [226]], [[418], [], [], [228], [], [], [], [], [], [], [], [], [418]], [[], [], [], [219]]], by decide +kernel⟩, by decide +kernel, by decide +kernel⟩
set_option maxRecDepth 100000 in
theorem ok_92 : am_okM 92 mm_92 := ⟨⟨[[[], [418], [], [], [], [475, 476, 477, 103], [], [], [], [], [], [], [], [], [418]], [[], [217]], [], [], [[], [], [], [], [], [], [], [], [], [], [], [], [], [418]], [[222], [], [], [], [], [], [], [418], [], [], [224]], [[], [418], [], [], [226], [], [], [], [], [], [], [418], [], [], [228]], [[], [], [], [], [], [], [480, 481, 482, 104], [], [], [], [], [], [484, 485, 486, 104]], [[], [], [], [], [], [], [], [], [], [418], [], [], [], [], [488, 489, 490, 103]], [[], [], [], [418], [], [], [], [525, 493, 494, 103], [], [], [], [526, 529, 527, 21, 530, 531, 100, 0, 0, 0, 0, 0, 0, 537, 538, 101, 528, 527, 97, 541, 534, 99, 0, 0, 0, 0, 0, 0, 0, 0, 0, 542, 543, 98, 546, 547, 102, 0, 0, 0, 0, 0, 0]], [[418], [], [], [], [], [], [418], [], [], [], [], [488, 489, 490, 103], [], [], [551, 552, 553, 103]], [[], [], [], [418], [], [], [], [184], [], [], [], [573, 574, 575, 103]]], by decide +kernel⟩, by decide +kernel, by decide +kernel⟩
set_option maxRecDepth 100000 in
theorem ok_93 : am_okM 93 mm_93 := ⟨⟨[[[], [418], [], [], [], [475, 476, 477, 103], [], [], [], [], [], [], [], [], [468, 469, 96]], [[], [], [], [], [], [], [], [581, 582, 96], [], [], [468, 469, 96]], [[], [], [], [], [], [584, 472, 473, 96]], [], [[], [], [], [], [], [], [], [], [], [418], [], [], [224]], [[], [], [], [], [], [], [418], [], [], [226]], [[], [], [], [418], [], [], [228]], [[418], [], [], [217], [], [], [], [], [585, 586, 587, 104], [], [], [], [], [], [], [418]], [[], [], [217], [], [], [], [], [589, 590, 591, 104]]], by decide +kernel⟩, by decide +kernel, by decide +kernel⟩
set_option maxRecDepth 100000 in
theorem ok_94 : am_okM 94 mm_94 := ⟨⟨[], by decide +kernel⟩, by decide +kernel, by decide +kernel⟩
set_option maxRecDepth 100000 in
theorem ok_95 : am_okM 95 mm_95 := ⟨⟨[[[], [418], [], [], [], [475, 476, 477, 103], [], [], [], [], [], [], [], [], [468, 469, 96]], [[], [], [], [], [], [], [], [418], [], [], [222]], [[], [418], [], [], [222]]], by decide +kernel⟩, by decide +kernel, by decide +kernel⟩
end
section
set_option maxRecDepth 100000 in
theorem ok_96 : am_okM 96 mm_96 := ⟨⟨[[[], [], [], [], [468, 469, 96], [], [], [], [], [], [], [], [], [], [468, 469, 96]], [[], [], [], [], [], [], [], [418], [], [], [230]], [[], [418], [], [], [230]]], by decide +kernel⟩, by decide +kernel, by decide +kernel⟩
set_option maxRecDepth 100000 in
theorem ok_97 : am_okM 97 mm_97 := ⟨⟨[[[], [], [], [468, 469, 96], [], [], [], [], [], [], [], [], [468, 469, 96]], [[], [], [], [], [], [], [468, 469, 96]], [[], [], [], [418], [], [], [232], [], [], [], [], [], [], [418]], [[234]]], by decide +kernel⟩, by decide +kernel, by decide +kernel⟩
set_option maxRecDepth 100000 in
theorem ok_98 : am_okM 98 mm_98 := ⟨⟨[[[], [], [], [468, 469, 96], [], [], [], [], [], [], [], [], [468, 469, 96]], [[], [], [], [], [], [], [], [], [], [418], [], [], [232]], [[], [], [], [], [], [418], [], [], [234]]], by decide +kernel⟩, by decide +kernel, by decide +kernel⟩
set_option maxRecDepth 100000 in
theorem ok_99 : am_okM 99 mm_99 := ⟨⟨[[[], [], [], [468, 469, 96]], [[], [], [], [], [], [], [], [468, 469, 96]], [[], [], [], [], [418], [], [], [217], [], [], [184]], [[], [418], [], [], [217], [], [], [187]], [[418], [], [], [217], [], [], [], [184], [], [], [], [], [], [], [418]], [[], [217], [], [], [], [187]]], by decide +kernel⟩, by decide +kernel, by decide +kernel⟩
set_option maxRecDepth 100000 in
theorem ok_100 : am_okM 100 mm_100 := ⟨⟨[[[], [], [], [], [468, 469, 96], [], [], [], [], [], [], [], [], [], [418]], [[], [217], [], [], [182], [], [], [], [], [], [], [], [], [], [418]], [[], [236], [], [], [], [], [418], [], [], [], [236]]], by decide +kernel⟩, by decide +kernel, by decide +kernel⟩
set_option maxRecDepth 100000 in
theorem ok_101 : am_okM 101 mm_101 := ⟨⟨[[[], [418], [], [], [217], [], [], [182], [], [], [], [], [418], [], [], [217]], [[], [], [621, 622, 623, 104]]], by decide +kernel⟩, by decide +kernel, by decide +kernel⟩
set_option maxRecDepth 100000 in
theorem ok_102 : am_okM 102 mm_102 := ⟨⟨[[[], [418], [], [], [217]], [], [], [[], [], [], [], [], [], [], [], [], [], [], [], [], [182]], [[], [], [418], [], [], [236], [], [], [], [], [191], [], [], [], [], [418]], [[], [], [], [629, 630, 631, 103]], [[633, 634, 635, 104], [], [], [], [], [196], [], [], [], [], [182]], [[468, 469, 96], [], [], [], [], [], [], [418], [], [], [230], [], [], [], [182]], [[], [], [], [], [], [], [], [], [184], [], [], [], [], [187]]], by decide +kernel⟩, by decide +kernel, by decide +kernel⟩
set_option maxRecDepth 100000 in
theorem ok_103 : am_okM 103 mm_103 := ⟨⟨[[[], [], [], [], [468, 469, 96], [], [], [], [], [], [], [], [], [421]], [[303]], [[], [], [], [], [], [], [], [], [421]], [[], [], [], [], [642, 643, 644, 106], [], [], [], [], [], [], [], [], [], [421]], [[], [303]]], by decide +kernel⟩, by decide +kernel, by decide +kernel⟩
set_option maxRecDepth 100000 in
theorem ok_104 : am_okM 104 mm_104 := ⟨⟨[[[], [421], [], [], [650, 651, 652, 106]], [[], [], [418], [], [], [], [421], [], [], [309], [], [], [], [421]], [[312], [], [], [781, 782, 783, 103], [], [], [], [418], [], [], [240]]], by decide +kernel⟩, by decide +kernel, by decide +kernel⟩
set_option maxRecDepth 100000 in
theorem ok_105 : am_okM 105 mm_105 := ⟨⟨[[[], [418], [], [], [], [418], [], [], [217], [], [], [629, 630, 631, 103]], [[], [], [], [], [], [418], [], [], [], [418], [], [], [217]], [[418], [], [], [], [418], [], [], [217], [], [], [795, 796, 797, 103], [], [], [806, 807, 808, 103]]], by decide +kernel⟩, by decide +kernel, by decide +kernel⟩
set_option maxRecDepth 100000 in
theorem ok_106 : am_okM 106 mm_106 := ⟨⟨[[[], [], [], [], [468, 469, 96], [], [], [], [], [], [], [], [], [], [826, 828, 16, 96]]], by decide +kernel⟩, by decide +kernel, by decide +kernel⟩
set_option maxRecDepth 100000 in
theorem ok_107 : am_okM 107 mm_107 := ⟨⟨[[[], [418], [], [], [], [475, 476, 477, 103], [], [], [], [], [], [], [], [], [418]], [[], [217], [], [], [], [484, 485, 486, 104], [], [], [], [], [], [], [], [], [], [830, 832, 17, 96]], [[], [], [], [], [], [], [], [], [418], [], [], [], [423]], [[418], [], [], [], [423], [], [], [795, 796, 797, 103], [], [], [806, 807, 808, 103], [], [], [], [], [423]], [[], [], [], [484, 485, 486, 104], [], [], [], [], [], [], [423], [], [], [182]]], by decide +kernel⟩, by decide +kernel, by decide +kernel⟩
set_option maxRecDepth 100000 in
theorem ok_108 : am_okM 108 mm_108 := ⟨⟨[[[], [418], [], [], [], [475, 476, 477, 103], [], [], [], [], [], [], [], [], [], [418]], [[], [], [226], [], [], [], [], [], [851, 853, 18, 96]]], by decide +kernel⟩, by decide +kernel, by decide +kernel⟩
set_option maxRecDepth 100000 in
theorem ok_109 : am_okM 109 mm_109 := ⟨⟨[[[], [418], [], [], [], [475, 476, 477, 103], [], [], [], [], [], [], [], [], [], [418]], [[], [], [228], [], [], [], [], [851, 853, 18, 96]]], by decide +kernel⟩, by decide +kernel, by decide +kernel⟩
set_option maxRecDepth 100000 in
theorem ok_110 : am_okM 110 mm_110 := ⟨⟨[[], [[], [], [], [], [], [], [], [], [], [], [], [], [826, 828, 16, 96]]], by decide +kernel⟩, by decide +kernel, by decide +kernel⟩
set_option maxRecDepth 100000 in
theorem ok_111 : am_okM 111 mm_111 := ⟨⟨[[[], [423], [], [], [], [418], [], [], [217], [], [], [834, 835, 836, 104], [], [], [], [418]], [[], [], [], [423], [], [], [838, 839, 840, 103]]], by decide +kernel⟩, by decide +kernel, by decide +kernel⟩
set_option maxRecDepth 100000 in
theorem ok_112 : am_okM 112 mm_112 := ⟨⟨[[[], [], [], [], [830, 832, 17, 96], [], [], [842, 563, 110, 564]], [[], [418], [], [], [], [423], [], [], [], [418], [], [], [], [423]], [[795, 796, 797, 103], [], [], [806, 807, 808, 103]]], by decide +kernel⟩, by decide +kernel, by decide +kernel⟩
set_option maxRecDepth 100000 in
theorem ok_113 : am_okM 113 mm_113 := ⟨⟨[[[], [], [], [], [], [468, 469, 96], [], [], [], [], [], [], [], [], [830, 832, 17, 96]], [[], [], [], [], [], [], [], [418], [], [], [], [423], [], [], [], [418]], [[], [], [], [423], [], [], [795, 796, 797, 103], [], [], [806, 807, 808, 103], [], [], [], [], [423]], [[], [187], [], [], [], [], [], [], [], [423], [], [], [182]]], by decide +kernel⟩, by decide +kernel, by decide +kernel⟩
set_option maxRecDepth 100000 in
theorem ok_114 : am_okM 114 mm_114 := ⟨⟨[[[], [], [], [468, 469, 96], [], [], [], [], [], [], [], [], [], [], [830, 832, 17, 96]], [[], [], [], [], [], [], [], [423], [], [], [196]], [[418], [], [], [], [423], [], [], [], [418], [], [], [], [423], [], [], [795, 796, 797, 103]], [[], [], [806, 807, 808, 103], [], [], [], [], [423], [], [], [196]], [], [[], [], [], [], [423], [], [], [187]]], by decide +kernel⟩, by decide +kernel, by decide +kernel⟩
set_option maxRecDepth 100000 in
theorem ok_115 : am_okM 115 mm_115 := ⟨⟨[[[], [], [], [], [], [], [871, 873, 19, 96], [], [], [], [], [418], [], [], [], [475, 476, 477, 103]], [[], [], [], [], [], [], [], [], [418], [], [], [], [875, 876, 877, 103]]], by decide +kernel⟩, by decide +kernel, by decide +kernel⟩
set_option maxRecDepth 100000 in
theorem ok_116 : am_okM 116 mm_116 := ⟨⟨[[[], [], [], [], [], [], [], [], [418], [], [], [219]], [[], [], [418], [], [], [], [875, 876, 877, 103]]], by decide +kernel⟩, by decide +kernel, by decide +kernel⟩
set_option maxRecDepth 100000 in
theorem ok_117 : am_okM 117 mm_117 := ⟨⟨[[[], [], [], [], [], [468, 469, 96], [], [], [], [], [], [], [], [], [468, 469, 96]], [[], [], [], [], [], [], [], [418], [], [], [890, 891, 892, 103], [], [], [], [], [418]], [[], [], [], [], [894, 895, 896, 103]], [[], [], [], [], [], [], [418], [], [], [219]], [], [[], [], [], [], [], [418], [], [], [], [], [], [], [898, 899, 900, 103]]], by decide +kernel⟩, by decide +kernel, by decide +kernel⟩
set_option maxRecDepth 100000 in
theorem ok_118 : am_okM 118 mm_118 := ⟨⟨[[[], [], [], [468, 469, 96], [], [], [], [], [], [], [], [], [422]], [[], [907, 908, 909, 107], [], [], [], [422], [], [], [349]]], by decide +kernel⟩, by decide +kernel, by decide +kernel⟩
set_option maxRecDepth 100000 in
theorem ok_119 : am_okM 119 mm_119 := ⟨⟨[[[], [], [], [468, 469, 96], [], [], [], [], [], [], [], [], [468, 469, 96]], [[], [], [], [], [], [422], [], [], [], [], [907, 908, 909, 107], [], [], [], [], [422]], [[], [], [347], [], [], [], [], [], [], [422], [], [], [353]]], by decide +kernel⟩, by decide +kernel, by decide +kernel⟩
set_option maxRecDepth 100000 in
theorem ok_120 : am_okM 120 mm_120 := ⟨⟨[[[], [], [], [468, 469, 96], [], [], [], [], [], [], [], [], [422]], [[], [907, 908, 909, 107], [], [], [], [422], [], [], [351]]], by decide +kernel⟩, by decide +kernel, by decide +kernel⟩
set_option maxRecDepth 100000 in
theorem ok_121 : am_okM 121 mm_121 := ⟨⟨[[[], [], [], [468, 469, 96], [], [], [], [], [], [], [], [940, 942, 24, 96]], [[], [], [], [], [422], [], [], [], [], [907, 908, 909, 107], [], [], [], [422]], [[355], [], [], [], [], [], [], [], [], [], [], [], [422], [], [], [355]]], by decide +kernel⟩, by decide +kernel, by decide +kernel⟩
set_option maxRecDepth 100000 in
theorem ok_122 : am_okM 122 mm_122 := ⟨⟨[[[], [], [], [468, 469, 96], [], [], [], [], [], [], [], [940, 942, 24, 96]], [[], [], [], [], [422], [], [], [], [], [907, 908, 909, 107], [], [], [], [], [422]], [[], [357], [], [], [], [], [], [948, 949, 96]]], by decide +kernel⟩, by decide +kernel, by decide +kernel⟩
set_option maxRecDepth 100000 in
theorem ok_123 : am_okM 123 mm_123 := ⟨⟨[[[], [], [], [], [418], [], [], [219], [], [], [], [], [], [468, 469, 96]]], by decide +kernel⟩, by decide +kernel, by decide +kernel⟩
set_option maxRecDepth 100000 in
theorem ok_124 : am_okM 124 mm_124 := ⟨⟨[[[], [], [], [], [], [], [], [], [], [], [951, 952, 116]]], by decide +kernel⟩, by decide +kernel, by decide +kernel⟩
set_option maxRecDepth 100000 in
theorem ok_125 : am_okM 125 mm_125 := ⟨⟨[[[], [], [], [468, 469, 96], [], [], [], [], [], [], [], [], [422]], [[959, 960, 961, 107]]], by decide +kernel⟩, by decide +kernel, by decide +kernel⟩
set_option maxRecDepth 100000 in
theorem ok_126 : am_okM 126 mm_126 := ⟨⟨[[[], [], [], [468, 469, 96], [], [], [], [], [], [], [], [], [418]], [[418], [], [], [217], [], [], [629, 630, 631, 103]], [[422], [], [], [], [959, 960, 961, 107], [], [], [], [], [422], [], [], [359]]], by decide +kernel⟩, by decide +kernel, by decide +kernel⟩
set_option maxRecDepth 100000 in
theorem ok_127 : am_okM 127 mm_127 := ⟨⟨[[[], [], [], [], [468, 469, 96], [], [], [], [], [], [], [], [], [468, 469, 96]], [], [[], [], [], [], [], [], [], [468, 469, 96]], [[], [], [468, 469, 96], [], [], [], [], [], [], [], [], [418], [], [], [244]], [[], [], [], [], [], [], [], [], [], [], [418], [], [], [244]], [[], [], [], [418], [], [], [246], [], [], [], [], [], [], [], [418]], [[], [248], [], [], [], [], [], [], [], [418], [], [], [250]], [[], [], [], [], [418], [], [], [252]], [[418], [], [], [], [], [], [], [244]]], by decide +kernel⟩, by decide +kernel, by decide +kernel⟩
end
section
set_option maxRecDepth 100000 in
theorem ok_128 : am_okM 128 mm_128 := ⟨⟨[[[], [418], [], [], [244], [], [], [], [], [418], [], [], [], [244]]], by decide +kernel⟩, by decide +kernel, by decide +kernel⟩
set_option maxRecDepth 100000 in
theorem ok_129 : am_okM 129 mm_129 := ⟨⟨[[[], [], [], [468, 469, 96]], [[], [], [], [], [], [], [], [], [], [], [], [], [418]], [[], [983, 984, 985, 103]], [], [[], [], [], [], [], [], [], [], [], [], [1004, 999, 103]], [[], [], [], [], [1005, 1002, 103], [], [], [], [], [], [], [1006, 988, 103]]], by decide +kernel⟩, by decide +kernel, by decide +kernel⟩
set_option maxRecDepth 100000 in
theorem ok_130 : am_okM 130 mm_130 := ⟨⟨[[[], [], [], [], [], [], [], [], [], [], [], [], [418]], [[983, 984, 985, 103], [], [], [], [], [], [], [], [], [], [], [], [1011, 1012, 116]], [[], [], [], [], [], [], [], [], [], [], [], [], [], [], [948, 949, 96]]], by decide +kernel⟩, by decide +kernel, by decide +kernel⟩
set_option maxRecDepth 100000 in
theorem ok_131 : am_okM 131 mm_131 := ⟨⟨[[[], [418], [], [], [238], [], [], [], [], [418], [], [], [], [238]]], by decide +kernel⟩, by decide +kernel, by decide +kernel⟩
set_option maxRecDepth 100000 in
theorem ok_132 : am_okM 132 mm_132 := ⟨⟨[[[], [418], [], [], [], [418], [], [], [217], [], [], [629, 630, 631, 103]], [[], [], [], [], [], [418], [], [], [], [418], [], [], [238], [], [], [1025, 1026, 96]], [[], [], [238], [], [], [], [418], [], [], [], [418], [], [], [217]], [[], [], [418], [], [], [238], [], [], [1029, 1031, 28, 96], [], [], [806, 807, 808, 103]]], by decide +kernel⟩, by decide +kernel, by decide +kernel⟩
set_option maxRecDepth 100000 in
theorem ok_133 : am_okM 133 mm_133 := ⟨⟨[[[], [], [], [], [468, 469, 96], [], [], [], [], [], [], [], [], [], [], [468, 469, 96]], [[], [], [], [], [], [], [], [], [418], [], [], [238]], [[], [], [], [], [], [], [], [], [], [], [], [], [], [], [], [830, 832, 17, 96]], [[], [], [], [], [], [], [], [], [], [], [1025, 1026, 96]], [[], [418], [], [], [], [423], [], [], [], [], [1029, 1031, 28, 96], [], [], [806, 807, 808, 103]]], by decide +kernel⟩, by decide +kernel, by decide +kernel⟩
set_option maxRecDepth 100000 in
theorem ok_134 : am_okM 134 mm_134 := ⟨⟨[[[], [1028]]], by decide +kernel⟩, by decide +kernel, by decide +kernel⟩
set_option maxRecDepth 100000 in
theorem ok_135 : am_okM 135 mm_135 := ⟨⟨[[[], [], [], [], [], [418], [], [], [219]]], by decide +kernel⟩, by decide +kernel, by decide +kernel⟩
set_option maxRecDepth 100000 in
theorem ok_136 : am_okM 136 mm_136 := ⟨⟨[[[], [], [], [468, 469, 96], [], [], [], [], [], [], [], [], [422]], [[], [907, 908, 909, 107], [], [], [], [830, 832, 17, 96], [], [], [], [], [], [422], [], [], [347]], [[], [425], [], [], [], [], [], [], [425], [], [], [], [], [], [], [424]], [[], [], [], [], [1041, 1042, 96], [], [], [], [422], [], [], [353]], [[], [], [424], [], [], [], [], [1041, 1042, 96], [], [], [], [418], [], [], [], [423]], [[], [], [], [422], [], [], [353], [], [], [], [], [806, 807, 808, 103]], [[424], [], [], [], [], [1041, 1042, 96], [], [], [], [423], [], [], [196]], [[], [], [], [], [], [], [], [425]]], by decide +kernel⟩, by decide +kernel, by decide +kernel⟩
set_option maxRecDepth 100000 in
theorem ok_137 : am_okM 137 mm_137 := ⟨⟨[[[], [], [], [1048, 1050, 29, 96], [], [], [], [], [], [], [], [], [], [424]], [[], [], [1041, 1042, 96]]], by decide +kernel⟩, by decide +kernel, by decide +kernel⟩
set_option maxRecDepth 100000 in
theorem ok_138 : am_okM 138 mm_138 := ⟨⟨[[[], [], [], [1048, 1050, 29, 96], [], [], [], [], [], [], [], [], [], [424]], [[], [], [1041, 1042, 96], [], [], [], [], [], [], [424], [], [], [], [], [1041, 1042, 96]]], by decide +kernel⟩, by decide +kernel, by decide +kernel⟩
set_option maxRecDepth 100000 in
theorem ok_139 : am_okM 139 mm_139 := ⟨⟨[[[], [830, 832, 17, 96], [], [], [], [], [], [], [], [425]], [[424], [], [], [], [], [1041, 1042, 96]], [[418], [], [], [], [1060, 1061, 1062, 103], [], [], [], [], [], [], [], [], [], [], [418]], [[], [], [], [423], [], [], [], [806, 807, 808, 103], [], [], [], [], [], [], [], [424]], [[], [], [], [], [1041, 1042, 96], [], [], [], [], [], [], [], [423], [], [], [196]], [[], [], [], [424], [], [], [], [], [1041, 1042, 96]]], by decide +kernel⟩, by decide +kernel, by decide +kernel⟩
set_option maxRecDepth 100000 in
theorem ok_140 : am_okM 140 mm_140 := ⟨⟨[[[], [], [], [425], [], [], [], [], [468, 469, 96]], [[], [468, 469, 96]]], by decide +kernel⟩, by decide +kernel, by decide +kernel⟩
set_option maxRecDepth 100000 in
theorem ok_141 : am_okM 141 mm_141 := ⟨⟨[], by decide +kernel⟩, by decide +kernel, by decide +kernel⟩
set_option maxRecDepth 100000 in
theorem ok_142 : am_okM 142 mm_142 := ⟨⟨[[[], [1068, 1069, 96], [], [], [], [], [], [], [], [], [468, 469, 96]], [], [[], [], [], [], [], [], [], [428], [], [], [], [], [], [385, 212, 105]], [[], [427], [], [], [], [], [], [], [426]]], by decide +kernel⟩, by decide +kernel, by decide +kernel⟩
set_option maxRecDepth 100000 in
theorem ok_143 : am_okM 143 mm_143 := ⟨⟨[[[], [1068, 1069, 96], [], [], [], [], [], [], [], [], [426]], [[], [], [], [], [], [], [], [], [], [1075, 1077, 30, 96]], [[], [], [], [428], [], [], [], [], [], [], [426]], [[1079, 1080, 96]]], by decide +kernel⟩, by decide +kernel, by decide +kernel⟩
set_option maxRecDepth 100000 in
theorem ok_144 : am_okM 144 mm_144 := ⟨⟨[], by decide +kernel⟩, by decide +kernel, by decide +kernel⟩
set_option maxRecDepth 100000 in
theorem ok_145 : am_okM 145 mm_145 := ⟨⟨[[[], [1068, 1069, 96], [], [], [], [], [], [], [], [], [468, 469, 96]], [[], [], [], [], [], [1086, 1088, 31, 96]], [[], [], [], [], [], [1075, 1077, 30, 96], [], [], [], [], [], [], [], [], [], [428]]], by decide +kernel⟩, by decide +kernel, by decide +kernel⟩
set_option maxRecDepth 100000 in
theorem ok_146 : am_okM 146 mm_146 := ⟨⟨[[[], [1068, 1069, 96], [], [], [], [], [], [], [], [], [], [468, 469, 96]], [[], [], [], [], [], [], [1086, 1088, 31, 96]], [], [[], [], [], [], [], [1075, 1077, 30, 96], [], [], [], [], [], [], [], [], [], [428]], [[], [], [], [], [], [], [], [], [], [], [], [], [418]], [[], [1060, 1061, 1062, 103], [], [], [], [], [], [], [418], [], [], [], [418], [], [], [217]], [[], [], [629, 630, 631, 103], [], [], [], [], [], [], [], [], [418], [], [], [], [418]], [[], [], [217], [], [], [], [], [806, 807, 808, 103]]], by decide +kernel⟩, by decide +kernel, by decide +kernel⟩
set_option maxRecDepth 100000 in
theorem ok_147 : am_okM 147 mm_147 := ⟨⟨[[[], [1068, 1069, 96], [], [], [], [], [], [], [], [], [], [468, 469, 96]], [[], [], [], [], [], [], [1086, 1088, 31, 96]], [[], [], [], [], [830, 832, 17, 96]], [[], [], [], [], [], [], [], [], [], [], [], [1075, 1077, 30, 96]], [[], [], [], [], [], [428]], [[], [], [], [], [], [], [], [], [], [418], [], [], [], [], [1060, 1061, 1062, 103]], [[], [], [], [], [], [], [], [], [], [], [418], [], [], [], [423]], [[], [], [], [806, 807, 808, 103]]], by decide +kernel⟩, by decide +kernel, by decide +kernel⟩
set_option maxRecDepth 100000 in
theorem ok_148 : am_okM 148 mm_148 := ⟨⟨[[[], [], [], [468, 469, 96]]], by decide +kernel⟩, by decide +kernel, by decide +kernel⟩
set_option maxRecDepth 100000 in
theorem ok_149 : am_okM 149 mm_149 := ⟨⟨[[[], [], [], [427], [], [], [], [], [], [], [468, 469, 96]]], by decide +kernel⟩, by decide +kernel, by decide +kernel⟩
set_option maxRecDepth 100000 in
theorem ok_150 : am_okM 150 mm_150 := ⟨⟨[[[], [426], [], [], [], [], [], [], [], [], [], [], [], [], [426]]], by decide +kernel⟩, by decide +kernel, by decide +kernel⟩
set_option maxRecDepth 100000 in
theorem ok_151 : am_okM 151 mm_151 := ⟨⟨[[[], [1102, 1103, 96]], [], [[], [], [], [], [], [], [], [1105, 1107, 32, 96], [], [], [], [], [], [], [1109, 1111, 33, 96]], [[], [], [], [429]]], by decide +kernel⟩, by decide +kernel, by decide +kernel⟩
set_option maxRecDepth 100000 in
theorem ok_152 : am_okM 152 mm_152 := ⟨⟨[[[], [418], [], [], [], [475, 476, 477, 103], [], [], [], [], [], [], [], [], [429]], [[], [], [], [], [], [430]]], by decide +kernel⟩, by decide +kernel, by decide +kernel⟩
set_option maxRecDepth 100000 in
theorem ok_153 : am_okM 153 mm_153 := ⟨⟨[[[], [1068, 1069, 96], [], [], [], [], [], [], [], [], [429], [], [], [], [], [426]], [[], [], [], [], [], [], [], [], [], [], [], [], [], [], [], [430]], [[], [], [], [], [426], [], [], [], [], [], [], [431]], [[427]]], by decide +kernel⟩, by decide +kernel, by decide +kernel⟩
set_option maxRecDepth 100000 in
theorem ok_154 : am_okM 154 mm_154 := ⟨⟨[[[], [], [], [468, 469, 96], [], [], [], [], [1102, 1103, 96]], [[], [], [], [], [], [], [], [468, 469, 96]], [[429], [], [], [], [], [], [], [], [], [], [], [], [], [430]], [[], [], [], [], [], [], [], [431]], [[], [], [], [], [1117, 1119, 34, 96]], [[], [], [], [], [], [], [418], [], [], [222]], [[1121, 556, 103]]], by decide +kernel⟩, by decide +kernel, by decide +kernel⟩
set_option maxRecDepth 100000 in
theorem ok_155 : am_okM 155 mm_155 := ⟨⟨[[[], [432], [], [], [1126, 1127, 1128, 108], [], [], [], [1102, 1103, 96]], [[1117, 1119, 34, 96]], [[], [], [432], [], [], [], [], [], [418], [], [], [228]], [[], [1130, 1131, 1132, 108], [], [], [], [418], [], [], [], [], [525, 493, 494, 103]], [], [], [[], [], [], [], [432], [], [], [1134, 1137, 1135, 22, 1138, 1139, 100, 0, 0, 0, 0, 0, 0, 1148, 1135, 97, 1136, 1135, 97, 1149, 1135, 97, 0, 0, 0, 0, 0, 0, 0, 0, 0, 1150, 1151, 98, 1155, 1135, 97, 0, 0, 0, 0, 0, 0]], [[], [], [], [432], [], [], [1158, 1161, 1159, 23, 1162, 1163, 99, 0, 0, 0, 0, 0, 0, 1167, 1159, 97, 1160, 1159, 97, 1168, 1163, 99, 0, 0, 0, 0, 0, 0, 0, 0, 0, 1169, 1159, 97, 1170, 1171, 102, 0, 0, 0, 0, 0, 0]], [[], [], [432], [], [], [1179, 1182, 1180, 24, 1183, 1180, 97, 0, 0, 0, 0, 0, 0, 1184, 1185, 101, 1181, 1180, 97, 1189, 1180, 97, 0, 0, 0, 0, 0, 0, 0, 0, 0, 1190, 1180, 97, 1191, 1192, 102, 0, 0, 0, 0, 0, 0]], [[], [432], [], [], [1199, 1202, 1200, 25, 1203, 1204, 100, 0, 0, 0, 0, 0, 0, 1213, 1200, 97, 1201, 1200, 97, 1214, 1200, 97, 0, 0, 0, 0, 0, 0, 0, 0, 0, 1215, 1200, 97, 1216, 1200, 97, 0, 0, 0, 0, 0, 0], [], [], [], [], [], [], [], [], [432]], [[402]]], by decide +kernel⟩, by decide +kernel, by decide +kernel⟩
set_option maxRecDepth 100000 in
theorem ok_156 : am_okM 156 mm_156 := ⟨⟨[[[], [], [], [468, 469, 96]]], by decide +kernel⟩, by decide +kernel, by decide +kernel⟩
end
section
set_option maxRecDepth 100000 in
theorem ok_157 : am_okM 157 mm_157 := ⟨⟨[[[], [429], [], [], [], [], [], [], [], [], [418], [], [], [], [430]], [[], [], [], [475, 476, 477, 103]], [[], [], [], [], [430]]], by decide +kernel⟩, by decide +kernel, by decide +kernel⟩
set_option maxRecDepth 100000 in
theorem ok_158 : am_okM 158 mm_158 := ⟨⟨[[[], [], [], [432], [], [], [406], [], [], [], [], [468, 469, 96]], [[], [], [432], [], [], [404]]], by decide +kernel⟩, by decide +kernel, by decide +kernel⟩
set_option maxRecDepth 100000 in
theorem ok_159 : am_okM 159 mm_159 := ⟨⟨[[], [], [[], [], [], [], [], [], [], [], [], [], [], [], [], [418]], [[219], [], [], [], [], [418], [], [], [240], [], [], [], [], [418]], [[217], [], [], [196], [], [], [1011, 1012, 116], [], [], [], [], [418], [], [], [244]], [[], [], [], [425], [], [], [], [], [421], [], [], [303]], [[432], [], [], [406]]], by decide +kernel⟩, by decide +kernel, by decide +kernel⟩
set_option maxRecDepth 100000 in
theorem ok_160 : am_okM 160 mm_160 := ⟨⟨[[[], [419], [], [], [], [418], [], [], [1232, 1233, 1234, 103], [], [], [], [], [420]]], by decide +kernel⟩, by decide +kernel, by decide +kernel⟩
set_option maxRecDepth 100000 in
theorem ok_161 : am_okM 161 mm_161 := ⟨⟨[[[], [420], [], [], [], [], [], [], [], [], [], [418], [], [], [], [419]], [[], [], [1232, 1233, 1234, 103], [], [], [], [418], [], [], [219]]], by decide +kernel⟩, by decide +kernel, by decide +kernel⟩
set_option maxRecDepth 100000 in
theorem ok_162 : am_okM 162 mm_162 := ⟨⟨[], by decide +kernel⟩, by decide +kernel, by decide +kernel⟩
set_option maxRecDepth 100000 in
theorem ok_163 : am_okM 163 mm_163 := ⟨⟨[], by decide +kernel⟩, by decide +kernel, by decide +kernel⟩
set_option maxRecDepth 100000 in
theorem ok_164 : am_okM 164 mm_164 := ⟨⟨[], by decide +kernel⟩, by decide +kernel, by decide +kernel⟩
set_option maxRecDepth 100000 in
theorem ok_165 : am_okM 165 mm_165 := ⟨⟨[[[], [], [], [], [], [], [], [], [], [1250], [], [], [], [], [1248]]], by decide +kernel⟩, by decide +kernel, by decide +kernel⟩
set_option maxRecDepth 100000 in
theorem ok_166 : am_okM 166 mm_166 := ⟨⟨[[[], [], [], [], [], [], [], [], [], [1248], [], [], [], [], [1250]]], by decide +kernel⟩, by decide +kernel, by decide +kernel⟩
set_option maxRecDepth 100000 in
theorem ok_167 : am_okM 167 mm_167 := ⟨⟨[[[], [1248]]], by decide +kernel⟩, by decide +kernel, by decide +kernel⟩
set_option maxRecDepth 100000 in
theorem ok_168 : am_okM 168 mm_168 := ⟨⟨[[[], [1248]]], by decide +kernel⟩, by decide +kernel, by decide +kernel⟩
set_option maxRecDepth 100000 in
theorem ok_169 : am_okM 169 mm_169 := ⟨⟨[[[], [], [], [1248], [], [], [], [], [], [], [], [1371, 1372, 109]]], by decide +kernel⟩, by decide +kernel, by decide +kernel⟩
set_option maxRecDepth 100000 in
theorem ok_170 : am_okM 170 mm_170 := ⟨⟨[[[], [], [], [1248], [], [], [], [], [], [1371, 1372, 109]]], by decide +kernel⟩, by decide +kernel, by decide +kernel⟩
set_option maxRecDepth 100000 in
theorem ok_171 : am_okM 171 mm_171 := ⟨⟨[[[], [1248], [], [], [], [], [], [1248]]], by decide +kernel⟩, by decide +kernel, by decide +kernel⟩
set_option maxRecDepth 100000 in
theorem ok_172 : am_okM 172 mm_172 := ⟨⟨[[[], [1248], [], [], [], [], [], [], [1248]]], by decide +kernel⟩, by decide +kernel, by decide +kernel⟩
set_option maxRecDepth 100000 in
theorem ok_173 : am_okM 173 mm_173 := ⟨⟨[], by decide +kernel⟩, by decide +kernel, by decide +kernel⟩
set_option maxRecDepth 100000 in
theorem ok_174 : am_okM 174 mm_174 := ⟨⟨[[[], [], [], [], [], [], [], [], [], [], [], [], [1486, 1487, 109]]], by decide +kernel⟩, by decide +kernel, by decide +kernel⟩
set_option maxRecDepth 100000 in
theorem ok_175 : am_okM 175 mm_175 := ⟨⟨[], by decide +kernel⟩, by decide +kernel, by decide +kernel⟩
set_option maxRecDepth 100000 in
theorem ok_176 : am_okM 176 mm_176 := ⟨⟨[[[], [], [], [1464, 1466, 52, 109], [], [], [], [], [], [1464, 1466, 52, 109], [], [], [], [1248]], [[], [], [1468, 1469, 109], [], [], [], [1248], [], [], [], [], [], [], [], [1464, 1466, 52, 109]], [[], [], [], [], [], [], [], [], [1464, 1466, 52, 109]]], by decide +kernel⟩, by decide +kernel, by decide +kernel⟩
set_option maxRecDepth 100000 in
theorem ok_177 : am_okM 177 mm_177 := ⟨⟨[[[], [], [], [1464, 1466, 52, 109]]], by decide +kernel⟩, by decide +kernel, by decide +kernel⟩
set_option maxRecDepth 100000 in
theorem ok_178 : am_okM 178 mm_178 := ⟨⟨[[[], [1248], [], [], [], [], [], [1248], [], [], [], [], [], [], [], [1464, 1466, 52, 109]]], by decide +kernel⟩, by decide +kernel, by decide +kernel⟩
set_option maxRecDepth 100000 in
theorem ok_179 : am_okM 179 mm_179 := ⟨⟨[[[], [], [], [], [], [1248]], [[], [], [], [], [], [1464, 1466, 52, 109]], [[], [], [1460, 1462, 51, 109], [], [], [], [], [], [], [], [], [], [], [], [1248]]], by decide +kernel⟩, by decide +kernel, by decide +kernel⟩
set_option maxRecDepth 100000 in
theorem ok_180 : am_okM 180 mm_180 := ⟨⟨[], by decide +kernel⟩, by decide +kernel, by decide +kernel⟩
set_option maxRecDepth 100000 in
theorem ok_181 : am_okM 181 mm_181 := ⟨⟨[[[], [1248]]], by decide +kernel⟩, by decide +kernel, by decide +kernel⟩
set_option maxRecDepth 100000 in
theorem ok_182 : am_okM 182 mm_182 := ⟨⟨[[[], [], [], [], [], [], [], [], [], [], [], [], [], [], [], [1479, 1481, 55, 109]], [[], [], [], [], [], [], [], [], [], [1479, 1481, 55, 109]], [[1248]], [[], [], [], [], [1252]], [[], [], [], [], [], [], [], [], [], [], [], [], [], [1493, 1495, 57, 109]], [], [[1252], [], [], [], [], [], [], [], [1252]], [[], [], [], [], [], [], [], [], [1252]], [[], [1252], [], [], [], [], [], [], [], [1252], [], [], [], [], [1497, 1498, 109]], [[], [], [], [], [], [], [], [], [], [], [], [], [], [1252]]], by decide +kernel⟩, by decide +kernel, by decide +kernel⟩
set_option maxRecDepth 100000 in
theorem ok_183 : am_okM 183 mm_183 := ⟨⟨[[[], [], [], [], [1248]], [[1464, 1466, 52, 109], [], [], [], [], [], [1479, 1481, 55, 109], [], [], [1483, 1484, 109]], [[], [], [1489, 1491, 56, 109], [], [], [], [], [], [], [], [], [1479, 1481, 55, 109]]], by decide +kernel⟩, by decide +kernel, by decide +kernel⟩
set_option maxRecDepth 100000 in
theorem ok_184 : am_okM 184 mm_184 := ⟨⟨[[[], [], [1254], [], [], [], [], [], [], [1253]]], by decide +kernel⟩, by decide +kernel, by decide +kernel⟩
set_option maxRecDepth 100000 in
theorem ok_185 : am_okM 185 mm_185 := ⟨⟨[[[], [1256], [], [], [], [1257]], [], [[], [1255], [], [], [], [], [], [], [], [], [], [], [1257]], [[], [], [1256], [], [], [], [], [], [], [], [1257], [], [], [], [], [1383, 1385, 36, 109]]], by decide +kernel⟩, by decide +kernel, by decide +kernel⟩
set_option maxRecDepth 100000 in
theorem ok_186 : am_okM 186 mm_186 := ⟨⟨[[[], [], [1256], [], [], [1383, 1385, 36, 109], [], [], [], [], [], [], [1371, 1372, 109]], [[], [], [], [], [1256], [], [], [], [], [1256]], [[], [], [1258]], [[1391, 1393, 38, 109], [], [], [], [], [], [], [], [], [], [], [1258], [], [], [1258]]], by decide +kernel⟩, by decide +kernel, by decide +kernel⟩
set_option maxRecDepth 100000 in
theorem ok_187 : am_okM 187 mm_187 := ⟨⟨[[[], [], [1259], [], [], [], [], [1256], [], [], [1383, 1385, 36, 109]], [[], [1371, 1372, 109], [], [], [], [], [], [], [], [1256], [], [], [], [1257]], [[], [], [], [], [], [], [], [], [1259], [], [], [], [], [], [1256]], [[], [1383, 1385, 36, 109], [], [], [], [], [], [], [], [], [], [], [1259], [], [], [1259]], [[], [], [], [], [1256], [], [], [], [], [1256]], [[], [1256], [], [], [], [1257]], [[], [], [], [], [1258]]], by decide +kernel⟩, by decide +kernel, by decide +kernel⟩
set_option maxRecDepth 100000 in
theorem ok_188 : am_okM 188 mm_188 := ⟨⟨[[[], [], [1256], [], [], [1383, 1385, 36, 109], [], [], [], [], [], [], [], [], [], [1256]], [[], [], [], [], [1256], [], [], [], [], [], [], [], [1256], [], [], [1257]], [[], [], [], [], [1256], [], [], [1383, 1385, 36, 109]], [[], [1258], [], [], [], [], [], [], [], [], [], [], [1371, 1372, 109]], [[], [], [], [1387, 1389, 37, 109], [], [], [], [], [], [], [], [], [], [], [1371, 1372, 109]], [[], [], [], [], [], [1395, 1397, 39, 109]], [[], [1258], [], [], [], [], [1256], [], [], [], [], [1256]]], by decide +kernel⟩, by decide +kernel, by decide +kernel⟩
set_option maxRecDepth 100000 in
theorem ok_189 : am_okM 189 mm_189 := ⟨⟨[[[], [1258]], [[], [], [], [1379, 1381, 35, 109]]], by decide +kernel⟩, by decide +kernel, by decide +kernel⟩
set_option maxRecDepth 100000 in
theorem ok_190 : am_okM 190 mm_190 := ⟨⟨[[[], [1262], [], [], [], [1261], [], [], [], [], [], [], [1261]], [[], [1261]]], by decide +kernel⟩, by decide +kernel, by decide +kernel⟩
set_option maxRecDepth 100000 in
theorem ok_191 : am_okM 191 mm_191 := ⟨⟨[[[], [1258], [], [], [], [], [], [], [], [], [1258]], [[], [1371, 1372, 109]], [[], [], [], [1258], [], [], [], [], [], [], [], [], [1259]], [[], [], [], [], [], [], [1258], [], [], [], [], [], [], [1431, 1433, 48, 109]], [[], [1379, 1381, 35, 109]]], by decide +kernel⟩, by decide +kernel, by decide +kernel⟩
set_option maxRecDepth 100000 in
theorem ok_192 : am_okM 192 mm_192 := ⟨⟨[[[], [1427, 1429, 47, 109], [], [], [], [], [], [], [], [], [1258]], [[], [], [], [], [], [], [], [], [], [], [1258]], [[], [], [], [], [], [], [], [], [], [], [1258]], [], [[], [], [1379, 1381, 35, 109], [], [], [], [1427, 1429, 47, 109]], [[1431, 1433, 48, 109]]], by decide +kernel⟩, by decide +kernel, by decide +kernel⟩
end
section
set_option maxRecDepth 100000 in
theorem ok_193 : am_okM 193 mm_193 := ⟨⟨[[[], [1260], [], [], [], [], [], [], [], [], [], [], [1260]], [[], [1260], [], [], [], [1379, 1381, 35, 109], [], [], [], [1407, 1409, 42, 109]], [[], [], [], [1403, 1405, 41, 109], [], [], [], [], [], [], [], [], [], [1260]], [[], [], [1260]]], by decide +kernel⟩, by decide +kernel, by decide +kernel⟩
set_option maxRecDepth 100000 in
theorem ok_194 : am_okM 194 mm_194 := ⟨⟨[[[], [], [], [], [], [1403, 1405, 41, 109]], [[], [], [1258], [], [], [], [], [], [], [], [], [], [1419, 1421, 45, 109]], [[], [], [], [1423, 1425, 46, 109]], [[], [], [], [], [], [], [1431, 1433, 48, 109]]], by decide +kernel⟩, by decide +kernel, by decide +kernel⟩
set_option maxRecDepth 100000 in
theorem ok_195 : am_okM 195 mm_195 := ⟨⟨[[[], [1415, 1417, 44, 109], [], [], [], [], [], [], [], [], [], [], [1403, 1405, 41, 109]], [[], [], [], [1415, 1417, 44, 109], [], [], [], [], [], [], [], [], [], [], [], [1431, 1433, 48, 109]]], by decide +kernel⟩, by decide +kernel, by decide +kernel⟩
set_option maxRecDepth 100000 in
theorem ok_196 : am_okM 196 mm_196 := ⟨⟨[[[], [1411, 1413, 43, 109], [], [], [], [], [], [], [], [], [], [], [1403, 1405, 41, 109]], [[], [], [], [1411, 1413, 43, 109], [], [], [], [], [], [], [], [], [], [], [], [1431, 1433, 48, 109]]], by decide +kernel⟩, by decide +kernel, by decide +kernel⟩
set_option maxRecDepth 100000 in
theorem ok_197 : am_okM 197 mm_197 := ⟨⟨[[[], [], [], [], [], [], [], [1258], [], [], [], [], [1371, 1372, 109]], [[], [], [], [], [], [1263], [], [], [], [], [], [], [1258]], [[], [1379, 1381, 35, 109], [], [], [], [], [1260], [], [], [], [], [], [1403, 1405, 41, 109]], [[], [], [], [1407, 1409, 42, 109], [], [], [], [], [], [], [], [], [1258]], [[], [], [], [1371, 1372, 109], [], [], [], [], [], [], [], [], [1263]], [[], [], [], [], [], [1258], [], [], [], [], [], [], [], [1263]], [[], [], [], [], [], [], [1261], [], [], [], [], [1379, 1381, 35, 109]], [[], [], [1403, 1405, 41, 109]]], by decide +kernel⟩, by decide +kernel, by decide +kernel⟩
set_option maxRecDepth 100000 in
theorem ok_198 : am_okM 198 mm_198 := ⟨⟨[[[], [], [], [], [1371, 1372, 109], [], [], [], [], [], [], [], [], [1254]], [], [[], [], [], [], [], [1253], [], [], [], [1254]], [[], [], [], [1374], [], [], [], [], [], [], [], [1254]], [[1254], [], [], [], [], [], [], [], [], [], [1254]]], by decide +kernel⟩, by decide +kernel, by decide +kernel⟩
set_option maxRecDepth 100000 in
theorem ok_199 : am_okM 199 mm_199 := ⟨⟨[[[], [], [1256], [], [], [], [], [1261], [], [], [], [], [], [1379, 1381, 35, 109]], [[], [], [], [], [], [], [], [1258]], [[1399, 1401, 40, 109], [], [], [], [], [], [], [], [], [], [], [], [1254]], [[], [], [], [], [], [], [1257], [], [], [], [], [], [1248]], [[], [], [], [], [], [], [], [], [], [], [], [], [], [1248]], [[], [], [], [], [], [1263]], [[], [], [], [], [], [1261], [], [], [], [], [], [], [1248]], [[], [], [], [], [1262]]], by decide +kernel⟩, by decide +kernel, by decide +kernel⟩
set_option maxRecDepth 100000 in
theorem ok_200 : am_okM 200 mm_200 := ⟨⟨[[], [], [], [], [[], [1563, 1564, 109], [], [], [], [], [], [], [], [], [1563, 1564, 109]]], by decide +kernel⟩, by decide +kernel, by decide +kernel⟩
set_option maxRecDepth 100000 in
theorem ok_201 : am_okM 201 mm_201 := ⟨⟨[[[], [], [], [1464, 1466, 52, 109]], [[], [], [], [], [1448, 1450, 49, 109], [], [], [], [1248], [], [], [], [], [1248]], [[], [], [], [], [1471, 1473, 53, 109], [], [], [], [], [], [], [1563, 1564, 109]]], by decide +kernel⟩, by decide +kernel, by decide +kernel⟩
set_option maxRecDepth 100000 in
theorem ok_202 : am_okM 202 mm_202 := ⟨⟨[[[], [], [1475, 1477, 54, 109], [], [], [], [], [], [1460, 1462, 51, 109]], [[], [], [], [], [], [], [], [], [], [1464, 1466, 52, 109]], [[1563, 1564, 109], [], [], [1448, 1450, 49, 109], [], [], [], [], [], [], [], [], [], [], [1248]], [[], [], [], [1248], [], [], [], [], [], [], [], [], [], [1563, 1564, 109]], [[], [], [1248], [], [], [], [], [], [], [], [1464, 1466, 52, 109]], [[], [], [], [1574, 1576, 65, 109]]], by decide +kernel⟩, by decide +kernel, by decide +kernel⟩
set_option maxRecDepth 100000 in
theorem ok_203 : am_okM 203 mm_203 := ⟨⟨[[[], [], [], [], [1248]], [[1464, 1466, 52, 109], [], [], [], [], [], [], [], [1500, 1502, 58, 109], [], [], [], [], [], [], [1248]], [[], [], [], [], [], [], [1460, 1462, 51, 109], [], [], [], [], [], [], [1464, 1466, 52, 109]]], by decide +kernel⟩, by decide +kernel, by decide +kernel⟩
set_option maxRecDepth 100000 in
theorem ok_204 : am_okM 204 mm_204 := ⟨⟨[[[], [1248], [], [], [], [], [1248]], [[], [1248], [], [], [], [], [], [1248], [], [], [], [], [], [1248]], [[], [], [], [], [1560, 1561, 109], [], [], [], [], [], [], [1248]], [[], [], [], [], [], [], [1566, 1568, 63, 109]], [[], [], [], [], [], [], [1500, 1502, 58, 109], [], [], [], [], [], [], [], [1570, 1572, 64, 109]], [[], [], [], [], [], [], [], [1248], [], [], [], [], [1248]], [[], [], [], [], [1248], [], [], [], [], [], [], [], [], [], [], [1563, 1564, 109]], [[], [], [], [], [1248], [], [], [], [], [], [], [], [], [], [1248]]], by decide +kernel⟩, by decide +kernel, by decide +kernel⟩
set_option maxRecDepth 100000 in
theorem ok_205 : am_okM 205 mm_205 := ⟨⟨[[[], [], [], [], [1371, 1372, 109]]], by decide +kernel⟩, by decide +kernel, by decide +kernel⟩
set_option maxRecDepth 100000 in
theorem ok_206 : am_okM 206 mm_206 := ⟨⟨[[[], [], [], [], [1371, 1372, 109]]], by decide +kernel⟩, by decide +kernel, by decide +kernel⟩
set_option maxRecDepth 100000 in
theorem ok_207 : am_okM 207 mm_207 := ⟨⟨[[[], [], [], [1371, 1372, 109]]], by decide +kernel⟩, by decide +kernel, by decide +kernel⟩
set_option maxRecDepth 100000 in
theorem ok_208 : am_okM 208 mm_208 := ⟨⟨[[[], [], [], [1371, 1372, 109], [], [], [], [], [], [], [1439, 1440, 109]], [[], [1442, 1443, 109], [], [], [], [], [], [], [], [1445, 1446, 109]], [[], [], [1248]], [[], [1248], [], [], [], [], [], [], [], [], [], [], [], [], [1448, 1450, 49, 109]], [[], [], [], [], [], [], [1448, 1450, 49, 109], [], [], [], [], [], [], [], [1448, 1450, 49, 109]], [[], [], [], [], [], [], [], [1448, 1450, 49, 109], [], [], [], [], [], [], [], [1448, 1450, 49, 109]], [[], [], [], [], [], [], [], [1448, 1450, 49, 109], [], [], [], [1248]]], by decide +kernel⟩, by decide +kernel, by decide +kernel⟩
set_option maxRecDepth 100000 in
theorem ok_209 : am_okM 209 mm_209 := ⟨⟨[[[], [], [1456, 1458, 50, 109], [], [], [], [], [], [], [], [], [], [1371, 1372, 109]], [], [], [[], [], [], [], [], [], [1460, 1462, 51, 109], [], [], [], [], [], [1471, 1473, 53, 109]], [[], [], [1475, 1477, 54, 109], [], [], [], [], [], [1500, 1502, 58, 109]], [[], [], [], [], [], [], [], [1464, 1466, 52, 109]]], by decide +kernel⟩, by decide +kernel, by decide +kernel⟩
set_option maxRecDepth 100000 in
theorem ok_210 : am_okM 210 mm_210 := ⟨⟨[[], [], [[], [], [1456, 1458, 50, 109], [], [], [], [], [], [], [], [], [1371, 1372, 109]], [[], [], [], [], [], [1371, 1372, 109]], [[], [], [], [], [], [], [1508, 1510, 59, 109]]], by decide +kernel⟩, by decide +kernel, by decide +kernel⟩
set_option maxRecDepth 100000 in
theorem ok_211 : am_okM 211 mm_211 := ⟨⟨[[[], [], [1456, 1458, 50, 109], [], [], [], [], [], [], [], [], [1371, 1372, 109]], [[], [], [], [], [], [], [], [], [], [], [1508, 1510, 59, 109]]], by decide +kernel⟩, by decide +kernel, by decide +kernel⟩
set_option maxRecDepth 100000 in
theorem ok_212 : am_okM 212 mm_212 := ⟨⟨[[[], [], [], [], [1371, 1372, 109], [], [], [], [], [], [], [], [], [], [1371, 1372, 109]], [[], [], [], [], [], [], [], [], [], [], [1508, 1510, 59, 109]]], by decide +kernel⟩, by decide +kernel, by decide +kernel⟩
set_option maxRecDepth 100000 in
theorem ok_213 : am_okM 213 mm_213 := ⟨⟨[[[], [1445, 1446, 109], [], [], [], [], [], [], [], [], [1371, 1372, 109]], [[], [1442, 1443, 109]], [[], [], [], [], [], [], [1508, 1510, 59, 109]]], by decide +kernel⟩, by decide +kernel, by decide +kernel⟩
set_option maxRecDepth 100000 in
theorem ok_214 : am_okM 214 mm_214 := ⟨⟨[[[], [1445, 1446, 109], [], [], [], [], [], [], [], [], [1371, 1372, 109]], [[], [1248]]], by decide +kernel⟩, by decide +kernel, by decide +kernel⟩
set_option maxRecDepth 100000 in
theorem ok_215 : am_okM 215 mm_215 := ⟨⟨[[[], [], [], [1371, 1372, 109]], [[], [], [], [], [], [], [], [1371, 1372, 109]], [[], [], [1508, 1510, 59, 109]]], by decide +kernel⟩, by decide +kernel, by decide +kernel⟩
set_option maxRecDepth 100000 in
theorem ok_216 : am_okM 216 mm_216 := ⟨⟨[[[], [], [], [], [1371, 1372, 109]], [[1248]], [[1508, 1510, 59, 109]]], by decide +kernel⟩, by decide +kernel, by decide +kernel⟩
set_option maxRecDepth 100000 in
theorem ok_217 : am_okM 217 mm_217 := ⟨⟨[[[], [1248], [], [], [], [], [], [], [1248], [], [], [], [], [], [], [1248]], [[], [], [], [], [], [], [], [], [], [], [1248]], [[], [], [], [], [], [], [], [1448, 1450, 49, 109], [], [], [], [], [], [], [1448, 1450, 49, 109]], [[], [], [], [], [], [], [], [], [], [], [1508, 1510, 59, 109]]], by decide +kernel⟩, by decide +kernel, by decide +kernel⟩
end
section
set_option maxRecDepth 100000 in
theorem ok_218 : am_okM 218 mm_218 := ⟨⟨[[[], [], [], [], [], [], [1248]], [[], [], [], [1464, 1466, 52, 109]]], by decide +kernel⟩, by decide +kernel, by decide +kernel⟩
set_option maxRecDepth 100000 in
theorem ok_219 : am_okM 219 mm_219 := ⟨⟨[[], [], [], [[], [], [], [], [], [1248], [], [], [], [], [], [], [1248]], [[], [], [], [1248], [], [], [], [], [], [], [1544, 1546, 60, 109]], [[], [], [], [], [], [], [], [], [1548, 1550, 61, 109], [], [], [], [], [], [1548, 1550, 61, 109]], [[], [], [], [1248], [], [], [], [], [], [], [], [], [], [], [1248]], [[], [], [], [], [1248]], [[], [1248], [], [], [], [], [], [], [1248]]], by decide +kernel⟩, by decide +kernel, by decide +kernel⟩
set_option maxRecDepth 100000 in
theorem ok_220 : am_okM 220 mm_220 := ⟨⟨[[[], [1544, 1546, 60, 109], [], [], [], [], [], [], [], [], [], [], [], [], [1556, 1558, 62, 109]]], by decide +kernel⟩, by decide +kernel, by decide +kernel⟩
set_option maxRecDepth 100000 in
theorem ok_221 : am_okM 221 mm_221 := ⟨⟨[[[], [], [], [], [], [], [], [], [], [], [1544, 1546, 60, 109]], [[], [], [], [1556, 1558, 62, 109]]], by decide +kernel⟩, by decide +kernel, by decide +kernel⟩
set_option maxRecDepth 100000 in
theorem ok_222 : am_okM 222 mm_222 := ⟨⟨[[[], [], [], [], [1371, 1372, 109], [], [], [], [], [], [], [], [], [1582, 1584, 66, 109]], [[], [], [1586, 1588, 67, 109], [], [], [], [], [1590, 1592, 68, 109]]], by decide +kernel⟩, by decide +kernel, by decide +kernel⟩
set_option maxRecDepth 100000 in
theorem ok_223 : am_okM 223 mm_223 := ⟨⟨[[[], [], [1456, 1458, 50, 109], [], [], [], [], [], [], [], [], [1582, 1584, 66, 109]], [[], [], [], [], [1464, 1466, 52, 109]], [[], [], [], [], [], [1544, 1546, 60, 109], [], [], [], [], [], [], [], [1556, 1558, 62, 109]], [[], [], [], [], [], [1464, 1466, 52, 109]], [], [[1248], [], [], [], [], [], [], [], [], [], [], [], [1590, 1592, 68, 109]]], by decide +kernel⟩, by decide +kernel, by decide +kernel⟩
set_option maxRecDepth 100000 in
theorem ok_224 : am_okM 224 mm_224 := ⟨⟨[[[], [], [1456, 1458, 50, 109]], [[], [1582, 1584, 66, 109]], [[], [], [1448, 1450, 49, 109], [], [], [], [], [], [1586, 1588, 67, 109]], [], [[], [], [], [], [], [], [], [], [], [], [], [], [], [], [1590, 1592, 68, 109]]], by decide +kernel⟩, by decide +kernel, by decide +kernel⟩
set_option maxRecDepth 100000 in
theorem ok_225 : am_okM 225 mm_225 := ⟨⟨[[[], [], [], [], [], [1602, 1604, 69, 109]]], by decide +kernel⟩, by decide +kernel, by decide +kernel⟩
set_option maxRecDepth 100000 in
theorem ok_226 : am_okM 226 mm_226 := ⟨⟨[[[], [], [], [], [1602, 1604, 69, 109]]], by decide +kernel⟩, by decide +kernel, by decide +kernel⟩
set_option maxRecDepth 100000 in
theorem ok_227 : am_okM 227 mm_227 := ⟨⟨[[[], [], [], [], [], [1371, 1372, 109], [], [], [], [], [], [], [], [], [1582, 1584, 66, 109]], [[], [], [], [], [], [], [], [], [], [], [], [1544, 1546, 60, 109]], [[], [], [], [1556, 1558, 62, 109], [], [], [], [], [1248]], [[], [], [], [], [], [], [1248]], [[], [], [], [], [], [], [], [1590, 1592, 68, 109]]], by decide +kernel⟩, by decide +kernel, by decide +kernel⟩
set_option maxRecDepth 100000 in
theorem ok_228 : am_okM 228 mm_228 := ⟨⟨[[[], [], [], [1371, 1372, 109], [], [], [], [], [], [], [], [], [1582, 1584, 66, 109]], [[], [], [1544, 1546, 60, 109], [], [], [], [], [], [], [], [1548, 1550, 61, 109]], [[1556, 1558, 62, 109], [], [], [], [], [], [], [], [], [1548, 1550, 61, 109]], [], [[], [], [], [], [], [], [], [1248], [], [], [], [], [], [], [1590, 1592, 68, 109]]], by decide +kernel⟩, by decide +kernel, by decide +kernel⟩
set_option maxRecDepth 100000 in
theorem ok_229 : am_okM 229 mm_229 := ⟨⟨[[[], [], [], [1464, 1466, 52, 109], [], [], [], [], [], [1464, 1466, 52, 109]], [[], [1464, 1466, 52, 109], [], [], [], [], [], [], [], [], [1464, 1466, 52, 109]], [[], [], [], [1464, 1466, 52, 109], [], [], [], [], [], [1464, 1466, 52, 109]], [[], [], [], [1371, 1372, 109]]], by decide +kernel⟩, by decide +kernel, by decide +kernel⟩
set_option maxRecDepth 100000 in
theorem ok_230 : am_okM 230 mm_230 := ⟨⟨[[[], [], [], [], [], [], [], [], [1248]], [[], [], [], [], [], [], [], [1248]], [[], [], [], [], [], [], [1248]], [[], [], [], [], [], [], [], [], [], [], [], [], [], [], [], [1626, 1628, 71, 109]], [], [], [[], [], [], [], [1464, 1466, 52, 109]]], by decide +kernel⟩, by decide +kernel, by decide +kernel⟩
set_option maxRecDepth 100000 in
theorem ok_231 : am_okM 231 mm_231 := ⟨⟨[[[], [], [], [], [], [], [], [1456, 1458, 50, 109]], [[], [], [], [], [], [1622, 1624, 70, 109], [], [], [], [], [], [], [], [], [], [1248]], [[], [], [], [], [], [], [], [], [], [], [1622, 1624, 70, 109]]], by decide +kernel⟩, by decide +kernel, by decide +kernel⟩
set_option maxRecDepth 100000 in
theorem ok_232 : am_okM 232 mm_232 := ⟨⟨[[[], [], [], [], [], [1264], [], [], [], [], [], [], [], [1264]], [[], [], [], [], [], [1264], [], [], [], [], [], [1265]], [[], [], [], [], [], [1248]], [[], [], [], [], [], [], [], [], [], [], [], [], [1464, 1466, 52, 109]], [[], [], [], [], [], [], [], [], [1464, 1466, 52, 109]], [[], [], [], [1464, 1466, 52, 109]], [[], [], [], [], [], [], [], [1464, 1466, 52, 109]], [[], [], [], [], [], [], [], [], [], [], [1634, 1636, 72, 109]]], by decide +kernel⟩, by decide +kernel, by decide +kernel⟩
set_option maxRecDepth 100000 in
theorem ok_233 : am_okM 233 mm_233 := ⟨⟨[[[], [], [], [], [], [1371, 1372, 109], [], [], [], [], [], [], [], [], [1371, 1372, 109]], [[], [], [], [], [], [], [], [], [1248]], [[], [], [], [1548, 1550, 61, 109], [], [], [], [], [], [], [], [], [1264]], [[], [], [], [], [1634, 1636, 72, 109], [], [], [], [], [], [], [], [1264]], [[], [], [], [], [], [], [], [], [], [], [], [], [1265]]], by decide +kernel⟩, by decide +kernel, by decide +kernel⟩
set_option maxRecDepth 100000 in
theorem ok_234 : am_okM 234 mm_234 := ⟨⟨[[[], [], [], [], [], [], [], [], [], [1266]], [[], [], [], [1248]]], by decide +kernel⟩, by decide +kernel, by decide +kernel⟩
set_option maxRecDepth 100000 in
theorem ok_235 : am_okM 235 mm_235 := ⟨⟨[[[], [], [], [], [], [], [], [], [], [1248], [], [], [], [], [1266]]], by decide +kernel⟩, by decide +kernel, by decide +kernel⟩
set_option maxRecDepth 100000 in
theorem ok_236 : am_okM 236 mm_236 := ⟨⟨[[[], [1544, 1546, 60, 109], [], [], [], [], [], [], [], [], [], [], [1248]], [[], [], [1248]]], by decide +kernel⟩, by decide +kernel, by decide +kernel⟩
set_option maxRecDepth 100000 in
theorem ok_237 : am_okM 237 mm_237 := ⟨⟨[[[], [], [1269], [], [], [], [], [], [], [], [1270], [], [], [], [], [1269]], [[], [], [], [], [], [], [], [], [], [], [], [], [1268]], [[], [], [1267]], [[], [1270], [], [], [], [], [1269]], [[], [], [1270], [], [], [], [], [1548, 1550, 61, 109]], [[], [], [], [], [], [], [], [], [], [1271]], [[], [], [], [], [1271], [], [], [1271], [], [], [], [], [1272]], [[], [], [1272]]], by decide +kernel⟩, by decide +kernel, by decide +kernel⟩
set_option maxRecDepth 100000 in
theorem ok_238 : am_okM 238 mm_238 := ⟨⟨[[[], [], [], [], [], [], [], [], [], [], [], [], [1657, 1659, 76, 109]], [[], [], [1661, 1663, 77, 109], [], [], [], [], [], [], [], [], [1248]], [[], [], [], [], [], [1267], [], [], [], [], [], [], [], [], [], [1556, 1558, 62, 109]], [], [[], [], [], [], [], [], [], [], [], [], [], [], [], [1653, 1655, 75, 109]], [[], [], [1665, 1667, 78, 109]]], by decide +kernel⟩, by decide +kernel, by decide +kernel⟩
set_option maxRecDepth 100000 in
theorem ok_239 : am_okM 239 mm_239 := ⟨⟨[[[], [], [1269], [], [], [], [], [1270], [], [], [], [], [1271]], [[], [1272], [], [], [], [], [], [], [1649, 1651, 74, 109], [], [], [], [], [], [1653, 1655, 75, 109]]], by decide +kernel⟩, by decide +kernel, by decide +kernel⟩
set_option maxRecDepth 100000 in
theorem ok_240 : am_okM 240 mm_240 := ⟨⟨[[[], [], [], [1371, 1372, 109]]], by decide +kernel⟩, by decide +kernel, by decide +kernel⟩
set_option maxRecDepth 100000 in
theorem ok_241 : am_okM 241 mm_241 := ⟨⟨[[[], [1642, 1643, 109], [], [], [], [], [], [], [], [], [], [], [1645, 1647, 73, 109]], [[1269]]], by decide +kernel⟩, by decide +kernel, by decide +kernel⟩
set_option maxRecDepth 100000 in
theorem ok_242 : am_okM 242 mm_242 := ⟨⟨[[[], [1642, 1643, 109], [], [], [], [], [], [], [], [], [1371, 1372, 109]], [[], [], [], [], [], [1645, 1647, 73, 109], [], [], [], [], [], [1649, 1651, 74, 109]], [[], [], [1268]]], by decide +kernel⟩, by decide +kernel, by decide +kernel⟩
set_option maxRecDepth 100000 in
theorem ok_243 : am_okM 243 mm_243 := ⟨⟨[[[], [1642, 1643, 109], [], [], [], [], [], [], [], [], [], [], [1645, 1647, 73, 109]], [[1270]]], by decide +kernel⟩, by decide +kernel, by decide +kernel⟩
set_option maxRecDepth 100000 in
theorem ok_244 : am_okM 244 mm_244 := ⟨⟨[[[], [], [], [], [1248], [], [], [], [], [], [], [], [], [1371, 1372, 109]]], by decide +kernel⟩, by decide +kernel, by decide +kernel⟩
end
section
set_option maxRecDepth 100000 in
theorem ok_245 : am_okM 245 mm_245 := ⟨⟨[[[], [1642, 1643, 109], [], [], [], [], [], [], [], [1681, 1683, 79, 109]], [[], [], [], [], [1645, 1647, 73, 109], [], [], [], [1271]], [[], [], [], [], [], [1271]]], by decide +kernel⟩, by decide +kernel, by decide +kernel⟩
set_option maxRecDepth 100000 in
theorem ok_246 : am_okM 246 mm_246 := ⟨⟨[[[], [1642, 1643, 109], [], [], [], [], [], [], [], [1681, 1683, 79, 109]], [[], [], [], [], [1645, 1647, 73, 109], [], [], [], [], [1272]], [[], [], [], [], [], [], [1248]], [], [[], [1248]]], by decide +kernel⟩, by decide +kernel, by decide +kernel⟩
set_option maxRecDepth 100000 in
theorem ok_247 : am_okM 247 mm_247 := ⟨⟨[[[], [], [], [], [], [], [], [], [], [1661, 1663, 77, 109]], [[], [], [], [], [], [], [], [1248]], [[], [], [], [1556, 1558, 62, 109], [], [], [], [], [], [], [], [], [], [], [], [1693, 1695, 80, 109]], [[], [], [], [], [], [], [], [1665, 1667, 78, 109]], [], [], [], [[], [], [], [], [], [], [], [], [], [], [], [], [1267]]], by decide +kernel⟩, by decide +kernel, by decide +kernel⟩
set_option maxRecDepth 100000 in
theorem ok_248 : am_okM 248 mm_248 := ⟨⟨[[[], [], [], [1371, 1372, 109], [], [], [], [], [], [], [], [], [], [1649, 1651, 74, 109]], [[1693, 1695, 80, 109]]], by decide +kernel⟩, by decide +kernel, by decide +kernel⟩
set_option maxRecDepth 100000 in
theorem ok_249 : am_okM 249 mm_249 := ⟨⟨[[[], [], [], [1371, 1372, 109], [], [], [], [], [], [], [], [], [1544, 1546, 60, 109]], [[], [], [], [], [], [], [], [], [], [1649, 1651, 74, 109], [], [], [1693, 1695, 80, 109]], [[], [], [], [], [], [], [], [], [], [], [1267]]], by decide +kernel⟩, by decide +kernel, by decide +kernel⟩
set_option maxRecDepth 100000 in
theorem ok_250 : am_okM 250 mm_250 := ⟨⟨[[], [[], [], [1371, 1372, 109], [], [], [], [], [], [], [], [], [1371, 1372, 109]], [[], [], [], [], [], [1371, 1372, 109]], [[1371, 1372, 109], [], [], [], [], [], [], [], [], [1248]], [[], [], [], [], [], [], [], [], [], [], [], [1248]], [[], [], [], [], [], [], [1248], [], [], [], [], [], [], [], [1248]], [[], [], [], [], [], [], [], [], [1248]], [[], [], [1248], [], [], [], [], [], [], [], [], [], [], [1248]], [[], [], [], [], [], [], [], [], [1248]]], by decide +kernel⟩, by decide +kernel, by decide +kernel⟩
set_option maxRecDepth 100000 in
theorem ok_251 : am_okM 251 mm_251 := ⟨⟨[[[], [], [], [], [1508, 1510, 59, 109]]], by decide +kernel⟩, by decide +kernel, by decide +kernel⟩
set_option maxRecDepth 100000 in
theorem ok_252 : am_okM 252 mm_252 := ⟨⟨[[], [[], [], [], [], [], [1273], [], [], [], [], [], [], [], [], [1274]], [[], [], [], [], [], [], [], [], [], [1248]], [[], [], [1560, 1561, 109]], [[], [], [1468, 1469, 109]], [[], [], [], [], [], [], [], [], [], [], [], [], [], [1563, 1564, 109]], [], [[], [1563, 1564, 109]]], by decide +kernel⟩, by decide +kernel, by decide +kernel⟩
set_option maxRecDepth 100000 in
theorem ok_253 : am_okM 253 mm_253 := ⟨⟨[[[], [], [], [], [], [], [], [], [1248]], [[], [], [], [1273], [], [], [], [1248]], [[], [1274], [], [], [], [1248], [], [], [], [], [], [], [], [], [1248]], [[], [], [], [], [], [], [1248], [], [], [], [], [], [], [1371, 1372, 109]]], by decide +kernel⟩, by decide +kernel, by decide +kernel⟩
set_option maxRecDepth 100000 in
theorem ok_254 : am_okM 254 mm_254 := ⟨⟨[[[], [], [], [], [1275]], [], [[], [], [1717, 1719, 82, 109], [], [], [], [], [], [], [], [], [], [], [], [1248]], [], [[], [], [], [], [], [1721, 1723, 83, 109]], [], [[], [], [], [], [], [], [], [], [], [], [], [], [1275]], [[], [], [], [], [], [], [], [1275], [], [], [1275]]], by decide +kernel⟩, by decide +kernel, by decide +kernel⟩
set_option maxRecDepth 100000 in
theorem ok_255 : am_okM 255 mm_255 := ⟨⟨[[[], [], [], [1371, 1372, 109], [], [], [], [], [], [], [], [], [], [1713, 1715, 81, 109]], [], [[], [], [], [], [], [], [], [], [], [], [], [1275]], [[], [], [], [], [], [], [], [], [], [], [], [1275]], [[], [], [], [], [], [], [], [], [1275]]], by decide +kernel⟩, by decide +kernel, by decide +kernel⟩
set_option maxRecDepth 100000 in
theorem ok_256 : am_okM 256 mm_256 := ⟨⟨[[[], [], [1713, 1715, 81, 109], [], [], [], [], [], [], [], [], [], [], [], [], [1248]], [[], [], [], [], [], [], [], [], [], [], [1713, 1715, 81, 109]]], by decide +kernel⟩, by decide +kernel, by decide +kernel⟩
set_option maxRecDepth 100000 in
theorem ok_257 : am_okM 257 mm_257 := ⟨⟨[[[], [], [], [1508, 1510, 59, 109]]], by decide +kernel⟩, by decide +kernel, by decide +kernel⟩
set_option maxRecDepth 100000 in
theorem ok_258 : am_okM 258 mm_258 := ⟨⟨[[[], [1248], [], [], [], [], [1248], [], [], [], [], [1741]], [[], [], [], [], [], [], [1248], [], [], [], [], [], [], [], [], [1248]], [[], [], [], [], [], [], [], [], [1556, 1558, 62, 109]]], by decide +kernel⟩, by decide +kernel, by decide +kernel⟩
set_option maxRecDepth 100000 in
theorem ok_259 : am_okM 259 mm_259 := ⟨⟨[[[], [1544, 1546, 60, 109], [], [], [], [], [], [], [], [], [], [], [], [1737, 1739, 84, 109]]], by decide +kernel⟩, by decide +kernel, by decide +kernel⟩
set_option maxRecDepth 100000 in
theorem ok_260 : am_okM 260 mm_260 := ⟨⟨[[[], [], [], [], [1371, 1372, 109], [], [], [], [], [], [], [], [], [], [], [1371, 1372, 109]], [[], [], [], [], [], [], [], [], [1582, 1584, 66, 109]], [[], [], [], [], [], [], [], [], [], [], [1544, 1546, 60, 109]], [[], [], [], [1737, 1739, 84, 109]], [[], [], [], [], [], [], [], [], [], [], [], [1248]], [[], [], [], [1590, 1592, 68, 109], [], [], [], [1248]], [[], [], [], [], [], [1590, 1592, 68, 109]]], by decide +kernel⟩, by decide +kernel, by decide +kernel⟩
set_option maxRecDepth 100000 in
theorem ok_261 : am_okM 261 mm_261 := ⟨⟨[[[], [1642, 1643, 109], [], [], [], [], [], [], [], [], [], [], [1645, 1647, 73, 109]], [[], [], [1649, 1651, 74, 109], [], [], [1277], [], [], [], [1582, 1584, 66, 109]], [[1277], [], [], [], [], [], [], [1276], [], [], [], [], [], [], [1268]], [[], [], [], [], [], [1276], [], [], [], [], [], [], [], [], [], [1268]], [[], [], [], [], [1556, 1558, 62, 109], [], [], [], [], [1276]], [[], [], [], [1548, 1550, 61, 109], [], [], [], [], [], [], [], [], [], [], [1590, 1592, 68, 109]], [[], [], [1277]]], by decide +kernel⟩, by decide +kernel, by decide +kernel⟩
set_option maxRecDepth 100000 in
theorem ok_262 : am_okM 262 mm_262 := ⟨⟨[[[], [], [], [1277], [], [], [], [], [1371, 1372, 109]], [[], [1371, 1372, 109]]], by decide +kernel⟩, by decide +kernel, by decide +kernel⟩
set_option maxRecDepth 100000 in
theorem ok_263 : am_okM 263 mm_263 := ⟨⟨[[[], [], [], [1754, 1756, 85, 109], [], [], [], [], [], [], [1276]]], by decide +kernel⟩, by decide +kernel, by decide +kernel⟩
set_option maxRecDepth 100000 in
theorem ok_264 : am_okM 264 mm_264 := ⟨⟨[[[], [], [], [1754, 1756, 85, 109], [], [], [], [], [], [], [], [], [], [1276]], [[], [], [], [], [], [], [], [], [], [1276]]], by decide +kernel⟩, by decide +kernel, by decide +kernel⟩
set_option maxRecDepth 100000 in
theorem ok_265 : am_okM 265 mm_265 := ⟨⟨[[[], [1582, 1584, 66, 109], [], [], [], [], [], [], [], [], [1277]], [[], [], [], [], [], [], [1276], [], [], [], [], [], [], [1766, 1768, 86, 109]], [[], [], [], [], [1544, 1546, 60, 109]], [[], [], [], [], [], [], [1276], [], [], [], [], [], [], [1556, 1558, 62, 109]], [[], [], [], [], [], [], [], [], [], [], [], [], [], [1276]], [[], [], [], [], [], [], [], [], [], [], [], [1548, 1550, 61, 109], [], [], [], [1276]], [], [], [[], [], [], [], [], [], [1590, 1592, 68, 109]]], by decide +kernel⟩, by decide +kernel, by decide +kernel⟩
set_option maxRecDepth 100000 in
theorem ok_266 : am_okM 266 mm_266 := ⟨⟨[[[], [], [], [1371, 1372, 109]]], by decide +kernel⟩, by decide +kernel, by decide +kernel⟩
set_option maxRecDepth 100000 in
theorem ok_267 : am_okM 267 mm_267 := ⟨⟨[[[], [1774, 1775, 109], [], [], [], [], [], [], [], [], [1371, 1372, 109]], [], [[], [], [], [], [], [], [], [], [1278], [], [], [], [], [], [], [1279]], [], [[], [], [], [], [], [], [], [], [1280]]], by decide +kernel⟩, by decide +kernel, by decide +kernel⟩
end
section
set_option maxRecDepth 100000 in
theorem ok_268 : am_okM 268 mm_268 := ⟨⟨[], by decide +kernel⟩, by decide +kernel, by decide +kernel⟩
set_option maxRecDepth 100000 in
theorem ok_269 : am_okM 269 mm_269 := ⟨⟨[[[], [1774, 1775, 109], [], [], [], [], [], [], [], [], [1278]], [[], [], [], [], [], [], [], [], [1279], [], [], [], [], [], [], [1371, 1372, 109]], [[], [], [], [], [], [], [], [], [], [1280]], [[], [], [], [], [1278], [], [], [], [], [1781, 1782, 109]]], by decide +kernel⟩, by decide +kernel, by decide +kernel⟩
set_option maxRecDepth 100000 in
theorem ok_270 : am_okM 270 mm_270 := ⟨⟨[[[], [1278], [], [], [], [], [], [], [], [], [], [], [], [], [], [1278]]], by decide +kernel⟩, by decide +kernel, by decide +kernel⟩
set_option maxRecDepth 100000 in
theorem ok_271 : am_okM 271 mm_271 := ⟨⟨[[[], [1774, 1775, 109], [], [], [], [], [], [], [], [], [1371, 1372, 109]], [[], [], [], [], [], [1788, 1790, 87, 109]], [[], [], [], [], [], [], [], [1279], [], [], [], [], [], [], [1371, 1372, 109]], [[], [], [], [], [], [1280]]], by decide +kernel⟩, by decide +kernel, by decide +kernel⟩
set_option maxRecDepth 100000 in
theorem ok_272 : am_okM 272 mm_272 := ⟨⟨[[[], [], [], [], [], [], [1279]]], by decide +kernel⟩, by decide +kernel, by decide +kernel⟩
set_option maxRecDepth 100000 in
theorem ok_273 : am_okM 273 mm_273 := ⟨⟨[[[], [1774, 1775, 109], [], [], [], [], [], [], [], [], [], [1371, 1372, 109]], [[], [], [], [], [], [], [1788, 1790, 87, 109]], [], [[], [], [], [], [1796, 1798, 88, 109], [], [], [], [], [], [], [], [], [], [1280]], [], [[], [], [1766, 1768, 86, 109], [], [], [], [], [], [], [1544, 1546, 60, 109]], [[], [], [1556, 1558, 62, 109]]], by decide +kernel⟩, by decide +kernel, by decide +kernel⟩
set_option maxRecDepth 100000 in
theorem ok_274 : am_okM 274 mm_274 := ⟨⟨[[[], [1774, 1775, 109], [], [], [], [], [], [], [], [], [], [1371, 1372, 109]], [[], [], [], [], [], [], [1788, 1790, 87, 109], [], [], [], [], [], [], [], [], [1582, 1584, 66, 109]], [], [[], [], [], [], [], [1796, 1798, 88, 109], [], [], [], [], [], [], [1280]], [], [[], [], [], [], [1796, 1798, 88, 109]], [[], [], [1766, 1768, 86, 109], [], [], [], [], [], [], [1544, 1546, 60, 109]], [], [[], [1556, 1558, 62, 109]], [[], [], [1590, 1592, 68, 109]]], by decide +kernel⟩, by decide +kernel, by decide +kernel⟩
set_option maxRecDepth 100000 in
theorem ok_275 : am_okM 275 mm_275 := ⟨⟨[[[], [1774, 1775, 109], [], [], [], [], [], [], [], [], [1371, 1372, 109]], [[], [], [], [], [], [], [1456, 1458, 50, 109]], [[], [], [1774, 1775, 109], [], [], [], [], [], [], [], [], [1281]], [[], [], [], [], [], [], [], [], [], [], [], [], [], [1278]], [[], [], [], [], [], [], [], [], [1278]], [[], [], [], [], [1282]], [[], [], [], [], [], [], [1279]]], by decide +kernel⟩, by decide +kernel, by decide +kernel⟩
set_option maxRecDepth 100000 in
theorem ok_276 : am_okM 276 mm_276 := ⟨⟨[[[], [1281], [], [], [], [], [], [], [], [], [], [1282]], [[1456, 1458, 50, 109], [], [], [], [], [], [], [], [], [], [], [1281]]], by decide +kernel⟩, by decide +kernel, by decide +kernel⟩
set_option maxRecDepth 100000 in
theorem ok_277 : am_okM 277 mm_277 := ⟨⟨[[[], [1774, 1775, 109], [], [], [], [], [], [], [], [], [1371, 1372, 109]], [[], [], [], [], [], [1371, 1372, 109], [], [], [], [], [], [], [], [], [], [1812, 1814, 89, 109]], [], [[], [], [], [], [], [], [1282], [], [], [], [], [], [1464, 1466, 52, 109]], [[1483, 1484, 109]], [], [[1282]]], by decide +kernel⟩, by decide +kernel, by decide +kernel⟩
set_option maxRecDepth 100000 in
theorem ok_278 : am_okM 278 mm_278 := ⟨⟨[[[], [1284], [], [], [], [], [], [], [], [], [1283], [], [], [], [1284]], [[], [], [], [], [], [1284], [], [], [], [], [1284]]], by decide +kernel⟩, by decide +kernel, by decide +kernel⟩
set_option maxRecDepth 100000 in
theorem ok_279 : am_okM 279 mm_279 := ⟨⟨[[[], [], [], [], [], [], [], [], [1824, 1826, 91, 109]], [[1820, 1822, 90, 109], [], [], [], [], [], [], [], [], [], [], [], [1824, 1826, 91, 109]], [[], [], [1820, 1822, 90, 109], [], [], [], [], [], [], [], [], [], [1824, 1826, 91, 109]], [[], [1285]]], by decide +kernel⟩, by decide +kernel, by decide +kernel⟩
set_option maxRecDepth 100000 in
theorem ok_280 : am_okM 280 mm_280 := ⟨⟨[[[], [], [], [], [], [], [], [], [], [], [], [], [], [1824, 1826, 91, 109]], [[], [], [], [1828, 1830, 92, 109], [], [], [], [], [1285], [], [], [], [1464, 1466, 52, 109]], [[], [], [], [], [], [], [], [], [], [1824, 1826, 91, 109], [], [], [], [], [], [1828, 1830, 92, 109]], [[], [], [], [], [], [], [], [1824, 1826, 91, 109], [], [], [], [], [], [1285]], [[], [1464, 1466, 52, 109], [], [], [], [1820, 1822, 90, 109]]], by decide +kernel⟩, by decide +kernel, by decide +kernel⟩
set_option maxRecDepth 100000 in
theorem ok_281 : am_okM 281 mm_281 := ⟨⟨[[[], [], [], [], [], [], [], [], [1824, 1826, 91, 109], [], [], [], [], [], [1832, 1834, 93, 109]], [[], [], [], [1286]], [[], [], [1285], [], [], [], [1464, 1466, 52, 109], [], [], [1820, 1822, 90, 109]], [[], [], [], [], [], [], [1824, 1826, 91, 109], [], [], [], [], [], [1832, 1834, 93, 109]], [[], [], [], [], [], [1824, 1826, 91, 109], [], [], [], [], [1285], [], [], [], [1464, 1466, 52, 109]], [[], [], [], [], [1285], [], [], [], [], [], [], [1286]], [[], [], [], [], [], [], [], [], [], [], [1286], [], [], [], [1286]]], by decide +kernel⟩, by decide +kernel, by decide +kernel⟩
set_option maxRecDepth 100000 in
theorem ok_282 : am_okM 282 mm_282 := ⟨⟨[[[], [], [], [], [], [], [], [], [1824, 1826, 91, 109], [], [], [], [], [], [1836, 1838, 94, 109]], [[], [], [], [1286]], [[], [1828, 1830, 92, 109], [], [], [], [], [], [], [], [1824, 1826, 91, 109], [], [], [], [], [], [1285]], [[], [], [], [1464, 1466, 52, 109], [], [], [], [1828, 1830, 92, 109], [], [], [], [], [], [], [], [1285]], [[], [], [], [1464, 1466, 52, 109], [], [], [], [1832, 1834, 93, 109]]], by decide +kernel⟩, by decide +kernel, by decide +kernel⟩
set_option maxRecDepth 100000 in
theorem ok_283 : am_okM 283 mm_283 := ⟨⟨[[[], [], [1284], [], [], [], [1774, 1775, 109], [], [], [], [], [], [], [], [], [1371, 1372, 109]], [[], [], [], [], [], [], [], [1812, 1814, 89, 109]], [[], [1282], [], [], [], [], [1285], [], [], [], [], [1286]], [[1285], [], [], [], [1464, 1466, 52, 109]], [[], [1820, 1822, 90, 109]], [[1828, 1830, 92, 109], [], [], [], [], [], [], [], [], [], [], [], [], [], [], [1832, 1834, 93, 109]], [[], [], [], [], [], [], [], [], [], [1836, 1838, 94, 109], [], [], [], [], [], [1286]]], by decide +kernel⟩, by decide +kernel, by decide +kernel⟩
set_option maxRecDepth 100000 in
theorem ok_284 : am_okM 284 mm_284 := ⟨⟨[[[], [], [], [1284], [], [], [], [], [1371, 1372, 109], [], [], [], [], [], [], [1283]]], by decide +kernel⟩, by decide +kernel, by decide +kernel⟩
set_option maxRecDepth 100000 in
theorem ok_285 : am_okM 285 mm_285 := ⟨⟨[], by decide +kernel⟩, by decide +kernel, by decide +kernel⟩
set_option maxRecDepth 100000 in
theorem ok_286 : am_okM 286 mm_286 := ⟨⟨[[], [], [[], [], [], [], [], [], [], [], [], [], [], [], [], [1248]], [[], [], [], [], [], [1248], [], [], [], [], [], [], [], [], [1548, 1550, 61, 109]], [[], [1848, 1849, 109], [], [], [], [], [1248], [], [], [], [], [], [], [], [1277]], [[], [], [], [1254], [], [], [], [], [1284]]], by decide +kernel⟩, by decide +kernel, by decide +kernel⟩
set_option maxRecDepth 100000 in
theorem ok_287 : am_okM 287 mm_287 := ⟨⟨[[[], [], [], [], [], [], [], [], [], [], [1249], [], [], [], [], [1248]], [[], [], [], [], [], [], [], [], [], [], [], [], [], [1251]]], by decide +kernel⟩, by decide +kernel, by decide +kernel⟩
set_option maxRecDepth 100000 in
theorem ok_288 : am_okM 288 mm_288 := ⟨⟨[[[], [1251]], [[], [], [], [], [1248], [], [], [], [], [1249]], [[], [], [], [], [], [], [1248]]], by decide +kernel⟩, by decide +kernel, by decide +kernel⟩
end
section
theorem am_okC_mk {M : am_M} {mi q : Nat} {l : List (Option am_E)} {ls : List (List (Option am_E))} {pl : List (List Nat)} {pls : List (List (List Nat))} (h : am_okR M mi (16 * q) l pl = true) (hl : l.length ≤ 16) (hr : am_okC M mi (q + 1) ls pls = true) : am_okC M mi q (l :: ls) (pl :: pls) = true := by
  simp only [am_okC, h, hr, hl, decide_true, Bool.and_true]
set_option maxRecDepth 100000 in
theorem okr_0 : am_okR mm_289 289 (16 * 0) [none, none, none, some (.dup, 4, 0, 0, [], 0), none, none, none, some (.astore_n 1, 8, 1, 0, [], 0), none, none, none, some (.dup, 12, 0, 0, [], 0), none, none, none, some (.astore_n 2, 16, 2, 0, [], 0)] [[], [], [], [], [], [], [], [], [], [], [], [], [], [], [], []] = true := by decide +kernel
set_option maxRecDepth 100000 in
theorem okr_1 : am_okR mm_289 289 (16 * 1) [some (.iconst 0, 17, 0, 0, [], 0), some (.istore_n 3, 18, 3, 0, [], 0), some (.iload_n 3, 19, 3, 0, [], 0), some (.aload_n 0, 20, 0, 0, [], 0), some (.arraylength, 21, 0, 0, [], 0), some (.iconst 5, 22, 0, 0, [], 5), some (.isub, 23, 0, 0, [], 0), some (.if_icmp .gt 1765, 26, 1788, 0, [], 0), none, none, some (.aload_n 0, 27, 0, 0, [], 0), some (.iload_n 3, 28, 3, 0, [], 0), some (.iaload, 29, 0, 0, [], 0), some (.bipush 63, 31, 0, 0, [], 63), none, some (.iand, 32, 0, 0, [], 0)] [[], [], [], [], [], [], [], [], [], [], [], [], [], [], [], []] = true := by decide +kernel
set_option maxRecDepth 100000 in
theorem okr_2 : am_okR mm_289 289 (16 * 2) [some (.tableswitch 1750 0 51 #[224, 277, 310, 353, 386, 419, 462, 495, 528, 551, 564, 587, 650, 663, 676, 699, 722, 745, 768, 791, 814, 837, 870, 893, 926, 949, 982, 1015, 1038, 1061, 1114, 1127, 1150, 1163, 1186, 1199, 1232, 1255, 1288, 1331, 1344, 1387, 1430, 1473, 1516, 1559, 1602, 1635, 1678, 1701, 1724, 1737], 256, 1782, 0, [256, 309, 342, 385, 418, 451, 494, 527, 560, 583, 596, 619, 682, 695, 708, 731, 754, 777, 800, 823, 846, 869, 902, 925, 958, 981, 1014, 1047, 1070, 1093, 1146, 1159, 1182, 1195, 1218, 1231, 1264, 1287, 1320, 1363, 1376, 1419, 1462, 1505, 1548, 1591, 1634, 1667, 1710, 1733, 1756, 1769], 0), none, none, none, none, none, none, none, none, none, none, none, none, none, none, none] [[], [], [], [], [], [], [], [], [], [], [], [], [], [], [], []] = true := by decide +kernel
set_option maxRecDepth 100000 in
theorem okr_3 : am_okR mm_289 289 (16 * 3) [none, none, none, none, none, none, none, none, none, none, none, none, none, none, none, none] [[], [], [], [], [], [], [], [], [], [], [], [], [], [], [], []] = true := by decide +kernel
set_option maxRecDepth 100000 in
theorem okr_4 : am_okR mm_289 289 (16 * 4) [none, none, none, none, none, none, none, none, none, none, none, none, none, none, none, none] [[], [], [], [], [], [], [], [], [], [], [], [], [], [], [], []] = true := by decide +kernel
set_option maxRecDepth 100000 in
theorem okr_5 : am_okR mm_289 289 (16 * 5) [none, none, none, none, none, none, none, none, none, none, none, none, none, none, none, none] [[], [], [], [], [], [], [], [], [], [], [], [], [], [], [], []] = true := by decide +kernel
set_option maxRecDepth 100000 in
theorem okr_6 : am_okR mm_289 289 (16 * 6) [none, none, none, none, none, none, none, none, none, none, none, none, none, none, none, none] [[], [], [], [], [], [], [], [], [], [], [], [], [], [], [], []] = true := by decide +kernel
set_option maxRecDepth 100000 in
theorem okr_7 : am_okR mm_289 289 (16 * 7) [none, none, none, none, none, none, none, none, none, none, none, none, none, none, none, none] [[], [], [], [], [], [], [], [], [], [], [], [], [], [], [], []] = true := by decide +kernel
set_option maxRecDepth 100000 in
theorem okr_8 : am_okR mm_289 289 (16 * 8) [none, none, none, none, none, none, none, none, none, none, none, none, none, none, none, none] [[], [], [], [], [], [], [], [], [], [], [], [], [], [], [], []] = true := by decide +kernel
set_option maxRecDepth 100000 in
theorem okr_9 : am_okR mm_289 289 (16 * 9) [none, none, none, none, none, none, none, none, none, none, none, none, none, none, none, none] [[], [], [], [], [], [], [], [], [], [], [], [], [], [], [], []] = true := by decide +kernel
set_option maxRecDepth 100000 in
theorem okr_10 : am_okR mm_289 289 (16 * 10) [none, none, none, none, none, none, none, none, none, none, none, none, none, none, none, none] [[], [], [], [], [], [], [], [], [], [], [], [], [], [], [], []] = true := by decide +kernel
set_option maxRecDepth 100000 in
theorem okr_11 : am_okR mm_289 289 (16 * 11) [none, none, none, none, none, none, none, none, none, none, none, none, none, none, none, none] [[], [], [], [], [], [], [], [], [], [], [], [], [], [], [], []] = true := by decide +kernel
set_option maxRecDepth 100000 in
theorem okr_12 : am_okR mm_289 289 (16 * 12) [none, none, none, none, none, none, none, none, none, none, none, none, none, none, none, none] [[], [], [], [], [], [], [], [], [], [], [], [], [], [], [], []] = true := by decide +kernel
set_option maxRecDepth 100000 in
theorem okr_13 : am_okR mm_289 289 (16 * 13) [none, none, none, none, none, none, none, none, none, none, none, none, none, none, none, none] [[], [], [], [], [], [], [], [], [], [], [], [], [], [], [], []] = true := by decide +kernel
set_option maxRecDepth 100000 in
theorem okr_14 : am_okR mm_289 289 (16 * 14) [none, none, none, none, none, none, none, none, none, none, none, none, none, none, none, none] [[], [], [], [], [], [], [], [], [], [], [], [], [], [], [], []] = true := by decide +kernel
set_option maxRecDepth 100000 in
theorem okr_15 : am_okR mm_289 289 (16 * 15) [none, none, none, none, none, none, none, none, none, none, none, none, none, none, none, none] [[], [], [], [], [], [], [], [], [], [], [], [], [], [], [], []] = true := by decide +kernel
set_option maxRecDepth 100000 in
theorem okr_16 : am_okR mm_289 289 (16 * 16) [some (.aload_n 1, 257, 1, 0, [], 0), some (.aload_n 0, 258, 0, 0, [], 0), some (.iload_n 3, 259, 3, 0, [], 0), some (.iconst 1, 260, 0, 0, [], 1), some (.iadd, 261, 0, 0, [], 0), some (.iaload, 262, 0, 0, [], 0), some (.aload_n 0, 263, 0, 0, [], 0), some (.iload_n 3, 264, 3, 0, [], 0), some (.iconst 2, 265, 0, 0, [], 2), some (.iadd, 266, 0, 0, [], 0), some (.iaload, 267, 0, 0, [], 0), some (.aload_n 0, 268, 0, 0, [], 0), some (.iload_n 3, 269, 3, 0, [], 0), some (.iconst 3, 270, 0, 0, [], 3), some (.iadd, 271, 0, 0, [], 0), some (.iaload, 272, 0, 0, [], 0)] [[], [], [], [], [], [], [], [], [], [], [], [], [], [], [], []] = true := by decide +kernel
set_option maxRecDepth 100000 in
theorem okr_17 : am_okR mm_289 289 (16 * 17) [some (.aload_n 0, 273, 0, 0, [], 0), some (.iload_n 3, 274, 3, 0, [], 0), some (.iconst 4, 275, 0, 0, [], 4), some (.iadd, 276, 0, 0, [], 0), some (.iaload, 277, 0, 0, [], 0), some (.invokevirtual 13, 280, 1, 91, [4, 11], 0), none, none, some (.aload_n 2, 281, 2, 0, [], 0), some (.aload_n 0, 282, 0, 0, [], 0), some (.iload_n 3, 283, 3, 0, [], 0), some (.iconst 1, 284, 0, 0, [], 1), some (.iadd, 285, 0, 0, [], 0), some (.iaload, 286, 0, 0, [], 0), some (.aload_n 0, 287, 0, 0, [], 0), some (.iload_n 3, 288, 3, 0, [], 0)] [[], [], [], [], [], [464, 465, 466, 96], [], [], [], [], [], [], [], [], [], []] = true := by decide +kernel
set_option maxRecDepth 100000 in
theorem okr_18 : am_okR mm_289 289 (16 * 18) [some (.iconst 2, 289, 0, 0, [], 2), some (.iadd, 290, 0, 0, [], 0), some (.iaload, 291, 0, 0, [], 0), some (.aload_n 0, 292, 0, 0, [], 0), some (.iload_n 3, 293, 3, 0, [], 0), some (.iconst 3, 294, 0, 0, [], 3), some (.iadd, 295, 0, 0, [], 0), some (.iaload, 296, 0, 0, [], 0), some (.aload_n 0, 297, 0, 0, [], 0), some (.iload_n 3, 298, 3, 0, [], 0), some (.iconst 4, 299, 0, 0, [], 4), some (.iadd, 300, 0, 0, [], 0), some (.iaload, 301, 0, 0, [], 0), some (.invokevirtual 17, 304, 1, 208, [4, 12], 0), none, none] [[], [], [], [], [], [], [], [], [], [], [], [], [], [1435, 1436, 1437, 109], [], []] = true := by decide +kernel
set_option maxRecDepth 100000 in
theorem okr_19 : am_okR mm_289 289 (16 * 19) [some (.if_icmp .eq 1478, 307, 1782, 0, [], 0), none, none, some (.iconst 0, 308, 0, 0, [], 0), some (.ireturn, 309, 2, 0, [], 0), some (.aload_n 1, 310, 1, 0, [], 0), some (.aload_n 0, 311, 0, 0, [], 0), some (.iload_n 3, 312, 3, 0, [], 0), some (.iconst 1, 313, 0, 0, [], 1), some (.iadd, 314, 0, 0, [], 0), some (.iaload, 315, 0, 0, [], 0), some (.aload_n 0, 316, 0, 0, [], 0), some (.iload_n 3, 317, 3, 0, [], 0), some (.iconst 2, 318, 0, 0, [], 2), some (.iadd, 319, 0, 0, [], 0), some (.iaload, 320, 0, 0, [], 0)] [[], [], [], [], [], [], [], [], [], [], [], [], [], [], [], []] = true := by decide +kernel
set_option maxRecDepth 100000 in
theorem okr_20 : am_okR mm_289 289 (16 * 20) [some (.invokevirtual 18, 323, 1, 92, [2, 11], 0), none, none, some (.aload_n 2, 324, 2, 0, [], 0), some (.aload_n 0, 325, 0, 0, [], 0), some (.iload_n 3, 326, 3, 0, [], 0), some (.iconst 1, 327, 0, 0, [], 1), some (.iadd, 328, 0, 0, [], 0), some (.iaload, 329, 0, 0, [], 0), some (.aload_n 0, 330, 0, 0, [], 0), some (.iload_n 3, 331, 3, 0, [], 0), some (.iconst 2, 332, 0, 0, [], 2), some (.iadd, 333, 0, 0, [], 0), some (.iaload, 334, 0, 0, [], 0), some (.invokevirtual 22, 337, 1, 209, [2, 12], 0), none] [[471, 472, 473, 96], [], [], [], [], [], [], [], [], [], [], [], [], [], [1452, 1453, 1454, 109], []] = true := by decide +kernel
set_option maxRecDepth 100000 in
theorem okr_21 : am_okR mm_289 289 (16 * 21) [none, some (.if_icmp .eq 1445, 340, 1782, 0, [], 0), none, none, some (.iconst 0, 341, 0, 0, [], 0), some (.ireturn, 342, 2, 0, [], 0), some (.aload_n 1, 343, 1, 0, [], 0), some (.aload_n 0, 344, 0, 0, [], 0), some (.iload_n 3, 345, 3, 0, [], 0), some (.iconst 1, 346, 0, 0, [], 1), some (.iadd, 347, 0, 0, [], 0), some (.iaload, 348, 0, 0, [], 0), some (.aload_n 0, 349, 0, 0, [], 0), some (.iload_n 3, 350, 3, 0, [], 0), some (.iconst 2, 351, 0, 0, [], 2), some (.iadd, 352, 0, 0, [], 0)] [[], [], [], [], [], [], [], [], [], [], [], [], [], [], [], []] = true := by decide +kernel
set_option maxRecDepth 100000 in
theorem okr_22 : am_okR mm_289 289 (16 * 22) [some (.iaload, 353, 0, 0, [], 0), some (.aload_n 0, 354, 0, 0, [], 0), some (.iload_n 3, 355, 3, 0, [], 0), some (.iconst 3, 356, 0, 0, [], 3), some (.iadd, 357, 0, 0, [], 0), some (.iaload, 358, 0, 0, [], 0), some (.invokevirtual 23, 361, 1, 93, [3, 11], 0), none, none, some (.aload_n 2, 362, 2, 0, [], 0), some (.aload_n 0, 363, 0, 0, [], 0), some (.iload_n 3, 364, 3, 0, [], 0), some (.iconst 1, 365, 0, 0, [], 1), some (.iadd, 366, 0, 0, [], 0), some (.iaload, 367, 0, 0, [], 0), some (.aload_n 0, 368, 0, 0, [], 0)] [[], [], [], [], [], [], [577, 578, 579, 96], [], [], [], [], [], [], [], [], []] = true := by decide +kernel
set_option maxRecDepth 100000 in
theorem okr_23 : am_okR mm_289 289 (16 * 23) [some (.iload_n 3, 369, 3, 0, [], 0), some (.iconst 2, 370, 0, 0, [], 2), some (.iadd, 371, 0, 0, [], 0), some (.iaload, 372, 0, 0, [], 0), some (.aload_n 0, 373, 0, 0, [], 0), some (.iload_n 3, 374, 3, 0, [], 0), some (.iconst 3, 375, 0, 0, [], 3), some (.iadd, 376, 0, 0, [], 0), some (.iaload, 377, 0, 0, [], 0), some (.invokevirtual 27, 380, 1, 210, [3, 12], 0), none, none, some (.if_icmp .eq 1402, 383, 1782, 0, [], 0), none, none, some (.iconst 0, 384, 0, 0, [], 0)] [[], [], [], [], [], [], [], [], [], [1504, 1505, 1506, 109], [], [], [], [], [], []] = true := by decide +kernel
set_option maxRecDepth 100000 in
theorem okr_24 : am_okR mm_289 289 (16 * 24) [some (.ireturn, 385, 2, 0, [], 0), some (.aload_n 1, 386, 1, 0, [], 0), some (.aload_n 0, 387, 0, 0, [], 0), some (.iload_n 3, 388, 3, 0, [], 0), some (.iconst 1, 389, 0, 0, [], 1), some (.iadd, 390, 0, 0, [], 0), some (.iaload, 391, 0, 0, [], 0), some (.aload_n 0, 392, 0, 0, [], 0), some (.iload_n 3, 393, 3, 0, [], 0), some (.iconst 2, 394, 0, 0, [], 2), some (.iadd, 395, 0, 0, [], 0), some (.iaload, 396, 0, 0, [], 0), some (.invokevirtual 28, 399, 1, 95, [2, 11], 0), none, none, some (.aload_n 2, 400, 2, 0, [], 0)] [[], [], [], [], [], [], [], [], [], [], [], [], [593, 594, 595, 96], [], [], []] = true := by decide +kernel
set_option maxRecDepth 100000 in
theorem okr_25 : am_okR mm_289 289 (16 * 25) [some (.aload_n 0, 401, 0, 0, [], 0), some (.iload_n 3, 402, 3, 0, [], 0), some (.iconst 1, 403, 0, 0, [], 1), some (.iadd, 404, 0, 0, [], 0), some (.iaload, 405, 0, 0, [], 0), some (.aload_n 0, 406, 0, 0, [], 0), some (.iload_n 3, 407, 3, 0, [], 0), some (.iconst 2, 408, 0, 0, [], 2), some (.iadd, 409, 0, 0, [], 0), some (.iaload, 410, 0, 0, [], 0), some (.invokevirtual 31, 413, 1, 211, [2, 12], 0), none, none, some (.if_icmp .eq 1369, 416, 1782, 0, [], 0), none, none] [[], [], [], [], [], [], [], [], [], [], [1512, 1513, 1514, 109], [], [], [], [], []] = true := by decide +kernel
set_option maxRecDepth 100000 in
theorem okr_26 : am_okR mm_289 289 (16 * 26) [some (.iconst 0, 417, 0, 0, [], 0), some (.ireturn, 418, 2, 0, [], 0), some (.aload_n 1, 419, 1, 0, [], 0), some (.aload_n 0, 420, 0, 0, [], 0), some (.iload_n 3, 421, 3, 0, [], 0), some (.iconst 1, 422, 0, 0, [], 1), some (.iadd, 423, 0, 0, [], 0), some (.iaload, 424, 0, 0, [], 0), some (.aload_n 0, 425, 0, 0, [], 0), some (.iload_n 3, 426, 3, 0, [], 0), some (.iconst 2, 427, 0, 0, [], 2), some (.iadd, 428, 0, 0, [], 0), some (.iaload, 429, 0, 0, [], 0), some (.invokevirtual 32, 432, 1, 96, [2, 11], 0), none, none] [[], [], [], [], [], [], [], [], [], [], [], [], [], [597, 598, 599, 96], [], []] = true := by decide +kernel
set_option maxRecDepth 100000 in
theorem okr_27 : am_okR mm_289 289 (16 * 27) [some (.aload_n 2, 433, 2, 0, [], 0), some (.aload_n 0, 434, 0, 0, [], 0), some (.iload_n 3, 435, 3, 0, [], 0), some (.iconst 1, 436, 0, 0, [], 1), some (.iadd, 437, 0, 0, [], 0), some (.iaload, 438, 0, 0, [], 0), some (.aload_n 0, 439, 0, 0, [], 0), some (.iload_n 3, 440, 3, 0, [], 0), some (.iconst 2, 441, 0, 0, [], 2), some (.iadd, 442, 0, 0, [], 0), some (.iaload, 443, 0, 0, [], 0), some (.invokevirtual 35, 446, 1, 212, [2, 12], 0), none, none, some (.if_icmp .eq 1336, 449, 1782, 0, [], 0), none] [[], [], [], [], [], [], [], [], [], [], [], [1516, 1517, 1518, 109], [], [], [], []] = true := by decide +kernel
end
section
set_option maxRecDepth 100000 in
theorem okr_28 : am_okR mm_289 289 (16 * 28) [none, some (.iconst 0, 450, 0, 0, [], 0), some (.ireturn, 451, 2, 0, [], 0), some (.aload_n 1, 452, 1, 0, [], 0), some (.aload_n 0, 453, 0, 0, [], 0), some (.iload_n 3, 454, 3, 0, [], 0), some (.iconst 1, 455, 0, 0, [], 1), some (.iadd, 456, 0, 0, [], 0), some (.iaload, 457, 0, 0, [], 0), some (.aload_n 0, 458, 0, 0, [], 0), some (.iload_n 3, 459, 3, 0, [], 0), some (.iconst 2, 460, 0, 0, [], 2), some (.iadd, 461, 0, 0, [], 0), some (.iaload, 462, 0, 0, [], 0), some (.aload_n 0, 463, 0, 0, [], 0), some (.iload_n 3, 464, 3, 0, [], 0)] [[], [], [], [], [], [], [], [], [], [], [], [], [], [], [], []] = true := by decide +kernel
set_option maxRecDepth 100000 in
theorem okr_29 : am_okR mm_289 289 (16 * 29) [some (.iconst 3, 465, 0, 0, [], 3), some (.iadd, 466, 0, 0, [], 0), some (.iaload, 467, 0, 0, [], 0), some (.invokevirtual 36, 470, 1, 97, [3, 11], 0), none, none, some (.aload_n 2, 471, 2, 0, [], 0), some (.aload_n 0, 472, 0, 0, [], 0), some (.iload_n 3, 473, 3, 0, [], 0), some (.iconst 1, 474, 0, 0, [], 1), some (.iadd, 475, 0, 0, [], 0), some (.iaload, 476, 0, 0, [], 0), some (.aload_n 0, 477, 0, 0, [], 0), some (.iload_n 3, 478, 3, 0, [], 0), some (.iconst 2, 479, 0, 0, [], 2), some (.iadd, 480, 0, 0, [], 0)] [[], [], [], [601, 602, 603, 96], [], [], [], [], [], [], [], [], [], [], [], []] = true := by decide +kernel
set_option maxRecDepth 100000 in
theorem okr_30 : am_okR mm_289 289 (16 * 30) [some (.iaload, 481, 0, 0, [], 0), some (.aload_n 0, 482, 0, 0, [], 0), some (.iload_n 3, 483, 3, 0, [], 0), some (.iconst 3, 484, 0, 0, [], 3), some (.iadd, 485, 0, 0, [], 0), some (.iaload, 486, 0, 0, [], 0), some (.invokevirtual 39, 489, 1, 213, [3, 12], 0), none, none, some (.if_icmp .eq 1293, 492, 1782, 0, [], 0), none, none, some (.iconst 0, 493, 0, 0, [], 0), some (.ireturn, 494, 2, 0, [], 0), some (.aload_n 1, 495, 1, 0, [], 0), some (.aload_n 0, 496, 0, 0, [], 0)] [[], [], [], [], [], [], [1520, 1521, 1522, 109], [], [], [], [], [], [], [], [], []] = true := by decide +kernel
set_option maxRecDepth 100000 in
theorem okr_31 : am_okR mm_289 289 (16 * 31) [some (.iload_n 3, 497, 3, 0, [], 0), some (.iconst 1, 498, 0, 0, [], 1), some (.iadd, 499, 0, 0, [], 0), some (.iaload, 500, 0, 0, [], 0), some (.aload_n 0, 501, 0, 0, [], 0), some (.iload_n 3, 502, 3, 0, [], 0), some (.iconst 2, 503, 0, 0, [], 2), some (.iadd, 504, 0, 0, [], 0), some (.iaload, 505, 0, 0, [], 0), some (.invokevirtual 40, 508, 1, 98, [2, 11], 0), none, none, some (.aload_n 2, 509, 2, 0, [], 0), some (.aload_n 0, 510, 0, 0, [], 0), some (.iload_n 3, 511, 3, 0, [], 0), some (.iconst 1, 512, 0, 0, [], 1)] [[], [], [], [], [], [], [], [], [], [605, 606, 607, 96], [], [], [], [], [], []] = true := by decide +kernel
set_option maxRecDepth 100000 in
theorem okr_32 : am_okR mm_289 289 (16 * 32) [some (.iadd, 513, 0, 0, [], 0), some (.iaload, 514, 0, 0, [], 0), some (.aload_n 0, 515, 0, 0, [], 0), some (.iload_n 3, 516, 3, 0, [], 0), some (.iconst 2, 517, 0, 0, [], 2), some (.iadd, 518, 0, 0, [], 0), some (.iaload, 519, 0, 0, [], 0), some (.invokevirtual 43, 522, 1, 214, [2, 12], 0), none, none, some (.if_icmp .eq 1260, 525, 1782, 0, [], 0), none, none, some (.iconst 0, 526, 0, 0, [], 0), some (.ireturn, 527, 2, 0, [], 0), some (.aload_n 1, 528, 1, 0, [], 0)] [[], [], [], [], [], [], [], [1524, 1525, 1526, 109], [], [], [], [], [], [], [], []] = true := by decide +kernel
set_option maxRecDepth 100000 in
theorem okr_33 : am_okR mm_289 289 (16 * 33) [some (.aload_n 0, 529, 0, 0, [], 0), some (.iload_n 3, 530, 3, 0, [], 0), some (.iconst 1, 531, 0, 0, [], 1), some (.iadd, 532, 0, 0, [], 0), some (.iaload, 533, 0, 0, [], 0), some (.aload_n 0, 534, 0, 0, [], 0), some (.iload_n 3, 535, 3, 0, [], 0), some (.iconst 2, 536, 0, 0, [], 2), some (.iadd, 537, 0, 0, [], 0), some (.iaload, 538, 0, 0, [], 0), some (.invokevirtual 44, 541, 1, 99, [2, 11], 0), none, none, some (.aload_n 2, 542, 2, 0, [], 0), some (.aload_n 0, 543, 0, 0, [], 0), some (.iload_n 3, 544, 3, 0, [], 0)] [[], [], [], [], [], [], [], [], [], [], [609, 610, 611, 96], [], [], [], [], []] = true := by decide +kernel
set_option maxRecDepth 100000 in
theorem okr_34 : am_okR mm_289 289 (16 * 34) [some (.iconst 1, 545, 0, 0, [], 1), some (.iadd, 546, 0, 0, [], 0), some (.iaload, 547, 0, 0, [], 0), some (.aload_n 0, 548, 0, 0, [], 0), some (.iload_n 3, 549, 3, 0, [], 0), some (.iconst 2, 550, 0, 0, [], 2), some (.iadd, 551, 0, 0, [], 0), some (.iaload, 552, 0, 0, [], 0), some (.invokevirtual 47, 555, 1, 215, [2, 12], 0), none, none, some (.if_icmp .eq 1227, 558, 1782, 0, [], 0), none, none, some (.iconst 0, 559, 0, 0, [], 0), some (.ireturn, 560, 2, 0, [], 0)] [[], [], [], [], [], [], [], [], [1528, 1529, 1530, 109], [], [], [], [], [], [], []] = true := by decide +kernel
set_option maxRecDepth 100000 in
theorem okr_35 : am_okR mm_289 289 (16 * 35) [some (.aload_n 1, 561, 1, 0, [], 0), some (.aload_n 0, 562, 0, 0, [], 0), some (.iload_n 3, 563, 3, 0, [], 0), some (.iconst 1, 564, 0, 0, [], 1), some (.iadd, 565, 0, 0, [], 0), some (.iaload, 566, 0, 0, [], 0), some (.invokevirtual 48, 569, 1, 100, [1, 11], 0), none, none, some (.aload_n 2, 570, 2, 0, [], 0), some (.aload_n 0, 571, 0, 0, [], 0), some (.iload_n 3, 572, 3, 0, [], 0), some (.iconst 1, 573, 0, 0, [], 1), some (.iadd, 574, 0, 0, [], 0), some (.iaload, 575, 0, 0, [], 0), some (.invokevirtual 52, 578, 1, 216, [1, 12], 0)] [[], [], [], [], [], [], [613, 614, 615, 96], [], [], [], [], [], [], [], [], [1532, 1533, 1534, 109]] = true := by decide +kernel
set_option maxRecDepth 100000 in
theorem okr_36 : am_okR mm_289 289 (16 * 36) [none, none, some (.if_icmp .eq 1204, 581, 1782, 0, [], 0), none, none, some (.iconst 0, 582, 0, 0, [], 0), some (.ireturn, 583, 2, 0, [], 0), some (.aload_n 1, 584, 1, 0, [], 0), some (.invokevirtual 53, 587, 1, 101, [0, 11], 0), none, none, some (.aload_n 2, 588, 2, 0, [], 0), some (.invokevirtual 57, 591, 1, 217, [0, 12], 0), none, none, some (.if_icmp .eq 1191, 594, 1782, 0, [], 0)] [[], [], [], [], [], [], [], [], [617, 618, 619, 96], [], [], [], [1536, 1537, 1538, 109], [], [], []] = true := by decide +kernel
set_option maxRecDepth 100000 in
theorem okr_37 : am_okR mm_289 289 (16 * 37) [none, none, some (.iconst 0, 595, 0, 0, [], 0), some (.ireturn, 596, 2, 0, [], 0), some (.aload_n 1, 597, 1, 0, [], 0), some (.aload_n 0, 598, 0, 0, [], 0), some (.iload_n 3, 599, 3, 0, [], 0), some (.iconst 1, 600, 0, 0, [], 1), some (.iadd, 601, 0, 0, [], 0), some (.iaload, 602, 0, 0, [], 0), some (.invokevirtual 58, 605, 1, 102, [1, 11], 0), none, none, some (.aload_n 2, 606, 2, 0, [], 0), some (.aload_n 0, 607, 0, 0, [], 0), some (.iload_n 3, 608, 3, 0, [], 0)] [[], [], [], [], [], [], [], [], [], [], [625, 626, 627, 96], [], [], [], [], []] = true := by decide +kernel
set_option maxRecDepth 100000 in
theorem okr_38 : am_okR mm_289 289 (16 * 38) [some (.iconst 1, 609, 0, 0, [], 1), some (.iadd, 610, 0, 0, [], 0), some (.iaload, 611, 0, 0, [], 0), some (.invokevirtual 61, 614, 1, 219, [1, 12], 0), none, none, some (.if_icmp .eq 1168, 617, 1782, 0, [], 0), none, none, some (.iconst 0, 618, 0, 0, [], 0), some (.ireturn, 619, 2, 0, [], 0), some (.aload_n 1, 620, 1, 0, [], 0), some (.aload_n 0, 621, 0, 0, [], 0), some (.iload_n 3, 622, 3, 0, [], 0), some (.iconst 1, 623, 0, 0, [], 1), some (.iadd, 624, 0, 0, [], 0)] [[], [], [], [1540, 1541, 1542, 109], [], [], [], [], [], [], [], [], [], [], [], []] = true := by decide +kernel
set_option maxRecDepth 100000 in
theorem okr_39 : am_okR mm_289 289 (16 * 39) [some (.iaload, 625, 0, 0, [], 0), some (.i2l, 626, 0, 0, [], 0), some (.bipush 32, 628, 0, 0, [], 32), none, some (.lshl, 629, 0, 0, [], 0), some (.aload_n 0, 630, 0, 0, [], 0), some (.iload_n 3, 631, 3, 0, [], 0), some (.iconst 2, 632, 0, 0, [], 2), some (.iadd, 633, 0, 0, [], 0), some (.iaload, 634, 0, 0, [], 0), some (.i2l, 635, 0, 0, [], 0), some (.ldc2_w 62, 638, 0, 4294967295, [], 0), none, none, some (.land, 639, 0, 0, [], 0), some (.lor, 640, 0, 0, [], 0)] [[], [], [], [], [], [], [], [], [], [], [], [1859], [], [], [], []] = true := by decide +kernel
set_option maxRecDepth 100000 in
theorem okr_40 : am_okR mm_289 289 (16 * 40) [some (.aload_n 0, 641, 0, 0, [], 0), some (.iload_n 3, 642, 3, 0, [], 0), some (.iconst 3, 643, 0, 0, [], 3), some (.iadd, 644, 0, 0, [], 0), some (.iaload, 645, 0, 0, [], 0), some (.invokevirtual 64, 648, 1, 103, [2, 11], 0), none, none, some (.aload_n 2, 649, 2, 0, [], 0), some (.aload_n 0, 650, 0, 0, [], 0), some (.iload_n 3, 651, 3, 0, [], 0), some (.iconst 1, 652, 0, 0, [], 1), some (.iadd, 653, 0, 0, [], 0), some (.iaload, 654, 0, 0, [], 0), some (.i2l, 655, 0, 0, [], 0), some (.bipush 32, 657, 0, 0, [], 32)] [[], [], [], [], [], [638, 639, 640, 96], [], [], [], [], [], [], [], [], [], []] = true := by decide +kernel
set_option maxRecDepth 100000 in
theorem okr_41 : am_okR mm_289 289 (16 * 41) [none, some (.lshl, 658, 0, 0, [], 0), some (.aload_n 0, 659, 0, 0, [], 0), some (.iload_n 3, 660, 3, 0, [], 0), some (.iconst 2, 661, 0, 0, [], 2), some (.iadd, 662, 0, 0, [], 0), some (.iaload, 663, 0, 0, [], 0), some (.i2l, 664, 0, 0, [], 0), some (.ldc2_w 62, 667, 0, 4294967295, [], 0), none, none, some (.land, 668, 0, 0, [], 0), some (.lor, 669, 0, 0, [], 0), some (.aload_n 0, 670, 0, 0, [], 0), some (.iload_n 3, 671, 3, 0, [], 0), some (.iconst 3, 672, 0, 0, [], 3)] [[], [], [], [], [], [], [], [], [1859], [], [], [], [], [], [], []] = true := by decide +kernel
set_option maxRecDepth 100000 in
theorem okr_42 : am_okR mm_289 289 (16 * 42) [some (.iadd, 673, 0, 0, [], 0), some (.iaload, 674, 0, 0, [], 0), some (.invokevirtual 68, 677, 1, 198, [2, 12], 0), none, none, some (.if_icmp .eq 1105, 680, 1782, 0, [], 0), none, none, some (.iconst 0, 681, 0, 0, [], 0), some (.ireturn, 682, 2, 0, [], 0), some (.aload_n 1, 683, 1, 0, [], 0), some (.invokevirtual 69, 686, 1, 104, [0, 11], 0), none, none, some (.aload_n 2, 687, 2, 0, [], 0), some (.invokevirtual 72, 690, 1, 199, [0, 12], 0)] [[], [], [1367, 1368, 1369, 109], [], [], [], [], [], [], [], [], [646, 647, 648, 96], [], [], [], [1375, 1376, 1377, 109]] = true := by decide +kernel
set_option maxRecDepth 100000 in
theorem okr_43 : am_okR mm_289 289 (16 * 43) [none, none, some (.if_icmp .eq 1092, 693, 1782, 0, [], 0), none, none, some (.iconst 0, 694, 0, 0, [], 0), some (.ireturn, 695, 2, 0, [], 0), some (.aload_n 1, 696, 1, 0, [], 0), some (.invokevirtual 73, 699, 1, 105, [0, 11], 0), none, none, some (.aload_n 2, 700, 2, 0, [], 0), some (.invokevirtual 76, 703, 1, 220, [0, 12], 0), none, none, some (.if_icmp .eq 1079, 706, 1782, 0, [], 0)] [[], [], [], [], [], [], [], [], [791, 792, 793, 96], [], [], [], [1552, 1553, 1554, 109], [], [], []] = true := by decide +kernel
set_option maxRecDepth 100000 in
theorem okr_44 : am_okR mm_289 289 (16 * 44) [none, none, some (.iconst 0, 707, 0, 0, [], 0), some (.ireturn, 708, 2, 0, [], 0), some (.aload_n 1, 709, 1, 0, [], 0), some (.aload_n 0, 710, 0, 0, [], 0), some (.iload_n 3, 711, 3, 0, [], 0), some (.iconst 1, 712, 0, 0, [], 1), some (.iadd, 713, 0, 0, [], 0), some (.iaload, 714, 0, 0, [], 0), some (.invokevirtual 77, 717, 1, 106, [1, 11], 0), none, none, some (.aload_n 2, 718, 2, 0, [], 0), some (.aload_n 0, 719, 0, 0, [], 0), some (.iload_n 3, 720, 3, 0, [], 0)] [[], [], [], [], [], [], [], [], [], [], [822, 823, 824, 96], [], [], [], [], []] = true := by decide +kernel
set_option maxRecDepth 100000 in
theorem okr_45 : am_okR mm_289 289 (16 * 45) [some (.iconst 1, 721, 0, 0, [], 1), some (.iadd, 722, 0, 0, [], 0), some (.iaload, 723, 0, 0, [], 0), some (.invokevirtual 80, 726, 1, 222, [1, 12], 0), none, none, some (.if_icmp .eq 1056, 729, 1782, 0, [], 0), none, none, some (.iconst 0, 730, 0, 0, [], 0), some (.ireturn, 731, 2, 0, [], 0), some (.aload_n 1, 732, 1, 0, [], 0), some (.aload_n 0, 733, 0, 0, [], 0), some (.iload_n 3, 734, 3, 0, [], 0), some (.iconst 1, 735, 0, 0, [], 1), some (.iadd, 736, 0, 0, [], 0)] [[], [], [], [1578, 1579, 1580, 109], [], [], [], [], [], [], [], [], [], [], [], []] = true := by decide +kernel
set_option maxRecDepth 100000 in
theorem okr_46 : am_okR mm_289 289 (16 * 46) [some (.iaload, 737, 0, 0, [], 0), some (.invokevirtual 81, 740, 1, 107, [1, 11], 0), none, none, some (.aload_n 2, 741, 2, 0, [], 0), some (.aload_n 0, 742, 0, 0, [], 0), some (.iload_n 3, 743, 3, 0, [], 0), some (.iconst 1, 744, 0, 0, [], 1), some (.iadd, 745, 0, 0, [], 0), some (.iaload, 746, 0, 0, [], 0), some (.invokevirtual 84, 749, 1, 223, [1, 12], 0), none, none, some (.if_icmp .eq 1033, 752, 1782, 0, [], 0), none, none] [[], [843, 844, 845, 96], [], [], [], [], [], [], [], [], [1594, 1595, 1596, 109], [], [], [], [], []] = true := by decide +kernel
set_option maxRecDepth 100000 in
theorem okr_47 : am_okR mm_289 289 (16 * 47) [some (.iconst 0, 753, 0, 0, [], 0), some (.ireturn, 754, 2, 0, [], 0), some (.aload_n 1, 755, 1, 0, [], 0), some (.aload_n 0, 756, 0, 0, [], 0), some (.iload_n 3, 757, 3, 0, [], 0), some (.iconst 1, 758, 0, 0, [], 1), some (.iadd, 759, 0, 0, [], 0), some (.iaload, 760, 0, 0, [], 0), some (.invokevirtual 85, 763, 1, 108, [1, 11], 0), none, none, some (.aload_n 2, 764, 2, 0, [], 0), some (.aload_n 0, 765, 0, 0, [], 0), some (.iload_n 3, 766, 3, 0, [], 0), some (.iconst 1, 767, 0, 0, [], 1), some (.iadd, 768, 0, 0, [], 0)] [[], [], [], [], [], [], [], [], [847, 848, 849, 96], [], [], [], [], [], [], []] = true := by decide +kernel
set_option maxRecDepth 100000 in
theorem okr_48 : am_okR mm_289 289 (16 * 48) [some (.iaload, 769, 0, 0, [], 0), some (.invokevirtual 88, 772, 1, 225, [1, 12], 0), none, none, some (.if_icmp .eq 1010, 775, 1782, 0, [], 0), none, none, some (.iconst 0, 776, 0, 0, [], 0), some (.ireturn, 777, 2, 0, [], 0), some (.aload_n 1, 778, 1, 0, [], 0), some (.aload_n 0, 779, 0, 0, [], 0), some (.iload_n 3, 780, 3, 0, [], 0), some (.iconst 1, 781, 0, 0, [], 1), some (.iadd, 782, 0, 0, [], 0), some (.iaload, 783, 0, 0, [], 0), some (.invokevirtual 89, 786, 1, 109, [1, 11], 0)] [[], [1598, 1599, 1600, 109], [], [], [], [], [], [], [], [], [], [], [], [], [], [855, 856, 857, 96]] = true := by decide +kernel
set_option maxRecDepth 100000 in
theorem okr_49 : am_okR mm_289 289 (16 * 49) [none, none, some (.aload_n 2, 787, 2, 0, [], 0), some (.aload_n 0, 788, 0, 0, [], 0), some (.iload_n 3, 789, 3, 0, [], 0), some (.iconst 1, 790, 0, 0, [], 1), some (.iadd, 791, 0, 0, [], 0), some (.iaload, 792, 0, 0, [], 0), some (.invokevirtual 92, 795, 1, 226, [1, 12], 0), none, none, some (.if_icmp .eq 987, 798, 1782, 0, [], 0), none, none, some (.iconst 0, 799, 0, 0, [], 0), some (.ireturn, 800, 2, 0, [], 0)] [[], [], [], [], [], [], [], [], [1606, 1607, 1608, 109], [], [], [], [], [], [], []] = true := by decide +kernel
set_option maxRecDepth 100000 in
theorem okr_50 : am_okR mm_289 289 (16 * 50) [some (.aload_n 1, 801, 1, 0, [], 0), some (.aload_n 0, 802, 0, 0, [], 0), some (.iload_n 3, 803, 3, 0, [], 0), some (.iconst 1, 804, 0, 0, [], 1), some (.iadd, 805, 0, 0, [], 0), some (.iaload, 806, 0, 0, [], 0), some (.invokevirtual 93, 809, 1, 113, [1, 11], 0), none, none, some (.aload_n 2, 810, 2, 0, [], 0), some (.aload_n 0, 811, 0, 0, [], 0), some (.iload_n 3, 812, 3, 0, [], 0), some (.iconst 1, 813, 0, 0, [], 1), some (.iadd, 814, 0, 0, [], 0), some (.iaload, 815, 0, 0, [], 0), some (.invokevirtual 96, 818, 1, 227, [1, 12], 0)] [[], [], [], [], [], [], [859, 860, 861, 96], [], [], [], [], [], [], [], [], [1610, 1611, 1612, 109]] = true := by decide +kernel
set_option maxRecDepth 100000 in
theorem okr_51 : am_okR mm_289 289 (16 * 51) [none, none, some (.if_icmp .eq 964, 821, 1782, 0, [], 0), none, none, some (.iconst 0, 822, 0, 0, [], 0), some (.ireturn, 823, 2, 0, [], 0), some (.aload_n 1, 824, 1, 0, [], 0), some (.aload_n 0, 825, 0, 0, [], 0), some (.iload_n 3, 826, 3, 0, [], 0), some (.iconst 1, 827, 0, 0, [], 1), some (.iadd, 828, 0, 0, [], 0), some (.iaload, 829, 0, 0, [], 0), some (.invokevirtual 97, 832, 1, 114, [1, 11], 0), none, none] [[], [], [], [], [], [], [], [], [], [], [], [], [], [863, 864, 865, 96], [], []] = true := by decide +kernel
set_option maxRecDepth 100000 in
theorem okr_52 : am_okR mm_289 289 (16 * 52) [some (.aload_n 2, 833, 2, 0, [], 0), some (.aload_n 0, 834, 0, 0, [], 0), some (.iload_n 3, 835, 3, 0, [], 0), some (.iconst 1, 836, 0, 0, [], 1), some (.iadd, 837, 0, 0, [], 0), some (.iaload, 838, 0, 0, [], 0), some (.invokevirtual 100, 841, 1, 228, [1, 12], 0), none, none, some (.if_icmp .eq 941, 844, 1782, 0, [], 0), none, none, some (.iconst 0, 845, 0, 0, [], 0), some (.ireturn, 846, 2, 0, [], 0), some (.aload_n 1, 847, 1, 0, [], 0), some (.aload_n 0, 848, 0, 0, [], 0)] [[], [], [], [], [], [], [1614, 1615, 1616, 109], [], [], [], [], [], [], [], [], []] = true := by decide +kernel
set_option maxRecDepth 100000 in
theorem okr_53 : am_okR mm_289 289 (16 * 53) [some (.iload_n 3, 849, 3, 0, [], 0), some (.iconst 1, 850, 0, 0, [], 1), some (.iadd, 851, 0, 0, [], 0), some (.iaload, 852, 0, 0, [], 0), some (.invokevirtual 101, 855, 1, 115, [1, 11], 0), none, none, some (.aload_n 2, 856, 2, 0, [], 0), some (.aload_n 0, 857, 0, 0, [], 0), some (.iload_n 3, 858, 3, 0, [], 0), some (.iconst 1, 859, 0, 0, [], 1), some (.iadd, 860, 0, 0, [], 0), some (.iaload, 861, 0, 0, [], 0), some (.invokevirtual 104, 864, 1, 231, [1, 12], 0), none, none] [[], [], [], [], [867, 868, 869, 96], [], [], [], [], [], [], [], [], [1618, 1619, 1620, 109], [], []] = true := by decide +kernel
set_option maxRecDepth 100000 in
theorem okr_54 : am_okR mm_289 289 (16 * 54) [some (.if_icmp .eq 918, 867, 1782, 0, [], 0), none, none, some (.iconst 0, 868, 0, 0, [], 0), some (.ireturn, 869, 2, 0, [], 0), some (.aload_n 1, 870, 1, 0, [], 0), some (.aload_n 0, 871, 0, 0, [], 0), some (.iload_n 3, 872, 3, 0, [], 0), some (.iconst 1, 873, 0, 0, [], 1), some (.iadd, 874, 0, 0, [], 0), some (.iaload, 875, 0, 0, [], 0), some (.aload_n 0, 876, 0, 0, [], 0), some (.iload_n 3, 877, 3, 0, [], 0), some (.iconst 2, 878, 0, 0, [], 2), some (.iadd, 879, 0, 0, [], 0), some (.iaload, 880, 0, 0, [], 0)] [[], [], [], [], [], [], [], [], [], [], [], [], [], [], [], []] = true := by decide +kernel
set_option maxRecDepth 100000 in
theorem okr_55 : am_okR mm_289 289 (16 * 55) [some (.invokevirtual 105, 883, 1, 117, [2, 11], 0), none, none, some (.aload_n 2, 884, 2, 0, [], 0), some (.aload_n 0, 885, 0, 0, [], 0), some (.iload_n 3, 886, 3, 0, [], 0), some (.iconst 1, 887, 0, 0, [], 1), some (.iadd, 888, 0, 0, [], 0), some (.iaload, 889, 0, 0, [], 0), some (.aload_n 0, 890, 0, 0, [], 0), some (.iload_n 3, 891, 3, 0, [], 0), some (.iconst 2, 892, 0, 0, [], 2), some (.iadd, 893, 0, 0, [], 0), some (.iaload, 894, 0, 0, [], 0), some (.invokevirtual 108, 897, 1, 233, [2, 12], 0), none] [[886, 887, 888, 96], [], [], [], [], [], [], [], [], [], [], [], [], [], [1630, 1631, 1632, 109], []] = true := by decide +kernel
end
section
set_option maxRecDepth 100000 in
theorem okr_56 : am_okR mm_289 289 (16 * 56) [none, some (.if_icmp .eq 885, 900, 1782, 0, [], 0), none, none, some (.iconst 0, 901, 0, 0, [], 0), some (.ireturn, 902, 2, 0, [], 0), some (.aload_n 1, 903, 1, 0, [], 0), some (.aload_n 0, 904, 0, 0, [], 0), some (.iload_n 3, 905, 3, 0, [], 0), some (.iconst 1, 906, 0, 0, [], 1), some (.iadd, 907, 0, 0, [], 0), some (.iaload, 908, 0, 0, [], 0), some (.invokevirtual 109, 911, 1, 118, [1, 11], 0), none, none, some (.aload_n 2, 912, 2, 0, [], 0)] [[], [], [], [], [], [], [], [], [], [], [], [], [903, 904, 905, 96], [], [], []] = true := by decide +kernel
set_option maxRecDepth 100000 in
theorem okr_57 : am_okR mm_289 289 (16 * 57) [some (.aload_n 0, 913, 0, 0, [], 0), some (.iload_n 3, 914, 3, 0, [], 0), some (.iconst 1, 915, 0, 0, [], 1), some (.iadd, 916, 0, 0, [], 0), some (.iaload, 917, 0, 0, [], 0), some (.invokevirtual 112, 920, 1, 241, [1, 12], 0), none, none, some (.if_icmp .eq 862, 923, 1782, 0, [], 0), none, none, some (.iconst 0, 924, 0, 0, [], 0), some (.ireturn, 925, 2, 0, [], 0), some (.aload_n 1, 926, 1, 0, [], 0), some (.aload_n 0, 927, 0, 0, [], 0), some (.iload_n 3, 928, 3, 0, [], 0)] [[], [], [], [], [], [1638, 1639, 1640, 109], [], [], [], [], [], [], [], [], [], []] = true := by decide +kernel
set_option maxRecDepth 100000 in
theorem okr_58 : am_okR mm_289 289 (16 * 58) [some (.iconst 1, 929, 0, 0, [], 1), some (.iadd, 930, 0, 0, [], 0), some (.iaload, 931, 0, 0, [], 0), some (.aload_n 0, 932, 0, 0, [], 0), some (.iload_n 3, 933, 3, 0, [], 0), some (.iconst 2, 934, 0, 0, [], 2), some (.iadd, 935, 0, 0, [], 0), some (.iaload, 936, 0, 0, [], 0), some (.invokevirtual 113, 939, 1, 119, [2, 11], 0), none, none, some (.aload_n 2, 940, 2, 0, [], 0), some (.aload_n 0, 941, 0, 0, [], 0), some (.iload_n 3, 942, 3, 0, [], 0), some (.iconst 1, 943, 0, 0, [], 1), some (.iadd, 944, 0, 0, [], 0)] [[], [], [], [], [], [], [], [], [928, 929, 930, 96], [], [], [], [], [], [], []] = true := by decide +kernel
set_option maxRecDepth 100000 in
theorem okr_59 : am_okR mm_289 289 (16 * 59) [some (.iaload, 945, 0, 0, [], 0), some (.aload_n 0, 946, 0, 0, [], 0), some (.iload_n 3, 947, 3, 0, [], 0), some (.iconst 2, 948, 0, 0, [], 2), some (.iadd, 949, 0, 0, [], 0), some (.iaload, 950, 0, 0, [], 0), some (.invokevirtual 116, 953, 1, 242, [2, 12], 0), none, none, some (.if_icmp .eq 829, 956, 1782, 0, [], 0), none, none, some (.iconst 0, 957, 0, 0, [], 0), some (.ireturn, 958, 2, 0, [], 0), some (.aload_n 1, 959, 1, 0, [], 0), some (.aload_n 0, 960, 0, 0, [], 0)] [[], [], [], [], [], [], [1669, 1670, 1671, 109], [], [], [], [], [], [], [], [], []] = true := by decide +kernel
set_option maxRecDepth 100000 in
theorem okr_60 : am_okR mm_289 289 (16 * 60) [some (.iload_n 3, 961, 3, 0, [], 0), some (.iconst 1, 962, 0, 0, [], 1), some (.iadd, 963, 0, 0, [], 0), some (.iaload, 964, 0, 0, [], 0), some (.invokevirtual 117, 967, 1, 120, [1, 11], 0), none, none, some (.aload_n 2, 968, 2, 0, [], 0), some (.aload_n 0, 969, 0, 0, [], 0), some (.iload_n 3, 970, 3, 0, [], 0), some (.iconst 1, 971, 0, 0, [], 1), some (.iadd, 972, 0, 0, [], 0), some (.iaload, 973, 0, 0, [], 0), some (.invokevirtual 120, 976, 1, 243, [1, 12], 0), none, none] [[], [], [], [], [932, 933, 934, 96], [], [], [], [], [], [], [], [], [1673, 1674, 1675, 109], [], []] = true := by decide +kernel
set_option maxRecDepth 100000 in
theorem okr_61 : am_okR mm_289 289 (16 * 61) [some (.if_icmp .eq 806, 979, 1782, 0, [], 0), none, none, some (.iconst 0, 980, 0, 0, [], 0), some (.ireturn, 981, 2, 0, [], 0), some (.aload_n 1, 982, 1, 0, [], 0), some (.aload_n 0, 983, 0, 0, [], 0), some (.iload_n 3, 984, 3, 0, [], 0), some (.iconst 1, 985, 0, 0, [], 1), some (.iadd, 986, 0, 0, [], 0), some (.iaload, 987, 0, 0, [], 0), some (.aload_n 0, 988, 0, 0, [], 0), some (.iload_n 3, 989, 3, 0, [], 0), some (.iconst 2, 990, 0, 0, [], 2), some (.iadd, 991, 0, 0, [], 0), some (.iaload, 992, 0, 0, [], 0)] [[], [], [], [], [], [], [], [], [], [], [], [], [], [], [], []] = true := by decide +kernel
set_option maxRecDepth 100000 in
theorem okr_62 : am_okR mm_289 289 (16 * 62) [some (.invokevirtual 121, 995, 1, 121, [2, 11], 0), none, none, some (.aload_n 2, 996, 2, 0, [], 0), some (.aload_n 0, 997, 0, 0, [], 0), some (.iload_n 3, 998, 3, 0, [], 0), some (.iconst 1, 999, 0, 0, [], 1), some (.iadd, 1000, 0, 0, [], 0), some (.iaload, 1001, 0, 0, [], 0), some (.aload_n 0, 1002, 0, 0, [], 0), some (.iload_n 3, 1003, 3, 0, [], 0), some (.iconst 2, 1004, 0, 0, [], 2), some (.iadd, 1005, 0, 0, [], 0), some (.iaload, 1006, 0, 0, [], 0), some (.invokevirtual 124, 1009, 1, 245, [2, 12], 0), none] [[936, 937, 938, 96], [], [], [], [], [], [], [], [], [], [], [], [], [], [1677, 1678, 1679, 109], []] = true := by decide +kernel
set_option maxRecDepth 100000 in
theorem okr_63 : am_okR mm_289 289 (16 * 63) [none, some (.if_icmp .eq 773, 1012, 1782, 0, [], 0), none, none, some (.iconst 0, 1013, 0, 0, [], 0), some (.ireturn, 1014, 2, 0, [], 0), some (.aload_n 1, 1015, 1, 0, [], 0), some (.aload_n 0, 1016, 0, 0, [], 0), some (.iload_n 3, 1017, 3, 0, [], 0), some (.iconst 1, 1018, 0, 0, [], 1), some (.iadd, 1019, 0, 0, [], 0), some (.iaload, 1020, 0, 0, [], 0), some (.aload_n 0, 1021, 0, 0, [], 0), some (.iload_n 3, 1022, 3, 0, [], 0), some (.iconst 2, 1023, 0, 0, [], 2), some (.iadd, 1024, 0, 0, [], 0)] [[], [], [], [], [], [], [], [], [], [], [], [], [], [], [], []] = true := by decide +kernel
set_option maxRecDepth 100000 in
theorem okr_64 : am_okR mm_289 289 (16 * 64) [some (.iaload, 1025, 0, 0, [], 0), some (.invokevirtual 125, 1028, 1, 122, [2, 11], 0), none, none, some (.aload_n 2, 1029, 2, 0, [], 0), some (.aload_n 0, 1030, 0, 0, [], 0), some (.iload_n 3, 1031, 3, 0, [], 0), some (.iconst 1, 1032, 0, 0, [], 1), some (.iadd, 1033, 0, 0, [], 0), some (.iaload, 1034, 0, 0, [], 0), some (.aload_n 0, 1035, 0, 0, [], 0), some (.iload_n 3, 1036, 3, 0, [], 0), some (.iconst 2, 1037, 0, 0, [], 2), some (.iadd, 1038, 0, 0, [], 0), some (.iaload, 1039, 0, 0, [], 0), some (.invokevirtual 128, 1042, 1, 246, [2, 12], 0)] [[], [944, 945, 946, 96], [], [], [], [], [], [], [], [], [], [], [], [], [], [1685, 1686, 1687, 109]] = true := by decide +kernel
set_option maxRecDepth 100000 in
theorem okr_65 : am_okR mm_289 289 (16 * 65) [none, none, some (.if_icmp .eq 740, 1045, 1782, 0, [], 0), none, none, some (.iconst 0, 1046, 0, 0, [], 0), some (.ireturn, 1047, 2, 0, [], 0), some (.aload_n 1, 1048, 1, 0, [], 0), some (.aload_n 0, 1049, 0, 0, [], 0), some (.iload_n 3, 1050, 3, 0, [], 0), some (.iconst 1, 1051, 0, 0, [], 1), some (.iadd, 1052, 0, 0, [], 0), some (.iaload, 1053, 0, 0, [], 0), some (.invokevirtual 129, 1056, 1, 125, [1, 11], 0), none, none] [[], [], [], [], [], [], [], [], [], [], [], [], [], [955, 956, 957, 96], [], []] = true := by decide +kernel
set_option maxRecDepth 100000 in
theorem okr_66 : am_okR mm_289 289 (16 * 66) [some (.aload_n 2, 1057, 2, 0, [], 0), some (.aload_n 0, 1058, 0, 0, [], 0), some (.iload_n 3, 1059, 3, 0, [], 0), some (.iconst 1, 1060, 0, 0, [], 1), some (.iadd, 1061, 0, 0, [], 0), some (.iaload, 1062, 0, 0, [], 0), some (.invokevirtual 132, 1065, 1, 248, [1, 12], 0), none, none, some (.if_icmp .eq 717, 1068, 1782, 0, [], 0), none, none, some (.iconst 0, 1069, 0, 0, [], 0), some (.ireturn, 1070, 2, 0, [], 0), some (.aload_n 1, 1071, 1, 0, [], 0), some (.aload_n 0, 1072, 0, 0, [], 0)] [[], [], [], [], [], [], [1689, 1690, 1691, 109], [], [], [], [], [], [], [], [], []] = true := by decide +kernel
set_option maxRecDepth 100000 in
theorem okr_67 : am_okR mm_289 289 (16 * 67) [some (.iload_n 3, 1073, 3, 0, [], 0), some (.iconst 1, 1074, 0, 0, [], 1), some (.iadd, 1075, 0, 0, [], 0), some (.iaload, 1076, 0, 0, [], 0), some (.invokevirtual 133, 1079, 1, 126, [1, 11], 0), none, none, some (.aload_n 2, 1080, 2, 0, [], 0), some (.aload_n 0, 1081, 0, 0, [], 0), some (.iload_n 3, 1082, 3, 0, [], 0), some (.iconst 1, 1083, 0, 0, [], 1), some (.iadd, 1084, 0, 0, [], 0), some (.iaload, 1085, 0, 0, [], 0), some (.invokevirtual 136, 1088, 1, 249, [1, 12], 0), none, none] [[], [], [], [], [967, 968, 969, 96], [], [], [], [], [], [], [], [], [1697, 1698, 1699, 109], [], []] = true := by decide +kernel
set_option maxRecDepth 100000 in
theorem okr_68 : am_okR mm_289 289 (16 * 68) [some (.if_icmp .eq 694, 1091, 1782, 0, [], 0), none, none, some (.iconst 0, 1092, 0, 0, [], 0), some (.ireturn, 1093, 2, 0, [], 0), some (.aload_n 1, 1094, 1, 0, [], 0), some (.aload_n 0, 1095, 0, 0, [], 0), some (.iload_n 3, 1096, 3, 0, [], 0), some (.iconst 1, 1097, 0, 0, [], 1), some (.iadd, 1098, 0, 0, [], 0), some (.iaload, 1099, 0, 0, [], 0), some (.aload_n 0, 1100, 0, 0, [], 0), some (.iload_n 3, 1101, 3, 0, [], 0), some (.iconst 2, 1102, 0, 0, [], 2), some (.iadd, 1103, 0, 0, [], 0), some (.iaload, 1104, 0, 0, [], 0)] [[], [], [], [], [], [], [], [], [], [], [], [], [], [], [], []] = true := by decide +kernel
set_option maxRecDepth 100000 in
theorem okr_69 : am_okR mm_289 289 (16 * 69) [some (.aload_n 0, 1105, 0, 0, [], 0), some (.iload_n 3, 1106, 3, 0, [], 0), some (.iconst 3, 1107, 0, 0, [], 3), some (.iadd, 1108, 0, 0, [], 0), some (.iaload, 1109, 0, 0, [], 0), some (.aload_n 0, 1110, 0, 0, [], 0), some (.iload_n 3, 1111, 3, 0, [], 0), some (.iconst 4, 1112, 0, 0, [], 4), some (.iadd, 1113, 0, 0, [], 0), some (.iaload, 1114, 0, 0, [], 0), some (.invokevirtual 137, 1117, 1, 127, [4, 11], 0), none, none, some (.aload_n 2, 1118, 2, 0, [], 0), some (.aload_n 0, 1119, 0, 0, [], 0), some (.iload_n 3, 1120, 3, 0, [], 0)] [[], [], [], [], [], [], [], [], [], [], [971, 972, 973, 96], [], [], [], [], []] = true := by decide +kernel
set_option maxRecDepth 100000 in
theorem okr_70 : am_okR mm_289 289 (16 * 70) [some (.iconst 1, 1121, 0, 0, [], 1), some (.iadd, 1122, 0, 0, [], 0), some (.iaload, 1123, 0, 0, [], 0), some (.aload_n 0, 1124, 0, 0, [], 0), some (.iload_n 3, 1125, 3, 0, [], 0), some (.iconst 2, 1126, 0, 0, [], 2), some (.iadd, 1127, 0, 0, [], 0), some (.iaload, 1128, 0, 0, [], 0), some (.aload_n 0, 1129, 0, 0, [], 0), some (.iload_n 3, 1130, 3, 0, [], 0), some (.iconst 3, 1131, 0, 0, [], 3), some (.iadd, 1132, 0, 0, [], 0), some (.iaload, 1133, 0, 0, [], 0), some (.aload_n 0, 1134, 0, 0, [], 0), some (.iload_n 3, 1135, 3, 0, [], 0), some (.iconst 4, 1136, 0, 0, [], 4)] [[], [], [], [], [], [], [], [], [], [], [], [], [], [], [], []] = true := by decide +kernel
set_option maxRecDepth 100000 in
theorem okr_71 : am_okR mm_289 289 (16 * 71) [some (.iadd, 1137, 0, 0, [], 0), some (.iaload, 1138, 0, 0, [], 0), some (.invokevirtual 140, 1141, 1, 250, [4, 12], 0), none, none, some (.if_icmp .eq 641, 1144, 1782, 0, [], 0), none, none, some (.iconst 0, 1145, 0, 0, [], 0), some (.ireturn, 1146, 2, 0, [], 0), some (.aload_n 1, 1147, 1, 0, [], 0), some (.invokevirtual 141, 1150, 1, 128, [0, 11], 0), none, none, some (.aload_n 2, 1151, 2, 0, [], 0), some (.invokevirtual 144, 1154, 1, 251, [0, 12], 0)] [[], [], [1701, 1702, 1703, 109], [], [], [], [], [], [], [], [], [975, 976, 977, 96], [], [], [], [1705, 1706, 1707, 109]] = true := by decide +kernel
set_option maxRecDepth 100000 in
theorem okr_72 : am_okR mm_289 289 (16 * 72) [none, none, some (.if_icmp .eq 628, 1157, 1782, 0, [], 0), none, none, some (.iconst 0, 1158, 0, 0, [], 0), some (.ireturn, 1159, 2, 0, [], 0), some (.aload_n 1, 1160, 1, 0, [], 0), some (.aload_n 0, 1161, 0, 0, [], 0), some (.iload_n 3, 1162, 3, 0, [], 0), some (.iconst 1, 1163, 0, 0, [], 1), some (.iadd, 1164, 0, 0, [], 0), some (.iaload, 1165, 0, 0, [], 0), some (.invokevirtual 145, 1168, 1, 129, [1, 11], 0), none, none] [[], [], [], [], [], [], [], [], [], [], [], [], [], [979, 980, 981, 96], [], []] = true := by decide +kernel
set_option maxRecDepth 100000 in
theorem okr_73 : am_okR mm_289 289 (16 * 73) [some (.aload_n 2, 1169, 2, 0, [], 0), some (.aload_n 0, 1170, 0, 0, [], 0), some (.iload_n 3, 1171, 3, 0, [], 0), some (.iconst 1, 1172, 0, 0, [], 1), some (.iadd, 1173, 0, 0, [], 0), some (.iaload, 1174, 0, 0, [], 0), some (.invokevirtual 148, 1177, 1, 255, [1, 12], 0), none, none, some (.if_icmp .eq 605, 1180, 1782, 0, [], 0), none, none, some (.iconst 0, 1181, 0, 0, [], 0), some (.ireturn, 1182, 2, 0, [], 0), some (.aload_n 1, 1183, 1, 0, [], 0), some (.invokevirtual 149, 1186, 1, 130, [0, 11], 0)] [[], [], [], [], [], [], [1709, 1710, 1711, 109], [], [], [], [], [], [], [], [], [1007, 1008, 1009, 96]] = true := by decide +kernel
set_option maxRecDepth 100000 in
theorem okr_74 : am_okR mm_289 289 (16 * 74) [none, none, some (.aload_n 2, 1187, 2, 0, [], 0), some (.invokevirtual 152, 1190, 1, 256, [0, 12], 0), none, none, some (.if_icmp .eq 592, 1193, 1782, 0, [], 0), none, none, some (.iconst 0, 1194, 0, 0, [], 0), some (.ireturn, 1195, 2, 0, [], 0), some (.aload_n 1, 1196, 1, 0, [], 0), some (.aload_n 0, 1197, 0, 0, [], 0), some (.iload_n 3, 1198, 3, 0, [], 0), some (.iconst 1, 1199, 0, 0, [], 1), some (.iadd, 1200, 0, 0, [], 0)] [[], [], [], [1725, 1726, 1727, 109], [], [], [], [], [], [], [], [], [], [], [], []] = true := by decide +kernel
set_option maxRecDepth 100000 in
theorem okr_75 : am_okR mm_289 289 (16 * 75) [some (.iaload, 1201, 0, 0, [], 0), some (.invokevirtual 153, 1204, 1, 131, [1, 11], 0), none, none, some (.aload_n 2, 1205, 2, 0, [], 0), some (.aload_n 0, 1206, 0, 0, [], 0), some (.iload_n 3, 1207, 3, 0, [], 0), some (.iconst 1, 1208, 0, 0, [], 1), some (.iadd, 1209, 0, 0, [], 0), some (.iaload, 1210, 0, 0, [], 0), some (.invokevirtual 156, 1213, 1, 257, [1, 12], 0), none, none, some (.if_icmp .eq 569, 1216, 1782, 0, [], 0), none, none] [[], [1017, 1018, 1019, 96], [], [], [], [], [], [], [], [], [1729, 1730, 1731, 109], [], [], [], [], []] = true := by decide +kernel
set_option maxRecDepth 100000 in
theorem okr_76 : am_okR mm_289 289 (16 * 76) [some (.iconst 0, 1217, 0, 0, [], 0), some (.ireturn, 1218, 2, 0, [], 0), some (.aload_n 1, 1219, 1, 0, [], 0), some (.invokevirtual 157, 1222, 1, 132, [0, 11], 0), none, none, some (.aload_n 2, 1223, 2, 0, [], 0), some (.invokevirtual 160, 1226, 1, 259, [0, 12], 0), none, none, some (.if_icmp .eq 556, 1229, 1782, 0, [], 0), none, none, some (.iconst 0, 1230, 0, 0, [], 0), some (.ireturn, 1231, 2, 0, [], 0), some (.aload_n 1, 1232, 1, 0, [], 0)] [[], [], [], [1021, 1022, 1023, 96], [], [], [], [1733, 1734, 1735, 109], [], [], [], [], [], [], [], []] = true := by decide +kernel
set_option maxRecDepth 100000 in
theorem okr_77 : am_okR mm_289 289 (16 * 77) [some (.aload_n 0, 1233, 0, 0, [], 0), some (.iload_n 3, 1234, 3, 0, [], 0), some (.iconst 1, 1235, 0, 0, [], 1), some (.iadd, 1236, 0, 0, [], 0), some (.iaload, 1237, 0, 0, [], 0), some (.aload_n 0, 1238, 0, 0, [], 0), some (.iload_n 3, 1239, 3, 0, [], 0), some (.iconst 2, 1240, 0, 0, [], 2), some (.iadd, 1241, 0, 0, [], 0), some (.iaload, 1242, 0, 0, [], 0), some (.invokevirtual 161, 1245, 1, 133, [2, 11], 0), none, none, some (.aload_n 2, 1246, 2, 0, [], 0), some (.aload_n 0, 1247, 0, 0, [], 0), some (.iload_n 3, 1248, 3, 0, [], 0)] [[], [], [], [], [], [], [], [], [], [], [1033, 1034, 1035, 96], [], [], [], [], []] = true := by decide +kernel
set_option maxRecDepth 100000 in
theorem okr_78 : am_okR mm_289 289 (16 * 78) [some (.iconst 1, 1249, 0, 0, [], 1), some (.iadd, 1250, 0, 0, [], 0), some (.iaload, 1251, 0, 0, [], 0), some (.aload_n 0, 1252, 0, 0, [], 0), some (.iload_n 3, 1253, 3, 0, [], 0), some (.iconst 2, 1254, 0, 0, [], 2), some (.iadd, 1255, 0, 0, [], 0), some (.iaload, 1256, 0, 0, [], 0), some (.invokevirtual 164, 1259, 1, 260, [2, 12], 0), none, none, some (.if_icmp .eq 523, 1262, 1782, 0, [], 0), none, none, some (.iconst 0, 1263, 0, 0, [], 0), some (.ireturn, 1264, 2, 0, [], 0)] [[], [], [], [], [], [], [], [], [1742, 1743, 1744, 109], [], [], [], [], [], [], []] = true := by decide +kernel
set_option maxRecDepth 100000 in
theorem okr_79 : am_okR mm_289 289 (16 * 79) [some (.aload_n 1, 1265, 1, 0, [], 0), some (.aload_n 0, 1266, 0, 0, [], 0), some (.iload_n 3, 1267, 3, 0, [], 0), some (.iconst 1, 1268, 0, 0, [], 1), some (.iadd, 1269, 0, 0, [], 0), some (.iaload, 1270, 0, 0, [], 0), some (.invokevirtual 165, 1273, 1, 136, [1, 11], 0), none, none, some (.aload_n 2, 1274, 2, 0, [], 0), some (.aload_n 0, 1275, 0, 0, [], 0), some (.iload_n 3, 1276, 3, 0, [], 0), some (.iconst 1, 1277, 0, 0, [], 1), some (.iadd, 1278, 0, 0, [], 0), some (.iaload, 1279, 0, 0, [], 0), some (.invokevirtual 168, 1282, 1, 261, [1, 12], 0)] [[], [], [], [], [], [], [1037, 1038, 1039, 96], [], [], [], [], [], [], [], [], [1746, 1747, 1748, 109]] = true := by decide +kernel
set_option maxRecDepth 100000 in
theorem okr_80 : am_okR mm_289 289 (16 * 80) [none, none, some (.if_icmp .eq 500, 1285, 1782, 0, [], 0), none, none, some (.iconst 0, 1286, 0, 0, [], 0), some (.ireturn, 1287, 2, 0, [], 0), some (.aload_n 1, 1288, 1, 0, [], 0), some (.aload_n 0, 1289, 0, 0, [], 0), some (.iload_n 3, 1290, 3, 0, [], 0), some (.iconst 1, 1291, 0, 0, [], 1), some (.iadd, 1292, 0, 0, [], 0), some (.iaload, 1293, 0, 0, [], 0), some (.aload_n 0, 1294, 0, 0, [], 0), some (.iload_n 3, 1295, 3, 0, [], 0), some (.iconst 2, 1296, 0, 0, [], 2)] [[], [], [], [], [], [], [], [], [], [], [], [], [], [], [], []] = true := by decide +kernel
set_option maxRecDepth 100000 in
theorem okr_81 : am_okR mm_289 289 (16 * 81) [some (.iadd, 1297, 0, 0, [], 0), some (.iaload, 1298, 0, 0, [], 0), some (.invokevirtual 169, 1301, 1, 137, [2, 11], 0), none, none, some (.aload_n 2, 1302, 2, 0, [], 0), some (.aload_n 0, 1303, 0, 0, [], 0), some (.iload_n 3, 1304, 3, 0, [], 0), some (.iconst 1, 1305, 0, 0, [], 1), some (.iadd, 1306, 0, 0, [], 0), some (.iaload, 1307, 0, 0, [], 0), some (.aload_n 0, 1308, 0, 0, [], 0), some (.iload_n 3, 1309, 3, 0, [], 0), some (.iconst 2, 1310, 0, 0, [], 2), some (.iadd, 1311, 0, 0, [], 0), some (.iaload, 1312, 0, 0, [], 0)] [[], [], [1044, 1045, 1046, 96], [], [], [], [], [], [], [], [], [], [], [], [], []] = true := by decide +kernel
set_option maxRecDepth 100000 in
theorem okr_82 : am_okR mm_289 289 (16 * 82) [some (.invokevirtual 172, 1315, 1, 263, [2, 12], 0), none, none, some (.if_icmp .eq 467, 1318, 1782, 0, [], 0), none, none, some (.iconst 0, 1319, 0, 0, [], 0), some (.ireturn, 1320, 2, 0, [], 0), some (.aload_n 1, 1321, 1, 0, [], 0), some (.aload_n 0, 1322, 0, 0, [], 0), some (.iload_n 3, 1323, 3, 0, [], 0), some (.iconst 1, 1324, 0, 0, [], 1), some (.iadd, 1325, 0, 0, [], 0), some (.iaload, 1326, 0, 0, [], 0), some (.aload_n 0, 1327, 0, 0, [], 0), some (.iload_n 3, 1328, 3, 0, [], 0)] [[1750, 1751, 1752, 109], [], [], [], [], [], [], [], [], [], [], [], [], [], [], []] = true := by decide +kernel
set_option maxRecDepth 100000 in
theorem okr_83 : am_okR mm_289 289 (16 * 83) [some (.iconst 2, 1329, 0, 0, [], 2), some (.iadd, 1330, 0, 0, [], 0), some (.iaload, 1331, 0, 0, [], 0), some (.aload_n 0, 1332, 0, 0, [], 0), some (.iload_n 3, 1333, 3, 0, [], 0), some (.iconst 3, 1334, 0, 0, [], 3), some (.iadd, 1335, 0, 0, [], 0), some (.iaload, 1336, 0, 0, [], 0), some (.invokevirtual 173, 1339, 1, 138, [3, 11], 0), none, none, some (.aload_n 2, 1340, 2, 0, [], 0), some (.aload_n 0, 1341, 0, 0, [], 0), some (.iload_n 3, 1342, 3, 0, [], 0), some (.iconst 1, 1343, 0, 0, [], 1), some (.iadd, 1344, 0, 0, [], 0)] [[], [], [], [], [], [], [], [], [1052, 1053, 1054, 96], [], [], [], [], [], [], []] = true := by decide +kernel
end
section
set_option maxRecDepth 100000 in
theorem okr_84 : am_okR mm_289 289 (16 * 84) [some (.iaload, 1345, 0, 0, [], 0), some (.aload_n 0, 1346, 0, 0, [], 0), some (.iload_n 3, 1347, 3, 0, [], 0), some (.iconst 2, 1348, 0, 0, [], 2), some (.iadd, 1349, 0, 0, [], 0), some (.iaload, 1350, 0, 0, [], 0), some (.aload_n 0, 1351, 0, 0, [], 0), some (.iload_n 3, 1352, 3, 0, [], 0), some (.iconst 3, 1353, 0, 0, [], 3), some (.iadd, 1354, 0, 0, [], 0), some (.iaload, 1355, 0, 0, [], 0), some (.invokevirtual 176, 1358, 1, 264, [3, 12], 0), none, none, some (.if_icmp .eq 424, 1361, 1782, 0, [], 0), none] [[], [], [], [], [], [], [], [], [], [], [], [1758, 1759, 1760, 109], [], [], [], []] = true := by decide +kernel
set_option maxRecDepth 100000 in
theorem okr_85 : am_okR mm_289 289 (16 * 85) [none, some (.iconst 0, 1362, 0, 0, [], 0), some (.ireturn, 1363, 2, 0, [], 0), some (.aload_n 1, 1364, 1, 0, [], 0), some (.invokevirtual 177, 1367, 1, 139, [0, 11], 0), none, none, some (.aload_n 2, 1368, 2, 0, [], 0), some (.invokevirtual 180, 1371, 1, 265, [0, 12], 0), none, none, some (.if_icmp .eq 411, 1374, 1782, 0, [], 0), none, none, some (.iconst 0, 1375, 0, 0, [], 0), some (.ireturn, 1376, 2, 0, [], 0)] [[], [], [], [], [1056, 1057, 1058, 96], [], [], [], [1762, 1763, 1764, 109], [], [], [], [], [], [], []] = true := by decide +kernel
set_option maxRecDepth 100000 in
theorem okr_86 : am_okR mm_289 289 (16 * 86) [some (.aload_n 1, 1377, 1, 0, [], 0), some (.aload_n 0, 1378, 0, 0, [], 0), some (.iload_n 3, 1379, 3, 0, [], 0), some (.iconst 1, 1380, 0, 0, [], 1), some (.iadd, 1381, 0, 0, [], 0), some (.iaload, 1382, 0, 0, [], 0), some (.aload_n 0, 1383, 0, 0, [], 0), some (.iload_n 3, 1384, 3, 0, [], 0), some (.iconst 2, 1385, 0, 0, [], 2), some (.iadd, 1386, 0, 0, [], 0), some (.iaload, 1387, 0, 0, [], 0), some (.aload_n 0, 1388, 0, 0, [], 0), some (.iload_n 3, 1389, 3, 0, [], 0), some (.iconst 3, 1390, 0, 0, [], 3), some (.iadd, 1391, 0, 0, [], 0), some (.iaload, 1392, 0, 0, [], 0)] [[], [], [], [], [], [], [], [], [], [], [], [], [], [], [], []] = true := by decide +kernel
set_option maxRecDepth 100000 in
theorem okr_87 : am_okR mm_289 289 (16 * 87) [some (.invokevirtual 181, 1395, 1, 142, [3, 11], 0), none, none, some (.aload_n 2, 1396, 2, 0, [], 0), some (.aload_n 0, 1397, 0, 0, [], 0), some (.iload_n 3, 1398, 3, 0, [], 0), some (.iconst 1, 1399, 0, 0, [], 1), some (.iadd, 1400, 0, 0, [], 0), some (.iaload, 1401, 0, 0, [], 0), some (.aload_n 0, 1402, 0, 0, [], 0), some (.iload_n 3, 1403, 3, 0, [], 0), some (.iconst 2, 1404, 0, 0, [], 2), some (.iadd, 1405, 0, 0, [], 0), some (.iaload, 1406, 0, 0, [], 0), some (.aload_n 0, 1407, 0, 0, [], 0), some (.iload_n 3, 1408, 3, 0, [], 0)] [[1064, 1065, 1066, 96], [], [], [], [], [], [], [], [], [], [], [], [], [], [], []] = true := by decide +kernel
set_option maxRecDepth 100000 in
theorem okr_88 : am_okR mm_289 289 (16 * 88) [some (.iconst 3, 1409, 0, 0, [], 3), some (.iadd, 1410, 0, 0, [], 0), some (.iaload, 1411, 0, 0, [], 0), some (.invokevirtual 184, 1414, 1, 267, [3, 12], 0), none, none, some (.if_icmp .eq 368, 1417, 1782, 0, [], 0), none, none, some (.iconst 0, 1418, 0, 0, [], 0), some (.ireturn, 1419, 2, 0, [], 0), some (.aload_n 1, 1420, 1, 0, [], 0), some (.aload_n 0, 1421, 0, 0, [], 0), some (.iload_n 3, 1422, 3, 0, [], 0), some (.iconst 1, 1423, 0, 0, [], 1), some (.iadd, 1424, 0, 0, [], 0)] [[], [], [], [1770, 1771, 1772, 109], [], [], [], [], [], [], [], [], [], [], [], []] = true := by decide +kernel
set_option maxRecDepth 100000 in
theorem okr_89 : am_okR mm_289 289 (16 * 89) [some (.iaload, 1425, 0, 0, [], 0), some (.aload_n 0, 1426, 0, 0, [], 0), some (.iload_n 3, 1427, 3, 0, [], 0), some (.iconst 2, 1428, 0, 0, [], 2), some (.iadd, 1429, 0, 0, [], 0), some (.iaload, 1430, 0, 0, [], 0), some (.aload_n 0, 1431, 0, 0, [], 0), some (.iload_n 3, 1432, 3, 0, [], 0), some (.iconst 3, 1433, 0, 0, [], 3), some (.iadd, 1434, 0, 0, [], 0), some (.iaload, 1435, 0, 0, [], 0), some (.invokevirtual 185, 1438, 1, 143, [3, 11], 0), none, none, some (.aload_n 2, 1439, 2, 0, [], 0), some (.aload_n 0, 1440, 0, 0, [], 0)] [[], [], [], [], [], [], [], [], [], [], [], [1071, 1072, 1073, 96], [], [], [], []] = true := by decide +kernel
set_option maxRecDepth 100000 in
theorem okr_90 : am_okR mm_289 289 (16 * 90) [some (.iload_n 3, 1441, 3, 0, [], 0), some (.iconst 1, 1442, 0, 0, [], 1), some (.iadd, 1443, 0, 0, [], 0), some (.iaload, 1444, 0, 0, [], 0), some (.aload_n 0, 1445, 0, 0, [], 0), some (.iload_n 3, 1446, 3, 0, [], 0), some (.iconst 2, 1447, 0, 0, [], 2), some (.iadd, 1448, 0, 0, [], 0), some (.iaload, 1449, 0, 0, [], 0), some (.aload_n 0, 1450, 0, 0, [], 0), some (.iload_n 3, 1451, 3, 0, [], 0), some (.iconst 3, 1452, 0, 0, [], 3), some (.iadd, 1453, 0, 0, [], 0), some (.iaload, 1454, 0, 0, [], 0), some (.invokevirtual 188, 1457, 1, 269, [3, 12], 0), none] [[], [], [], [], [], [], [], [], [], [], [], [], [], [], [1777, 1778, 1779, 109], []] = true := by decide +kernel
set_option maxRecDepth 100000 in
theorem okr_91 : am_okR mm_289 289 (16 * 91) [none, some (.if_icmp .eq 325, 1460, 1782, 0, [], 0), none, none, some (.iconst 0, 1461, 0, 0, [], 0), some (.ireturn, 1462, 2, 0, [], 0), some (.aload_n 1, 1463, 1, 0, [], 0), some (.aload_n 0, 1464, 0, 0, [], 0), some (.iload_n 3, 1465, 3, 0, [], 0), some (.iconst 1, 1466, 0, 0, [], 1), some (.iadd, 1467, 0, 0, [], 0), some (.iaload, 1468, 0, 0, [], 0), some (.aload_n 0, 1469, 0, 0, [], 0), some (.iload_n 3, 1470, 3, 0, [], 0), some (.iconst 2, 1471, 0, 0, [], 2), some (.iadd, 1472, 0, 0, [], 0)] [[], [], [], [], [], [], [], [], [], [], [], [], [], [], [], []] = true := by decide +kernel
set_option maxRecDepth 100000 in
theorem okr_92 : am_okR mm_289 289 (16 * 92) [some (.iaload, 1473, 0, 0, [], 0), some (.aload_n 0, 1474, 0, 0, [], 0), some (.iload_n 3, 1475, 3, 0, [], 0), some (.iconst 3, 1476, 0, 0, [], 3), some (.iadd, 1477, 0, 0, [], 0), some (.iaload, 1478, 0, 0, [], 0), some (.invokevirtual 189, 1481, 1, 145, [3, 11], 0), none, none, some (.aload_n 2, 1482, 2, 0, [], 0), some (.aload_n 0, 1483, 0, 0, [], 0), some (.iload_n 3, 1484, 3, 0, [], 0), some (.iconst 1, 1485, 0, 0, [], 1), some (.iadd, 1486, 0, 0, [], 0), some (.iaload, 1487, 0, 0, [], 0), some (.aload_n 0, 1488, 0, 0, [], 0)] [[], [], [], [], [], [], [1082, 1083, 1084, 96], [], [], [], [], [], [], [], [], []] = true := by decide +kernel
set_option maxRecDepth 100000 in
theorem okr_93 : am_okR mm_289 289 (16 * 93) [some (.iload_n 3, 1489, 3, 0, [], 0), some (.iconst 2, 1490, 0, 0, [], 2), some (.iadd, 1491, 0, 0, [], 0), some (.iaload, 1492, 0, 0, [], 0), some (.aload_n 0, 1493, 0, 0, [], 0), some (.iload_n 3, 1494, 3, 0, [], 0), some (.iconst 3, 1495, 0, 0, [], 3), some (.iadd, 1496, 0, 0, [], 0), some (.iaload, 1497, 0, 0, [], 0), some (.invokevirtual 192, 1500, 1, 271, [3, 12], 0), none, none, some (.if_icmp .eq 282, 1503, 1782, 0, [], 0), none, none, some (.iconst 0, 1504, 0, 0, [], 0)] [[], [], [], [], [], [], [], [], [], [1784, 1785, 1786, 109], [], [], [], [], [], []] = true := by decide +kernel
set_option maxRecDepth 100000 in
theorem okr_94 : am_okR mm_289 289 (16 * 94) [some (.ireturn, 1505, 2, 0, [], 0), some (.aload_n 1, 1506, 1, 0, [], 0), some (.aload_n 0, 1507, 0, 0, [], 0), some (.iload_n 3, 1508, 3, 0, [], 0), some (.iconst 1, 1509, 0, 0, [], 1), some (.iadd, 1510, 0, 0, [], 0), some (.iaload, 1511, 0, 0, [], 0), some (.aload_n 0, 1512, 0, 0, [], 0), some (.iload_n 3, 1513, 3, 0, [], 0), some (.iconst 2, 1514, 0, 0, [], 2), some (.iadd, 1515, 0, 0, [], 0), some (.iaload, 1516, 0, 0, [], 0), some (.aload_n 0, 1517, 0, 0, [], 0), some (.iload_n 3, 1518, 3, 0, [], 0), some (.iconst 3, 1519, 0, 0, [], 3), some (.iadd, 1520, 0, 0, [], 0)] [[], [], [], [], [], [], [], [], [], [], [], [], [], [], [], []] = true := by decide +kernel
set_option maxRecDepth 100000 in
theorem okr_95 : am_okR mm_289 289 (16 * 95) [some (.iaload, 1521, 0, 0, [], 0), some (.invokevirtual 193, 1524, 1, 146, [3, 11], 0), none, none, some (.aload_n 2, 1525, 2, 0, [], 0), some (.aload_n 0, 1526, 0, 0, [], 0), some (.iload_n 3, 1527, 3, 0, [], 0), some (.iconst 1, 1528, 0, 0, [], 1), some (.iadd, 1529, 0, 0, [], 0), some (.iaload, 1530, 0, 0, [], 0), some (.aload_n 0, 1531, 0, 0, [], 0), some (.iload_n 3, 1532, 3, 0, [], 0), some (.iconst 2, 1533, 0, 0, [], 2), some (.iadd, 1534, 0, 0, [], 0), some (.iaload, 1535, 0, 0, [], 0), some (.aload_n 0, 1536, 0, 0, [], 0)] [[], [1090, 1091, 1092, 96], [], [], [], [], [], [], [], [], [], [], [], [], [], []] = true := by decide +kernel
set_option maxRecDepth 100000 in
theorem okr_96 : am_okR mm_289 289 (16 * 96) [some (.iload_n 3, 1537, 3, 0, [], 0), some (.iconst 3, 1538, 0, 0, [], 3), some (.iadd, 1539, 0, 0, [], 0), some (.iaload, 1540, 0, 0, [], 0), some (.invokevirtual 196, 1543, 1, 273, [3, 12], 0), none, none, some (.if_icmp .eq 239, 1546, 1782, 0, [], 0), none, none, some (.iconst 0, 1547, 0, 0, [], 0), some (.ireturn, 1548, 2, 0, [], 0), some (.aload_n 1, 1549, 1, 0, [], 0), some (.aload_n 0, 1550, 0, 0, [], 0), some (.iload_n 3, 1551, 3, 0, [], 0), some (.iconst 1, 1552, 0, 0, [], 1)] [[], [], [], [], [1792, 1793, 1794, 109], [], [], [], [], [], [], [], [], [], [], []] = true := by decide +kernel
set_option maxRecDepth 100000 in
theorem okr_97 : am_okR mm_289 289 (16 * 97) [some (.iadd, 1553, 0, 0, [], 0), some (.iaload, 1554, 0, 0, [], 0), some (.aload_n 0, 1555, 0, 0, [], 0), some (.iload_n 3, 1556, 3, 0, [], 0), some (.iconst 2, 1557, 0, 0, [], 2), some (.iadd, 1558, 0, 0, [], 0), some (.iaload, 1559, 0, 0, [], 0), some (.aload_n 0, 1560, 0, 0, [], 0), some (.iload_n 3, 1561, 3, 0, [], 0), some (.iconst 3, 1562, 0, 0, [], 3), some (.iadd, 1563, 0, 0, [], 0), some (.iaload, 1564, 0, 0, [], 0), some (.invokevirtual 197, 1567, 1, 147, [3, 11], 0), none, none, some (.aload_n 2, 1568, 2, 0, [], 0)] [[], [], [], [], [], [], [], [], [], [], [], [], [1094, 1095, 1096, 96], [], [], []] = true := by decide +kernel
set_option maxRecDepth 100000 in
theorem okr_98 : am_okR mm_289 289 (16 * 98) [some (.aload_n 0, 1569, 0, 0, [], 0), some (.iload_n 3, 1570, 3, 0, [], 0), some (.iconst 1, 1571, 0, 0, [], 1), some (.iadd, 1572, 0, 0, [], 0), some (.iaload, 1573, 0, 0, [], 0), some (.aload_n 0, 1574, 0, 0, [], 0), some (.iload_n 3, 1575, 3, 0, [], 0), some (.iconst 2, 1576, 0, 0, [], 2), some (.iadd, 1577, 0, 0, [], 0), some (.iaload, 1578, 0, 0, [], 0), some (.aload_n 0, 1579, 0, 0, [], 0), some (.iload_n 3, 1580, 3, 0, [], 0), some (.iconst 3, 1581, 0, 0, [], 3), some (.iadd, 1582, 0, 0, [], 0), some (.iaload, 1583, 0, 0, [], 0), some (.invokevirtual 200, 1586, 1, 274, [3, 12], 0)] [[], [], [], [], [], [], [], [], [], [], [], [], [], [], [], [1800, 1801, 1802, 109]] = true := by decide +kernel
set_option maxRecDepth 100000 in
theorem okr_99 : am_okR mm_289 289 (16 * 99) [none, none, some (.if_icmp .eq 196, 1589, 1782, 0, [], 0), none, none, some (.iconst 0, 1590, 0, 0, [], 0), some (.ireturn, 1591, 2, 0, [], 0), some (.aload_n 1, 1592, 1, 0, [], 0), some (.aload_n 0, 1593, 0, 0, [], 0), some (.iload_n 3, 1594, 3, 0, [], 0), some (.iconst 1, 1595, 0, 0, [], 1), some (.iadd, 1596, 0, 0, [], 0), some (.iaload, 1597, 0, 0, [], 0), some (.aload_n 0, 1598, 0, 0, [], 0), some (.iload_n 3, 1599, 3, 0, [], 0), some (.iconst 2, 1600, 0, 0, [], 2)] [[], [], [], [], [], [], [], [], [], [], [], [], [], [], [], []] = true := by decide +kernel
set_option maxRecDepth 100000 in
theorem okr_100 : am_okR mm_289 289 (16 * 100) [some (.iadd, 1601, 0, 0, [], 0), some (.iaload, 1602, 0, 0, [], 0), some (.aload_n 0, 1603, 0, 0, [], 0), some (.iload_n 3, 1604, 3, 0, [], 0), some (.iconst 3, 1605, 0, 0, [], 3), some (.iadd, 1606, 0, 0, [], 0), some (.iaload, 1607, 0, 0, [], 0), some (.invokevirtual 201, 1610, 1, 151, [3, 11], 0), none, none, some (.aload_n 2, 1611, 2, 0, [], 0), some (.aload_n 0, 1612, 0, 0, [], 0), some (.iload_n 3, 1613, 3, 0, [], 0), some (.iconst 1, 1614, 0, 0, [], 1), some (.iadd, 1615, 0, 0, [], 0), some (.iaload, 1616, 0, 0, [], 0)] [[], [], [], [], [], [], [], [1098, 1099, 1100, 96], [], [], [], [], [], [], [], []] = true := by decide +kernel
set_option maxRecDepth 100000 in
theorem okr_101 : am_okR mm_289 289 (16 * 101) [some (.aload_n 0, 1617, 0, 0, [], 0), some (.iload_n 3, 1618, 3, 0, [], 0), some (.iconst 2, 1619, 0, 0, [], 2), some (.iadd, 1620, 0, 0, [], 0), some (.iaload, 1621, 0, 0, [], 0), some (.aload_n 0, 1622, 0, 0, [], 0), some (.iload_n 3, 1623, 3, 0, [], 0), some (.iconst 3, 1624, 0, 0, [], 3), some (.iadd, 1625, 0, 0, [], 0), some (.iaload, 1626, 0, 0, [], 0), some (.invokevirtual 204, 1629, 1, 275, [3, 12], 0), none, none, some (.if_icmp .eq 153, 1632, 1782, 0, [], 0), none, none] [[], [], [], [], [], [], [], [], [], [], [1804, 1805, 1806, 109], [], [], [], [], []] = true := by decide +kernel
set_option maxRecDepth 100000 in
theorem okr_102 : am_okR mm_289 289 (16 * 102) [some (.iconst 0, 1633, 0, 0, [], 0), some (.ireturn, 1634, 2, 0, [], 0), some (.aload_n 1, 1635, 1, 0, [], 0), some (.aload_n 0, 1636, 0, 0, [], 0), some (.iload_n 3, 1637, 3, 0, [], 0), some (.iconst 1, 1638, 0, 0, [], 1), some (.iadd, 1639, 0, 0, [], 0), some (.iaload, 1640, 0, 0, [], 0), some (.aload_n 0, 1641, 0, 0, [], 0), some (.iload_n 3, 1642, 3, 0, [], 0), some (.iconst 2, 1643, 0, 0, [], 2), some (.iadd, 1644, 0, 0, [], 0), some (.iaload, 1645, 0, 0, [], 0), some (.invokevirtual 205, 1648, 1, 154, [2, 11], 0), none, none] [[], [], [], [], [], [], [], [], [], [], [], [], [], [1113, 1114, 1115, 96], [], []] = true := by decide +kernel
set_option maxRecDepth 100000 in
theorem okr_103 : am_okR mm_289 289 (16 * 103) [some (.aload_n 2, 1649, 2, 0, [], 0), some (.aload_n 0, 1650, 0, 0, [], 0), some (.iload_n 3, 1651, 3, 0, [], 0), some (.iconst 1, 1652, 0, 0, [], 1), some (.iadd, 1653, 0, 0, [], 0), some (.iaload, 1654, 0, 0, [], 0), some (.aload_n 0, 1655, 0, 0, [], 0), some (.iload_n 3, 1656, 3, 0, [], 0), some (.iconst 2, 1657, 0, 0, [], 2), some (.iadd, 1658, 0, 0, [], 0), some (.iaload, 1659, 0, 0, [], 0), some (.invokevirtual 208, 1662, 1, 277, [2, 12], 0), none, none, some (.if_icmp .eq 120, 1665, 1782, 0, [], 0), none] [[], [], [], [], [], [], [], [], [], [], [], [1808, 1809, 1810, 109], [], [], [], []] = true := by decide +kernel
set_option maxRecDepth 100000 in
theorem okr_104 : am_okR mm_289 289 (16 * 104) [none, some (.iconst 0, 1666, 0, 0, [], 0), some (.ireturn, 1667, 2, 0, [], 0), some (.aload_n 1, 1668, 1, 0, [], 0), some (.aload_n 0, 1669, 0, 0, [], 0), some (.iload_n 3, 1670, 3, 0, [], 0), some (.iconst 1, 1671, 0, 0, [], 1), some (.iadd, 1672, 0, 0, [], 0), some (.iaload, 1673, 0, 0, [], 0), some (.aload_n 0, 1674, 0, 0, [], 0), some (.iload_n 3, 1675, 3, 0, [], 0), some (.iconst 2, 1676, 0, 0, [], 2), some (.iadd, 1677, 0, 0, [], 0), some (.iaload, 1678, 0, 0, [], 0), some (.aload_n 0, 1679, 0, 0, [], 0), some (.iload_n 3, 1680, 3, 0, [], 0)] [[], [], [], [], [], [], [], [], [], [], [], [], [], [], [], []] = true := by decide +kernel
set_option maxRecDepth 100000 in
theorem okr_105 : am_okR mm_289 289 (16 * 105) [some (.iconst 3, 1681, 0, 0, [], 3), some (.iadd, 1682, 0, 0, [], 0), some (.iaload, 1683, 0, 0, [], 0), some (.invokevirtual 209, 1686, 1, 155, [3, 11], 0), none, none, some (.aload_n 2, 1687, 2, 0, [], 0), some (.aload_n 0, 1688, 0, 0, [], 0), some (.iload_n 3, 1689, 3, 0, [], 0), some (.iconst 1, 1690, 0, 0, [], 1), some (.iadd, 1691, 0, 0, [], 0), some (.iaload, 1692, 0, 0, [], 0), some (.aload_n 0, 1693, 0, 0, [], 0), some (.iload_n 3, 1694, 3, 0, [], 0), some (.iconst 2, 1695, 0, 0, [], 2), some (.iadd, 1696, 0, 0, [], 0)] [[], [], [], [1122, 1123, 1124, 96], [], [], [], [], [], [], [], [], [], [], [], []] = true := by decide +kernel
set_option maxRecDepth 100000 in
theorem okr_106 : am_okR mm_289 289 (16 * 106) [some (.iaload, 1697, 0, 0, [], 0), some (.aload_n 0, 1698, 0, 0, [], 0), some (.iload_n 3, 1699, 3, 0, [], 0), some (.iconst 3, 1700, 0, 0, [], 3), some (.iadd, 1701, 0, 0, [], 0), some (.iaload, 1702, 0, 0, [], 0), some (.invokevirtual 212, 1705, 1, 283, [3, 12], 0), none, none, some (.if_icmp .eq 77, 1708, 1782, 0, [], 0), none, none, some (.iconst 0, 1709, 0, 0, [], 0), some (.ireturn, 1710, 2, 0, [], 0), some (.aload_n 1, 1711, 1, 0, [], 0), some (.aload_n 0, 1712, 0, 0, [], 0)] [[], [], [], [], [], [], [1816, 1817, 1818, 109], [], [], [], [], [], [], [], [], []] = true := by decide +kernel
set_option maxRecDepth 100000 in
theorem okr_107 : am_okR mm_289 289 (16 * 107) [some (.iload_n 3, 1713, 3, 0, [], 0), some (.iconst 1, 1714, 0, 0, [], 1), some (.iadd, 1715, 0, 0, [], 0), some (.iaload, 1716, 0, 0, [], 0), some (.invokevirtual 213, 1719, 1, 158, [1, 11], 0), none, none, some (.aload_n 2, 1720, 2, 0, [], 0), some (.aload_n 0, 1721, 0, 0, [], 0), some (.iload_n 3, 1722, 3, 0, [], 0), some (.iconst 1, 1723, 0, 0, [], 1), some (.iadd, 1724, 0, 0, [], 0), some (.iaload, 1725, 0, 0, [], 0), some (.invokevirtual 216, 1728, 1, 284, [1, 12], 0), none, none] [[], [], [], [], [1220, 1221, 1222, 96], [], [], [], [], [], [], [], [], [1840, 1841, 1842, 109], [], []] = true := by decide +kernel
set_option maxRecDepth 100000 in
theorem okr_108 : am_okR mm_289 289 (16 * 108) [some (.if_icmp .eq 54, 1731, 1782, 0, [], 0), none, none, some (.iconst 0, 1732, 0, 0, [], 0), some (.ireturn, 1733, 2, 0, [], 0), some (.aload_n 1, 1734, 1, 0, [], 0), some (.aload_n 0, 1735, 0, 0, [], 0), some (.iload_n 3, 1736, 3, 0, [], 0), some (.iconst 1, 1737, 0, 0, [], 1), some (.iadd, 1738, 0, 0, [], 0), some (.iaload, 1739, 0, 0, [], 0), some (.invokevirtual 217, 1742, 1, 159, [1, 11], 0), none, none, some (.aload_n 2, 1743, 2, 0, [], 0), some (.aload_n 0, 1744, 0, 0, [], 0)] [[], [], [], [], [], [], [], [], [], [], [], [1224, 1225, 1226, 96], [], [], [], []] = true := by decide +kernel
set_option maxRecDepth 100000 in
theorem okr_109 : am_okR mm_289 289 (16 * 109) [some (.iload_n 3, 1745, 3, 0, [], 0), some (.iconst 1, 1746, 0, 0, [], 1), some (.iadd, 1747, 0, 0, [], 0), some (.iaload, 1748, 0, 0, [], 0), some (.invokevirtual 220, 1751, 1, 286, [1, 12], 0), none, none, some (.if_icmp .eq 31, 1754, 1782, 0, [], 0), none, none, some (.iconst 0, 1755, 0, 0, [], 0), some (.ireturn, 1756, 2, 0, [], 0), some (.aload_n 1, 1757, 1, 0, [], 0), some (.invokevirtual 221, 1760, 1, 160, [0, 11], 0), none, none] [[], [], [], [], [1844, 1845, 1846, 109], [], [], [], [], [], [], [], [], [1228, 1229, 1230, 96], [], []] = true := by decide +kernel
set_option maxRecDepth 100000 in
theorem okr_110 : am_okR mm_289 289 (16 * 110) [some (.aload_n 2, 1761, 2, 0, [], 0), some (.invokevirtual 224, 1764, 1, 287, [0, 12], 0), none, none, some (.if_icmp .eq 18, 1767, 1782, 0, [], 0), none, none, some (.iconst 0, 1768, 0, 0, [], 0), some (.ireturn, 1769, 2, 0, [], 0), some (.aload_n 1, 1770, 1, 0, [], 0), some (.invokevirtual 225, 1773, 1, 161, [0, 11], 0), none, none, some (.aload_n 2, 1774, 2, 0, [], 0), some (.invokevirtual 228, 1777, 1, 288, [0, 12], 0), none] [[], [1851, 1852, 1853, 109], [], [], [], [], [], [], [], [], [1238, 1239, 1240, 96], [], [], [], [1855, 1856, 1857, 109], []] = true := by decide +kernel
set_option maxRecDepth 100000 in
theorem okr_111 : am_okR mm_289 289 (16 * 111) [none, some (.if_icmp .eq 5, 1780, 1782, 0, [], 0), none, none, some (.iconst 0, 1781, 0, 0, [], 0), some (.ireturn, 1782, 2, 0, [], 0), some (.iinc 3 5, 1785, 3, 0, [], 5), none, none, some (.goto (-1767), 1788, 18, 0, [], 0), none, none, some (.iconst 1, 1789, 0, 0, [], 1), some (.ireturn, 1790, 2, 0, [], 0)] [[], [], [], [], [], [], [], [], [], [], [], [], [], []] = true := by decide +kernel
set_option maxRecDepth 100000 in
theorem ok_289 : am_okM 289 mm_289 := ⟨⟨[[[], [], [], [], [], [], [], [], [], [], [], [], [], [], [], []], [[], [], [], [], [], [], [], [], [], [], [], [], [], [], [], []], [[], [], [], [], [], [], [], [], [], [], [], [], [], [], [], []], [[], [], [], [], [], [], [], [], [], [], [], [], [], [], [], []], [[], [], [], [], [], [], [], [], [], [], [], [], [], [], [], []], [[], [], [], [], [], [], [], [], [], [], [], [], [], [], [], []], [[], [], [], [], [], [], [], [], [], [], [], [], [], [], [], []], [[], [], [], [], [], [], [], [], [], [], [], [], [], [], [], []], [[], [], [], [], [], [], [], [], [], [], [], [], [], [], [], []], [[], [], [], [], [], [], [], [], [], [], [], [], [], [], [], []], [[], [], [], [], [], [], [], [], [], [], [], [], [], [], [], []], [[], [], [], [], [], [], [], [], [], [], [], [], [], [], [], []], [[], [], [], [], [], [], [], [], [], [], [], [], [], [], [], []], [[], [], [], [], [], [], [], [], [], [], [], [], [], [], [], []], [[], [], [], [], [], [], [], [], [], [], [], [], [], [], [], []], [[], [], [], [], [], [], [], [], [], [], [], [], [], [], [], []], [[], [], [], [], [], [], [], [], [], [], [], [], [], [], [], []], [[], [], [], [], [], [464, 465, 466, 96], [], [], [], [], [], [], [], [], [], []], [[], [], [], [], [], [], [], [], [], [], [], [], [], [1435, 1436, 1437, 109], [], []], [[], [], [], [], [], [], [], [], [], [], [], [], [], [], [], []], [[471, 472, 473, 96], [], [], [], [], [], [], [], [], [], [], [], [], [], [1452, 1453, 1454, 109], []], [[], [], [], [], [], [], [], [], [], [], [], [], [], [], [], []], [[], [], [], [], [], [], [577, 578, 579, 96], [], [], [], [], [], [], [], [], []], [[], [], [], [], [], [], [], [], [], [1504, 1505, 1506, 109], [], [], [], [], [], []], [[], [], [], [], [], [], [], [], [], [], [], [], [593, 594, 595, 96], [], [], []], [[], [], [], [], [], [], [], [], [], [], [1512, 1513, 1514, 109], [], [], [], [], []], [[], [], [], [], [], [], [], [], [], [], [], [], [], [597, 598, 599, 96], [], []], [[], [], [], [], [], [], [], [], [], [], [], [1516, 1517, 1518, 109], [], [], [], []], [[], [], [], [], [], [], [], [], [], [], [], [], [], [], [], []], [[], [], [], [601, 602, 603, 96], [], [], [], [], [], [], [], [], [], [], [], []], [[], [], [], [], [], [], [1520, 1521, 1522, 109], [], [], [], [], [], [], [], [], []], [[], [], [], [], [], [], [], [], [], [605, 606, 607, 96], [], [], [], [], [], []], [[], [], [], [], [], [], [], [1524, 1525, 1526, 109], [], [], [], [], [], [], [], []], [[], [], [], [], [], [], [], [], [], [], [609, 610, 611, 96], [], [], [], [], []], [[], [], [], [], [], [], [], [], [1528, 1529, 1530, 109], [], [], [], [], [], [], []], [[], [], [], [], [], [], [613, 614, 615, 96], [], [], [], [], [], [], [], [], [1532, 1533, 1534, 109]], [[], [], [], [], [], [], [], [], [617, 618, 619, 96], [], [], [], [1536, 1537, 1538, 109], [], [], []], [[], [], [], [], [], [], [], [], [], [], [625, 626, 627, 96], [], [], [], [], []], [[], [], [], [1540, 1541, 1542, 109], [], [], [], [], [], [], [], [], [], [], [], []], [[], [], [], [], [], [], [], [], [], [], [], [1859], [], [], [], []], [[], [], [], [], [], [638, 639, 640, 96], [], [], [], [], [], [], [], [], [], []], [[], [], [], [], [], [], [], [], [1859], [], [], [], [], [], [], []], [[], [], [1367, 1368, 1369, 109], [], [], [], [], [], [], [], [], [646, 647, 648, 96], [], [], [], [1375, 1376, 1377, 109]], [[], [], [], [], [], [], [], [], [791, 792, 793, 96], [], [], [], [1552, 1553, 1554, 109], [], [], []], [[], [], [], [], [], [], [], [], [], [], [822, 823, 824, 96], [], [], [], [], []], [[], [], [], [1578, 1579, 1580, 109], [], [], [], [], [], [], [], [], [], [], [], []], [[], [843, 844, 845, 96], [], [], [], [], [], [], [], [], [1594, 1595, 1596, 109], [], [], [], [], []], [[], [], [], [], [], [], [], [], [847, 848, 849, 96], [], [], [], [], [], [], []], [[], [1598, 1599, 1600, 109], [], [], [], [], [], [], [], [], [], [], [], [], [], [855, 856, 857, 96]], [[], [], [], [], [], [], [], [], [1606, 1607, 1608, 109], [], [], [], [], [], [], []], [[], [], [], [], [], [], [859, 860, 861, 96], [], [], [], [], [], [], [], [], [1610, 1611, 1612, 109]], [[], [], [], [], [], [], [], [], [], [], [], [], [], [863, 864, 865, 96], [], []], [[], [], [], [], [], [], [1614, 1615, 1616, 109], [], [], [], [], [], [], [], [], []], [[], [], [], [], [867, 868, 869, 96], [], [], [], [], [], [], [], [], [1618, 1619, 1620, 109], [], []], [[], [], [], [], [], [], [], [], [], [], [], [], [], [], [], []], [[886, 887, 888, 96], [], [], [], [], [], [], [], [], [], [], [], [], [], [1630, 1631, 1632, 109], []], [[], [], [], [], [], [], [], [], [], [], [], [], [903, 904, 905, 96], [], [], []], [[], [], [], [], [], [1638, 1639, 1640, 109], [], [], [], [], [], [], [], [], [], []], [[], [], [], [], [], [], [], [], [928, 929, 930, 96], [], [], [], [], [], [], []], [[], [], [], [], [], [], [1669, 1670, 1671, 109], [], [], [], [], [], [], [], [], []], [[], [], [], [], [932, 933, 934, 96], [], [], [], [], [], [], [], [], [1673, 1674, 1675, 109], [], []], [[], [], [], [], [], [], [], [], [], [], [], [], [], [], [], []], [[936, 937, 938, 96], [], [], [], [], [], [], [], [], [], [], [], [], [], [1677, 1678, 1679, 109], []], [[], [], [], [], [], [], [], [], [], [], [], [], [], [], [], []], [[], [944, 945, 946, 96], [], [], [], [], [], [], [], [], [], [], [], [], [], [1685, 1686, 1687, 109]], [[], [], [], [], [], [], [], [], [], [], [], [], [], [955, 956, 957, 96], [], []], [[], [], [], [], [], [], [1689, 1690, 1691, 109], [], [], [], [], [], [], [], [], []], [[], [], [], [], [967, 968, 969, 96], [], [], [], [], [], [], [], [], [1697, 1698, 1699, 109], [], []], [[], [], [], [], [], [], [], [], [], [], [], [], [], [], [], []], [[], [], [], [], [], [], [], [], [], [], [971, 972, 973, 96], [], [], [], [], []], [[], [], [], [], [], [], [], [], [], [], [], [], [], [], [], []], [[], [], [1701, 1702, 1703, 109], [], [], [], [], [], [], [], [], [975, 976, 977, 96], [], [], [], [1705, 1706, 1707, 109]], [[], [], [], [], [], [], [], [], [], [], [], [], [], [979, 980, 981, 96], [], []], [[], [], [], [], [], [], [1709, 1710, 1711, 109], [], [], [], [], [], [], [], [], [1007, 1008, 1009, 96]], [[], [], [], [1725, 1726, 1727, 109], [], [], [], [], [], [], [], [], [], [], [], []], [[], [1017, 1018, 1019, 96], [], [], [], [], [], [], [], [], [1729, 1730, 1731, 109], [], [], [], [], []], [[], [], [], [1021, 1022, 1023, 96], [], [], [], [1733, 1734, 1735, 109], [], [], [], [], [], [], [], []], [[], [], [], [], [], [], [], [], [], [], [1033, 1034, 1035, 96], [], [], [], [], []], [[], [], [], [], [], [], [], [], [1742, 1743, 1744, 109], [], [], [], [], [], [], []], [[], [], [], [], [], [], [1037, 1038, 1039, 96], [], [], [], [], [], [], [], [], [1746, 1747, 1748, 109]], [[], [], [], [], [], [], [], [], [], [], [], [], [], [], [], []], [[], [], [1044, 1045, 1046, 96], [], [], [], [], [], [], [], [], [], [], [], [], []], [[1750, 1751, 1752, 109], [], [], [], [], [], [], [], [], [], [], [], [], [], [], []], [[], [], [], [], [], [], [], [], [1052, 1053, 1054, 96], [], [], [], [], [], [], []], [[], [], [], [], [], [], [], [], [], [], [], [1758, 1759, 1760, 109], [], [], [], []], [[], [], [], [], [1056, 1057, 1058, 96], [], [], [], [1762, 1763, 1764, 109], [], [], [], [], [], [], []], [[], [], [], [], [], [], [], [], [], [], [], [], [], [], [], []], [[1064, 1065, 1066, 96], [], [], [], [], [], [], [], [], [], [], [], [], [], [], []], [[], [], [], [1770, 1771, 1772, 109], [], [], [], [], [], [], [], [], [], [], [], []], [[], [], [], [], [], [], [], [], [], [], [], [1071, 1072, 1073, 96], [], [], [], []], [[], [], [], [], [], [], [], [], [], [], [], [], [], [], [1777, 1778, 1779, 109], []], [[], [], [], [], [], [], [], [], [], [], [], [], [], [], [], []], [[], [], [], [], [], [], [1082, 1083, 1084, 96], [], [], [], [], [], [], [], [], []], [[], [], [], [], [], [], [], [], [], [1784, 1785, 1786, 109], [], [], [], [], [], []], [[], [], [], [], [], [], [], [], [], [], [], [], [], [], [], []], [[], [1090, 1091, 1092, 96], [], [], [], [], [], [], [], [], [], [], [], [], [], []], [[], [], [], [], [1792, 1793, 1794, 109], [], [], [], [], [], [], [], [], [], [], []], [[], [], [], [], [], [], [], [], [], [], [], [], [1094, 1095, 1096, 96], [], [], []], [[], [], [], [], [], [], [], [], [], [], [], [], [], [], [], [1800, 1801, 1802, 109]], [[], [], [], [], [], [], [], [], [], [], [], [], [], [], [], []], [[], [], [], [], [], [], [], [1098, 1099, 1100, 96], [], [], [], [], [], [], [], []], [[], [], [], [], [], [], [], [], [], [], [1804, 1805, 1806, 109], [], [], [], [], []], [[], [], [], [], [], [], [], [], [], [], [], [], [], [1113, 1114, 1115, 96], [], []], [[], [], [], [], [], [], [], [], [], [], [], [1808, 1809, 1810, 109], [], [], [], []], [[], [], [], [], [], [], [], [], [], [], [], [], [], [], [], []], [[], [], [], [1122, 1123, 1124, 96], [], [], [], [], [], [], [], [], [], [], [], []], [[], [], [], [], [], [], [1816, 1817, 1818, 109], [], [], [], [], [], [], [], [], []], [[], [], [], [], [1220, 1221, 1222, 96], [], [], [], [], [], [], [], [], [1840, 1841, 1842, 109], [], []], [[], [], [], [], [], [], [], [], [], [], [], [1224, 1225, 1226, 96], [], [], [], []], [[], [], [], [], [1844, 1845, 1846, 109], [], [], [], [], [], [], [], [], [1228, 1229, 1230, 96], [], []], [[], [1851, 1852, 1853, 109], [], [], [], [], [], [], [], [], [1238, 1239, 1240, 96], [], [], [], [1855, 1856, 1857, 109], []], [[], [], [], [], [], [], [], [], [], [], [], [], [], []]], am_okC_mk okr_0 (by decide) (am_okC_mk okr_1 (by decide) (am_okC_mk okr_2 (by decide) (am_okC_mk okr_3 (by decide) (am_okC_mk okr_4 (by decide) (am_okC_mk okr_5 (by decide) (am_okC_mk okr_6 (by decide) (am_okC_mk okr_7 (by decide) (am_okC_mk okr_8 (by decide) (am_okC_mk okr_9 (by decide) (am_okC_mk okr_10 (by decide) (am_okC_mk okr_11 (by decide) (am_okC_mk okr_12 (by decide) (am_okC_mk okr_13 (by decide) (am_okC_mk okr_14 (by decide) (am_okC_mk okr_15 (by decide) (am_okC_mk okr_16 (by decide) (am_okC_mk okr_17 (by decide) (am_okC_mk okr_18 (by decide) (am_okC_mk okr_19 (by decide) (am_okC_mk okr_20 (by decide) (am_okC_mk okr_21 (by decide) (am_okC_mk okr_22 (by decide) (am_okC_mk okr_23 (by decide) (am_okC_mk okr_24 (by decide) (am_okC_mk okr_25 (by decide) (am_okC_mk okr_26 (by decide) (am_okC_mk okr_27 (by decide) (am_okC_mk okr_28 (by decide) (am_okC_mk okr_29 (by decide) (am_okC_mk okr_30 (by decide) (am_okC_mk okr_31 (by decide) (am_okC_mk okr_32 (by decide) (am_okC_mk okr_33 (by decide) (am_okC_mk okr_34 (by decide) (am_okC_mk okr_35 (by decide) (am_okC_mk okr_36 (by decide) (am_okC_mk okr_37 (by decide) (am_okC_mk okr_38 (by decide) (am_okC_mk okr_39 (by decide) (am_okC_mk okr_40 (by decide) (am_okC_mk okr_41 (by decide) (am_okC_mk okr_42 (by decide) (am_okC_mk okr_43 (by decide) (am_okC_mk okr_44 (by decide) (am_okC_mk okr_45 (by decide) (am_okC_mk okr_46 (by decide) (am_okC_mk okr_47 (by decide) (am_okC_mk okr_48 (by decide) (am_okC_mk okr_49 (by decide) (am_okC_mk okr_50 (by decide) (am_okC_mk okr_51 (by decide) (am_okC_mk okr_52 (by decide) (am_okC_mk okr_53 (by decide) (am_okC_mk okr_54 (by decide) (am_okC_mk okr_55 (by decide) (am_okC_mk okr_56 (by decide) (am_okC_mk okr_57 (by decide) (am_okC_mk okr_58 (by decide) (am_okC_mk okr_59 (by decide) (am_okC_mk okr_60 (by decide) (am_okC_mk okr_61 (by decide) (am_okC_mk okr_62 (by decide) (am_okC_mk okr_63 (by decide) (am_okC_mk okr_64 (by decide) (am_okC_mk okr_65 (by decide) (am_okC_mk okr_66 (by decide) (am_okC_mk okr_67 (by decide) (am_okC_mk okr_68 (by decide) (am_okC_mk okr_69 (by decide) (am_okC_mk okr_70 (by decide) (am_okC_mk okr_71 (by decide) (am_okC_mk okr_72 (by decide) (am_okC_mk okr_73 (by decide) (am_okC_mk okr_74 (by decide) (am_okC_mk okr_75 (by decide) (am_okC_mk okr_76 (by decide) (am_okC_mk okr_77 (by decide) (am_okC_mk okr_78 (by decide) (am_okC_mk okr_79 (by decide) (am_okC_mk okr_80 (by decide) (am_okC_mk okr_81 (by decide) (am_okC_mk okr_82 (by decide) (am_okC_mk okr_83 (by decide) (am_okC_mk okr_84 (by decide) (am_okC_mk okr_85 (by decide) (am_okC_mk okr_86 (by decide) (am_okC_mk okr_87 (by decide) (am_okC_mk okr_88 (by decide) (am_okC_mk okr_89 (by decide) (am_okC_mk okr_90 (by decide) (am_okC_mk okr_91 (by decide) (am_okC_mk okr_92 (by decide) (am_okC_mk okr_93 (by decide) (am_okC_mk okr_94 (by decide) (am_okC_mk okr_95 (by decide) (am_okC_mk okr_96 (by decide) (am_okC_mk okr_97 (by decide) (am_okC_mk okr_98 (by decide) (am_okC_mk okr_99 (by decide) (am_okC_mk okr_100 (by decide) (am_okC_mk okr_101 (by decide) (am_okC_mk okr_102 (by decide) (am_okC_mk okr_103 (by decide) (am_okC_mk okr_104 (by decide) (am_okC_mk okr_105 (by decide) (am_okC_mk okr_106 (by decide) (am_okC_mk okr_107 (by decide) (am_okC_mk okr_108 (by decide) (am_okC_mk okr_109 (by decide) (am_okC_mk okr_110 (by decide) (am_okC_mk okr_111 (by decide) (rfl))))))))))))))))))))))))))))))))))))))))))))))))))))))))))))))))))))))))))))))))))))))))))))))))))))))))))))))))⟩, by decide +kernel, by decide +kernel⟩
end
section
def am_P (mi : Nat) (M : am_M) : Prop := am_okM mi M ∧ (M.1.cls ≠ "BrokenLoavesLaw" → Cond.code M.1 M.2.1 M.2.2.1 M.2.2.2.1 ∈ am_tb)
def am_Pl (k : Nat) (l : List am_M) : Prop := ∀ (j : Nat) (M : am_M), am_nth l j = some M → am_P (k + j) M
theorem am_Pl_n (k : Nat) : am_Pl k [] := fun _ _ h => by simp [am_nth] at h
theorem am_Pl_c {k : Nat} {x : am_M} {l : List am_M} (h : am_P k x) (hl : am_Pl (k + 1) l) : am_Pl k (x :: l)
  | 0, M, e => by
    simp only [am_nth, Option.some.injEq] at e
    subst e
    exact h
  | j + 1, M, e => by
    have := hl j M e
    rw [show k + (j + 1) = k + 1 + j by omega]
    exact this
def am_Pll (k : Nat) (ls : List (List am_M)) : Prop := ∀ (q : Nat) (l : List am_M), am_nth ls q = some l → am_Pl (16 * (k + q)) l
theorem am_Pll_n (k : Nat) : am_Pll k [] := fun _ _ h => by simp [am_nth] at h
theorem am_Pll_c {k : Nat} {x : List am_M} {l : List (List am_M)} (h : am_Pl (16 * k) x) (hl : am_Pll (k + 1) l) : am_Pll k (x :: l)
  | 0, M, e => by
    simp only [am_nth, Option.some.injEq] at e
    subst e
    exact h
  | j + 1, M, e => by
    have := hl j M e
    rw [show k + (j + 1) = k + 1 + j by omega]
    exact this
theorem cw_0 : Cond.code mm_0.1 mm_0.2.1 mm_0.2.2.1 mm_0.2.2.2.1 ∈ am_tb := am_at_in (p := 953) (by decide +kernel)
theorem pk_0 : am_P 0 mm_0 := ⟨ok_0, fun _ => cw_0⟩
theorem cw_1 : Cond.code mm_1.1 mm_1.2.1 mm_1.2.2.1 mm_1.2.2.2.1 ∈ am_tb := am_at_in (p := 1013) (by decide +kernel)
theorem pk_1 : am_P 1 mm_1 := ⟨ok_1, fun _ => cw_1⟩
theorem cw_2 : Cond.code mm_2.1 mm_2.2.1 mm_2.2.2.1 mm_2.2.2.2.1 ∈ am_tb := am_at_in (p := 213) (by decide +kernel)
theorem pk_2 : am_P 2 mm_2 := ⟨ok_2, fun _ => cw_2⟩
theorem cw_3 : Cond.code mm_3.1 mm_3.2.1 mm_3.2.2.1 mm_3.2.2.2.1 ∈ am_tb := am_at_in (p := 502) (by decide +kernel)
theorem pk_3 : am_P 3 mm_3 := ⟨ok_3, fun _ => cw_3⟩
theorem cw_4 : Cond.code mm_4.1 mm_4.2.1 mm_4.2.2.1 mm_4.2.2.2.1 ∈ am_tb := am_at_in (p := 532) (by decide +kernel)
theorem pk_4 : am_P 4 mm_4 := ⟨ok_4, fun _ => cw_4⟩
theorem cw_5 : Cond.code mm_5.1 mm_5.2.1 mm_5.2.2.1 mm_5.2.2.2.1 ∈ am_tb := am_at_in (p := 1140) (by decide +kernel)
theorem pk_5 : am_P 5 mm_5 := ⟨ok_5, fun _ => cw_5⟩
theorem cw_6 : Cond.code mm_6.1 mm_6.2.1 mm_6.2.2.1 mm_6.2.2.2.1 ∈ am_tb := am_at_in (p := 1205) (by decide +kernel)
theorem pk_6 : am_P 6 mm_6 := ⟨ok_6, fun _ => cw_6⟩
theorem cw_7 : Cond.code mm_7.1 mm_7.2.1 mm_7.2.2.1 mm_7.2.2.2.1 ∈ am_tb := am_at_in (p := 837) (by decide +kernel)
theorem pk_7 : am_P 7 mm_7 := ⟨ok_7, fun _ => cw_7⟩
theorem cw_8 : Cond.code mm_8.1 mm_8.2.1 mm_8.2.2.1 mm_8.2.2.2.1 ∈ am_tb := am_at_in (p := 624) (by decide +kernel)
theorem pk_8 : am_P 8 mm_8 := ⟨ok_8, fun _ => cw_8⟩
theorem cw_9 : Cond.code mm_9.1 mm_9.2.1 mm_9.2.2.1 mm_9.2.2.2.1 ∈ am_tb := am_at_in (p := 483) (by decide +kernel)
theorem pk_9 : am_P 9 mm_9 := ⟨ok_9, fun _ => cw_9⟩
theorem cw_10 : Cond.code mm_10.1 mm_10.2.1 mm_10.2.2.1 mm_10.2.2.2.1 ∈ am_tb := am_at_in (p := 588) (by decide +kernel)
theorem pk_10 : am_P 10 mm_10 := ⟨ok_10, fun _ => cw_10⟩
theorem cw_11 : Cond.code mm_11.1 mm_11.2.1 mm_11.2.2.1 mm_11.2.2.2.1 ∈ am_tb := am_at_in (p := 487) (by decide +kernel)
theorem pk_11 : am_P 11 mm_11 := ⟨ok_11, fun _ => cw_11⟩
theorem cw_12 : Cond.code mm_12.1 mm_12.2.1 mm_12.2.2.1 mm_12.2.2.2.1 ∈ am_tb := am_at_in (p := 592) (by decide +kernel)
theorem pk_12 : am_P 12 mm_12 := ⟨ok_12, fun _ => cw_12⟩
theorem cw_13 : Cond.code mm_13.1 mm_13.2.1 mm_13.2.2.1 mm_13.2.2.2.1 ∈ am_tb := am_at_in (p := 636) (by decide +kernel)
theorem pk_13 : am_P 13 mm_13 := ⟨ok_13, fun _ => cw_13⟩
theorem cw_14 : Cond.code mm_14.1 mm_14.2.1 mm_14.2.2.1 mm_14.2.2.2.1 ∈ am_tb := am_at_in (p := 1129) (by decide +kernel)
theorem pk_14 : am_P 14 mm_14 := ⟨ok_14, fun _ => cw_14⟩
theorem cw_15 : Cond.code mm_15.1 mm_15.2.1 mm_15.2.2.1 mm_15.2.2.2.1 ∈ am_tb := am_at_in (p := 1133) (by decide +kernel)
theorem pk_15 : am_P 15 mm_15 := ⟨ok_15, fun _ => cw_15⟩
theorem cw_16 : Cond.code mm_16.1 mm_16.2.1 mm_16.2.2.1 mm_16.2.2.2.1 ∈ am_tb := am_at_in (p := 1144) (by decide +kernel)
theorem pk_16 : am_P 16 mm_16 := ⟨ok_16, fun _ => cw_16⟩
theorem cw_17 : Cond.code mm_17.1 mm_17.2.1 mm_17.2.2.1 mm_17.2.2.2.1 ∈ am_tb := am_at_in (p := 509) (by decide +kernel)
theorem pk_17 : am_P 17 mm_17 := ⟨ok_17, fun _ => cw_17⟩
theorem cw_18 : Cond.code mm_18.1 mm_18.2.1 mm_18.2.2.1 mm_18.2.2.2.1 ∈ am_tb := am_at_in (p := 539) (by decide +kernel)
theorem pk_18 : am_P 18 mm_18 := ⟨ok_18, fun _ => cw_18⟩
theorem cw_19 : Cond.code mm_19.1 mm_19.2.1 mm_19.2.2.1 mm_19.2.2.2.1 ∈ am_tb := am_at_in (p := 1186) (by decide +kernel)
theorem pk_19 : am_P 19 mm_19 := ⟨ok_19, fun _ => cw_19⟩
theorem cw_20 : Cond.code mm_20.1 mm_20.2.1 mm_20.2.2.1 mm_20.2.2.2.1 ∈ am_tb := am_at_in (p := 520) (by decide +kernel)
theorem pk_20 : am_P 20 mm_20 := ⟨ok_20, fun _ => cw_20⟩
theorem cw_21 : Cond.code mm_21.1 mm_21.2.1 mm_21.2.2.1 mm_21.2.2.2.1 ∈ am_tb := am_at_in (p := 550) (by decide +kernel)
theorem pk_21 : am_P 21 mm_21 := ⟨ok_21, fun _ => cw_21⟩
theorem cw_22 : Cond.code mm_22.1 mm_22.2.1 mm_22.2.2.1 mm_22.2.2.2.1 ∈ am_tb := am_at_in (p := 1156) (by decide +kernel)
theorem pk_22 : am_P 22 mm_22 := ⟨ok_22, fun _ => cw_22⟩
theorem cw_23 : Cond.code mm_23.1 mm_23.2.1 mm_23.2.2.1 mm_23.2.2.2.1 ∈ am_tb := am_at_in (p := 1177) (by decide +kernel)
theorem pk_23 : am_P 23 mm_23 := ⟨ok_23, fun _ => cw_23⟩
theorem cw_24 : Cond.code mm_24.1 mm_24.2.1 mm_24.2.2.1 mm_24.2.2.2.1 ∈ am_tb := am_at_in (p := 1198) (by decide +kernel)
theorem pk_24 : am_P 24 mm_24 := ⟨ok_24, fun _ => cw_24⟩
theorem cw_25 : Cond.code mm_25.1 mm_25.2.1 mm_25.2.2.1 mm_25.2.2.2.1 ∈ am_tb := am_at_in (p := 1217) (by decide +kernel)
theorem pk_25 : am_P 25 mm_25 := ⟨ok_25, fun _ => cw_25⟩
theorem cw_26 : Cond.code mm_26.1 mm_26.2.1 mm_26.2.2.1 mm_26.2.2.2.1 ∈ am_tb := am_at_in (p := 505) (by decide +kernel)
theorem pk_26 : am_P 26 mm_26 := ⟨ok_26, fun _ => cw_26⟩
theorem cw_27 : Cond.code mm_27.1 mm_27.2.1 mm_27.2.2.1 mm_27.2.2.2.1 ∈ am_tb := am_at_in (p := 535) (by decide +kernel)
theorem pk_27 : am_P 27 mm_27 := ⟨ok_27, fun _ => cw_27⟩
theorem cw_28 : Cond.code mm_28.1 mm_28.2.1 mm_28.2.2.1 mm_28.2.2.2.1 ∈ am_tb := am_at_in (p := 1164) (by decide +kernel)
theorem pk_28 : am_P 28 mm_28 := ⟨ok_28, fun _ => cw_28⟩
theorem cw_29 : Cond.code mm_29.1 mm_29.2.1 mm_29.2.2.1 mm_29.2.2.2.1 ∈ am_tb := am_at_in (p := 914) (by decide +kernel)
theorem pk_29 : am_P 29 mm_29 := ⟨ok_29, fun _ => cw_29⟩
theorem cw_30 : Cond.code mm_30.1 mm_30.2.1 mm_30.2.2.1 mm_30.2.2.2.1 ∈ am_tb := am_at_in (p := 910) (by decide +kernel)
theorem pk_30 : am_P 30 mm_30 := ⟨ok_30, fun _ => cw_30⟩
theorem cw_31 : Cond.code mm_31.1 mm_31.2.1 mm_31.2.2.1 mm_31.2.2.2.1 ∈ am_tb := am_at_in (p := 921) (by decide +kernel)
theorem pk_31 : am_P 31 mm_31 := ⟨ok_31, fun _ => cw_31⟩
theorem cw_32 : Cond.code mm_32.1 mm_32.2.1 mm_32.2.2.1 mm_32.2.2.2.1 ∈ am_tb := am_at_in (p := 925) (by decide +kernel)
theorem pk_32 : am_P 32 mm_32 := ⟨ok_32, fun _ => cw_32⟩
theorem cw_33 : Cond.code mm_33.1 mm_33.2.1 mm_33.2.2.1 mm_33.2.2.2.1 ∈ am_tb := am_at_in (p := 962) (by decide +kernel)
theorem pk_33 : am_P 33 mm_33 := ⟨ok_33, fun _ => cw_33⟩
theorem cw_34 : Cond.code mm_34.1 mm_34.2.1 mm_34.2.2.1 mm_34.2.2.2.1 ∈ am_tb := am_at_in (p := 966) (by decide +kernel)
theorem pk_34 : am_P 34 mm_34 := ⟨ok_34, fun _ => cw_34⟩
theorem cw_35 : Cond.code mm_35.1 mm_35.2.1 mm_35.2.2.1 mm_35.2.2.2.1 ∈ am_tb := am_at_in (p := 1235) (by decide +kernel)
theorem pk_35 : am_P 35 mm_35 := ⟨ok_35, fun _ => cw_35⟩
theorem cw_36 : Cond.code mm_36.1 mm_36.2.1 mm_36.2.2.1 mm_36.2.2.2.1 ∈ am_tb := am_at_in (p := 787) (by decide +kernel)
theorem pk_36 : am_P 36 mm_36 := ⟨ok_36, fun _ => cw_36⟩
theorem cw_37 : Cond.code mm_37.1 mm_37.2.1 mm_37.2.2.1 mm_37.2.2.2.1 ∈ am_tb := am_at_in (p := 784) (by decide +kernel)
theorem pk_37 : am_P 37 mm_37 := ⟨ok_37, fun _ => cw_37⟩
theorem cw_38 : Cond.code mm_38.1 mm_38.2.1 mm_38.2.2.1 mm_38.2.2.2.1 ∈ am_tb := am_at_in (p := 478) (by decide +kernel)
theorem pk_38 : am_P 38 mm_38 := ⟨ok_38, fun _ => cw_38⟩
theorem cw_39 : Cond.code mm_39.1 mm_39.2.1 mm_39.2.2.1 mm_39.2.2.2.1 ∈ am_tb := am_at_in (p := 1063) (by decide +kernel)
theorem pk_39 : am_P 39 mm_39 := ⟨ok_39, fun _ => cw_39⟩
theorem cw_40 : Cond.code mm_40.1 mm_40.2.1 mm_40.2.2.1 mm_40.2.2.2.1 ∈ am_tb := am_at_in (p := 632) (by decide +kernel)
theorem pk_40 : am_P 40 mm_40 := ⟨ok_40, fun _ => cw_40⟩
theorem cw_41 : Cond.code mm_41.1 mm_41.2.1 mm_41.2.2.1 mm_41.2.2.2.1 ∈ am_tb := am_at_in (p := 841) (by decide +kernel)
theorem pk_41 : am_P 41 mm_41 := ⟨ok_41, fun _ => cw_41⟩
theorem cw_42 : Cond.code mm_42.1 mm_42.2.1 mm_42.2.2.1 mm_42.2.2.2.1 ∈ am_tb := am_at_in (p := 495) (by decide +kernel)
theorem pk_42 : am_P 42 mm_42 := ⟨ok_42, fun _ => cw_42⟩
theorem cw_43 : Cond.code mm_43.1 mm_43.2.1 mm_43.2.2.1 mm_43.2.2.2.1 ∈ am_tb := am_at_in (p := 576) (by decide +kernel)
theorem pk_43 : am_P 43 mm_43 := ⟨ok_43, fun _ => cw_43⟩
theorem cw_44 : Cond.code mm_44.1 mm_44.2.1 mm_44.2.2.1 mm_44.2.2.2.1 ∈ am_tb := am_at_in (p := 491) (by decide +kernel)
theorem pk_44 : am_P 44 mm_44 := ⟨ok_44, fun _ => cw_44⟩
theorem cw_45 : Cond.code mm_45.1 mm_45.2.1 mm_45.2.2.1 mm_45.2.2.2.1 ∈ am_tb := am_at_in (p := 557) (by decide +kernel)
theorem pk_45 : am_P 45 mm_45 := ⟨ok_45, fun _ => cw_45⟩
theorem cw_46 : Cond.code mm_46.1 mm_46.2.1 mm_46.2.2.1 mm_46.2.2.2.1 ∈ am_tb := am_at_in (p := 802) (by decide +kernel)
theorem pk_46 : am_P 46 mm_46 := ⟨ok_46, fun _ => cw_46⟩
theorem cw_47 : Cond.code mm_47.1 mm_47.2.1 mm_47.2.2.1 mm_47.2.2.2.1 ∈ am_tb := am_at_in (p := 809) (by decide +kernel)
theorem pk_47 : am_P 47 mm_47 := ⟨ok_47, fun _ => cw_47⟩
theorem cw_48 : Cond.code mm_48.1 mm_48.2.1 mm_48.2.2.1 mm_48.2.2.2.1 ∈ am_tb := am_at_in (p := 815) (by decide +kernel)
theorem pk_48 : am_P 48 mm_48 := ⟨ok_48, fun _ => cw_48⟩
theorem cw_49 : Cond.code mm_49.1 mm_49.2.1 mm_49.2.2.1 mm_49.2.2.2.1 ∈ am_tb := am_at_in (p := 821) (by decide +kernel)
theorem pk_49 : am_P 49 mm_49 := ⟨ok_49, fun _ => cw_49⟩
theorem cw_50 : Cond.code mm_50.1 mm_50.2.1 mm_50.2.2.1 mm_50.2.2.2.1 ∈ am_tb := am_at_in (p := 798) (by decide +kernel)
theorem pk_50 : am_P 50 mm_50 := ⟨ok_50, fun _ => cw_50⟩
theorem cw_51 : Cond.code mm_51.1 mm_51.2.1 mm_51.2.2.1 mm_51.2.2.2.1 ∈ am_tb := am_at_in (p := 554) (by decide +kernel)
theorem pk_51 : am_P 51 mm_51 := ⟨ok_51, fun _ => cw_51⟩
theorem cw_52 : Cond.code mm_52.1 mm_52.2.1 mm_52.2.2.1 mm_52.2.2.2.1 ∈ am_tb := am_at_in (p := 561) (by decide +kernel)
theorem pk_52 : am_P 52 mm_52 := ⟨ok_52, fun _ => cw_52⟩
theorem cw_53 : Cond.code mm_53.1 mm_53.2.1 mm_53.2.2.1 mm_53.2.2.2.1 ∈ am_tb := am_at_in (p := 568) (by decide +kernel)
theorem pk_53 : am_P 53 mm_53 := ⟨ok_53, fun _ => cw_53⟩
theorem cw_54 : Cond.code mm_54.1 mm_54.2.1 mm_54.2.2.1 mm_54.2.2.2.1 ∈ am_tb := am_at_in (p := 572) (by decide +kernel)
theorem pk_54 : am_P 54 mm_54 := ⟨ok_54, fun _ => cw_54⟩
theorem cw_55 : Cond.code mm_55.1 mm_55.2.1 mm_55.2.2.1 mm_55.2.2.2.1 ∈ am_tb := am_at_in (p := 893) (by decide +kernel)
theorem pk_55 : am_P 55 mm_55 := ⟨ok_55, fun _ => cw_55⟩
theorem cw_56 : Cond.code mm_56.1 mm_56.2.1 mm_56.2.2.1 mm_56.2.2.2.1 ∈ am_tb := am_at_in (p := 878) (by decide +kernel)
theorem pk_56 : am_P 56 mm_56 := ⟨ok_56, fun _ => cw_56⟩
theorem cw_57 : Cond.code mm_57.1 mm_57.2.1 mm_57.2.2.1 mm_57.2.2.2.1 ∈ am_tb := am_at_in (p := 882) (by decide +kernel)
theorem pk_57 : am_P 57 mm_57 := ⟨ok_57, fun _ => cw_57⟩
theorem cw_58 : Cond.code mm_58.1 mm_58.2.1 mm_58.2.2.1 mm_58.2.2.2.1 ∈ am_tb := am_at_in (p := 897) (by decide +kernel)
theorem pk_58 : am_P 58 mm_58 := ⟨ok_58, fun _ => cw_58⟩
theorem cw_59 : Cond.code mm_59.1 mm_59.2.1 mm_59.2.2.1 mm_59.2.2.2.1 ∈ am_tb := am_at_in (p := 901) (by decide +kernel)
theorem pk_59 : am_P 59 mm_59 := ⟨ok_59, fun _ => cw_59⟩
theorem cw_60 : Cond.code mm_60.1 mm_60.2.1 mm_60.2.2.1 mm_60.2.2.2.1 ∈ am_tb := am_at_in (p := 1000) (by decide +kernel)
theorem pk_60 : am_P 60 mm_60 := ⟨ok_60, fun _ => cw_60⟩
theorem cw_61 : Cond.code mm_61.1 mm_61.2.1 mm_61.2.2.1 mm_61.2.2.2.1 ∈ am_tb := am_at_in (p := 1003) (by decide +kernel)
theorem pk_61 : am_P 61 mm_61 := ⟨ok_61, fun _ => cw_61⟩
theorem cw_62 : Cond.code mm_62.1 mm_62.2.1 mm_62.2.2.1 mm_62.2.2.2.1 ∈ am_tb := am_at_in (p := 989) (by decide +kernel)
theorem pk_62 : am_P 62 mm_62 := ⟨ok_62, fun _ => cw_62⟩
theorem cw_63 : Cond.code mm_63.1 mm_63.2.1 mm_63.2.2.1 mm_63.2.2.2.1 ∈ am_tb := am_at_in (p := 986) (by decide +kernel)
theorem pk_63 : am_P 63 mm_63 := ⟨ok_63, fun _ => cw_63⟩
theorem cw_64 : Cond.code mm_64.1 mm_64.2.1 mm_64.2.2.1 mm_64.2.2.2.1 ∈ am_tb := am_at_in (p := 993) (by decide +kernel)
theorem pk_64 : am_P 64 mm_64 := ⟨ok_64, fun _ => cw_64⟩
theorem cw_65 : Cond.code mm_65.1 mm_65.2.1 mm_65.2.2.1 mm_65.2.2.2.1 ∈ am_tb := am_at_in (p := 997) (by decide +kernel)
theorem pk_65 : am_P 65 mm_65 := ⟨ok_65, fun _ => cw_65⟩
theorem cw_66 : Cond.code mm_66.1 mm_66.2.1 mm_66.2.2.1 mm_66.2.2.2.1 ∈ am_tb := am_at_in (p := 645) (by decide +kernel)
theorem pk_66 : am_P 66 mm_66 := ⟨ok_66, fun _ => cw_66⟩
theorem cw_67 : Cond.code mm_67.1 mm_67.2.1 mm_67.2.2.1 mm_67.2.2.2.1 ∈ am_tb := am_at_in (p := 653) (by decide +kernel)
theorem pk_67 : am_P 67 mm_67 := ⟨ok_67, fun _ => cw_67⟩
theorem cw_68 : Cond.code mm_68.1 mm_68.2.1 mm_68.2.2.1 mm_68.2.2.2.1 ∈ am_tb := am_at_in (p := 657) (by decide +kernel)
theorem pk_68 : am_P 68 mm_68 := ⟨ok_68, fun _ => cw_68⟩
theorem cw_69 : Cond.code mm_69.1 mm_69.2.1 mm_69.2.2.1 mm_69.2.2.2.1 ∈ am_tb := am_at_in (p := 660) (by decide +kernel)
theorem pk_69 : am_P 69 mm_69 := ⟨ok_69, fun _ => cw_69⟩
theorem cw_70 : Cond.code mm_70.1 mm_70.2.1 mm_70.2.2.1 mm_70.2.2.2.1 ∈ am_tb := am_at_in (p := 745) (by decide +kernel)
theorem pk_70 : am_P 70 mm_70 := ⟨ok_70, fun _ => cw_70⟩
theorem cw_71 : Cond.code mm_71.1 mm_71.2.1 mm_71.2.2.1 mm_71.2.2.2.1 ∈ am_tb := am_at_in (p := 742) (by decide +kernel)
theorem pk_71 : am_P 71 mm_71 := ⟨ok_71, fun _ => cw_71⟩
theorem cw_72 : Cond.code mm_72.1 mm_72.2.1 mm_72.2.2.1 mm_72.2.2.2.1 ∈ am_tb := am_at_in (p := 749) (by decide +kernel)
theorem pk_72 : am_P 72 mm_72 := ⟨ok_72, fun _ => cw_72⟩
theorem cw_73 : Cond.code mm_73.1 mm_73.2.1 mm_73.2.2.1 mm_73.2.2.2.1 ∈ am_tb := am_at_in (p := 665) (by decide +kernel)
theorem pk_73 : am_P 73 mm_73 := ⟨ok_73, fun _ => cw_73⟩
theorem cw_74 : Cond.code mm_74.1 mm_74.2.1 mm_74.2.2.1 mm_74.2.2.2.1 ∈ am_tb := am_at_in (p := 690) (by decide +kernel)
theorem pk_74 : am_P 74 mm_74 := ⟨ok_74, fun _ => cw_74⟩
theorem cw_75 : Cond.code mm_75.1 mm_75.2.1 mm_75.2.2.1 mm_75.2.2.2.1 ∈ am_tb := am_at_in (p := 668) (by decide +kernel)
theorem pk_75 : am_P 75 mm_75 := ⟨ok_75, fun _ => cw_75⟩
theorem cw_76 : Cond.code mm_76.1 mm_76.2.1 mm_76.2.2.1 mm_76.2.2.2.1 ∈ am_tb := am_at_in (p := 753) (by decide +kernel)
theorem pk_76 : am_P 76 mm_76 := ⟨ok_76, fun _ => cw_76⟩
theorem cw_77 : Cond.code mm_77.1 mm_77.2.1 mm_77.2.2.1 mm_77.2.2.2.1 ∈ am_tb := am_at_in (p := 757) (by decide +kernel)
theorem pk_77 : am_P 77 mm_77 := ⟨ok_77, fun _ => cw_77⟩
theorem cw_78 : Cond.code mm_78.1 mm_78.2.1 mm_78.2.2.1 mm_78.2.2.2.1 ∈ am_tb := am_at_in (p := 765) (by decide +kernel)
theorem pk_78 : am_P 78 mm_78 := ⟨ok_78, fun _ => cw_78⟩
theorem cw_79 : Cond.code mm_79.1 mm_79.2.1 mm_79.2.2.1 mm_79.2.2.2.1 ∈ am_tb := am_at_in (p := 769) (by decide +kernel)
theorem pk_79 : am_P 79 mm_79 := ⟨ok_79, fun _ => cw_79⟩
theorem cw_80 : Cond.code mm_80.1 mm_80.2.1 mm_80.2.2.1 mm_80.2.2.2.1 ∈ am_tb := am_at_in (p := 773) (by decide +kernel)
theorem pk_80 : am_P 80 mm_80 := ⟨ok_80, fun _ => cw_80⟩
theorem cw_81 : Cond.code mm_81.1 mm_81.2.1 mm_81.2.2.1 mm_81.2.2.2.1 ∈ am_tb := am_at_in (p := 777) (by decide +kernel)
theorem pk_81 : am_P 81 mm_81 := ⟨ok_81, fun _ => cw_81⟩
theorem cw_82 : Cond.code mm_82.1 mm_82.2.1 mm_82.2.2.1 mm_82.2.2.2.1 ∈ am_tb := am_at_in (p := 780) (by decide +kernel)
theorem pk_82 : am_P 82 mm_82 := ⟨ok_82, fun _ => cw_82⟩
theorem cw_83 : Cond.code mm_83.1 mm_83.2.1 mm_83.2.2.1 mm_83.2.2.2.1 ∈ am_tb := am_at_in (p := 761) (by decide +kernel)
theorem pk_83 : am_P 83 mm_83 := ⟨ok_83, fun _ => cw_83⟩
theorem cw_84 : Cond.code mm_84.1 mm_84.2.1 mm_84.2.2.1 mm_84.2.2.2.1 ∈ am_tb := am_at_in (p := 514) (by decide +kernel)
theorem pk_84 : am_P 84 mm_84 := ⟨ok_84, fun _ => cw_84⟩
theorem cw_85 : Cond.code mm_85.1 mm_85.2.1 mm_85.2.2.1 mm_85.2.2.2.1 ∈ am_tb := am_at_in (p := 544) (by decide +kernel)
theorem pk_85 : am_P 85 mm_85 := ⟨ok_85, fun _ => cw_85⟩
theorem cw_86 : Cond.code mm_86.1 mm_86.2.1 mm_86.2.2.1 mm_86.2.2.2.1 ∈ am_tb := am_at_in (p := 1152) (by decide +kernel)
theorem pk_86 : am_P 86 mm_86 := ⟨ok_86, fun _ => cw_86⟩
theorem cw_87 : Cond.code mm_87.1 mm_87.2.1 mm_87.2.2.1 mm_87.2.2.2.1 ∈ am_tb := am_at_in (p := 518) (by decide +kernel)
theorem pk_87 : am_P 87 mm_87 := ⟨ok_87, fun _ => cw_87⟩
theorem cw_88 : Cond.code mm_88.1 mm_88.2.1 mm_88.2.2.1 mm_88.2.2.2.1 ∈ am_tb := am_at_in (p := 548) (by decide +kernel)
theorem pk_88 : am_P 88 mm_88 := ⟨ok_88, fun _ => cw_88⟩
theorem cw_89 : Cond.code mm_89.1 mm_89.2.1 mm_89.2.2.1 mm_89.2.2.2.1 ∈ am_tb := am_at_in (p := 1172) (by decide +kernel)
theorem pk_89 : am_P 89 mm_89 := ⟨ok_89, fun _ => cw_89⟩
theorem cw_90 : Cond.code mm_90.1 mm_90.2.1 mm_90.2.2.1 mm_90.2.2.2.1 ∈ am_tb := am_at_in (p := 1193) (by decide +kernel)
theorem pk_90 : am_P 90 mm_90 := ⟨ok_90, fun _ => cw_90⟩
theorem cw_91 : Cond.code mm_91.1 mm_91.2.1 mm_91.2.2.1 mm_91.2.2.2.1 ∈ am_tb := am_at_in (p := 467) (by decide +kernel)
theorem pk_91 : am_P 91 mm_91 := ⟨ok_91, fun _ => cw_91⟩
theorem cw_92 : Cond.code mm_92.1 mm_92.2.1 mm_92.2.2.1 mm_92.2.2.2.1 ∈ am_tb := am_at_in (p := 474) (by decide +kernel)
theorem pk_92 : am_P 92 mm_92 := ⟨ok_92, fun _ => cw_92⟩
theorem cw_93 : Cond.code mm_93.1 mm_93.2.1 mm_93.2.2.1 mm_93.2.2.2.1 ∈ am_tb := am_at_in (p := 580) (by decide +kernel)
theorem pk_93 : am_P 93 mm_93 := ⟨ok_93, fun _ => cw_93⟩
theorem cw_94 : Cond.code mm_94.1 mm_94.2.1 mm_94.2.2.1 mm_94.2.2.2.1 ∈ am_tb := am_at_in (p := 583) (by decide +kernel)
theorem pk_94 : am_P 94 mm_94 := ⟨ok_94, fun _ => cw_94⟩
theorem cw_95 : Cond.code mm_95.1 mm_95.2.1 mm_95.2.2.1 mm_95.2.2.2.1 ∈ am_tb := am_at_in (p := 596) (by decide +kernel)
theorem pk_95 : am_P 95 mm_95 := ⟨ok_95, fun _ => cw_95⟩
theorem cw_96 : Cond.code mm_96.1 mm_96.2.1 mm_96.2.2.1 mm_96.2.2.2.1 ∈ am_tb := am_at_in (p := 600) (by decide +kernel)
theorem pk_96 : am_P 96 mm_96 := ⟨ok_96, fun _ => cw_96⟩
theorem cw_97 : Cond.code mm_97.1 mm_97.2.1 mm_97.2.2.1 mm_97.2.2.2.1 ∈ am_tb := am_at_in (p := 604) (by decide +kernel)
theorem pk_97 : am_P 97 mm_97 := ⟨ok_97, fun _ => cw_97⟩
theorem cw_98 : Cond.code mm_98.1 mm_98.2.1 mm_98.2.2.1 mm_98.2.2.2.1 ∈ am_tb := am_at_in (p := 608) (by decide +kernel)
theorem pk_98 : am_P 98 mm_98 := ⟨ok_98, fun _ => cw_98⟩
theorem cw_99 : Cond.code mm_99.1 mm_99.2.1 mm_99.2.2.1 mm_99.2.2.2.1 ∈ am_tb := am_at_in (p := 612) (by decide +kernel)
theorem pk_99 : am_P 99 mm_99 := ⟨ok_99, fun _ => cw_99⟩
theorem cw_100 : Cond.code mm_100.1 mm_100.2.1 mm_100.2.2.1 mm_100.2.2.2.1 ∈ am_tb := am_at_in (p := 616) (by decide +kernel)
theorem pk_100 : am_P 100 mm_100 := ⟨ok_100, fun _ => cw_100⟩
theorem cw_101 : Cond.code mm_101.1 mm_101.2.1 mm_101.2.2.1 mm_101.2.2.2.1 ∈ am_tb := am_at_in (p := 620) (by decide +kernel)
theorem pk_101 : am_P 101 mm_101 := ⟨ok_101, fun _ => cw_101⟩
theorem cw_102 : Cond.code mm_102.1 mm_102.2.1 mm_102.2.2.1 mm_102.2.2.2.1 ∈ am_tb := am_at_in (p := 628) (by decide +kernel)
theorem pk_102 : am_P 102 mm_102 := ⟨ok_102, fun _ => cw_102⟩
theorem cw_103 : Cond.code mm_103.1 mm_103.2.1 mm_103.2.2.1 mm_103.2.2.2.1 ∈ am_tb := am_at_in (p := 641) (by decide +kernel)
theorem pk_103 : am_P 103 mm_103 := ⟨ok_103, fun _ => cw_103⟩
theorem cw_104 : Cond.code mm_104.1 mm_104.2.1 mm_104.2.2.1 mm_104.2.2.2.1 ∈ am_tb := am_at_in (p := 649) (by decide +kernel)
theorem pk_104 : am_P 104 mm_104 := ⟨ok_104, fun _ => cw_104⟩
theorem cw_105 : Cond.code mm_105.1 mm_105.2.1 mm_105.2.2.1 mm_105.2.2.2.1 ∈ am_tb := am_at_in (p := 794) (by decide +kernel)
theorem pk_105 : am_P 105 mm_105 := ⟨ok_105, fun _ => cw_105⟩
theorem cw_106 : Cond.code mm_106.1 mm_106.2.1 mm_106.2.2.1 mm_106.2.2.2.1 ∈ am_tb := am_at_in (p := 825) (by decide +kernel)
theorem pk_106 : am_P 106 mm_106 := ⟨ok_106, fun _ => cw_106⟩
theorem cw_107 : Cond.code mm_107.1 mm_107.2.1 mm_107.2.2.1 mm_107.2.2.2.1 ∈ am_tb := am_at_in (p := 846) (by decide +kernel)
theorem pk_107 : am_P 107 mm_107 := ⟨ok_107, fun _ => cw_107⟩
theorem cw_108 : Cond.code mm_108.1 mm_108.2.1 mm_108.2.2.1 mm_108.2.2.2.1 ∈ am_tb := am_at_in (p := 850) (by decide +kernel)
theorem pk_108 : am_P 108 mm_108 := ⟨ok_108, fun _ => cw_108⟩
theorem cw_109 : Cond.code mm_109.1 mm_109.2.1 mm_109.2.2.1 mm_109.2.2.2.1 ∈ am_tb := am_at_in (p := 858) (by decide +kernel)
theorem pk_109 : am_P 109 mm_109 := ⟨ok_109, fun _ => cw_109⟩
theorem cw_110 : Cond.code mm_110.1 mm_110.2.1 mm_110.2.2.1 mm_110.2.2.2.1 ∈ am_tb := am_at_in (p := 854) (by decide +kernel)
theorem pk_110 : am_P 110 mm_110 := ⟨ok_110, fun _ => cw_110⟩
theorem cw_111 : Cond.code mm_111.1 mm_111.2.1 mm_111.2.2.1 mm_111.2.2.2.1 ∈ am_tb := am_at_in (p := 833) (by decide +kernel)
theorem pk_111 : am_P 111 mm_111 := ⟨ok_111, fun _ => cw_111⟩
theorem cw_112 : Cond.code mm_112.1 mm_112.2.1 mm_112.2.2.1 mm_112.2.2.2.1 ∈ am_tb := am_at_in (p := 829) (by decide +kernel)
theorem pk_112 : am_P 112 mm_112 := ⟨ok_112, fun _ => cw_112⟩
theorem cw_113 : Cond.code mm_113.1 mm_113.2.1 mm_113.2.2.1 mm_113.2.2.2.1 ∈ am_tb := am_at_in (p := 862) (by decide +kernel)
theorem pk_113 : am_P 113 mm_113 := ⟨ok_113, fun _ => cw_113⟩
theorem cw_114 : Cond.code mm_114.1 mm_114.2.1 mm_114.2.2.1 mm_114.2.2.2.1 ∈ am_tb := am_at_in (p := 866) (by decide +kernel)
theorem pk_114 : am_P 114 mm_114 := ⟨ok_114, fun _ => cw_114⟩
theorem cw_115 : Cond.code mm_115.1 mm_115.2.1 mm_115.2.2.1 mm_115.2.2.2.1 ∈ am_tb := am_at_in (p := 870) (by decide +kernel)
theorem pk_115 : am_P 115 mm_115 := ⟨ok_115, fun _ => cw_115⟩
theorem cw_116 : Cond.code mm_116.1 mm_116.2.1 mm_116.2.2.1 mm_116.2.2.2.1 ∈ am_tb := am_at_in (p := 874) (by decide +kernel)
theorem pk_116 : am_P 116 mm_116 := ⟨ok_116, fun _ => cw_116⟩
theorem cw_117 : Cond.code mm_117.1 mm_117.2.1 mm_117.2.2.1 mm_117.2.2.2.1 ∈ am_tb := am_at_in (p := 889) (by decide +kernel)
theorem pk_117 : am_P 117 mm_117 := ⟨ok_117, fun _ => cw_117⟩
theorem cw_118 : Cond.code mm_118.1 mm_118.2.1 mm_118.2.2.1 mm_118.2.2.2.1 ∈ am_tb := am_at_in (p := 906) (by decide +kernel)
theorem pk_118 : am_P 118 mm_118 := ⟨ok_118, fun _ => cw_118⟩
theorem cw_119 : Cond.code mm_119.1 mm_119.2.1 mm_119.2.2.1 mm_119.2.2.2.1 ∈ am_tb := am_at_in (p := 931) (by decide +kernel)
theorem pk_119 : am_P 119 mm_119 := ⟨ok_119, fun _ => cw_119⟩
theorem cw_120 : Cond.code mm_120.1 mm_120.2.1 mm_120.2.2.1 mm_120.2.2.2.1 ∈ am_tb := am_at_in (p := 935) (by decide +kernel)
theorem pk_120 : am_P 120 mm_120 := ⟨ok_120, fun _ => cw_120⟩
theorem cw_121 : Cond.code mm_121.1 mm_121.2.1 mm_121.2.2.1 mm_121.2.2.2.1 ∈ am_tb := am_at_in (p := 939) (by decide +kernel)
theorem pk_121 : am_P 121 mm_121 := ⟨ok_121, fun _ => cw_121⟩
theorem cw_122 : Cond.code mm_122.1 mm_122.2.1 mm_122.2.2.1 mm_122.2.2.2.1 ∈ am_tb := am_at_in (p := 947) (by decide +kernel)
theorem pk_122 : am_P 122 mm_122 := ⟨ok_122, fun _ => cw_122⟩
theorem cw_123 : Cond.code mm_123.1 mm_123.2.1 mm_123.2.2.1 mm_123.2.2.2.1 ∈ am_tb := am_at_in (p := 943) (by decide +kernel)
theorem pk_123 : am_P 123 mm_123 := ⟨ok_123, fun _ => cw_123⟩
theorem cw_124 : Cond.code mm_124.1 mm_124.2.1 mm_124.2.2.1 mm_124.2.2.2.1 ∈ am_tb := am_at_in (p := 950) (by decide +kernel)
theorem pk_124 : am_P 124 mm_124 := ⟨ok_124, fun _ => cw_124⟩
theorem cw_125 : Cond.code mm_125.1 mm_125.2.1 mm_125.2.2.1 mm_125.2.2.2.1 ∈ am_tb := am_at_in (p := 958) (by decide +kernel)
theorem pk_125 : am_P 125 mm_125 := ⟨ok_125, fun _ => cw_125⟩
theorem cw_126 : Cond.code mm_126.1 mm_126.2.1 mm_126.2.2.1 mm_126.2.2.2.1 ∈ am_tb := am_at_in (p := 970) (by decide +kernel)
theorem pk_126 : am_P 126 mm_126 := ⟨ok_126, fun _ => cw_126⟩
theorem cw_127 : Cond.code mm_127.1 mm_127.2.1 mm_127.2.2.1 mm_127.2.2.2.1 ∈ am_tb := am_at_in (p := 974) (by decide +kernel)
theorem pk_127 : am_P 127 mm_127 := ⟨ok_127, fun _ => cw_127⟩
theorem cw_128 : Cond.code mm_128.1 mm_128.2.1 mm_128.2.2.1 mm_128.2.2.2.1 ∈ am_tb := am_at_in (p := 978) (by decide +kernel)
theorem pk_128 : am_P 128 mm_128 := ⟨ok_128, fun _ => cw_128⟩
theorem cw_129 : Cond.code mm_129.1 mm_129.2.1 mm_129.2.2.1 mm_129.2.2.2.1 ∈ am_tb := am_at_in (p := 982) (by decide +kernel)
theorem pk_129 : am_P 129 mm_129 := ⟨ok_129, fun _ => cw_129⟩
theorem cw_130 : Cond.code mm_130.1 mm_130.2.1 mm_130.2.2.1 mm_130.2.2.2.1 ∈ am_tb := am_at_in (p := 1010) (by decide +kernel)
theorem pk_130 : am_P 130 mm_130 := ⟨ok_130, fun _ => cw_130⟩
theorem cw_131 : Cond.code mm_131.1 mm_131.2.1 mm_131.2.2.1 mm_131.2.2.2.1 ∈ am_tb := am_at_in (p := 1020) (by decide +kernel)
theorem pk_131 : am_P 131 mm_131 := ⟨ok_131, fun _ => cw_131⟩
theorem cw_132 : Cond.code mm_132.1 mm_132.2.1 mm_132.2.2.1 mm_132.2.2.2.1 ∈ am_tb := am_at_in (p := 1024) (by decide +kernel)
theorem pk_132 : am_P 132 mm_132 := ⟨ok_132, fun _ => cw_132⟩
theorem cw_133 : Cond.code mm_133.1 mm_133.2.1 mm_133.2.2.1 mm_133.2.2.2.1 ∈ am_tb := am_at_in (p := 1036) (by decide +kernel)
theorem pk_133 : am_P 133 mm_133 := ⟨ok_133, fun _ => cw_133⟩
theorem cw_134 : Cond.code mm_134.1 mm_134.2.1 mm_134.2.2.1 mm_134.2.2.2.1 ∈ am_tb := am_at_in (p := 1027) (by decide +kernel)
theorem pk_134 : am_P 134 mm_134 := ⟨ok_134, fun _ => cw_134⟩
theorem cw_135 : Cond.code mm_135.1 mm_135.2.1 mm_135.2.2.1 mm_135.2.2.2.1 ∈ am_tb := am_at_in (p := 1032) (by decide +kernel)
theorem pk_135 : am_P 135 mm_135 := ⟨ok_135, fun _ => cw_135⟩
theorem cw_136 : Cond.code mm_136.1 mm_136.2.1 mm_136.2.2.1 mm_136.2.2.2.1 ∈ am_tb := am_at_in (p := 1040) (by decide +kernel)
theorem pk_136 : am_P 136 mm_136 := ⟨ok_136, fun _ => cw_136⟩
theorem cw_137 : Cond.code mm_137.1 mm_137.2.1 mm_137.2.2.1 mm_137.2.2.2.1 ∈ am_tb := am_at_in (p := 1047) (by decide +kernel)
theorem pk_137 : am_P 137 mm_137 := ⟨ok_137, fun _ => cw_137⟩
theorem cw_138 : Cond.code mm_138.1 mm_138.2.1 mm_138.2.2.1 mm_138.2.2.2.1 ∈ am_tb := am_at_in (p := 1055) (by decide +kernel)
theorem pk_138 : am_P 138 mm_138 := ⟨ok_138, fun _ => cw_138⟩
theorem cw_139 : Cond.code mm_139.1 mm_139.2.1 mm_139.2.2.1 mm_139.2.2.2.1 ∈ am_tb := am_at_in (p := 1059) (by decide +kernel)
theorem pk_139 : am_P 139 mm_139 := ⟨ok_139, fun _ => cw_139⟩
theorem cw_140 : Cond.code mm_140.1 mm_140.2.1 mm_140.2.2.1 mm_140.2.2.2.1 ∈ am_tb := am_at_in (p := 1051) (by decide +kernel)
theorem pk_140 : am_P 140 mm_140 := ⟨ok_140, fun _ => cw_140⟩
theorem cw_141 : Cond.code mm_141.1 mm_141.2.1 mm_141.2.2.1 mm_141.2.2.2.1 ∈ am_tb := am_at_in (p := 1043) (by decide +kernel)
theorem pk_141 : am_P 141 mm_141 := ⟨ok_141, fun _ => cw_141⟩
theorem cw_142 : Cond.code mm_142.1 mm_142.2.1 mm_142.2.2.1 mm_142.2.2.2.1 ∈ am_tb := am_at_in (p := 1067) (by decide +kernel)
theorem pk_142 : am_P 142 mm_142 := ⟨ok_142, fun _ => cw_142⟩
theorem cw_143 : Cond.code mm_143.1 mm_143.2.1 mm_143.2.2.1 mm_143.2.2.2.1 ∈ am_tb := am_at_in (p := 1074) (by decide +kernel)
theorem pk_143 : am_P 143 mm_143 := ⟨ok_143, fun _ => cw_143⟩
theorem cw_144 : Cond.code mm_144.1 mm_144.2.1 mm_144.2.2.1 mm_144.2.2.2.1 ∈ am_tb := am_at_in (p := 1081) (by decide +kernel)
theorem pk_144 : am_P 144 mm_144 := ⟨ok_144, fun _ => cw_144⟩
theorem cw_145 : Cond.code mm_145.1 mm_145.2.1 mm_145.2.2.1 mm_145.2.2.2.1 ∈ am_tb := am_at_in (p := 1085) (by decide +kernel)
theorem pk_145 : am_P 145 mm_145 := ⟨ok_145, fun _ => cw_145⟩
theorem cw_146 : Cond.code mm_146.1 mm_146.2.1 mm_146.2.2.1 mm_146.2.2.2.1 ∈ am_tb := am_at_in (p := 1093) (by decide +kernel)
theorem pk_146 : am_P 146 mm_146 := ⟨ok_146, fun _ => cw_146⟩
theorem cw_147 : Cond.code mm_147.1 mm_147.2.1 mm_147.2.2.1 mm_147.2.2.2.1 ∈ am_tb := am_at_in (p := 1097) (by decide +kernel)
theorem pk_147 : am_P 147 mm_147 := ⟨ok_147, fun _ => cw_147⟩
theorem cw_148 : Cond.code mm_148.1 mm_148.2.1 mm_148.2.2.1 mm_148.2.2.2.1 ∈ am_tb := am_at_in (p := 1070) (by decide +kernel)
theorem pk_148 : am_P 148 mm_148 := ⟨ok_148, fun _ => cw_148⟩
theorem cw_149 : Cond.code mm_149.1 mm_149.2.1 mm_149.2.2.1 mm_149.2.2.2.1 ∈ am_tb := am_at_in (p := 1078) (by decide +kernel)
theorem pk_149 : am_P 149 mm_149 := ⟨ok_149, fun _ => cw_149⟩
theorem cw_150 : Cond.code mm_150.1 mm_150.2.1 mm_150.2.2.1 mm_150.2.2.2.1 ∈ am_tb := am_at_in (p := 1089) (by decide +kernel)
theorem pk_150 : am_P 150 mm_150 := ⟨ok_150, fun _ => cw_150⟩
theorem cw_151 : Cond.code mm_151.1 mm_151.2.1 mm_151.2.2.1 mm_151.2.2.2.1 ∈ am_tb := am_at_in (p := 1101) (by decide +kernel)
theorem pk_151 : am_P 151 mm_151 := ⟨ok_151, fun _ => cw_151⟩
theorem cw_152 : Cond.code mm_152.1 mm_152.2.1 mm_152.2.2.1 mm_152.2.2.2.1 ∈ am_tb := am_at_in (p := 1108) (by decide +kernel)
theorem pk_152 : am_P 152 mm_152 := ⟨ok_152, fun _ => cw_152⟩
theorem cw_153 : Cond.code mm_153.1 mm_153.2.1 mm_153.2.2.1 mm_153.2.2.2.1 ∈ am_tb := am_at_in (p := 1112) (by decide +kernel)
theorem pk_153 : am_P 153 mm_153 := ⟨ok_153, fun _ => cw_153⟩
theorem cw_154 : Cond.code mm_154.1 mm_154.2.1 mm_154.2.2.1 mm_154.2.2.2.1 ∈ am_tb := am_at_in (p := 1116) (by decide +kernel)
theorem pk_154 : am_P 154 mm_154 := ⟨ok_154, fun _ => cw_154⟩
theorem cw_155 : Cond.code mm_155.1 mm_155.2.1 mm_155.2.2.1 mm_155.2.2.2.1 ∈ am_tb := am_at_in (p := 1125) (by decide +kernel)
theorem pk_155 : am_P 155 mm_155 := ⟨ok_155, fun _ => cw_155⟩
theorem cw_156 : Cond.code mm_156.1 mm_156.2.1 mm_156.2.2.1 mm_156.2.2.2.1 ∈ am_tb := am_at_in (p := 1104) (by decide +kernel)
theorem pk_156 : am_P 156 mm_156 := ⟨ok_156, fun _ => cw_156⟩
theorem cw_157 : Cond.code mm_157.1 mm_157.2.1 mm_157.2.2.1 mm_157.2.2.2.1 ∈ am_tb := am_at_in (p := 1120) (by decide +kernel)
theorem pk_157 : am_P 157 mm_157 := ⟨ok_157, fun _ => cw_157⟩
theorem cw_158 : Cond.code mm_158.1 mm_158.2.1 mm_158.2.2.1 mm_158.2.2.2.1 ∈ am_tb := am_at_in (p := 1223) (by decide +kernel)
theorem pk_158 : am_P 158 mm_158 := ⟨ok_158, fun _ => cw_158⟩
theorem cw_159 : Cond.code mm_159.1 mm_159.2.1 mm_159.2.2.1 mm_159.2.2.2.1 ∈ am_tb := am_at_in (p := 1227) (by decide +kernel)
theorem pk_159 : am_P 159 mm_159 := ⟨ok_159, fun _ => cw_159⟩
theorem cw_160 : Cond.code mm_160.1 mm_160.2.1 mm_160.2.2.1 mm_160.2.2.2.1 ∈ am_tb := am_at_in (p := 1231) (by decide +kernel)
theorem pk_160 : am_P 160 mm_160 := ⟨ok_160, fun _ => cw_160⟩
theorem cw_161 : Cond.code mm_161.1 mm_161.2.1 mm_161.2.2.1 mm_161.2.2.2.1 ∈ am_tb := am_at_in (p := 1241) (by decide +kernel)
theorem pk_161 : am_P 161 mm_161 := ⟨ok_161, fun _ => cw_161⟩
theorem cw_162 : Cond.code mm_162.1 mm_162.2.1 mm_162.2.2.1 mm_162.2.2.2.1 ∈ am_tb := am_at_in (p := 470) (by decide +kernel)
theorem pk_162 : am_P 162 mm_162 := ⟨ok_162, fun _ => cw_162⟩
theorem cw_163 : Cond.code mm_163.1 mm_163.2.1 mm_163.2.2.1 mm_163.2.2.2.1 ∈ am_tb := am_at_in (p := 1373) (by decide +kernel)
theorem pk_163 : am_P 163 mm_163 := ⟨ok_163, fun _ => cw_163⟩
theorem cw_164 : Cond.code mm_164.1 mm_164.2.1 mm_164.2.2.1 mm_164.2.2.2.1 ∈ am_tb := am_at_in (p := 1565) (by decide +kernel)
theorem pk_164 : am_P 164 mm_164 := ⟨ok_164, fun _ => cw_164⟩
theorem cw_165 : Cond.code mm_165.1 mm_165.2.1 mm_165.2.2.1 mm_165.2.2.2.1 ∈ am_tb := am_at_in (p := 1585) (by decide +kernel)
theorem pk_165 : am_P 165 mm_165 := ⟨ok_165, fun _ => cw_165⟩
theorem cw_166 : Cond.code mm_166.1 mm_166.2.1 mm_166.2.2.1 mm_166.2.2.2.1 ∈ am_tb := am_at_in (p := 1593) (by decide +kernel)
theorem pk_166 : am_P 166 mm_166 := ⟨ok_166, fun _ => cw_166⟩
theorem cw_167 : Cond.code mm_167.1 mm_167.2.1 mm_167.2.2.1 mm_167.2.2.2.1 ∈ am_tb := am_at_in (p := 1467) (by decide +kernel)
theorem pk_167 : am_P 167 mm_167 := ⟨ok_167, fun _ => cw_167⟩
theorem cw_168 : Cond.code mm_168.1 mm_168.2.1 mm_168.2.2.1 mm_168.2.2.2.1 ∈ am_tb := am_at_in (p := 1451) (by decide +kernel)
theorem pk_168 : am_P 168 mm_168 := ⟨ok_168, fun _ => cw_168⟩
theorem cw_169 : Cond.code mm_169.1 mm_169.2.1 mm_169.2.2.1 mm_169.2.2.2.1 ∈ am_tb := am_at_in (p := 1459) (by decide +kernel)
theorem pk_169 : am_P 169 mm_169 := ⟨ok_169, fun _ => cw_169⟩
theorem cw_170 : Cond.code mm_170.1 mm_170.2.1 mm_170.2.2.1 mm_170.2.2.2.1 ∈ am_tb := am_at_in (p := 1769) (by decide +kernel)
theorem pk_170 : am_P 170 mm_170 := ⟨ok_170, fun _ => cw_170⟩
theorem cw_171 : Cond.code mm_171.1 mm_171.2.1 mm_171.2.2.1 mm_171.2.2.2.1 ∈ am_tb := am_at_in (p := 1547) (by decide +kernel)
theorem pk_171 : am_P 171 mm_171 := ⟨ok_171, fun _ => cw_171⟩
theorem cw_172 : Cond.code mm_172.1 mm_172.2.1 mm_172.2.2.1 mm_172.2.2.2.1 ∈ am_tb := am_at_in (p := 1511) (by decide +kernel)
theorem pk_172 : am_P 172 mm_172 := ⟨ok_172, fun _ => cw_172⟩
theorem cw_173 : Cond.code mm_173.1 mm_173.2.1 mm_173.2.2.1 mm_173.2.2.2.1 ∈ am_tb := am_at_in (p := 1488) (by decide +kernel)
theorem pk_173 : am_P 173 mm_173 := ⟨ok_173, fun _ => cw_173⟩
theorem cw_174 : Cond.code mm_174.1 mm_174.2.1 mm_174.2.2.1 mm_174.2.2.2.1 ∈ am_tb := am_at_in (p := 1485) (by decide +kernel)
theorem pk_174 : am_P 174 mm_174 := ⟨ok_174, fun _ => cw_174⟩
theorem cw_175 : Cond.code mm_175.1 mm_175.2.1 mm_175.2.2.1 mm_175.2.2.2.1 ∈ am_tb := am_at_in (p := 1470) (by decide +kernel)
theorem pk_175 : am_P 175 mm_175 := ⟨ok_175, fun _ => cw_175⟩
theorem cw_176 : Cond.code mm_176.1 mm_176.2.1 mm_176.2.2.1 mm_176.2.2.2.1 ∈ am_tb := am_at_in (p := 1463) (by decide +kernel)
theorem pk_176 : am_P 176 mm_176 := ⟨ok_176, fun _ => cw_176⟩
theorem cw_177 : Cond.code mm_177.1 mm_177.2.1 mm_177.2.2.1 mm_177.2.2.2.1 ∈ am_tb := am_at_in (p := 1474) (by decide +kernel)
theorem pk_177 : am_P 177 mm_177 := ⟨ok_177, fun _ => cw_177⟩
theorem cw_178 : Cond.code mm_178.1 mm_178.2.1 mm_178.2.2.1 mm_178.2.2.2.1 ∈ am_tb := am_at_in (p := 1503) (by decide +kernel)
theorem pk_178 : am_P 178 mm_178 := ⟨ok_178, fun _ => cw_178⟩
theorem cw_179 : Cond.code mm_179.1 mm_179.2.1 mm_179.2.2.1 mm_179.2.2.2.1 ∈ am_tb := am_at_in (p := 1496) (by decide +kernel)
theorem pk_179 : am_P 179 mm_179 := ⟨ok_179, fun _ => cw_179⟩
theorem cw_180 : Cond.code mm_180.1 mm_180.2.1 mm_180.2.2.1 mm_180.2.2.2.1 ∈ am_tb := am_at_in (p := 1499) (by decide +kernel)
theorem pk_180 : am_P 180 mm_180 := ⟨ok_180, fun _ => cw_180⟩
theorem cw_181 : Cond.code mm_181.1 mm_181.2.1 mm_181.2.2.1 mm_181.2.2.2.1 ∈ am_tb := am_at_in (p := 1482) (by decide +kernel)
theorem pk_181 : am_P 181 mm_181 := ⟨ok_181, fun _ => cw_181⟩
theorem cw_182 : Cond.code mm_182.1 mm_182.2.1 mm_182.2.2.1 mm_182.2.2.2.1 ∈ am_tb := am_at_in (p := 1492) (by decide +kernel)
theorem pk_182 : am_P 182 mm_182 := ⟨ok_182, fun _ => cw_182⟩
theorem cw_183 : Cond.code mm_183.1 mm_183.2.1 mm_183.2.2.1 mm_183.2.2.2.1 ∈ am_tb := am_at_in (p := 1478) (by decide +kernel)
theorem pk_183 : am_P 183 mm_183 := ⟨ok_183, fun _ => cw_183⟩
theorem cw_184 : Cond.code mm_184.1 mm_184.2.1 mm_184.2.2.1 mm_184.2.2.2.1 ∈ am_tb := am_at_in (p := 1386) (by decide +kernel)
theorem pk_184 : am_P 184 mm_184 := ⟨ok_184, fun _ => cw_184⟩
theorem cw_185 : Cond.code mm_185.1 mm_185.2.1 mm_185.2.2.1 mm_185.2.2.2.1 ∈ am_tb := am_at_in (p := 1394) (by decide +kernel)
theorem pk_185 : am_P 185 mm_185 := ⟨ok_185, fun _ => cw_185⟩
theorem cw_186 : Cond.code mm_186.1 mm_186.2.1 mm_186.2.2.1 mm_186.2.2.2.1 ∈ am_tb := am_at_in (p := 1390) (by decide +kernel)
theorem pk_186 : am_P 186 mm_186 := ⟨ok_186, fun _ => cw_186⟩
theorem cw_187 : Cond.code mm_187.1 mm_187.2.1 mm_187.2.2.1 mm_187.2.2.2.1 ∈ am_tb := am_at_in (p := 1398) (by decide +kernel)
theorem pk_187 : am_P 187 mm_187 := ⟨ok_187, fun _ => cw_187⟩
theorem cw_188 : Cond.code mm_188.1 mm_188.2.1 mm_188.2.2.1 mm_188.2.2.2.1 ∈ am_tb := am_at_in (p := 1382) (by decide +kernel)
theorem pk_188 : am_P 188 mm_188 := ⟨ok_188, fun _ => cw_188⟩
theorem cw_189 : Cond.code mm_189.1 mm_189.2.1 mm_189.2.2.1 mm_189.2.2.2.1 ∈ am_tb := am_at_in (p := 1406) (by decide +kernel)
theorem pk_189 : am_P 189 mm_189 := ⟨ok_189, fun _ => cw_189⟩
theorem cw_190 : Cond.code mm_190.1 mm_190.2.1 mm_190.2.2.1 mm_190.2.2.2.1 ∈ am_tb := am_at_in (p := 1434) (by decide +kernel)
theorem pk_190 : am_P 190 mm_190 := ⟨ok_190, fun _ => cw_190⟩
theorem cw_191 : Cond.code mm_191.1 mm_191.2.1 mm_191.2.2.1 mm_191.2.2.2.1 ∈ am_tb := am_at_in (p := 1430) (by decide +kernel)
theorem pk_191 : am_P 191 mm_191 := ⟨ok_191, fun _ => cw_191⟩
theorem cw_192 : Cond.code mm_192.1 mm_192.2.1 mm_192.2.2.1 mm_192.2.2.2.1 ∈ am_tb := am_at_in (p := 1426) (by decide +kernel)
theorem pk_192 : am_P 192 mm_192 := ⟨ok_192, fun _ => cw_192⟩
theorem cw_193 : Cond.code mm_193.1 mm_193.2.1 mm_193.2.2.1 mm_193.2.2.2.1 ∈ am_tb := am_at_in (p := 1422) (by decide +kernel)
theorem pk_193 : am_P 193 mm_193 := ⟨ok_193, fun _ => cw_193⟩
theorem cw_194 : Cond.code mm_194.1 mm_194.2.1 mm_194.2.2.1 mm_194.2.2.2.1 ∈ am_tb := am_at_in (p := 1418) (by decide +kernel)
theorem pk_194 : am_P 194 mm_194 := ⟨ok_194, fun _ => cw_194⟩
theorem cw_195 : Cond.code mm_195.1 mm_195.2.1 mm_195.2.2.1 mm_195.2.2.2.1 ∈ am_tb := am_at_in (p := 1414) (by decide +kernel)
theorem pk_195 : am_P 195 mm_195 := ⟨ok_195, fun _ => cw_195⟩
theorem cw_196 : Cond.code mm_196.1 mm_196.2.1 mm_196.2.2.1 mm_196.2.2.2.1 ∈ am_tb := am_at_in (p := 1410) (by decide +kernel)
theorem pk_196 : am_P 196 mm_196 := ⟨ok_196, fun _ => cw_196⟩
theorem cw_197 : Cond.code mm_197.1 mm_197.2.1 mm_197.2.2.1 mm_197.2.2.2.1 ∈ am_tb := am_at_in (p := 1402) (by decide +kernel)
theorem pk_197 : am_P 197 mm_197 := ⟨ok_197, fun _ => cw_197⟩
theorem cw_198 : Cond.code mm_198.1 mm_198.2.1 mm_198.2.2.1 mm_198.2.2.2.1 ∈ am_tb := am_at_in (p := 1370) (by decide +kernel)
theorem pk_198 : am_P 198 mm_198 := ⟨ok_198, fun _ => cw_198⟩
theorem cw_199 : Cond.code mm_199.1 mm_199.2.1 mm_199.2.2.1 mm_199.2.2.2.1 ∈ am_tb := am_at_in (p := 1378) (by decide +kernel)
theorem pk_199 : am_P 199 mm_199 := ⟨ok_199, fun _ => cw_199⟩
theorem cw_200 : Cond.code mm_200.1 mm_200.2.1 mm_200.2.2.1 mm_200.2.2.2.1 ∈ am_tb := am_at_in (p := 1562) (by decide +kernel)
theorem pk_200 : am_P 200 mm_200 := ⟨ok_200, fun _ => cw_200⟩
theorem cw_201 : Cond.code mm_201.1 mm_201.2.1 mm_201.2.2.1 mm_201.2.2.2.1 ∈ am_tb := am_at_in (p := 1577) (by decide +kernel)
theorem pk_201 : am_P 201 mm_201 := ⟨ok_201, fun _ => cw_201⟩
theorem cw_202 : Cond.code mm_202.1 mm_202.2.1 mm_202.2.2.1 mm_202.2.2.2.1 ∈ am_tb := am_at_in (p := 1573) (by decide +kernel)
theorem pk_202 : am_P 202 mm_202 := ⟨ok_202, fun _ => cw_202⟩
theorem cw_203 : Cond.code mm_203.1 mm_203.2.1 mm_203.2.2.1 mm_203.2.2.2.1 ∈ am_tb := am_at_in (p := 1569) (by decide +kernel)
theorem pk_203 : am_P 203 mm_203 := ⟨ok_203, fun _ => cw_203⟩
theorem cw_204 : Cond.code mm_204.1 mm_204.2.1 mm_204.2.2.1 mm_204.2.2.2.1 ∈ am_tb := am_at_in (p := 1559) (by decide +kernel)
theorem pk_204 : am_P 204 mm_204 := ⟨ok_204, fun _ => cw_204⟩
theorem cw_205 : Cond.code mm_205.1 mm_205.2.1 mm_205.2.2.1 mm_205.2.2.2.1 ∈ am_tb := am_at_in (p := 1441) (by decide +kernel)
theorem pk_205 : am_P 205 mm_205 := ⟨ok_205, fun _ => cw_205⟩
theorem cw_206 : Cond.code mm_206.1 mm_206.2.1 mm_206.2.2.1 mm_206.2.2.2.1 ∈ am_tb := am_at_in (p := 1444) (by decide +kernel)
theorem pk_206 : am_P 206 mm_206 := ⟨ok_206, fun _ => cw_206⟩
theorem cw_207 : Cond.code mm_207.1 mm_207.2.1 mm_207.2.2.1 mm_207.2.2.2.1 ∈ am_tb := am_at_in (p := 1447) (by decide +kernel)
theorem pk_207 : am_P 207 mm_207 := ⟨ok_207, fun _ => cw_207⟩
theorem cw_208 : Cond.code mm_208.1 mm_208.2.1 mm_208.2.2.1 mm_208.2.2.2.1 ∈ am_tb := am_at_in (p := 1438) (by decide +kernel)
theorem pk_208 : am_P 208 mm_208 := ⟨ok_208, fun _ => cw_208⟩
theorem cw_209 : Cond.code mm_209.1 mm_209.2.1 mm_209.2.2.1 mm_209.2.2.2.1 ∈ am_tb := am_at_in (p := 1455) (by decide +kernel)
theorem pk_209 : am_P 209 mm_209 := ⟨ok_209, fun _ => cw_209⟩
theorem cw_210 : Cond.code mm_210.1 mm_210.2.1 mm_210.2.2.1 mm_210.2.2.2.1 ∈ am_tb := am_at_in (p := 1507) (by decide +kernel)
theorem pk_210 : am_P 210 mm_210 := ⟨ok_210, fun _ => cw_210⟩
theorem cw_211 : Cond.code mm_211.1 mm_211.2.1 mm_211.2.2.1 mm_211.2.2.2.1 ∈ am_tb := am_at_in (p := 1515) (by decide +kernel)
theorem pk_211 : am_P 211 mm_211 := ⟨ok_211, fun _ => cw_211⟩
theorem cw_212 : Cond.code mm_212.1 mm_212.2.1 mm_212.2.2.1 mm_212.2.2.2.1 ∈ am_tb := am_at_in (p := 1519) (by decide +kernel)
theorem pk_212 : am_P 212 mm_212 := ⟨ok_212, fun _ => cw_212⟩
theorem cw_213 : Cond.code mm_213.1 mm_213.2.1 mm_213.2.2.1 mm_213.2.2.2.1 ∈ am_tb := am_at_in (p := 1523) (by decide +kernel)
theorem pk_213 : am_P 213 mm_213 := ⟨ok_213, fun _ => cw_213⟩
theorem cw_214 : Cond.code mm_214.1 mm_214.2.1 mm_214.2.2.1 mm_214.2.2.2.1 ∈ am_tb := am_at_in (p := 1527) (by decide +kernel)
theorem pk_214 : am_P 214 mm_214 := ⟨ok_214, fun _ => cw_214⟩
theorem cw_215 : Cond.code mm_215.1 mm_215.2.1 mm_215.2.2.1 mm_215.2.2.2.1 ∈ am_tb := am_at_in (p := 1531) (by decide +kernel)
theorem pk_215 : am_P 215 mm_215 := ⟨ok_215, fun _ => cw_215⟩
theorem cw_216 : Cond.code mm_216.1 mm_216.2.1 mm_216.2.2.1 mm_216.2.2.2.1 ∈ am_tb := am_at_in (p := 1535) (by decide +kernel)
theorem pk_216 : am_P 216 mm_216 := ⟨ok_216, fun _ => cw_216⟩
theorem cw_217 : Cond.code mm_217.1 mm_217.2.1 mm_217.2.2.1 mm_217.2.2.2.1 ∈ am_tb := am_at_in (p := 1539) (by decide +kernel)
theorem pk_217 : am_P 217 mm_217 := ⟨ok_217, fun _ => cw_217⟩
theorem cw_218 : Cond.code mm_218.1 mm_218.2.1 mm_218.2.2.1 mm_218.2.2.2.1 ∈ am_tb := am_at_in (p := 1551) (by decide +kernel)
theorem pk_218 : am_P 218 mm_218 := ⟨ok_218, fun _ => cw_218⟩
theorem cw_219 : Cond.code mm_219.1 mm_219.2.1 mm_219.2.2.1 mm_219.2.2.2.1 ∈ am_tb := am_at_in (p := 1543) (by decide +kernel)
theorem pk_219 : am_P 219 mm_219 := ⟨ok_219, fun _ => cw_219⟩
theorem cw_220 : Cond.code mm_220.1 mm_220.2.1 mm_220.2.2.1 mm_220.2.2.2.1 ∈ am_tb := am_at_in (p := 1555) (by decide +kernel)
theorem pk_220 : am_P 220 mm_220 := ⟨ok_220, fun _ => cw_220⟩
theorem cw_221 : Cond.code mm_221.1 mm_221.2.1 mm_221.2.2.1 mm_221.2.2.2.1 ∈ am_tb := am_at_in (p := 1589) (by decide +kernel)
theorem pk_221 : am_P 221 mm_221 := ⟨ok_221, fun _ => cw_221⟩
theorem cw_222 : Cond.code mm_222.1 mm_222.2.1 mm_222.2.2.1 mm_222.2.2.2.1 ∈ am_tb := am_at_in (p := 1581) (by decide +kernel)
theorem pk_222 : am_P 222 mm_222 := ⟨ok_222, fun _ => cw_222⟩
theorem cw_223 : Cond.code mm_223.1 mm_223.2.1 mm_223.2.2.1 mm_223.2.2.2.1 ∈ am_tb := am_at_in (p := 1597) (by decide +kernel)
theorem pk_223 : am_P 223 mm_223 := ⟨ok_223, fun _ => cw_223⟩
theorem cw_224 : Cond.code mm_224.1 mm_224.2.1 mm_224.2.2.1 mm_224.2.2.2.1 ∈ am_tb := am_at_in (p := 1605) (by decide +kernel)
theorem pk_224 : am_P 224 mm_224 := ⟨ok_224, fun _ => cw_224⟩
theorem cw_225 : Cond.code mm_225.1 mm_225.2.1 mm_225.2.2.1 mm_225.2.2.2.1 ∈ am_tb := am_at_in (p := 1601) (by decide +kernel)
theorem pk_225 : am_P 225 mm_225 := ⟨ok_225, fun _ => cw_225⟩
theorem cw_226 : Cond.code mm_226.1 mm_226.2.1 mm_226.2.2.1 mm_226.2.2.2.1 ∈ am_tb := am_at_in (p := 1609) (by decide +kernel)
theorem pk_226 : am_P 226 mm_226 := ⟨ok_226, fun _ => cw_226⟩
theorem cw_227 : Cond.code mm_227.1 mm_227.2.1 mm_227.2.2.1 mm_227.2.2.2.1 ∈ am_tb := am_at_in (p := 1613) (by decide +kernel)
theorem pk_227 : am_P 227 mm_227 := ⟨ok_227, fun _ => cw_227⟩
theorem cw_228 : Cond.code mm_228.1 mm_228.2.1 mm_228.2.2.1 mm_228.2.2.2.1 ∈ am_tb := am_at_in (p := 1617) (by decide +kernel)
theorem pk_228 : am_P 228 mm_228 := ⟨ok_228, fun _ => cw_228⟩
theorem cw_229 : Cond.code mm_229.1 mm_229.2.1 mm_229.2.2.1 mm_229.2.2.2.1 ∈ am_tb := am_at_in (p := 1629) (by decide +kernel)
theorem pk_229 : am_P 229 mm_229 := ⟨ok_229, fun _ => cw_229⟩
theorem cw_230 : Cond.code mm_230.1 mm_230.2.1 mm_230.2.2.1 mm_230.2.2.2.1 ∈ am_tb := am_at_in (p := 1625) (by decide +kernel)
theorem pk_230 : am_P 230 mm_230 := ⟨ok_230, fun _ => cw_230⟩
theorem cw_231 : Cond.code mm_231.1 mm_231.2.1 mm_231.2.2.1 mm_231.2.2.2.1 ∈ am_tb := am_at_in (p := 1621) (by decide +kernel)
theorem pk_231 : am_P 231 mm_231 := ⟨ok_231, fun _ => cw_231⟩
theorem cw_232 : Cond.code mm_232.1 mm_232.2.1 mm_232.2.2.1 mm_232.2.2.2.1 ∈ am_tb := am_at_in (p := 1637) (by decide +kernel)
theorem pk_232 : am_P 232 mm_232 := ⟨ok_232, fun _ => cw_232⟩
theorem cw_233 : Cond.code mm_233.1 mm_233.2.1 mm_233.2.2.1 mm_233.2.2.2.1 ∈ am_tb := am_at_in (p := 1633) (by decide +kernel)
theorem pk_233 : am_P 233 mm_233 := ⟨ok_233, fun _ => cw_233⟩
theorem cw_234 : Cond.code mm_234.1 mm_234.2.1 mm_234.2.2.1 mm_234.2.2.2.1 ∈ am_tb := am_at_in (p := 1664) (by decide +kernel)
theorem pk_234 : am_P 234 mm_234 := ⟨ok_234, fun _ => cw_234⟩
theorem cw_235 : Cond.code mm_235.1 mm_235.2.1 mm_235.2.2.1 mm_235.2.2.2.1 ∈ am_tb := am_at_in (p := 1668) (by decide +kernel)
theorem pk_235 : am_P 235 mm_235 := ⟨ok_235, fun _ => cw_235⟩
theorem cw_236 : Cond.code mm_236.1 mm_236.2.1 mm_236.2.2.1 mm_236.2.2.2.1 ∈ am_tb := am_at_in (p := 1652) (by decide +kernel)
theorem pk_236 : am_P 236 mm_236 := ⟨ok_236, fun _ => cw_236⟩
theorem cw_237 : Cond.code mm_237.1 mm_237.2.1 mm_237.2.2.1 mm_237.2.2.2.1 ∈ am_tb := am_at_in (p := 1660) (by decide +kernel)
theorem pk_237 : am_P 237 mm_237 := ⟨ok_237, fun _ => cw_237⟩
theorem cw_238 : Cond.code mm_238.1 mm_238.2.1 mm_238.2.2.1 mm_238.2.2.2.1 ∈ am_tb := am_at_in (p := 1656) (by decide +kernel)
theorem pk_238 : am_P 238 mm_238 := ⟨ok_238, fun _ => cw_238⟩
theorem cw_239 : Cond.code mm_239.1 mm_239.2.1 mm_239.2.2.1 mm_239.2.2.2.1 ∈ am_tb := am_at_in (p := 1648) (by decide +kernel)
theorem pk_239 : am_P 239 mm_239 := ⟨ok_239, fun _ => cw_239⟩
theorem cw_240 : Cond.code mm_240.1 mm_240.2.1 mm_240.2.2.1 mm_240.2.2.2.1 ∈ am_tb := am_at_in (p := 1644) (by decide +kernel)
theorem pk_240 : am_P 240 mm_240 := ⟨ok_240, fun _ => cw_240⟩
theorem cw_241 : Cond.code mm_241.1 mm_241.2.1 mm_241.2.2.1 mm_241.2.2.2.1 ∈ am_tb := am_at_in (p := 1641) (by decide +kernel)
theorem pk_241 : am_P 241 mm_241 := ⟨ok_241, fun _ => cw_241⟩
theorem cw_242 : Cond.code mm_242.1 mm_242.2.1 mm_242.2.2.1 mm_242.2.2.2.1 ∈ am_tb := am_at_in (p := 1672) (by decide +kernel)
theorem pk_242 : am_P 242 mm_242 := ⟨ok_242, fun _ => cw_242⟩
theorem cw_243 : Cond.code mm_243.1 mm_243.2.1 mm_243.2.2.1 mm_243.2.2.2.1 ∈ am_tb := am_at_in (p := 1676) (by decide +kernel)
theorem pk_243 : am_P 243 mm_243 := ⟨ok_243, fun _ => cw_243⟩
theorem cw_244 : Cond.code mm_244.1 mm_244.2.1 mm_244.2.2.1 mm_244.2.2.2.1 ∈ am_tb := am_at_in (p := 1684) (by decide +kernel)
theorem pk_244 : am_P 244 mm_244 := ⟨ok_244, fun _ => cw_244⟩
theorem cw_245 : Cond.code mm_245.1 mm_245.2.1 mm_245.2.2.1 mm_245.2.2.2.1 ∈ am_tb := am_at_in (p := 1680) (by decide +kernel)
theorem pk_245 : am_P 245 mm_245 := ⟨ok_245, fun _ => cw_245⟩
theorem cw_246 : Cond.code mm_246.1 mm_246.2.1 mm_246.2.2.1 mm_246.2.2.2.1 ∈ am_tb := am_at_in (p := 1688) (by decide +kernel)
theorem pk_246 : am_P 246 mm_246 := ⟨ok_246, fun _ => cw_246⟩
theorem cw_247 : Cond.code mm_247.1 mm_247.2.1 mm_247.2.2.1 mm_247.2.2.2.1 ∈ am_tb := am_at_in (p := 1696) (by decide +kernel)
theorem pk_247 : am_P 247 mm_247 := ⟨ok_247, fun _ => cw_247⟩
theorem cw_248 : Cond.code mm_248.1 mm_248.2.1 mm_248.2.2.1 mm_248.2.2.2.1 ∈ am_tb := am_at_in (p := 1692) (by decide +kernel)
theorem pk_248 : am_P 248 mm_248 := ⟨ok_248, fun _ => cw_248⟩
theorem cw_249 : Cond.code mm_249.1 mm_249.2.1 mm_249.2.2.1 mm_249.2.2.2.1 ∈ am_tb := am_at_in (p := 1700) (by decide +kernel)
theorem pk_249 : am_P 249 mm_249 := ⟨ok_249, fun _ => cw_249⟩
theorem cw_250 : Cond.code mm_250.1 mm_250.2.1 mm_250.2.2.1 mm_250.2.2.2.1 ∈ am_tb := am_at_in (p := 1704) (by decide +kernel)
theorem pk_250 : am_P 250 mm_250 := ⟨ok_250, fun _ => cw_250⟩
theorem cw_251 : Cond.code mm_251.1 mm_251.2.1 mm_251.2.2.1 mm_251.2.2.2.1 ∈ am_tb := am_at_in (p := 1708) (by decide +kernel)
theorem pk_251 : am_P 251 mm_251 := ⟨ok_251, fun _ => cw_251⟩
theorem cw_252 : Cond.code mm_252.1 mm_252.2.1 mm_252.2.2.1 mm_252.2.2.2.1 ∈ am_tb := am_at_in (p := 1720) (by decide +kernel)
theorem pk_252 : am_P 252 mm_252 := ⟨ok_252, fun _ => cw_252⟩
theorem cw_253 : Cond.code mm_253.1 mm_253.2.1 mm_253.2.2.1 mm_253.2.2.2.1 ∈ am_tb := am_at_in (p := 1724) (by decide +kernel)
theorem pk_253 : am_P 253 mm_253 := ⟨ok_253, fun _ => cw_253⟩
theorem cw_254 : Cond.code mm_254.1 mm_254.2.1 mm_254.2.2.1 mm_254.2.2.2.1 ∈ am_tb := am_at_in (p := 1716) (by decide +kernel)
theorem pk_254 : am_P 254 mm_254 := ⟨ok_254, fun _ => cw_254⟩
theorem cw_255 : Cond.code mm_255.1 mm_255.2.1 mm_255.2.2.1 mm_255.2.2.2.1 ∈ am_tb := am_at_in (p := 1712) (by decide +kernel)
theorem pk_255 : am_P 255 mm_255 := ⟨ok_255, fun _ => cw_255⟩
theorem cw_256 : Cond.code mm_256.1 mm_256.2.1 mm_256.2.2.1 mm_256.2.2.2.1 ∈ am_tb := am_at_in (p := 1728) (by decide +kernel)
theorem pk_256 : am_P 256 mm_256 := ⟨ok_256, fun _ => cw_256⟩
theorem cw_257 : Cond.code mm_257.1 mm_257.2.1 mm_257.2.2.1 mm_257.2.2.2.1 ∈ am_tb := am_at_in (p := 1732) (by decide +kernel)
theorem pk_257 : am_P 257 mm_257 := ⟨ok_257, fun _ => cw_257⟩
theorem cw_258 : Cond.code mm_258.1 mm_258.2.1 mm_258.2.2.1 mm_258.2.2.2.1 ∈ am_tb := am_at_in (p := 1740) (by decide +kernel)
theorem pk_258 : am_P 258 mm_258 := ⟨ok_258, fun _ => cw_258⟩
theorem cw_259 : Cond.code mm_259.1 mm_259.2.1 mm_259.2.2.1 mm_259.2.2.2.1 ∈ am_tb := am_at_in (p := 1736) (by decide +kernel)
theorem pk_259 : am_P 259 mm_259 := ⟨ok_259, fun _ => cw_259⟩
theorem cw_260 : Cond.code mm_260.1 mm_260.2.1 mm_260.2.2.1 mm_260.2.2.2.1 ∈ am_tb := am_at_in (p := 1745) (by decide +kernel)
theorem pk_260 : am_P 260 mm_260 := ⟨ok_260, fun _ => cw_260⟩
theorem cw_261 : Cond.code mm_261.1 mm_261.2.1 mm_261.2.2.1 mm_261.2.2.2.1 ∈ am_tb := am_at_in (p := 1749) (by decide +kernel)
theorem pk_261 : am_P 261 mm_261 := ⟨ok_261, fun _ => cw_261⟩
theorem cw_262 : Cond.code mm_262.1 mm_262.2.1 mm_262.2.2.1 mm_262.2.2.2.1 ∈ am_tb := am_at_in (p := 1757) (by decide +kernel)
theorem pk_262 : am_P 262 mm_262 := ⟨ok_262, fun _ => cw_262⟩
theorem cw_263 : Cond.code mm_263.1 mm_263.2.1 mm_263.2.2.1 mm_263.2.2.2.1 ∈ am_tb := am_at_in (p := 1753) (by decide +kernel)
theorem pk_263 : am_P 263 mm_263 := ⟨ok_263, fun _ => cw_263⟩
theorem cw_264 : Cond.code mm_264.1 mm_264.2.1 mm_264.2.2.1 mm_264.2.2.2.1 ∈ am_tb := am_at_in (p := 1761) (by decide +kernel)
theorem pk_264 : am_P 264 mm_264 := ⟨ok_264, fun _ => cw_264⟩
theorem cw_265 : Cond.code mm_265.1 mm_265.2.1 mm_265.2.2.1 mm_265.2.2.2.1 ∈ am_tb := am_at_in (p := 1765) (by decide +kernel)
theorem pk_265 : am_P 265 mm_265 := ⟨ok_265, fun _ => cw_265⟩
theorem cw_266 : Cond.code mm_266.1 mm_266.2.1 mm_266.2.2.1 mm_266.2.2.2.1 ∈ am_tb := am_at_in (p := 1776) (by decide +kernel)
theorem pk_266 : am_P 266 mm_266 := ⟨ok_266, fun _ => cw_266⟩
theorem cw_267 : Cond.code mm_267.1 mm_267.2.1 mm_267.2.2.1 mm_267.2.2.2.1 ∈ am_tb := am_at_in (p := 1773) (by decide +kernel)
theorem pk_267 : am_P 267 mm_267 := ⟨ok_267, fun _ => cw_267⟩
theorem cw_268 : Cond.code mm_268.1 mm_268.2.1 mm_268.2.2.1 mm_268.2.2.2.1 ∈ am_tb := am_at_in (p := 1783) (by decide +kernel)
theorem pk_268 : am_P 268 mm_268 := ⟨ok_268, fun _ => cw_268⟩
theorem cw_269 : Cond.code mm_269.1 mm_269.2.1 mm_269.2.2.1 mm_269.2.2.2.1 ∈ am_tb := am_at_in (p := 1780) (by decide +kernel)
theorem pk_269 : am_P 269 mm_269 := ⟨ok_269, fun _ => cw_269⟩
theorem cw_270 : Cond.code mm_270.1 mm_270.2.1 mm_270.2.2.1 mm_270.2.2.2.1 ∈ am_tb := am_at_in (p := 1791) (by decide +kernel)
theorem pk_270 : am_P 270 mm_270 := ⟨ok_270, fun _ => cw_270⟩
theorem cw_271 : Cond.code mm_271.1 mm_271.2.1 mm_271.2.2.1 mm_271.2.2.2.1 ∈ am_tb := am_at_in (p := 1787) (by decide +kernel)
theorem pk_271 : am_P 271 mm_271 := ⟨ok_271, fun _ => cw_271⟩
theorem cw_272 : Cond.code mm_272.1 mm_272.2.1 mm_272.2.2.1 mm_272.2.2.2.1 ∈ am_tb := am_at_in (p := 1799) (by decide +kernel)
theorem pk_272 : am_P 272 mm_272 := ⟨ok_272, fun _ => cw_272⟩
theorem cw_273 : Cond.code mm_273.1 mm_273.2.1 mm_273.2.2.1 mm_273.2.2.2.1 ∈ am_tb := am_at_in (p := 1795) (by decide +kernel)
theorem pk_273 : am_P 273 mm_273 := ⟨ok_273, fun _ => cw_273⟩
theorem cw_274 : Cond.code mm_274.1 mm_274.2.1 mm_274.2.2.1 mm_274.2.2.2.1 ∈ am_tb := am_at_in (p := 1803) (by decide +kernel)
theorem pk_274 : am_P 274 mm_274 := ⟨ok_274, fun _ => cw_274⟩
theorem cw_275 : Cond.code mm_275.1 mm_275.2.1 mm_275.2.2.1 mm_275.2.2.2.1 ∈ am_tb := am_at_in (p := 1807) (by decide +kernel)
theorem pk_275 : am_P 275 mm_275 := ⟨ok_275, fun _ => cw_275⟩
theorem cw_276 : Cond.code mm_276.1 mm_276.2.1 mm_276.2.2.1 mm_276.2.2.2.1 ∈ am_tb := am_at_in (p := 1815) (by decide +kernel)
theorem pk_276 : am_P 276 mm_276 := ⟨ok_276, fun _ => cw_276⟩
theorem cw_277 : Cond.code mm_277.1 mm_277.2.1 mm_277.2.2.1 mm_277.2.2.2.1 ∈ am_tb := am_at_in (p := 1811) (by decide +kernel)
theorem pk_277 : am_P 277 mm_277 := ⟨ok_277, fun _ => cw_277⟩
theorem cw_278 : Cond.code mm_278.1 mm_278.2.1 mm_278.2.2.1 mm_278.2.2.2.1 ∈ am_tb := am_at_in (p := 1827) (by decide +kernel)
theorem pk_278 : am_P 278 mm_278 := ⟨ok_278, fun _ => cw_278⟩
theorem cw_279 : Cond.code mm_279.1 mm_279.2.1 mm_279.2.2.1 mm_279.2.2.2.1 ∈ am_tb := am_at_in (p := 1823) (by decide +kernel)
theorem pk_279 : am_P 279 mm_279 := ⟨ok_279, fun _ => cw_279⟩
theorem cw_280 : Cond.code mm_280.1 mm_280.2.1 mm_280.2.2.1 mm_280.2.2.2.1 ∈ am_tb := am_at_in (p := 1831) (by decide +kernel)
theorem pk_280 : am_P 280 mm_280 := ⟨ok_280, fun _ => cw_280⟩
theorem cw_281 : Cond.code mm_281.1 mm_281.2.1 mm_281.2.2.1 mm_281.2.2.2.1 ∈ am_tb := am_at_in (p := 1835) (by decide +kernel)
theorem pk_281 : am_P 281 mm_281 := ⟨ok_281, fun _ => cw_281⟩
theorem cw_282 : Cond.code mm_282.1 mm_282.2.1 mm_282.2.2.1 mm_282.2.2.2.1 ∈ am_tb := am_at_in (p := 1839) (by decide +kernel)
theorem pk_282 : am_P 282 mm_282 := ⟨ok_282, fun _ => cw_282⟩
theorem cw_283 : Cond.code mm_283.1 mm_283.2.1 mm_283.2.2.1 mm_283.2.2.2.1 ∈ am_tb := am_at_in (p := 1819) (by decide +kernel)
theorem pk_283 : am_P 283 mm_283 := ⟨ok_283, fun _ => cw_283⟩
theorem cw_284 : Cond.code mm_284.1 mm_284.2.1 mm_284.2.2.1 mm_284.2.2.2.1 ∈ am_tb := am_at_in (p := 1843) (by decide +kernel)
theorem pk_284 : am_P 284 mm_284 := ⟨ok_284, fun _ => cw_284⟩
theorem cw_285 : Cond.code mm_285.1 mm_285.2.1 mm_285.2.2.1 mm_285.2.2.2.1 ∈ am_tb := am_at_in (p := 1850) (by decide +kernel)
theorem pk_285 : am_P 285 mm_285 := ⟨ok_285, fun _ => cw_285⟩
theorem cw_286 : Cond.code mm_286.1 mm_286.2.1 mm_286.2.2.1 mm_286.2.2.2.1 ∈ am_tb := am_at_in (p := 1847) (by decide +kernel)
theorem pk_286 : am_P 286 mm_286 := ⟨ok_286, fun _ => cw_286⟩
theorem cw_287 : Cond.code mm_287.1 mm_287.2.1 mm_287.2.2.1 mm_287.2.2.2.1 ∈ am_tb := am_at_in (p := 1854) (by decide +kernel)
theorem pk_287 : am_P 287 mm_287 := ⟨ok_287, fun _ => cw_287⟩
theorem cw_288 : Cond.code mm_288.1 mm_288.2.1 mm_288.2.2.1 mm_288.2.2.2.1 ∈ am_tb := am_at_in (p := 1858) (by decide +kernel)
theorem pk_288 : am_P 288 mm_288 := ⟨ok_288, fun _ => cw_288⟩
theorem pk_289 : am_P 289 mm_289 := ⟨ok_289, fun h => absurd rfl h⟩
theorem pl_0 : am_Pl 0 [mm_0, mm_1, mm_2, mm_3, mm_4, mm_5, mm_6, mm_7, mm_8, mm_9, mm_10, mm_11, mm_12, mm_13, mm_14, mm_15] := am_Pl_c pk_0 (am_Pl_c pk_1 (am_Pl_c pk_2 (am_Pl_c pk_3 (am_Pl_c pk_4 (am_Pl_c pk_5 (am_Pl_c pk_6 (am_Pl_c pk_7 (am_Pl_c pk_8 (am_Pl_c pk_9 (am_Pl_c pk_10 (am_Pl_c pk_11 (am_Pl_c pk_12 (am_Pl_c pk_13 (am_Pl_c pk_14 (am_Pl_c pk_15 (am_Pl_n _))))))))))))))))
theorem pl_1 : am_Pl 16 [mm_16, mm_17, mm_18, mm_19, mm_20, mm_21, mm_22, mm_23, mm_24, mm_25, mm_26, mm_27, mm_28, mm_29, mm_30, mm_31] := am_Pl_c pk_16 (am_Pl_c pk_17 (am_Pl_c pk_18 (am_Pl_c pk_19 (am_Pl_c pk_20 (am_Pl_c pk_21 (am_Pl_c pk_22 (am_Pl_c pk_23 (am_Pl_c pk_24 (am_Pl_c pk_25 (am_Pl_c pk_26 (am_Pl_c pk_27 (am_Pl_c pk_28 (am_Pl_c pk_29 (am_Pl_c pk_30 (am_Pl_c pk_31 (am_Pl_n _))))))))))))))))
theorem pl_2 : am_Pl 32 [mm_32, mm_33, mm_34, mm_35, mm_36, mm_37, mm_38, mm_39, mm_40, mm_41, mm_42, mm_43, mm_44, mm_45, mm_46, mm_47] := am_Pl_c pk_32 (am_Pl_c pk_33 (am_Pl_c pk_34 (am_Pl_c pk_35 (am_Pl_c pk_36 (am_Pl_c pk_37 (am_Pl_c pk_38 (am_Pl_c pk_39 (am_Pl_c pk_40 (am_Pl_c pk_41 (am_Pl_c pk_42 (am_Pl_c pk_43 (am_Pl_c pk_44 (am_Pl_c pk_45 (am_Pl_c pk_46 (am_Pl_c pk_47 (am_Pl_n _))))))))))))))))
theorem pl_3 : am_Pl 48 [mm_48, mm_49, mm_50, mm_51, mm_52, mm_53, mm_54, mm_55, mm_56, mm_57, mm_58, mm_59, mm_60, mm_61, mm_62, mm_63] := am_Pl_c pk_48 (am_Pl_c pk_49 (am_Pl_c pk_50 (am_Pl_c pk_51 (am_Pl_c pk_52 (am_Pl_c pk_53 (am_Pl_c pk_54 (am_Pl_c pk_55 (am_Pl_c pk_56 (am_Pl_c pk_57 (am_Pl_c pk_58 (am_Pl_c pk_59 (am_Pl_c pk_60 (am_Pl_c pk_61 (am_Pl_c pk_62 (am_Pl_c pk_63 (am_Pl_n _))))))))))))))))
theorem pl_4 : am_Pl 64 [mm_64, mm_65, mm_66, mm_67, mm_68, mm_69, mm_70, mm_71, mm_72, mm_73, mm_74, mm_75, mm_76, mm_77, mm_78, mm_79] := am_Pl_c pk_64 (am_Pl_c pk_65 (am_Pl_c pk_66 (am_Pl_c pk_67 (am_Pl_c pk_68 (am_Pl_c pk_69 (am_Pl_c pk_70 (am_Pl_c pk_71 (am_Pl_c pk_72 (am_Pl_c pk_73 (am_Pl_c pk_74 (am_Pl_c pk_75 (am_Pl_c pk_76 (am_Pl_c pk_77 (am_Pl_c pk_78 (am_Pl_c pk_79 (am_Pl_n _))))))))))))))))
theorem pl_5 : am_Pl 80 [mm_80, mm_81, mm_82, mm_83, mm_84, mm_85, mm_86, mm_87, mm_88, mm_89, mm_90, mm_91, mm_92, mm_93, mm_94, mm_95] := am_Pl_c pk_80 (am_Pl_c pk_81 (am_Pl_c pk_82 (am_Pl_c pk_83 (am_Pl_c pk_84 (am_Pl_c pk_85 (am_Pl_c pk_86 (am_Pl_c pk_87 (am_Pl_c pk_88 (am_Pl_c pk_89 (am_Pl_c pk_90 (am_Pl_c pk_91 (am_Pl_c pk_92 (am_Pl_c pk_93 (am_Pl_c pk_94 (am_Pl_c pk_95 (am_Pl_n _))))))))))))))))
theorem pl_6 : am_Pl 96 [mm_96, mm_97, mm_98, mm_99, mm_100, mm_101, mm_102, mm_103, mm_104, mm_105, mm_106, mm_107, mm_108, mm_109, mm_110, mm_111] := am_Pl_c pk_96 (am_Pl_c pk_97 (am_Pl_c pk_98 (am_Pl_c pk_99 (am_Pl_c pk_100 (am_Pl_c pk_101 (am_Pl_c pk_102 (am_Pl_c pk_103 (am_Pl_c pk_104 (am_Pl_c pk_105 (am_Pl_c pk_106 (am_Pl_c pk_107 (am_Pl_c pk_108 (am_Pl_c pk_109 (am_Pl_c pk_110 (am_Pl_c pk_111 (am_Pl_n _))))))))))))))))
theorem pl_7 : am_Pl 112 [mm_112, mm_113, mm_114, mm_115, mm_116, mm_117, mm_118, mm_119, mm_120, mm_121, mm_122, mm_123, mm_124, mm_125, mm_126, mm_127] := am_Pl_c pk_112 (am_Pl_c pk_113 (am_Pl_c pk_114 (am_Pl_c pk_115 (am_Pl_c pk_116 (am_Pl_c pk_117 (am_Pl_c pk_118 (am_Pl_c pk_119 (am_Pl_c pk_120 (am_Pl_c pk_121 (am_Pl_c pk_122 (am_Pl_c pk_123 (am_Pl_c pk_124 (am_Pl_c pk_125 (am_Pl_c pk_126 (am_Pl_c pk_127 (am_Pl_n _))))))))))))))))
theorem pl_8 : am_Pl 128 [mm_128, mm_129, mm_130, mm_131, mm_132, mm_133, mm_134, mm_135, mm_136, mm_137, mm_138, mm_139, mm_140, mm_141, mm_142, mm_143] := am_Pl_c pk_128 (am_Pl_c pk_129 (am_Pl_c pk_130 (am_Pl_c pk_131 (am_Pl_c pk_132 (am_Pl_c pk_133 (am_Pl_c pk_134 (am_Pl_c pk_135 (am_Pl_c pk_136 (am_Pl_c pk_137 (am_Pl_c pk_138 (am_Pl_c pk_139 (am_Pl_c pk_140 (am_Pl_c pk_141 (am_Pl_c pk_142 (am_Pl_c pk_143 (am_Pl_n _))))))))))))))))
theorem pl_9 : am_Pl 144 [mm_144, mm_145, mm_146, mm_147, mm_148, mm_149, mm_150, mm_151, mm_152, mm_153, mm_154, mm_155, mm_156, mm_157, mm_158, mm_159] := am_Pl_c pk_144 (am_Pl_c pk_145 (am_Pl_c pk_146 (am_Pl_c pk_147 (am_Pl_c pk_148 (am_Pl_c pk_149 (am_Pl_c pk_150 (am_Pl_c pk_151 (am_Pl_c pk_152 (am_Pl_c pk_153 (am_Pl_c pk_154 (am_Pl_c pk_155 (am_Pl_c pk_156 (am_Pl_c pk_157 (am_Pl_c pk_158 (am_Pl_c pk_159 (am_Pl_n _))))))))))))))))
theorem pl_10 : am_Pl 160 [mm_160, mm_161, mm_162, mm_163, mm_164, mm_165, mm_166, mm_167, mm_168, mm_169, mm_170, mm_171, mm_172, mm_173, mm_174, mm_175] := am_Pl_c pk_160 (am_Pl_c pk_161 (am_Pl_c pk_162 (am_Pl_c pk_163 (am_Pl_c pk_164 (am_Pl_c pk_165 (am_Pl_c pk_166 (am_Pl_c pk_167 (am_Pl_c pk_168 (am_Pl_c pk_169 (am_Pl_c pk_170 (am_Pl_c pk_171 (am_Pl_c pk_172 (am_Pl_c pk_173 (am_Pl_c pk_174 (am_Pl_c pk_175 (am_Pl_n _))))))))))))))))
theorem pl_11 : am_Pl 176 [mm_176, mm_177, mm_178, mm_179, mm_180, mm_181, mm_182, mm_183, mm_184, mm_185, mm_186, mm_187, mm_188, mm_189, mm_190, mm_191] := am_Pl_c pk_176 (am_Pl_c pk_177 (am_Pl_c pk_178 (am_Pl_c pk_179 (am_Pl_c pk_180 (am_Pl_c pk_181 (am_Pl_c pk_182 (am_Pl_c pk_183 (am_Pl_c pk_184 (am_Pl_c pk_185 (am_Pl_c pk_186 (am_Pl_c pk_187 (am_Pl_c pk_188 (am_Pl_c pk_189 (am_Pl_c pk_190 (am_Pl_c pk_191 (am_Pl_n _))))))))))))))))
theorem pl_12 : am_Pl 192 [mm_192, mm_193, mm_194, mm_195, mm_196, mm_197, mm_198, mm_199, mm_200, mm_201, mm_202, mm_203, mm_204, mm_205, mm_206, mm_207] := am_Pl_c pk_192 (am_Pl_c pk_193 (am_Pl_c pk_194 (am_Pl_c pk_195 (am_Pl_c pk_196 (am_Pl_c pk_197 (am_Pl_c pk_198 (am_Pl_c pk_199 (am_Pl_c pk_200 (am_Pl_c pk_201 (am_Pl_c pk_202 (am_Pl_c pk_203 (am_Pl_c pk_204 (am_Pl_c pk_205 (am_Pl_c pk_206 (am_Pl_c pk_207 (am_Pl_n _))))))))))))))))
theorem pl_13 : am_Pl 208 [mm_208, mm_209, mm_210, mm_211, mm_212, mm_213, mm_214, mm_215, mm_216, mm_217, mm_218, mm_219, mm_220, mm_221, mm_222, mm_223] := am_Pl_c pk_208 (am_Pl_c pk_209 (am_Pl_c pk_210 (am_Pl_c pk_211 (am_Pl_c pk_212 (am_Pl_c pk_213 (am_Pl_c pk_214 (am_Pl_c pk_215 (am_Pl_c pk_216 (am_Pl_c pk_217 (am_Pl_c pk_218 (am_Pl_c pk_219 (am_Pl_c pk_220 (am_Pl_c pk_221 (am_Pl_c pk_222 (am_Pl_c pk_223 (am_Pl_n _))))))))))))))))
theorem pl_14 : am_Pl 224 [mm_224, mm_225, mm_226, mm_227, mm_228, mm_229, mm_230, mm_231, mm_232, mm_233, mm_234, mm_235, mm_236, mm_237, mm_238, mm_239] := am_Pl_c pk_224 (am_Pl_c pk_225 (am_Pl_c pk_226 (am_Pl_c pk_227 (am_Pl_c pk_228 (am_Pl_c pk_229 (am_Pl_c pk_230 (am_Pl_c pk_231 (am_Pl_c pk_232 (am_Pl_c pk_233 (am_Pl_c pk_234 (am_Pl_c pk_235 (am_Pl_c pk_236 (am_Pl_c pk_237 (am_Pl_c pk_238 (am_Pl_c pk_239 (am_Pl_n _))))))))))))))))
theorem pl_15 : am_Pl 240 [mm_240, mm_241, mm_242, mm_243, mm_244, mm_245, mm_246, mm_247, mm_248, mm_249, mm_250, mm_251, mm_252, mm_253, mm_254, mm_255] := am_Pl_c pk_240 (am_Pl_c pk_241 (am_Pl_c pk_242 (am_Pl_c pk_243 (am_Pl_c pk_244 (am_Pl_c pk_245 (am_Pl_c pk_246 (am_Pl_c pk_247 (am_Pl_c pk_248 (am_Pl_c pk_249 (am_Pl_c pk_250 (am_Pl_c pk_251 (am_Pl_c pk_252 (am_Pl_c pk_253 (am_Pl_c pk_254 (am_Pl_c pk_255 (am_Pl_n _))))))))))))))))
theorem pl_16 : am_Pl 256 [mm_256, mm_257, mm_258, mm_259, mm_260, mm_261, mm_262, mm_263, mm_264, mm_265, mm_266, mm_267, mm_268, mm_269, mm_270, mm_271] := am_Pl_c pk_256 (am_Pl_c pk_257 (am_Pl_c pk_258 (am_Pl_c pk_259 (am_Pl_c pk_260 (am_Pl_c pk_261 (am_Pl_c pk_262 (am_Pl_c pk_263 (am_Pl_c pk_264 (am_Pl_c pk_265 (am_Pl_c pk_266 (am_Pl_c pk_267 (am_Pl_c pk_268 (am_Pl_c pk_269 (am_Pl_c pk_270 (am_Pl_c pk_271 (am_Pl_n _))))))))))))))))
theorem pl_17 : am_Pl 272 [mm_272, mm_273, mm_274, mm_275, mm_276, mm_277, mm_278, mm_279, mm_280, mm_281, mm_282, mm_283, mm_284, mm_285, mm_286, mm_287] := am_Pl_c pk_272 (am_Pl_c pk_273 (am_Pl_c pk_274 (am_Pl_c pk_275 (am_Pl_c pk_276 (am_Pl_c pk_277 (am_Pl_c pk_278 (am_Pl_c pk_279 (am_Pl_c pk_280 (am_Pl_c pk_281 (am_Pl_c pk_282 (am_Pl_c pk_283 (am_Pl_c pk_284 (am_Pl_c pk_285 (am_Pl_c pk_286 (am_Pl_c pk_287 (am_Pl_n _))))))))))))))))
theorem pl_18 : am_Pl 288 [mm_288, mm_289] := am_Pl_c pk_288 (am_Pl_c pk_289 (am_Pl_n _))
theorem pl_all : am_Pll 0 am_ms := am_Pll_c pl_0 (am_Pll_c pl_1 (am_Pll_c pl_2 (am_Pll_c pl_3 (am_Pll_c pl_4 (am_Pll_c pl_5 (am_Pll_c pl_6 (am_Pll_c pl_7 (am_Pll_c pl_8 (am_Pll_c pl_9 (am_Pll_c pl_10 (am_Pll_c pl_11 (am_Pll_c pl_12 (am_Pll_c pl_13 (am_Pll_c pl_14 (am_Pll_c pl_15 (am_Pll_c pl_16 (am_Pll_c pl_17 (am_Pll_c pl_18 (am_Pll_n _)))))))))))))))))))
theorem am_ok : am_Ok := by
  intro mi M h
  unfold am_meth at h
  split at h
  · next l hl =>
    have h1 := pl_all _ l hl _ M h
    rw [show 16 * (0 + mi / 16) + mi % 16 = mi by omega] at h1
    exact h1
  · cases h
end
section
/-! THE LAW'S LOOP, over what each call promises: both answers are the same, and the invariant stands -/
def am_ents (q : Nat) (as : List Value) : List (Option Value) := match am_meth q with
  | some M => am_pad M.2.2.1 (am_exp as)
  | none => []
/-- one call of both: the same int comes back, and Inv holds behind -/
def am_same (Inv : am_I → Prop) (J : am_J) (qx qm : Nat) (as : List Value) : Prop := ∀ (I : am_I), Inv I → ∀ (Qc : am_I → Prop), (∀ I', Inv I' → Qc I') →
  J 40 qx 0 (am_ents qx (.ref 0 :: as)) [] I (fun r1 I1 => ∃ v, r1 = some (.int v) ∧ J 40 qm 0 (am_ents qm (.ref 66 :: as)) [] I1 (fun r2 I2 => r2 = some (.int v) ∧ Qc I2))
section
variable {L : Nat} {xs : Nat → Int32} {J : am_J} {Inv : am_I → Prop} {I : am_I} {Q : am_Q} {i : Int32}
abbrev am_lw (i : Int32) : List (Option Value) := [some (.ref 200), some (.ref 0), some (.ref 66), some (.int i)]
theorem law_c0 (hJ : am_Cl am_meth L xs J) (hI : Inv I) (g1 : vp_in (i + 1) L) (g2 : vp_in (i + 2) L) (g3 : vp_in (i + 3) L) (g4 : vp_in (i + 4) L) (h : am_same Inv J q_X_person q_M_person [.int (xs (i + 1).toNatClampNeg), .int (xs (i + 2).toNatClampNeg), .int (xs (i + 3).toNatClampNeg), .int (xs (i + 4).toNatClampNeg)]) (K : ∀ I', Inv I' → J 41 q_L_law 1782 (am_lw i) [] I' Q) : J 41 q_L_law 256 (am_lw i) [] I Q := by
  refine am_vc hJ 45 _ _ _ _ _ _ _ ?_
  refine ⟨g1, g2, g3, g4, ?_⟩
  refine hJ.2 _ _ _ _ _ _ _ _ ?_ (h I hI Inv (fun _ z => z))
  rintro r I1 ⟨v, rfl, h2⟩
  refine ⟨g1, g2, g3, g4, ?_⟩
  refine hJ.2 _ _ _ _ _ _ _ _ ?_ h2
  rintro r I2 ⟨rfl, h3⟩
  refine ⟨fun _ => ?_, fun hne => absurd rfl hne⟩
  exact K I2 h3
theorem law_c1 (hJ : am_Cl am_meth L xs J) (hI : Inv I) (g1 : vp_in (i + 1) L) (g2 : vp_in (i + 2) L) (h : am_same Inv J q_X_personOf q_M_personOf [.int (xs (i + 1).toNatClampNeg), .int (xs (i + 2).toNatClampNeg)]) (K : ∀ I', Inv I' → J 41 q_L_law 1782 (am_lw i) [] I' Q) : J 41 q_L_law 309 (am_lw i) [] I Q := by
  refine am_vc hJ 25 _ _ _ _ _ _ _ ?_
  refine ⟨g1, g2, ?_⟩
  refine hJ.2 _ _ _ _ _ _ _ _ ?_ (h I hI Inv (fun _ z => z))
  rintro r I1 ⟨v, rfl, h2⟩
  refine ⟨g1, g2, ?_⟩
  refine hJ.2 _ _ _ _ _ _ _ _ ?_ h2
  rintro r I2 ⟨rfl, h3⟩
  refine ⟨fun _ => ?_, fun hne => absurd rfl hne⟩
  exact K I2 h3
theorem law_c2 (hJ : am_Cl am_meth L xs J) (hI : Inv I) (g1 : vp_in (i + 1) L) (g2 : vp_in (i + 2) L) (g3 : vp_in (i + 3) L) (h : am_same Inv J q_X_change q_M_change [.int (xs (i + 1).toNatClampNeg), .int (xs (i + 2).toNatClampNeg), .int (xs (i + 3).toNatClampNeg)]) (K : ∀ I', Inv I' → J 41 q_L_law 1782 (am_lw i) [] I' Q) : J 41 q_L_law 342 (am_lw i) [] I Q := by
  refine am_vc hJ 35 _ _ _ _ _ _ _ ?_
  refine ⟨g1, g2, g3, ?_⟩
  refine hJ.2 _ _ _ _ _ _ _ _ ?_ (h I hI Inv (fun _ z => z))
  rintro r I1 ⟨v, rfl, h2⟩
  refine ⟨g1, g2, g3, ?_⟩
  refine hJ.2 _ _ _ _ _ _ _ _ ?_ h2
  rintro r I2 ⟨rfl, h3⟩
  refine ⟨fun _ => ?_, fun hne => absurd rfl hne⟩
  exact K I2 h3
theorem law_c3 (hJ : am_Cl am_meth L xs J) (hI : Inv I) (g1 : vp_in (i + 1) L) (g2 : vp_in (i + 2) L) (h : am_same Inv J q_X_remake q_M_remake [.int (xs (i + 1).toNatClampNeg), .int (xs (i + 2).toNatClampNeg)]) (K : ∀ I', Inv I' → J 41 q_L_law 1782 (am_lw i) [] I' Q) : J 41 q_L_law 385 (am_lw i) [] I Q := by
  refine am_vc hJ 25 _ _ _ _ _ _ _ ?_
  refine ⟨g1, g2, ?_⟩
  refine hJ.2 _ _ _ _ _ _ _ _ ?_ (h I hI Inv (fun _ z => z))
  rintro r I1 ⟨v, rfl, h2⟩
  refine ⟨g1, g2, ?_⟩
  refine hJ.2 _ _ _ _ _ _ _ _ ?_ h2
  rintro r I2 ⟨rfl, h3⟩
  refine ⟨fun _ => ?_, fun hne => absurd rfl hne⟩
  exact K I2 h3
theorem law_c4 (hJ : am_Cl am_meth L xs J) (hI : Inv I) (g1 : vp_in (i + 1) L) (g2 : vp_in (i + 2) L) (h : am_same Inv J q_X_weather q_M_weather [.int (xs (i + 1).toNatClampNeg), .int (xs (i + 2).toNatClampNeg)]) (K : ∀ I', Inv I' → J 41 q_L_law 1782 (am_lw i) [] I' Q) : J 41 q_L_law 418 (am_lw i) [] I Q := by
  refine am_vc hJ 25 _ _ _ _ _ _ _ ?_
  refine ⟨g1, g2, ?_⟩
  refine hJ.2 _ _ _ _ _ _ _ _ ?_ (h I hI Inv (fun _ z => z))
  rintro r I1 ⟨v, rfl, h2⟩
  refine ⟨g1, g2, ?_⟩
  refine hJ.2 _ _ _ _ _ _ _ _ ?_ h2
  rintro r I2 ⟨rfl, h3⟩
  refine ⟨fun _ => ?_, fun hne => absurd rfl hne⟩
  exact K I2 h3
theorem law_c5 (hJ : am_Cl am_meth L xs J) (hI : Inv I) (g1 : vp_in (i + 1) L) (g2 : vp_in (i + 2) L) (g3 : vp_in (i + 3) L) (h : am_same Inv J q_X_gate q_M_gate [.int (xs (i + 1).toNatClampNeg), .int (xs (i + 2).toNatClampNeg), .int (xs (i + 3).toNatClampNeg)]) (K : ∀ I', Inv I' → J 41 q_L_law 1782 (am_lw i) [] I' Q) : J 41 q_L_law 451 (am_lw i) [] I Q := by
  refine am_vc hJ 35 _ _ _ _ _ _ _ ?_
  refine ⟨g1, g2, g3, ?_⟩
  refine hJ.2 _ _ _ _ _ _ _ _ ?_ (h I hI Inv (fun _ z => z))
  rintro r I1 ⟨v, rfl, h2⟩
  refine ⟨g1, g2, g3, ?_⟩
  refine hJ.2 _ _ _ _ _ _ _ _ ?_ h2
  rintro r I2 ⟨rfl, h3⟩
  refine ⟨fun _ => ?_, fun hne => absurd rfl hne⟩
  exact K I2 h3
theorem law_c6 (hJ : am_Cl am_meth L xs J) (hI : Inv I) (g1 : vp_in (i + 1) L) (g2 : vp_in (i + 2) L) (h : am_same Inv J q_X_gateOf q_M_gateOf [.int (xs (i + 1).toNatClampNeg), .int (xs (i + 2).toNatClampNeg)]) (K : ∀ I', Inv I' → J 41 q_L_law 1782 (am_lw i) [] I' Q) : J 41 q_L_law 494 (am_lw i) [] I Q := by
  refine am_vc hJ 25 _ _ _ _ _ _ _ ?_
  refine ⟨g1, g2, ?_⟩
  refine hJ.2 _ _ _ _ _ _ _ _ ?_ (h I hI Inv (fun _ z => z))
  rintro r I1 ⟨v, rfl, h2⟩
  refine ⟨g1, g2, ?_⟩
  refine hJ.2 _ _ _ _ _ _ _ _ ?_ h2
  rintro r I2 ⟨rfl, h3⟩
  refine ⟨fun _ => ?_, fun hne => absurd rfl hne⟩
  exact K I2 h3
theorem law_c7 (hJ : am_Cl am_meth L xs J) (hI : Inv I) (g1 : vp_in (i + 1) L) (g2 : vp_in (i + 2) L) (h : am_same Inv J q_X_house q_M_house [.int (xs (i + 1).toNatClampNeg), .int (xs (i + 2).toNatClampNeg)]) (K : ∀ I', Inv I' → J 41 q_L_law 1782 (am_lw i) [] I' Q) : J 41 q_L_law 527 (am_lw i) [] I Q := by
  refine am_vc hJ 25 _ _ _ _ _ _ _ ?_
  refine ⟨g1, g2, ?_⟩
  refine hJ.2 _ _ _ _ _ _ _ _ ?_ (h I hI Inv (fun _ z => z))
  rintro r I1 ⟨v, rfl, h2⟩
  refine ⟨g1, g2, ?_⟩
  refine hJ.2 _ _ _ _ _ _ _ _ ?_ h2
  rintro r I2 ⟨rfl, h3⟩
  refine ⟨fun _ => ?_, fun hne => absurd rfl hne⟩
  exact K I2 h3
theorem law_c8 (hJ : am_Cl am_meth L xs J) (hI : Inv I) (g1 : vp_in (i + 1) L) (h : am_same Inv J q_X_ends q_M_ends [.int (xs (i + 1).toNatClampNeg)]) (K : ∀ I', Inv I' → J 41 q_L_law 1782 (am_lw i) [] I' Q) : J 41 q_L_law 560 (am_lw i) [] I Q := by
  refine am_vc hJ 15 _ _ _ _ _ _ _ ?_
  refine ⟨g1, ?_⟩
  refine hJ.2 _ _ _ _ _ _ _ _ ?_ (h I hI Inv (fun _ z => z))
  rintro r I1 ⟨v, rfl, h2⟩
  refine ⟨g1, ?_⟩
  refine hJ.2 _ _ _ _ _ _ _ _ ?_ h2
  rintro r I2 ⟨rfl, h3⟩
  refine ⟨fun _ => ?_, fun hne => absurd rfl hne⟩
  exact K I2 h3
theorem law_c9 (hJ : am_Cl am_meth L xs J) (hI : Inv I)  (h : am_same Inv J q_X_anew q_M_anew []) (K : ∀ I', Inv I' → J 41 q_L_law 1782 (am_lw i) [] I' Q) : J 41 q_L_law 583 (am_lw i) [] I Q := by
  refine am_vc hJ 5 _ _ _ _ _ _ _ ?_
  refine hJ.2 _ _ _ _ _ _ _ _ ?_ (h I hI Inv (fun _ z => z))
  rintro r I1 ⟨v, rfl, h2⟩
  refine hJ.2 _ _ _ _ _ _ _ _ ?_ h2
  rintro r I2 ⟨rfl, h3⟩
  refine ⟨fun _ => ?_, fun hne => absurd rfl hne⟩
  exact K I2 h3
theorem law_c10 (hJ : am_Cl am_meth L xs J) (hI : Inv I) (g1 : vp_in (i + 1) L) (h : am_same Inv J q_X_state q_M_state [.int (xs (i + 1).toNatClampNeg)]) (K : ∀ I', Inv I' → J 41 q_L_law 1782 (am_lw i) [] I' Q) : J 41 q_L_law 596 (am_lw i) [] I Q := by
  refine am_vc hJ 15 _ _ _ _ _ _ _ ?_
  refine ⟨g1, ?_⟩
  refine hJ.2 _ _ _ _ _ _ _ _ ?_ (h I hI Inv (fun _ z => z))
  rintro r I1 ⟨v, rfl, h2⟩
  refine ⟨g1, ?_⟩
  refine hJ.2 _ _ _ _ _ _ _ _ ?_ h2
  rintro r I2 ⟨rfl, h3⟩
  refine ⟨fun _ => ?_, fun hne => absurd rfl hne⟩
  exact K I2 h3
theorem law_c11 (hJ : am_Cl am_meth L xs J) (hI : Inv I) (g1 : vp_in (i + 1) L) (g2 : vp_in (i + 2) L) (g3 : vp_in (i + 3) L) (h : am_same Inv J q_X_feed q_M_feed [.long (((xs (i + 1).toNatClampNeg).toInt64 <<< ((32 : Int32).toInt64 &&& 63)) ||| ((xs (i + 2).toNatClampNeg).toInt64 &&& Int64.ofNat 4294967295)), .int (xs (i + 3).toNatClampNeg)]) (K : ∀ I', Inv I' → J 41 q_L_law 1782 (am_lw i) [] I' Q) : J 41 q_L_law 619 (am_lw i) [] I Q := by
  refine am_vc hJ 49 _ _ _ _ _ _ _ ?_
  refine ⟨g1, g2, g3, ?_⟩
  refine hJ.2 _ _ _ _ _ _ _ _ ?_ (h I hI Inv (fun _ z => z))
  rintro r I1 ⟨v, rfl, h2⟩
  refine ⟨g1, g2, g3, ?_⟩
  refine hJ.2 _ _ _ _ _ _ _ _ ?_ h2
  rintro r I2 ⟨rfl, h3⟩
  refine ⟨fun _ => ?_, fun hne => absurd rfl hne⟩
  exact K I2 h3
theorem law_c12 (hJ : am_Cl am_meth L xs J) (hI : Inv I)  (h : am_same Inv J q_X_rules q_M_rules []) (K : ∀ I', Inv I' → J 41 q_L_law 1782 (am_lw i) [] I' Q) : J 41 q_L_law 682 (am_lw i) [] I Q := by
  refine am_vc hJ 5 _ _ _ _ _ _ _ ?_
  refine hJ.2 _ _ _ _ _ _ _ _ ?_ (h I hI Inv (fun _ z => z))
  rintro r I1 ⟨v, rfl, h2⟩
  refine hJ.2 _ _ _ _ _ _ _ _ ?_ h2
  rintro r I2 ⟨rfl, h3⟩
  refine ⟨fun _ => ?_, fun hne => absurd rfl hne⟩
  exact K I2 h3
theorem law_c13 (hJ : am_Cl am_meth L xs J) (hI : Inv I)  (h : am_same Inv J q_X_day q_M_day []) (K : ∀ I', Inv I' → J 41 q_L_law 1782 (am_lw i) [] I' Q) : J 41 q_L_law 695 (am_lw i) [] I Q := by
  refine am_vc hJ 5 _ _ _ _ _ _ _ ?_
  refine hJ.2 _ _ _ _ _ _ _ _ ?_ (h I hI Inv (fun _ z => z))
  rintro r I1 ⟨v, rfl, h2⟩
  refine hJ.2 _ _ _ _ _ _ _ _ ?_ h2
  rintro r I2 ⟨rfl, h3⟩
  refine ⟨fun _ => ?_, fun hne => absurd rfl hne⟩
  exact K I2 h3
theorem law_c14 (hJ : am_Cl am_meth L xs J) (hI : Inv I) (g1 : vp_in (i + 1) L) (h : am_same Inv J q_X_on q_M_on [.int (xs (i + 1).toNatClampNeg)]) (K : ∀ I', Inv I' → J 41 q_L_law 1782 (am_lw i) [] I' Q) : J 41 q_L_law 708 (am_lw i) [] I Q := by
  refine am_vc hJ 15 _ _ _ _ _ _ _ ?_
  refine ⟨g1, ?_⟩
  refine hJ.2 _ _ _ _ _ _ _ _ ?_ (h I hI Inv (fun _ z => z))
  rintro r I1 ⟨v, rfl, h2⟩
  refine ⟨g1, ?_⟩
  refine hJ.2 _ _ _ _ _ _ _ _ ?_ h2
  rintro r I2 ⟨rfl, h3⟩
  refine ⟨fun _ => ?_, fun hne => absurd rfl hne⟩
  exact K I2 h3
theorem law_c15 (hJ : am_Cl am_meth L xs J) (hI : Inv I) (g1 : vp_in (i + 1) L) (h : am_same Inv J q_X_when q_M_when [.int (xs (i + 1).toNatClampNeg)]) (K : ∀ I', Inv I' → J 41 q_L_law 1782 (am_lw i) [] I' Q) : J 41 q_L_law 731 (am_lw i) [] I Q := by
  refine am_vc hJ 15 _ _ _ _ _ _ _ ?_
  refine ⟨g1, ?_⟩
  refine hJ.2 _ _ _ _ _ _ _ _ ?_ (h I hI Inv (fun _ z => z))
  rintro r I1 ⟨v, rfl, h2⟩
  refine ⟨g1, ?_⟩
  refine hJ.2 _ _ _ _ _ _ _ _ ?_ h2
  rintro r I2 ⟨rfl, h3⟩
  refine ⟨fun _ => ?_, fun hne => absurd rfl hne⟩
  exact K I2 h3
theorem law_c16 (hJ : am_Cl am_meth L xs J) (hI : Inv I) (g1 : vp_in (i + 1) L) (h : am_same Inv J q_X_taleFor q_M_taleFor [.int (xs (i + 1).toNatClampNeg)]) (K : ∀ I', Inv I' → J 41 q_L_law 1782 (am_lw i) [] I' Q) : J 41 q_L_law 754 (am_lw i) [] I Q := by
  refine am_vc hJ 15 _ _ _ _ _ _ _ ?_
  refine ⟨g1, ?_⟩
  refine hJ.2 _ _ _ _ _ _ _ _ ?_ (h I hI Inv (fun _ z => z))
  rintro r I1 ⟨v, rfl, h2⟩
  refine ⟨g1, ?_⟩
  refine hJ.2 _ _ _ _ _ _ _ _ ?_ h2
  rintro r I2 ⟨rfl, h3⟩
  refine ⟨fun _ => ?_, fun hne => absurd rfl hne⟩
  exact K I2 h3
theorem law_c17 (hJ : am_Cl am_meth L xs J) (hI : Inv I) (g1 : vp_in (i + 1) L) (h : am_same Inv J q_X_gateFor q_M_gateFor [.int (xs (i + 1).toNatClampNeg)]) (K : ∀ I', Inv I' → J 41 q_L_law 1782 (am_lw i) [] I' Q) : J 41 q_L_law 777 (am_lw i) [] I Q := by
  refine am_vc hJ 15 _ _ _ _ _ _ _ ?_
  refine ⟨g1, ?_⟩
  refine hJ.2 _ _ _ _ _ _ _ _ ?_ (h I hI Inv (fun _ z => z))
  rintro r I1 ⟨v, rfl, h2⟩
  refine ⟨g1, ?_⟩
  refine hJ.2 _ _ _ _ _ _ _ _ ?_ h2
  rintro r I2 ⟨rfl, h3⟩
  refine ⟨fun _ => ?_, fun hne => absurd rfl hne⟩
  exact K I2 h3
theorem law_c18 (hJ : am_Cl am_meth L xs J) (hI : Inv I) (g1 : vp_in (i + 1) L) (h : am_same Inv J q_X_bakery q_M_bakery [.int (xs (i + 1).toNatClampNeg)]) (K : ∀ I', Inv I' → J 41 q_L_law 1782 (am_lw i) [] I' Q) : J 41 q_L_law 800 (am_lw i) [] I Q := by
  refine am_vc hJ 15 _ _ _ _ _ _ _ ?_
  refine ⟨g1, ?_⟩
  refine hJ.2 _ _ _ _ _ _ _ _ ?_ (h I hI Inv (fun _ z => z))
  rintro r I1 ⟨v, rfl, h2⟩
  refine ⟨g1, ?_⟩
  refine hJ.2 _ _ _ _ _ _ _ _ ?_ h2
  rintro r I2 ⟨rfl, h3⟩
  refine ⟨fun _ => ?_, fun hne => absurd rfl hne⟩
  exact K I2 h3
theorem law_c19 (hJ : am_Cl am_meth L xs J) (hI : Inv I) (g1 : vp_in (i + 1) L) (h : am_same Inv J q_X_winter q_M_winter [.int (xs (i + 1).toNatClampNeg)]) (K : ∀ I', Inv I' → J 41 q_L_law 1782 (am_lw i) [] I' Q) : J 41 q_L_law 823 (am_lw i) [] I Q := by
  refine am_vc hJ 15 _ _ _ _ _ _ _ ?_
  refine ⟨g1, ?_⟩
  refine hJ.2 _ _ _ _ _ _ _ _ ?_ (h I hI Inv (fun _ z => z))
  rintro r I1 ⟨v, rfl, h2⟩
  refine ⟨g1, ?_⟩
  refine hJ.2 _ _ _ _ _ _ _ _ ?_ h2
  rintro r I2 ⟨rfl, h3⟩
  refine ⟨fun _ => ?_, fun hne => absurd rfl hne⟩
  exact K I2 h3
theorem law_c20 (hJ : am_Cl am_meth L xs J) (hI : Inv I) (g1 : vp_in (i + 1) L) (h : am_same Inv J q_X_tables q_M_tables [.int (xs (i + 1).toNatClampNeg)]) (K : ∀ I', Inv I' → J 41 q_L_law 1782 (am_lw i) [] I' Q) : J 41 q_L_law 846 (am_lw i) [] I Q := by
  refine am_vc hJ 15 _ _ _ _ _ _ _ ?_
  refine ⟨g1, ?_⟩
  refine hJ.2 _ _ _ _ _ _ _ _ ?_ (h I hI Inv (fun _ z => z))
  rintro r I1 ⟨v, rfl, h2⟩
  refine ⟨g1, ?_⟩
  refine hJ.2 _ _ _ _ _ _ _ _ ?_ h2
  rintro r I2 ⟨rfl, h3⟩
  refine ⟨fun _ => ?_, fun hne => absurd rfl hne⟩
  exact K I2 h3
theorem law_c21 (hJ : am_Cl am_meth L xs J) (hI : Inv I) (g1 : vp_in (i + 1) L) (g2 : vp_in (i + 2) L) (h : am_same Inv J q_X_rounds q_M_rounds [.int (xs (i + 1).toNatClampNeg), .int (xs (i + 2).toNatClampNeg)]) (K : ∀ I', Inv I' → J 41 q_L_law 1782 (am_lw i) [] I' Q) : J 41 q_L_law 869 (am_lw i) [] I Q := by
  refine am_vc hJ 25 _ _ _ _ _ _ _ ?_
  refine ⟨g1, g2, ?_⟩
  refine hJ.2 _ _ _ _ _ _ _ _ ?_ (h I hI Inv (fun _ z => z))
  rintro r I1 ⟨v, rfl, h2⟩
  refine ⟨g1, g2, ?_⟩
  refine hJ.2 _ _ _ _ _ _ _ _ ?_ h2
  rintro r I2 ⟨rfl, h3⟩
  refine ⟨fun _ => ?_, fun hne => absurd rfl hne⟩
  exact K I2 h3
theorem law_c22 (hJ : am_Cl am_meth L xs J) (hI : Inv I) (g1 : vp_in (i + 1) L) (h : am_same Inv J q_X_best q_M_best [.int (xs (i + 1).toNatClampNeg)]) (K : ∀ I', Inv I' → J 41 q_L_law 1782 (am_lw i) [] I' Q) : J 41 q_L_law 902 (am_lw i) [] I Q := by
  refine am_vc hJ 15 _ _ _ _ _ _ _ ?_
  refine ⟨g1, ?_⟩
  refine hJ.2 _ _ _ _ _ _ _ _ ?_ (h I hI Inv (fun _ z => z))
  rintro r I1 ⟨v, rfl, h2⟩
  refine ⟨g1, ?_⟩
  refine hJ.2 _ _ _ _ _ _ _ _ ?_ h2
  rintro r I2 ⟨rfl, h3⟩
  refine ⟨fun _ => ?_, fun hne => absurd rfl hne⟩
  exact K I2 h3
theorem law_c23 (hJ : am_Cl am_meth L xs J) (hI : Inv I) (g1 : vp_in (i + 1) L) (g2 : vp_in (i + 2) L) (h : am_same Inv J q_X_ith q_M_ith [.int (xs (i + 1).toNatClampNeg), .int (xs (i + 2).toNatClampNeg)]) (K : ∀ I', Inv I' → J 41 q_L_law 1782 (am_lw i) [] I' Q) : J 41 q_L_law 925 (am_lw i) [] I Q := by
  refine am_vc hJ 25 _ _ _ _ _ _ _ ?_
  refine ⟨g1, g2, ?_⟩
  refine hJ.2 _ _ _ _ _ _ _ _ ?_ (h I hI Inv (fun _ z => z))
  rintro r I1 ⟨v, rfl, h2⟩
  refine ⟨g1, g2, ?_⟩
  refine hJ.2 _ _ _ _ _ _ _ _ ?_ h2
  rintro r I2 ⟨rfl, h3⟩
  refine ⟨fun _ => ?_, fun hne => absurd rfl hne⟩
  exact K I2 h3
theorem law_c24 (hJ : am_Cl am_meth L xs J) (hI : Inv I) (g1 : vp_in (i + 1) L) (h : am_same Inv J q_X_ways q_M_ways [.int (xs (i + 1).toNatClampNeg)]) (K : ∀ I', Inv I' → J 41 q_L_law 1782 (am_lw i) [] I' Q) : J 41 q_L_law 958 (am_lw i) [] I Q := by
  refine am_vc hJ 15 _ _ _ _ _ _ _ ?_
  refine ⟨g1, ?_⟩
  refine hJ.2 _ _ _ _ _ _ _ _ ?_ (h I hI Inv (fun _ z => z))
  rintro r I1 ⟨v, rfl, h2⟩
  refine ⟨g1, ?_⟩
  refine hJ.2 _ _ _ _ _ _ _ _ ?_ h2
  rintro r I2 ⟨rfl, h3⟩
  refine ⟨fun _ => ?_, fun hne => absurd rfl hne⟩
  exact K I2 h3
theorem law_c25 (hJ : am_Cl am_meth L xs J) (hI : Inv I) (g1 : vp_in (i + 1) L) (g2 : vp_in (i + 2) L) (h : am_same Inv J q_X_feast q_M_feast [.int (xs (i + 1).toNatClampNeg), .int (xs (i + 2).toNatClampNeg)]) (K : ∀ I', Inv I' → J 41 q_L_law 1782 (am_lw i) [] I' Q) : J 41 q_L_law 981 (am_lw i) [] I Q := by
  refine am_vc hJ 25 _ _ _ _ _ _ _ ?_
  refine ⟨g1, g2, ?_⟩
  refine hJ.2 _ _ _ _ _ _ _ _ ?_ (h I hI Inv (fun _ z => z))
  rintro r I1 ⟨v, rfl, h2⟩
  refine ⟨g1, g2, ?_⟩
  refine hJ.2 _ _ _ _ _ _ _ _ ?_ h2
  rintro r I2 ⟨rfl, h3⟩
  refine ⟨fun _ => ?_, fun hne => absurd rfl hne⟩
  exact K I2 h3
theorem law_c26 (hJ : am_Cl am_meth L xs J) (hI : Inv I) (g1 : vp_in (i + 1) L) (g2 : vp_in (i + 2) L) (h : am_same Inv J q_X_bars q_M_bars [.int (xs (i + 1).toNatClampNeg), .int (xs (i + 2).toNatClampNeg)]) (K : ∀ I', Inv I' → J 41 q_L_law 1782 (am_lw i) [] I' Q) : J 41 q_L_law 1014 (am_lw i) [] I Q := by
  refine am_vc hJ 25 _ _ _ _ _ _ _ ?_
  refine ⟨g1, g2, ?_⟩
  refine hJ.2 _ _ _ _ _ _ _ _ ?_ (h I hI Inv (fun _ z => z))
  rintro r I1 ⟨v, rfl, h2⟩
  refine ⟨g1, g2, ?_⟩
  refine hJ.2 _ _ _ _ _ _ _ _ ?_ h2
  rintro r I2 ⟨rfl, h3⟩
  refine ⟨fun _ => ?_, fun hne => absurd rfl hne⟩
  exact K I2 h3
theorem law_c27 (hJ : am_Cl am_meth L xs J) (hI : Inv I) (g1 : vp_in (i + 1) L) (h : am_same Inv J q_X_game q_M_game [.int (xs (i + 1).toNatClampNeg)]) (K : ∀ I', Inv I' → J 41 q_L_law 1782 (am_lw i) [] I' Q) : J 41 q_L_law 1047 (am_lw i) [] I Q := by
  refine am_vc hJ 15 _ _ _ _ _ _ _ ?_
  refine ⟨g1, ?_⟩
  refine hJ.2 _ _ _ _ _ _ _ _ ?_ (h I hI Inv (fun _ z => z))
  rintro r I1 ⟨v, rfl, h2⟩
  refine ⟨g1, ?_⟩
  refine hJ.2 _ _ _ _ _ _ _ _ ?_ h2
  rintro r I2 ⟨rfl, h3⟩
  refine ⟨fun _ => ?_, fun hne => absurd rfl hne⟩
  exact K I2 h3
theorem law_c28 (hJ : am_Cl am_meth L xs J) (hI : Inv I) (g1 : vp_in (i + 1) L) (h : am_same Inv J q_X_play q_M_play [.int (xs (i + 1).toNatClampNeg)]) (K : ∀ I', Inv I' → J 41 q_L_law 1782 (am_lw i) [] I' Q) : J 41 q_L_law 1070 (am_lw i) [] I Q := by
  refine am_vc hJ 15 _ _ _ _ _ _ _ ?_
  refine ⟨g1, ?_⟩
  refine hJ.2 _ _ _ _ _ _ _ _ ?_ (h I hI Inv (fun _ z => z))
  rintro r I1 ⟨v, rfl, h2⟩
  refine ⟨g1, ?_⟩
  refine hJ.2 _ _ _ _ _ _ _ _ ?_ h2
  rintro r I2 ⟨rfl, h3⟩
  refine ⟨fun _ => ?_, fun hne => absurd rfl hne⟩
  exact K I2 h3
theorem law_c29 (hJ : am_Cl am_meth L xs J) (hI : Inv I) (g1 : vp_in (i + 1) L) (g2 : vp_in (i + 2) L) (g3 : vp_in (i + 3) L) (g4 : vp_in (i + 4) L) (h : am_same Inv J q_X_report q_M_report [.int (xs (i + 1).toNatClampNeg), .int (xs (i + 2).toNatClampNeg), .int (xs (i + 3).toNatClampNeg), .int (xs (i + 4).toNatClampNeg)]) (K : ∀ I', Inv I' → J 41 q_L_law 1782 (am_lw i) [] I' Q) : J 41 q_L_law 1093 (am_lw i) [] I Q := by
  refine am_vc hJ 45 _ _ _ _ _ _ _ ?_
  refine ⟨g1, g2, g3, g4, ?_⟩
  refine hJ.2 _ _ _ _ _ _ _ _ ?_ (h I hI Inv (fun _ z => z))
  rintro r I1 ⟨v, rfl, h2⟩
  refine ⟨g1, g2, g3, g4, ?_⟩
  refine hJ.2 _ _ _ _ _ _ _ _ ?_ h2
  rintro r I2 ⟨rfl, h3⟩
  refine ⟨fun _ => ?_, fun hne => absurd rfl hne⟩
  exact K I2 h3
theorem law_c30 (hJ : am_Cl am_meth L xs J) (hI : Inv I)  (h : am_same Inv J q_X_forget q_M_forget []) (K : ∀ I', Inv I' → J 41 q_L_law 1782 (am_lw i) [] I' Q) : J 41 q_L_law 1146 (am_lw i) [] I Q := by
  refine am_vc hJ 5 _ _ _ _ _ _ _ ?_
  refine hJ.2 _ _ _ _ _ _ _ _ ?_ (h I hI Inv (fun _ z => z))
  rintro r I1 ⟨v, rfl, h2⟩
  refine hJ.2 _ _ _ _ _ _ _ _ ?_ h2
  rintro r I2 ⟨rfl, h3⟩
  refine ⟨fun _ => ?_, fun hne => absurd rfl hne⟩
  exact K I2 h3
theorem law_c31 (hJ : am_Cl am_meth L xs J) (hI : Inv I) (g1 : vp_in (i + 1) L) (h : am_same Inv J q_X_tales q_M_tales [.int (xs (i + 1).toNatClampNeg)]) (K : ∀ I', Inv I' → J 41 q_L_law 1782 (am_lw i) [] I' Q) : J 41 q_L_law 1159 (am_lw i) [] I Q := by
  refine am_vc hJ 15 _ _ _ _ _ _ _ ?_
  refine ⟨g1, ?_⟩
  refine hJ.2 _ _ _ _ _ _ _ _ ?_ (h I hI Inv (fun _ z => z))
  rintro r I1 ⟨v, rfl, h2⟩
  refine ⟨g1, ?_⟩
  refine hJ.2 _ _ _ _ _ _ _ _ ?_ h2
  rintro r I2 ⟨rfl, h3⟩
  refine ⟨fun _ => ?_, fun hne => absurd rfl hne⟩
  exact K I2 h3
theorem law_c32 (hJ : am_Cl am_meth L xs J) (hI : Inv I)  (h : am_same Inv J q_X_liar q_M_liar []) (K : ∀ I', Inv I' → J 41 q_L_law 1782 (am_lw i) [] I' Q) : J 41 q_L_law 1182 (am_lw i) [] I Q := by
  refine am_vc hJ 5 _ _ _ _ _ _ _ ?_
  refine hJ.2 _ _ _ _ _ _ _ _ ?_ (h I hI Inv (fun _ z => z))
  rintro r I1 ⟨v, rfl, h2⟩
  refine hJ.2 _ _ _ _ _ _ _ _ ?_ h2
  rintro r I2 ⟨rfl, h3⟩
  refine ⟨fun _ => ?_, fun hne => absurd rfl hne⟩
  exact K I2 h3
theorem law_c33 (hJ : am_Cl am_meth L xs J) (hI : Inv I) (g1 : vp_in (i + 1) L) (h : am_same Inv J q_X_seed q_M_seed [.int (xs (i + 1).toNatClampNeg)]) (K : ∀ I', Inv I' → J 41 q_L_law 1782 (am_lw i) [] I' Q) : J 41 q_L_law 1195 (am_lw i) [] I Q := by
  refine am_vc hJ 15 _ _ _ _ _ _ _ ?_
  refine ⟨g1, ?_⟩
  refine hJ.2 _ _ _ _ _ _ _ _ ?_ (h I hI Inv (fun _ z => z))
  rintro r I1 ⟨v, rfl, h2⟩
  refine ⟨g1, ?_⟩
  refine hJ.2 _ _ _ _ _ _ _ _ ?_ h2
  rintro r I2 ⟨rfl, h3⟩
  refine ⟨fun _ => ?_, fun hne => absurd rfl hne⟩
  exact K I2 h3
theorem law_c34 (hJ : am_Cl am_meth L xs J) (hI : Inv I)  (h : am_same Inv J q_X_lot q_M_lot []) (K : ∀ I', Inv I' → J 41 q_L_law 1782 (am_lw i) [] I' Q) : J 41 q_L_law 1218 (am_lw i) [] I Q := by
  refine am_vc hJ 5 _ _ _ _ _ _ _ ?_
  refine hJ.2 _ _ _ _ _ _ _ _ ?_ (h I hI Inv (fun _ z => z))
  rintro r I1 ⟨v, rfl, h2⟩
  refine hJ.2 _ _ _ _ _ _ _ _ ?_ h2
  rintro r I2 ⟨rfl, h3⟩
  refine ⟨fun _ => ?_, fun hne => absurd rfl hne⟩
  exact K I2 h3
theorem law_c35 (hJ : am_Cl am_meth L xs J) (hI : Inv I) (g1 : vp_in (i + 1) L) (g2 : vp_in (i + 2) L) (h : am_same Inv J q_X_times q_M_times [.int (xs (i + 1).toNatClampNeg), .int (xs (i + 2).toNatClampNeg)]) (K : ∀ I', Inv I' → J 41 q_L_law 1782 (am_lw i) [] I' Q) : J 41 q_L_law 1231 (am_lw i) [] I Q := by
  refine am_vc hJ 25 _ _ _ _ _ _ _ ?_
  refine ⟨g1, g2, ?_⟩
  refine hJ.2 _ _ _ _ _ _ _ _ ?_ (h I hI Inv (fun _ z => z))
  rintro r I1 ⟨v, rfl, h2⟩
  refine ⟨g1, g2, ?_⟩
  refine hJ.2 _ _ _ _ _ _ _ _ ?_ h2
  rintro r I2 ⟨rfl, h3⟩
  refine ⟨fun _ => ?_, fun hne => absurd rfl hne⟩
  exact K I2 h3
theorem law_c36 (hJ : am_Cl am_meth L xs J) (hI : Inv I) (g1 : vp_in (i + 1) L) (h : am_same Inv J q_X_prove q_M_prove [.int (xs (i + 1).toNatClampNeg)]) (K : ∀ I', Inv I' → J 41 q_L_law 1782 (am_lw i) [] I' Q) : J 41 q_L_law 1264 (am_lw i) [] I Q := by
  refine am_vc hJ 15 _ _ _ _ _ _ _ ?_
  refine ⟨g1, ?_⟩
  refine hJ.2 _ _ _ _ _ _ _ _ ?_ (h I hI Inv (fun _ z => z))
  rintro r I1 ⟨v, rfl, h2⟩
  refine ⟨g1, ?_⟩
  refine hJ.2 _ _ _ _ _ _ _ _ ?_ h2
  rintro r I2 ⟨rfl, h3⟩
  refine ⟨fun _ => ?_, fun hne => absurd rfl hne⟩
  exact K I2 h3
theorem law_c37 (hJ : am_Cl am_meth L xs J) (hI : Inv I) (g1 : vp_in (i + 1) L) (g2 : vp_in (i + 2) L) (h : am_same Inv J q_X_row q_M_row [.int (xs (i + 1).toNatClampNeg), .int (xs (i + 2).toNatClampNeg)]) (K : ∀ I', Inv I' → J 41 q_L_law 1782 (am_lw i) [] I' Q) : J 41 q_L_law 1287 (am_lw i) [] I Q := by
  refine am_vc hJ 25 _ _ _ _ _ _ _ ?_
  refine ⟨g1, g2, ?_⟩
  refine hJ.2 _ _ _ _ _ _ _ _ ?_ (h I hI Inv (fun _ z => z))
  rintro r I1 ⟨v, rfl, h2⟩
  refine ⟨g1, g2, ?_⟩
  refine hJ.2 _ _ _ _ _ _ _ _ ?_ h2
  rintro r I2 ⟨rfl, h3⟩
  refine ⟨fun _ => ?_, fun hne => absurd rfl hne⟩
  exact K I2 h3
theorem law_c38 (hJ : am_Cl am_meth L xs J) (hI : Inv I) (g1 : vp_in (i + 1) L) (g2 : vp_in (i + 2) L) (g3 : vp_in (i + 3) L) (h : am_same Inv J q_X_alterRow q_M_alterRow [.int (xs (i + 1).toNatClampNeg), .int (xs (i + 2).toNatClampNeg), .int (xs (i + 3).toNatClampNeg)]) (K : ∀ I', Inv I' → J 41 q_L_law 1782 (am_lw i) [] I' Q) : J 41 q_L_law 1320 (am_lw i) [] I Q := by
  refine am_vc hJ 35 _ _ _ _ _ _ _ ?_
  refine ⟨g1, g2, g3, ?_⟩
  refine hJ.2 _ _ _ _ _ _ _ _ ?_ (h I hI Inv (fun _ z => z))
  rintro r I1 ⟨v, rfl, h2⟩
  refine ⟨g1, g2, g3, ?_⟩
  refine hJ.2 _ _ _ _ _ _ _ _ ?_ h2
  rintro r I2 ⟨rfl, h3⟩
  refine ⟨fun _ => ?_, fun hne => absurd rfl hne⟩
  exact K I2 h3
theorem law_c39 (hJ : am_Cl am_meth L xs J) (hI : Inv I)  (h : am_same Inv J q_X_judge q_M_judge []) (K : ∀ I', Inv I' → J 41 q_L_law 1782 (am_lw i) [] I' Q) : J 41 q_L_law 1363 (am_lw i) [] I Q := by
  refine am_vc hJ 5 _ _ _ _ _ _ _ ?_
  refine hJ.2 _ _ _ _ _ _ _ _ ?_ (h I hI Inv (fun _ z => z))
  rintro r I1 ⟨v, rfl, h2⟩
  refine hJ.2 _ _ _ _ _ _ _ _ ?_ h2
  rintro r I2 ⟨rfl, h3⟩
  refine ⟨fun _ => ?_, fun hne => absurd rfl hne⟩
  exact K I2 h3
theorem law_c40 (hJ : am_Cl am_meth L xs J) (hI : Inv I) (g1 : vp_in (i + 1) L) (g2 : vp_in (i + 2) L) (g3 : vp_in (i + 3) L) (h : am_same Inv J q_X_sheet q_M_sheet [.int (xs (i + 1).toNatClampNeg), .int (xs (i + 2).toNatClampNeg), .int (xs (i + 3).toNatClampNeg)]) (K : ∀ I', Inv I' → J 41 q_L_law 1782 (am_lw i) [] I' Q) : J 41 q_L_law 1376 (am_lw i) [] I Q := by
  refine am_vc hJ 35 _ _ _ _ _ _ _ ?_
  refine ⟨g1, g2, g3, ?_⟩
  refine hJ.2 _ _ _ _ _ _ _ _ ?_ (h I hI Inv (fun _ z => z))
  rintro r I1 ⟨v, rfl, h2⟩
  refine ⟨g1, g2, g3, ?_⟩
  refine hJ.2 _ _ _ _ _ _ _ _ ?_ h2
  rintro r I2 ⟨rfl, h3⟩
  refine ⟨fun _ => ?_, fun hne => absurd rfl hne⟩
  exact K I2 h3
theorem law_c41 (hJ : am_Cl am_meth L xs J) (hI : Inv I) (g1 : vp_in (i + 1) L) (g2 : vp_in (i + 2) L) (g3 : vp_in (i + 3) L) (h : am_same Inv J q_X_write q_M_write [.int (xs (i + 1).toNatClampNeg), .int (xs (i + 2).toNatClampNeg), .int (xs (i + 3).toNatClampNeg)]) (K : ∀ I', Inv I' → J 41 q_L_law 1782 (am_lw i) [] I' Q) : J 41 q_L_law 1419 (am_lw i) [] I Q := by
  refine am_vc hJ 35 _ _ _ _ _ _ _ ?_
  refine ⟨g1, g2, g3, ?_⟩
  refine hJ.2 _ _ _ _ _ _ _ _ ?_ (h I hI Inv (fun _ z => z))
  rintro r I1 ⟨v, rfl, h2⟩
  refine ⟨g1, g2, g3, ?_⟩
  refine hJ.2 _ _ _ _ _ _ _ _ ?_ h2
  rintro r I2 ⟨rfl, h3⟩
  refine ⟨fun _ => ?_, fun hne => absurd rfl hne⟩
  exact K I2 h3
theorem law_c42 (hJ : am_Cl am_meth L xs J) (hI : Inv I) (g1 : vp_in (i + 1) L) (g2 : vp_in (i + 2) L) (g3 : vp_in (i + 3) L) (h : am_same Inv J q_X_item q_M_item [.int (xs (i + 1).toNatClampNeg), .int (xs (i + 2).toNatClampNeg), .int (xs (i + 3).toNatClampNeg)]) (K : ∀ I', Inv I' → J 41 q_L_law 1782 (am_lw i) [] I' Q) : J 41 q_L_law 1462 (am_lw i) [] I Q := by
  refine am_vc hJ 35 _ _ _ _ _ _ _ ?_
  refine ⟨g1, g2, g3, ?_⟩
  refine hJ.2 _ _ _ _ _ _ _ _ ?_ (h I hI Inv (fun _ z => z))
  rintro r I1 ⟨v, rfl, h2⟩
  refine ⟨g1, g2, g3, ?_⟩
  refine hJ.2 _ _ _ _ _ _ _ _ ?_ h2
  rintro r I2 ⟨rfl, h3⟩
  refine ⟨fun _ => ?_, fun hne => absurd rfl hne⟩
  exact K I2 h3
theorem law_c43 (hJ : am_Cl am_meth L xs J) (hI : Inv I) (g1 : vp_in (i + 1) L) (g2 : vp_in (i + 2) L) (g3 : vp_in (i + 3) L) (h : am_same Inv J q_X_goAll q_M_goAll [.int (xs (i + 1).toNatClampNeg), .int (xs (i + 2).toNatClampNeg), .int (xs (i + 3).toNatClampNeg)]) (K : ∀ I', Inv I' → J 41 q_L_law 1782 (am_lw i) [] I' Q) : J 41 q_L_law 1505 (am_lw i) [] I Q := by
  refine am_vc hJ 35 _ _ _ _ _ _ _ ?_
  refine ⟨g1, g2, g3, ?_⟩
  refine hJ.2 _ _ _ _ _ _ _ _ ?_ (h I hI Inv (fun _ z => z))
  rintro r I1 ⟨v, rfl, h2⟩
  refine ⟨g1, g2, g3, ?_⟩
  refine hJ.2 _ _ _ _ _ _ _ _ ?_ h2
  rintro r I2 ⟨rfl, h3⟩
  refine ⟨fun _ => ?_, fun hne => absurd rfl hne⟩
  exact K I2 h3
theorem law_c44 (hJ : am_Cl am_meth L xs J) (hI : Inv I) (g1 : vp_in (i + 1) L) (g2 : vp_in (i + 2) L) (g3 : vp_in (i + 3) L) (h : am_same Inv J q_X_wouldBe q_M_wouldBe [.int (xs (i + 1).toNatClampNeg), .int (xs (i + 2).toNatClampNeg), .int (xs (i + 3).toNatClampNeg)]) (K : ∀ I', Inv I' → J 41 q_L_law 1782 (am_lw i) [] I' Q) : J 41 q_L_law 1548 (am_lw i) [] I Q := by
  refine am_vc hJ 35 _ _ _ _ _ _ _ ?_
  refine ⟨g1, g2, g3, ?_⟩
  refine hJ.2 _ _ _ _ _ _ _ _ ?_ (h I hI Inv (fun _ z => z))
  rintro r I1 ⟨v, rfl, h2⟩
  refine ⟨g1, g2, g3, ?_⟩
  refine hJ.2 _ _ _ _ _ _ _ _ ?_ h2
  rintro r I2 ⟨rfl, h3⟩
  refine ⟨fun _ => ?_, fun hne => absurd rfl hne⟩
  exact K I2 h3
theorem law_c45 (hJ : am_Cl am_meth L xs J) (hI : Inv I) (g1 : vp_in (i + 1) L) (g2 : vp_in (i + 2) L) (g3 : vp_in (i + 3) L) (h : am_same Inv J q_X_shelf q_M_shelf [.int (xs (i + 1).toNatClampNeg), .int (xs (i + 2).toNatClampNeg), .int (xs (i + 3).toNatClampNeg)]) (K : ∀ I', Inv I' → J 41 q_L_law 1782 (am_lw i) [] I' Q) : J 41 q_L_law 1591 (am_lw i) [] I Q := by
  refine am_vc hJ 35 _ _ _ _ _ _ _ ?_
  refine ⟨g1, g2, g3, ?_⟩
  refine hJ.2 _ _ _ _ _ _ _ _ ?_ (h I hI Inv (fun _ z => z))
  rintro r I1 ⟨v, rfl, h2⟩
  refine ⟨g1, g2, g3, ?_⟩
  refine hJ.2 _ _ _ _ _ _ _ _ ?_ h2
  rintro r I2 ⟨rfl, h3⟩
  refine ⟨fun _ => ?_, fun hne => absurd rfl hne⟩
  exact K I2 h3
theorem law_c46 (hJ : am_Cl am_meth L xs J) (hI : Inv I) (g1 : vp_in (i + 1) L) (g2 : vp_in (i + 2) L) (h : am_same Inv J q_X_taken q_M_taken [.int (xs (i + 1).toNatClampNeg), .int (xs (i + 2).toNatClampNeg)]) (K : ∀ I', Inv I' → J 41 q_L_law 1782 (am_lw i) [] I' Q) : J 41 q_L_law 1634 (am_lw i) [] I Q := by
  refine am_vc hJ 25 _ _ _ _ _ _ _ ?_
  refine ⟨g1, g2, ?_⟩
  refine hJ.2 _ _ _ _ _ _ _ _ ?_ (h I hI Inv (fun _ z => z))
  rintro r I1 ⟨v, rfl, h2⟩
  refine ⟨g1, g2, ?_⟩
  refine hJ.2 _ _ _ _ _ _ _ _ ?_ h2
  rintro r I2 ⟨rfl, h3⟩
  refine ⟨fun _ => ?_, fun hne => absurd rfl hne⟩
  exact K I2 h3
theorem law_c47 (hJ : am_Cl am_meth L xs J) (hI : Inv I) (g1 : vp_in (i + 1) L) (g2 : vp_in (i + 2) L) (g3 : vp_in (i + 3) L) (h : am_same Inv J q_X_act q_M_act [.int (xs (i + 1).toNatClampNeg), .int (xs (i + 2).toNatClampNeg), .int (xs (i + 3).toNatClampNeg)]) (K : ∀ I', Inv I' → J 41 q_L_law 1782 (am_lw i) [] I' Q) : J 41 q_L_law 1667 (am_lw i) [] I Q := by
  refine am_vc hJ 35 _ _ _ _ _ _ _ ?_
  refine ⟨g1, g2, g3, ?_⟩
  refine hJ.2 _ _ _ _ _ _ _ _ ?_ (h I hI Inv (fun _ z => z))
  rintro r I1 ⟨v, rfl, h2⟩
  refine ⟨g1, g2, g3, ?_⟩
  refine hJ.2 _ _ _ _ _ _ _ _ ?_ h2
  rintro r I2 ⟨rfl, h3⟩
  refine ⟨fun _ => ?_, fun hne => absurd rfl hne⟩
  exact K I2 h3
theorem law_c48 (hJ : am_Cl am_meth L xs J) (hI : Inv I) (g1 : vp_in (i + 1) L) (h : am_same Inv J q_X_trace q_M_trace [.int (xs (i + 1).toNatClampNeg)]) (K : ∀ I', Inv I' → J 41 q_L_law 1782 (am_lw i) [] I' Q) : J 41 q_L_law 1710 (am_lw i) [] I Q := by
  refine am_vc hJ 15 _ _ _ _ _ _ _ ?_
  refine ⟨g1, ?_⟩
  refine hJ.2 _ _ _ _ _ _ _ _ ?_ (h I hI Inv (fun _ z => z))
  rintro r I1 ⟨v, rfl, h2⟩
  refine ⟨g1, ?_⟩
  refine hJ.2 _ _ _ _ _ _ _ _ ?_ h2
  rintro r I2 ⟨rfl, h3⟩
  refine ⟨fun _ => ?_, fun hne => absurd rfl hne⟩
  exact K I2 h3
theorem law_c49 (hJ : am_Cl am_meth L xs J) (hI : Inv I) (g1 : vp_in (i + 1) L) (h : am_same Inv J q_X_many q_M_many [.int (xs (i + 1).toNatClampNeg)]) (K : ∀ I', Inv I' → J 41 q_L_law 1782 (am_lw i) [] I' Q) : J 41 q_L_law 1733 (am_lw i) [] I Q := by
  refine am_vc hJ 15 _ _ _ _ _ _ _ ?_
  refine ⟨g1, ?_⟩
  refine hJ.2 _ _ _ _ _ _ _ _ ?_ (h I hI Inv (fun _ z => z))
  rintro r I1 ⟨v, rfl, h2⟩
  refine ⟨g1, ?_⟩
  refine hJ.2 _ _ _ _ _ _ _ _ ?_ h2
  rintro r I2 ⟨rfl, h3⟩
  refine ⟨fun _ => ?_, fun hne => absurd rfl hne⟩
  exact K I2 h3
theorem law_c50 (hJ : am_Cl am_meth L xs J) (hI : Inv I)  (h : am_same Inv J q_X_keep q_M_keep []) (K : ∀ I', Inv I' → J 41 q_L_law 1782 (am_lw i) [] I' Q) : J 41 q_L_law 1756 (am_lw i) [] I Q := by
  refine am_vc hJ 5 _ _ _ _ _ _ _ ?_
  refine hJ.2 _ _ _ _ _ _ _ _ ?_ (h I hI Inv (fun _ z => z))
  rintro r I1 ⟨v, rfl, h2⟩
  refine hJ.2 _ _ _ _ _ _ _ _ ?_ h2
  rintro r I2 ⟨rfl, h3⟩
  refine ⟨fun _ => ?_, fun hne => absurd rfl hne⟩
  exact K I2 h3
theorem law_c51 (hJ : am_Cl am_meth L xs J) (hI : Inv I)  (h : am_same Inv J q_X_again q_M_again []) (K : ∀ I', Inv I' → J 41 q_L_law 1782 (am_lw i) [] I' Q) : J 41 q_L_law 1769 (am_lw i) [] I Q := by
  refine am_vc hJ 5 _ _ _ _ _ _ _ ?_
  refine hJ.2 _ _ _ _ _ _ _ _ ?_ (h I hI Inv (fun _ z => z))
  rintro r I1 ⟨v, rfl, h2⟩
  refine hJ.2 _ _ _ _ _ _ _ _ ?_ h2
  rintro r I2 ⟨rfl, h3⟩
  refine ⟨fun _ => ?_, fun hne => absurd rfl hne⟩
  exact K I2 h3
/-- what is owed of the 52 calls -/
def am_Ops (Inv : am_I → Prop) (J : am_J) : Prop :=
  (∀ (a b c e : Int32), am_same Inv J q_X_person q_M_person [.int a, .int b, .int c, .int e]) ∧
  (∀ (a b : Int32), am_same Inv J q_X_personOf q_M_personOf [.int a, .int b]) ∧
  (∀ (a b c : Int32), am_same Inv J q_X_change q_M_change [.int a, .int b, .int c]) ∧
  (∀ (a b : Int32), am_same Inv J q_X_remake q_M_remake [.int a, .int b]) ∧
  (∀ (a b : Int32), am_same Inv J q_X_weather q_M_weather [.int a, .int b]) ∧
  (∀ (a b c : Int32), am_same Inv J q_X_gate q_M_gate [.int a, .int b, .int c]) ∧
  (∀ (a b : Int32), am_same Inv J q_X_gateOf q_M_gateOf [.int a, .int b]) ∧
  (∀ (a b : Int32), am_same Inv J q_X_house q_M_house [.int a, .int b]) ∧
  (∀ (a : Int32), am_same Inv J q_X_ends q_M_ends [.int a]) ∧
  am_same Inv J q_X_anew q_M_anew [] ∧
  (∀ (a : Int32), am_same Inv J q_X_state q_M_state [.int a]) ∧
  (∀ (a : Int64) (b : Int32), am_same Inv J q_X_feed q_M_feed [.long a, .int b]) ∧
  am_same Inv J q_X_rules q_M_rules [] ∧
  am_same Inv J q_X_day q_M_day [] ∧
  (∀ (a : Int32), am_same Inv J q_X_on q_M_on [.int a]) ∧
  (∀ (a : Int32), am_same Inv J q_X_when q_M_when [.int a]) ∧
  (∀ (a : Int32), am_same Inv J q_X_taleFor q_M_taleFor [.int a]) ∧
  (∀ (a : Int32), am_same Inv J q_X_gateFor q_M_gateFor [.int a]) ∧
  (∀ (a : Int32), am_same Inv J q_X_bakery q_M_bakery [.int a]) ∧
  (∀ (a : Int32), am_same Inv J q_X_winter q_M_winter [.int a]) ∧
  (∀ (a : Int32), am_same Inv J q_X_tables q_M_tables [.int a]) ∧
  (∀ (a b : Int32), am_same Inv J q_X_rounds q_M_rounds [.int a, .int b]) ∧
  (∀ (a : Int32), am_same Inv J q_X_best q_M_best [.int a]) ∧
  (∀ (a b : Int32), am_same Inv J q_X_ith q_M_ith [.int a, .int b]) ∧
  (∀ (a : Int32), am_same Inv J q_X_ways q_M_ways [.int a]) ∧
  (∀ (a b : Int32), am_same Inv J q_X_feast q_M_feast [.int a, .int b]) ∧
  (∀ (a b : Int32), am_same Inv J q_X_bars q_M_bars [.int a, .int b]) ∧
  (∀ (a : Int32), am_same Inv J q_X_game q_M_game [.int a]) ∧
  (∀ (a : Int32), am_same Inv J q_X_play q_M_play [.int a]) ∧
  (∀ (a b c e : Int32), am_same Inv J q_X_report q_M_report [.int a, .int b, .int c, .int e]) ∧
  am_same Inv J q_X_forget q_M_forget [] ∧
  (∀ (a : Int32), am_same Inv J q_X_tales q_M_tales [.int a]) ∧
  am_same Inv J q_X_liar q_M_liar [] ∧
  (∀ (a : Int32), am_same Inv J q_X_seed q_M_seed [.int a]) ∧
  am_same Inv J q_X_lot q_M_lot [] ∧
  (∀ (a b : Int32), am_same Inv J q_X_times q_M_times [.int a, .int b]) ∧
  (∀ (a : Int32), am_same Inv J q_X_prove q_M_prove [.int a]) ∧
  (∀ (a b : Int32), am_same Inv J q_X_row q_M_row [.int a, .int b]) ∧
  (∀ (a b c : Int32), am_same Inv J q_X_alterRow q_M_alterRow [.int a, .int b, .int c]) ∧
  am_same Inv J q_X_judge q_M_judge [] ∧
  (∀ (a b c : Int32), am_same Inv J q_X_sheet q_M_sheet [.int a, .int b, .int c]) ∧
  (∀ (a b c : Int32), am_same Inv J q_X_write q_M_write [.int a, .int b, .int c]) ∧
  (∀ (a b c : Int32), am_same Inv J q_X_item q_M_item [.int a, .int b, .int c]) ∧
  (∀ (a b c : Int32), am_same Inv J q_X_goAll q_M_goAll [.int a, .int b, .int c]) ∧
  (∀ (a b c : Int32), am_same Inv J q_X_wouldBe q_M_wouldBe [.int a, .int b, .int c]) ∧
  (∀ (a b c : Int32), am_same Inv J q_X_shelf q_M_shelf [.int a, .int b, .int c]) ∧
  (∀ (a b : Int32), am_same Inv J q_X_taken q_M_taken [.int a, .int b]) ∧
  (∀ (a b c : Int32), am_same Inv J q_X_act q_M_act [.int a, .int b, .int c]) ∧
  (∀ (a : Int32), am_same Inv J q_X_trace q_M_trace [.int a]) ∧
  (∀ (a : Int32), am_same Inv J q_X_many q_M_many [.int a]) ∧
  am_same Inv J q_X_keep q_M_keep [] ∧
  am_same Inv J q_X_again q_M_again []
theorem am_idx {j L k : Nat} (h : j + k < L) (hL : L ≤ 2560) : vp_in (nI j + nI k) L := by
  rw [nI_add]
  exact vp_in_nI h (by omega)
theorem law_loop (hJ : am_Cl am_meth L xs J) (hL : L ≤ 2560) (hops : am_Ops Inv J) (hQ : ∀ I, Q (some (.int 1)) I) : ∀ (n j : Nat) (I : am_I), Inv I → j ≤ L + 5 → L + 5 - j < n → J 41 q_L_law 18 (am_lw (nI j)) [] I Q
  | 0, j, I, hI, hj, hn => by omega
  | n + 1, j, I, hI, hj, hn => by
    obtain ⟨o0, o1, o2, o3, o4, o5, o6, o7, o8, o9, o10, o11, o12, o13, o14, o15, o16, o17, o18, o19, o20, o21, o22, o23, o24, o25, o26, o27, o28, o29, o30, o31, o32, o33, o34, o35, o36, o37, o38, o39, o40, o41, o42, o43, o44, o45, o46, o47, o48, o49, o50, o51⟩ := hops
    have K : ∀ I', Inv I' → j + 5 ≤ L → J 41 q_L_law 1782 (am_lw (nI j)) [] I' Q := by
      intro I' hI' hjl
      refine am_vc hJ 2 _ _ _ _ _ _ _ ?_
      have e : nI j + 5 = nI (j + 5) := nI_add j 5
      show J 41 q_L_law 18 (am_lw (nI j + 5)) [] I' Q
      rw [e]
      exact law_loop hJ hL ⟨o0, o1, o2, o3, o4, o5, o6, o7, o8, o9, o10, o11, o12, o13, o14, o15, o16, o17, o18, o19, o20, o21, o22, o23, o24, o25, o26, o27, o28, o29, o30, o31, o32, o33, o34, o35, o36, o37, o38, o39, o40, o41, o42, o43, o44, o45, o46, o47, o48, o49, o50, o51⟩ hQ n (j + 5) I' hI' (by omega) (by omega)
    refine am_vc hJ 12 _ _ _ _ _ _ _ ?_
    refine ⟨fun _ => ?_, fun h1 => ?_⟩
    · exact ⟨Or.inr rfl, hQ I⟩
    · have hjl : j + 5 ≤ L := by
        by_cases h5 : 5 ≤ L
        · have e : nI L - 5 = nI (L - 5) := pk_sub (a := L) (b := 5) h5
          have h1' : ¬ nI (L - 5) < nI j := by rw [← e]; exact h1
          rw [nI_ltI (by omega) (by omega)] at h1'
          omega
        · exfalso
          apply h1
          have hs : nI L - nI 5 < 0 := pk_sneg (by omega) (by omega)
          have h0 : 0 ≤ nI j := nI_pos' (by omega)
          show nI L - 5 < nI j
          rw [Int32.lt_iff_toInt_lt] at hs ⊢
          rw [Int32.le_iff_toInt_le] at h0
          have e0 : (0 : Int32).toInt = 0 := rfl
          rw [e0] at hs h0
          exact Int.lt_of_lt_of_le hs h0
      have g0 : vp_in (nI j) L := vp_in_nI (by omega) (by omega)
      have g1 : vp_in (nI j + 1) L := am_idx (k := 1) (by omega) hL
      have g2 : vp_in (nI j + 2) L := am_idx (k := 2) (by omega) hL
      have g3 : vp_in (nI j + 3) L := am_idx (k := 3) (by omega) hL
      have g4 : vp_in (nI j + 4) L := am_idx (k := 4) (by omega) hL
      refine ⟨g0, ?_⟩
      refine ⟨fun _ => law_c0 hJ hI g1 g2 g3 g4 (o0 _ _ _ _) (fun I' q => K I' q hjl), fun _ => ?_⟩
      refine ⟨fun _ => law_c1 hJ hI g1 g2 (o1 _ _) (fun I' q => K I' q hjl), fun _ => ?_⟩
      refine ⟨fun _ => law_c2 hJ hI g1 g2 g3 (o2 _ _ _) (fun I' q => K I' q hjl), fun _ => ?_⟩
      refine ⟨fun _ => law_c3 hJ hI g1 g2 (o3 _ _) (fun I' q => K I' q hjl), fun _ => ?_⟩
      refine ⟨fun _ => law_c4 hJ hI g1 g2 (o4 _ _) (fun I' q => K I' q hjl), fun _ => ?_⟩
      refine ⟨fun _ => law_c5 hJ hI g1 g2 g3 (o5 _ _ _) (fun I' q => K I' q hjl), fun _ => ?_⟩
      refine ⟨fun _ => law_c6 hJ hI g1 g2 (o6 _ _) (fun I' q => K I' q hjl), fun _ => ?_⟩
      refine ⟨fun _ => law_c7 hJ hI g1 g2 (o7 _ _) (fun I' q => K I' q hjl), fun _ => ?_⟩
      refine ⟨fun _ => law_c8 hJ hI g1 (o8 _) (fun I' q => K I' q hjl), fun _ => ?_⟩
      refine ⟨fun _ => law_c9 hJ hI (o9) (fun I' q => K I' q hjl), fun _ => ?_⟩
      refine ⟨fun _ => law_c10 hJ hI g1 (o10 _) (fun I' q => K I' q hjl), fun _ => ?_⟩
      refine ⟨fun _ => law_c11 hJ hI g1 g2 g3 (o11 _ _) (fun I' q => K I' q hjl), fun _ => ?_⟩
      refine ⟨fun _ => law_c12 hJ hI (o12) (fun I' q => K I' q hjl), fun _ => ?_⟩
      refine ⟨fun _ => law_c13 hJ hI (o13) (fun I' q => K I' q hjl), fun _ => ?_⟩
      refine ⟨fun _ => law_c14 hJ hI g1 (o14 _) (fun I' q => K I' q hjl), fun _ => ?_⟩
      refine ⟨fun _ => law_c15 hJ hI g1 (o15 _) (fun I' q => K I' q hjl), fun _ => ?_⟩
      refine ⟨fun _ => law_c16 hJ hI g1 (o16 _) (fun I' q => K I' q hjl), fun _ => ?_⟩
      refine ⟨fun _ => law_c17 hJ hI g1 (o17 _) (fun I' q => K I' q hjl), fun _ => ?_⟩
      refine ⟨fun _ => law_c18 hJ hI g1 (o18 _) (fun I' q => K I' q hjl), fun _ => ?_⟩
      refine ⟨fun _ => law_c19 hJ hI g1 (o19 _) (fun I' q => K I' q hjl), fun _ => ?_⟩
      refine ⟨fun _ => law_c20 hJ hI g1 (o20 _) (fun I' q => K I' q hjl), fun _ => ?_⟩
      refine ⟨fun _ => law_c21 hJ hI g1 g2 (o21 _ _) (fun I' q => K I' q hjl), fun _ => ?_⟩
      refine ⟨fun _ => law_c22 hJ hI g1 (o22 _) (fun I' q => K I' q hjl), fun _ => ?_⟩
      refine ⟨fun _ => law_c23 hJ hI g1 g2 (o23 _ _) (fun I' q => K I' q hjl), fun _ => ?_⟩
      refine ⟨fun _ => law_c24 hJ hI g1 (o24 _) (fun I' q => K I' q hjl), fun _ => ?_⟩
      refine ⟨fun _ => law_c25 hJ hI g1 g2 (o25 _ _) (fun I' q => K I' q hjl), fun _ => ?_⟩
      refine ⟨fun _ => law_c26 hJ hI g1 g2 (o26 _ _) (fun I' q => K I' q hjl), fun _ => ?_⟩
      refine ⟨fun _ => law_c27 hJ hI g1 (o27 _) (fun I' q => K I' q hjl), fun _ => ?_⟩
      refine ⟨fun _ => law_c28 hJ hI g1 (o28 _) (fun I' q => K I' q hjl), fun _ => ?_⟩
      refine ⟨fun _ => law_c29 hJ hI g1 g2 g3 g4 (o29 _ _ _ _) (fun I' q => K I' q hjl), fun _ => ?_⟩
      refine ⟨fun _ => law_c30 hJ hI (o30) (fun I' q => K I' q hjl), fun _ => ?_⟩
      refine ⟨fun _ => law_c31 hJ hI g1 (o31 _) (fun I' q => K I' q hjl), fun _ => ?_⟩
      refine ⟨fun _ => law_c32 hJ hI (o32) (fun I' q => K I' q hjl), fun _ => ?_⟩
      refine ⟨fun _ => law_c33 hJ hI g1 (o33 _) (fun I' q => K I' q hjl), fun _ => ?_⟩
      refine ⟨fun _ => law_c34 hJ hI (o34) (fun I' q => K I' q hjl), fun _ => ?_⟩
      refine ⟨fun _ => law_c35 hJ hI g1 g2 (o35 _ _) (fun I' q => K I' q hjl), fun _ => ?_⟩
      refine ⟨fun _ => law_c36 hJ hI g1 (o36 _) (fun I' q => K I' q hjl), fun _ => ?_⟩
      refine ⟨fun _ => law_c37 hJ hI g1 g2 (o37 _ _) (fun I' q => K I' q hjl), fun _ => ?_⟩
      refine ⟨fun _ => law_c38 hJ hI g1 g2 g3 (o38 _ _ _) (fun I' q => K I' q hjl), fun _ => ?_⟩
      refine ⟨fun _ => law_c39 hJ hI (o39) (fun I' q => K I' q hjl), fun _ => ?_⟩
      refine ⟨fun _ => law_c40 hJ hI g1 g2 g3 (o40 _ _ _) (fun I' q => K I' q hjl), fun _ => ?_⟩
      refine ⟨fun _ => law_c41 hJ hI g1 g2 g3 (o41 _ _ _) (fun I' q => K I' q hjl), fun _ => ?_⟩
      refine ⟨fun _ => law_c42 hJ hI g1 g2 g3 (o42 _ _ _) (fun I' q => K I' q hjl), fun _ => ?_⟩
      refine ⟨fun _ => law_c43 hJ hI g1 g2 g3 (o43 _ _ _) (fun I' q => K I' q hjl), fun _ => ?_⟩
      refine ⟨fun _ => law_c44 hJ hI g1 g2 g3 (o44 _ _ _) (fun I' q => K I' q hjl), fun _ => ?_⟩
      refine ⟨fun _ => law_c45 hJ hI g1 g2 g3 (o45 _ _ _) (fun I' q => K I' q hjl), fun _ => ?_⟩
      refine ⟨fun _ => law_c46 hJ hI g1 g2 (o46 _ _) (fun I' q => K I' q hjl), fun _ => ?_⟩
      refine ⟨fun _ => law_c47 hJ hI g1 g2 g3 (o47 _ _ _) (fun I' q => K I' q hjl), fun _ => ?_⟩
      refine ⟨fun _ => law_c48 hJ hI g1 (o48 _) (fun I' q => K I' q hjl), fun _ => ?_⟩
      refine ⟨fun _ => law_c49 hJ hI g1 (o49 _) (fun I' q => K I' q hjl), fun _ => ?_⟩
      refine ⟨fun _ => law_c50 hJ hI (o50) (fun I' q => K I' q hjl), fun _ => ?_⟩
      refine ⟨fun _ => law_c51 hJ hI (o51) (fun I' q => K I' q hjl), fun _ => ?_⟩
      exact K I hI hjl
end
end
section
/-! THE STATE OF BOTH: u is the reference's row of numbers; class cells hold it by tables -/
abbrev am_U : Type := Nat → Nat
def upN (u : am_U) (j n : Nat) : am_U := fun i => if i = j then n else u i
theorem upN_s {u : am_U} {j n : Nat} : upN u j n j = n := if_pos rfl
theorem upN_n {u : am_U} {j n i : Nat} (h : i ≠ j) : upN u j n i = u i := if_neg h
def Rel (T : List (Nat × Nat × Nat)) (I : am_I) (u : am_U) : Prop := ∀ t ∈ T, I t.1 t.2.1 = nI (u t.2.2)
theorem Rel.get {T : List (Nat × Nat × Nat)} {I : am_I} {u : am_U} (h : Rel T I u) (o k j : Nat) (ht : (o, k, j) ∈ T) : I o k = nI (u j) := h _ ht
theorem Rel.put {T : List (Nat × Nat × Nat)} {I : am_I} {u : am_U} {n : Nat} {v : Int32} (h : Rel T I u) (o k j : Nat) (hv : v = nI n) (hb : ∀ t ∈ T, (t.1 = o ∧ t.2.1 = k) ↔ t.2.2 = j) : Rel T (am_put I o k v) (upN u j n) := by
  intro t ht
  unfold am_put upN
  by_cases e : t.1 = o ∧ t.2.1 = k
  · rw [if_pos e, if_pos ((hb t ht).mp e), hv]
  · rw [if_neg e, if_neg (fun q => e ((hb t ht).mpr q))]
    exact h t ht
theorem Rel.off {T : List (Nat × Nat × Nat)} {I : am_I} {u : am_U} {v : Int32} (h : Rel T I u) (o k : Nat) (hb : ∀ t ∈ T, ¬ (t.1 = o ∧ t.2.1 = k)) : Rel T (am_put I o k v) u := by
  intro t ht
  unfold am_put
  rw [if_neg (hb t ht)]
  exact h t ht
theorem Rel.offu {T : List (Nat × Nat × Nat)} {I : am_I} {u : am_U} {n : Nat} (h : Rel T I u) (j : Nat) (hb : ∀ t ∈ T, t.2.2 ≠ j) : Rel T I (upN u j n) := by
  intro t ht
  rw [upN_n (hb t ht)]
  exact h t ht
theorem Rel.kept {T : List (Nat × Nat × Nat)} {I I' : am_I} {u : am_U} (h : Rel T I u) (hb : ∀ t ∈ T, I' t.1 = I t.1) : Rel T I' u := by
  intro t ht
  rw [hb t ht]
  exact h t ht
theorem Rel.keptu {T : List (Nat × Nat × Nat)} {I : am_I} {u u' : am_U} (h : Rel T I u) (hb : ∀ t ∈ T, u' t.2.2 = u t.2.2) : Rel T I u' := by
  intro t ht
  rw [hb t ht]
  exact h t ht
/-- a course at cell c; the road at cell b -/
def TC (c : Nat) : List (Nat × Nat × Nat) := [(c, 0, 0), (c, 1, 3), (c, 2, 4), (c, 3, 2)]
def TR (b : Nat) : List (Nat × Nat × Nat) := [(b, 2, 6), (b, 10, 1), (b, 11, 5), (b, 12, 7), (b, 15, 8)]
  ++ (List.range 6).map (fun k => (b + 2, k, 38 + 6 * k)) ++ (List.range 6).map (fun k => (b + 3, k, 39 + 6 * k)) ++ (List.range 6).map (fun k => (b + 4, k, 40 + 6 * k)) ++ (List.range 6).map (fun k => (b + 5, k, 41 + 6 * k))
  ++ (List.range 16).map (fun k => (b + 6, k, 10 + k)) ++ (List.range 6).map (fun k => (b + 7, k, 26 + k)) ++ (List.range 6).map (fun k => (b + 8, k, 32 + k))
  ++ (List.range 6).map (fun k => (b + 11, k, 74 + 4 * k)) ++ (List.range 6).map (fun k => (b + 12, k, 75 + 4 * k)) ++ (List.range 6).map (fun k => (b + 13, k, 76 + 4 * k)) ++ (List.range 6).map (fun k => (b + 14, k, 77 + 4 * k))
/-- how often each was met: four bits each; who is fed: a bit each -/
def am_nib (x k : Int32) : Int32 := (x.toUInt32 >>> ((4 * k).toUInt32 &&& Int32.toUInt32 31)).toInt32 &&& 15
def MetR (x : Int32) (u : am_U) : Prop := ∀ k, k < 6 → am_nib x (nI k) = nI (u (42 + 6 * k))
def fedN (u : am_U) : Nat := u 43 + 2 * u 49 + 4 * u 55 + 8 * u 61 + 16 * u 67 + 32 * u 73
def CRep (I : am_I) (c : Nat) (u : am_U) : Prop := Rel (TC c) I u ∧ MetR (I c 4) u ∧ I c 5 = nI (fedN u)
def MRep (I : am_I) (o : Nat) (u : am_U) : Prop := ∀ j, j < 322 → I o j = nI (u j)
/-- how the reference evaluates the steps from i on to e -/
def sp_known (u : am_U) (st k w : Nat) : Nat := if w = 0 then u 0 else if w = 1 then u (40 + 6 * k) else if w = 2 then st else if w = 3 then u 3 else k
def sp_join (x a b : Nat) : Nat := if x = 10010 then (if a < b then 1 else 0) else if x = 10011 then (if a = b then 1 else 0) else if x = 10012 then (if b < a then 1 else 0) else if x = 10013 then (if a ≠ 0 ∧ b ≠ 0 then 1 else 0) else (if a ≠ 0 ∨ b ≠ 0 then 1 else 0)
/-- F: the five facts. The pile is a list, its top first. -/
def sp_ev (F : Nat → Nat) : List Nat → List Nat → Option (List Nat)
  | [], pl => some pl
  | x :: l, pl => if x < 10010 then sp_ev F l ((if x < 10000 then x else F (x - 10000)) :: pl) else match pl with
    | [] => none
    | a :: pl => if x = 10015 then sp_ev F l ((1 - a) :: pl) else match pl with
      | [] => none
      | b :: pl => sp_ev F l (sp_join x b a :: pl)
def sp_beg (u : am_U) (r : Nat) : Nat := if r = 0 then 0 else u (98 + 3 * (r - 1) + 2)
def sp_end (u : am_U) (r : Nat) : Nat := u (98 + 3 * r + 2)
def sp_steps (u : am_U) (r : Nat) : List Nat := (List.range (sp_end u r - sp_beg u r)).map (fun i => u (122 + (sp_beg u r + i)))
/-- the truth of rule r's condition -/
def sp_holds (u : am_U) (r : Nat) (F : Nat → Nat) : Bool := match sp_ev F (sp_steps u r) [] with
  | some [] => true
  | some (a :: _) => a != 0
  | none => true
/-- how the class evaluates its code: a sign ahead of its two values, a join behind; truths wait as bits, the latest lowest -/
def sp_val (F : Nat → Nat) (x : Nat) : Nat := if 10013 ≤ x ∧ x < 10018 then F (x - 10013) else x
def sp_cmp (F : Nat → Nat) (sg a b : Nat) : Bool := if sg = 20060 then decide (sp_val F a < sp_val F b) else if sg = 20062 then decide (sp_val F b < sp_val F a) else decide (sp_val F a = sp_val F b)
def sp_hc (F : Nat → Nat) : List Nat → List Bool → Option (List Bool)
  | [], pl => some pl
  | x :: l, pl => if x = 10012 then (match pl with
      | a :: pl => sp_hc F l ((!a) :: pl)
      | [] => none)
    else if x = 10011 then (match pl with
      | a :: b :: pl => sp_hc F l ((b && a) :: pl)
      | _ => none)
    else if x = 10010 then (match pl with
      | a :: b :: pl => sp_hc F l ((b || a) :: pl)
      | _ => none)
    else match l with
      | a :: b :: l => if pl.length < 20 then sp_hc F l (sp_cmp F x a b :: pl) else none
      | _ => none
/-- the class's code of a rule and the reference's steps of it say the same of all facts -/
def RuR1 (cd : Nat → Int32) (u : am_U) (r a : Nat) : Prop := ∃ (len : Nat) (cs : List Nat), a + 3 + len ≤ 200 ∧ cs.length = len ∧ cd a = nI (u (98 + 3 * r)) ∧ cd (a + 1) = nI (u (98 + 3 * r + 1)) ∧ cd (a + 2) = nI len ∧ (∀ i, i < len → cd (a + 3 + i) = nI (cs.getD i 0) ∧ cs.getD i 0 < 30000) ∧
  ∀ F : Nat → Nat, (len = 0 ∧ sp_steps u r = []) ∨ ∃ x : Bool, sp_hc F cs [] = some [x] ∧ sp_ev F (sp_steps u r) [] = some [if x then 1 else 0]
def RuR (cd : Nat → Int32) (u : am_U) : Prop := ∃ at' : Nat → Nat, at' 0 = 0 ∧ ∀ r, r < u 7 → RuR1 cd u r (at' r) ∧ cd (at' r + 2) = nI (at' (r + 1) - at' r - 3) ∧ at' r + 3 ≤ at' (r + 1) ∧ sp_beg u r ≤ sp_end u r ∧ sp_end u r ≤ 200
def OKb : List (Nat × Nat) := [(0, 16), (1, 16), (3, 9), (4, 999), (6, 6), (7, 8), (8, 6)] ++ (List.range 16).map (fun k => (10 + k, 15)) ++ (List.range 12).map (fun k => (26 + k, 9))
  ++ (List.range 6).map (fun k => (38 + 6 * k, 5)) ++ (List.range 6).map (fun k => (39 + 6 * k, 60)) ++ (List.range 6).map (fun k => (40 + 6 * k, 9)) ++ (List.range 6).map (fun k => (41 + 6 * k, 5)) ++ (List.range 6).map (fun k => (42 + 6 * k, 9)) ++ (List.range 6).map (fun k => (43 + 6 * k, 1))
  ++ (List.range 6).map (fun k => (74 + 4 * k, 15)) ++ (List.range 6).map (fun k => (75 + 4 * k, 1)) ++ (List.range 6).map (fun k => (76 + 4 * k, 999)) ++ (List.range 6).map (fun k => (77 + 4 * k, 999)) ++ (List.range 8).map (fun k => (98 + 3 * k, 5)) ++ (List.range 8).map (fun k => (99 + 3 * k, 2))
/-- what the numbers may be -/
def OKu (u : am_U) : Prop := (∀ q ∈ OKb, u q.1 ≤ q.2) ∧ u 0 ≤ u 1 ∧ 1 ≤ u 1 ∧ (∀ k, k < u 6 → 1 ≤ u (38 + 6 * k)) ∧ ∀ k f, u 6 ≤ k → k < 6 → f < 6 → u (38 + 6 * k + f) = 0
def RRep (I : am_I) (b : Nat) (u : am_U) : Prop := Rel (TR b) I u ∧ RuR (I (b + 9)) u
/-- the state of the road, kept or not, in both -/
def Main (I : am_I) (b c o : Nat) (u : am_U) : Prop := MRep I o u ∧ RRep I b u ∧ CRep I c u ∧ OKu u
def KeptR (I : am_I) (uk : am_U) : Prop := I 0 2 = I 66 3 ∧ (I 0 2 = 0 ∨ (I 0 2 = 1 ∧ Main I 23 24 68 uk))
def TapeR (I : am_I) : Prop := ∃ n, n ≤ 200 ∧ I 38 1 = nI n ∧ I 66 6 = nI n ∧ ∀ j, j < n → ∃ x, x < 256 ∧ I 71 j = nI x ∧ I 39 j = (nI x).toInt8.toInt32
def RowsR (I : am_I) : Prop := ∃ n, n ≤ 4 ∧ I 0 7 = nI n ∧ I 66 29 = nI n ∧ ∀ j, j < 3 * n → I 53 j = I 80 j
def SheetR (I : am_I) : Prop := ∀ h, h < 4 → (I 54 h = -1 ∧ I 81 h = -1) ∨ ∃ so n, so < 5 ∧ n ≤ 40 ∧ I 54 h = nI so ∧ I 81 h = nI so ∧ I 55 h = nI n ∧ I 82 h = nI n ∧ ∀ j, j < 40 → I (57 + h) j = I 83 (40 * h + j)
def ShelfR (I : am_I) : Prop := ∀ h, h < 4 → (I 61 h = 2 ∧ I 84 h = -1) ∨ (I 61 h = 0 ∧ I 84 h = 0 ∧ ∃ k, k < 6 ∧ I 62 h = nI k ∧ I 85 h = nI k) ∨ (I 61 h = 1 ∧ ∃ so n, so < 5 ∧ n ≤ 40 ∧ I 84 h = nI (10 + so) ∧ I 62 h = nI so ∧ I 63 h = nI n ∧ I 85 h = nI n)
def TraceR (I : am_I) : Prop := ∃ n, n ≤ 30 ∧ I 64 4 = nI n ∧ I 66 36 = nI n ∧ ∀ j, j < n → I 65 j = I 86 j
def am_ml : List (List Nat) := [[112, 101, 114, 115, 111, 110, 32, 32], [116, 114, 97, 109, 112, 32, 32, 32], [112, 105, 108, 103, 114, 105, 109, 32], [98, 105, 115, 104, 111, 112, 32, 32], [102, 114, 105, 101, 110, 100, 32, 32], [100, 111, 117, 98, 108, 101, 32, 32], [98, 114, 101, 97, 107, 32, 32, 32], [112, 97, 115, 115, 32, 32, 32, 32], [115, 104, 117, 116, 32, 32, 32, 32], [105, 102, 32, 32, 32, 32, 32, 32], [110, 111, 116, 32, 32, 32, 32, 32], [97, 110, 100, 32, 32, 32, 32, 32], [111, 114, 32, 32, 32, 32, 32, 32], [100, 97, 121, 32, 32, 32, 32, 32], [116, 97, 108, 101, 32, 32, 32, 32], [115, 116, 114, 97, 110, 103, 101, 32], [115, 110, 111, 119, 32, 32, 32, 32], [110, 117, 109, 98, 101, 114, 32, 32]]
def LetR (I : am_I) : Prop := ∀ w k, w < 18 → k < 8 → I 72 (8 * w + k) = nI ((am_ml.getD w []).getD k 0)
def Rest (I : am_I) : Prop := TapeR I ∧ RowsR I ∧ SheetR I ∧ ShelfR I ∧ TraceR I ∧ LetR I
/-- THE INVARIANT -/
def Inv (I : am_I) : Prop := ∃ u uk, Main I 8 9 67 u ∧ KeptR I uk ∧ Rest I
end
section
/-! NUMBERS, AND THE SMALLEST METHODS -/
theorem am_vin {i : Int32} {n : Nat} (h : decide (¬ (i < 0 ∨ n ≤ i.toNatClampNeg)) = true) : vp_in i n := by unfold vp_in; exact of_decide_eq_true h
theorem am_vinN {i : Int32} {n k : Nat} (e : i = nI k) (h : k < n) (hn : n < 2 ^ 31) : vp_in i n := by rw [e]; exact vp_in_nI h hn
theorem am_clN {i : Int32} {k : Nat} (e : i = nI k) (h : k < 2 ^ 31) : i.toNatClampNeg = k := by rw [e]; exact nI_clamp h
theorem am_rng {v M : Int32} {N : Nat} (hM : M = nI N) (hN : N < 2 ^ 31) (h : 0 ≤ v ∧ v ≤ M) : ∃ n, n ≤ N ∧ v = nI n := by
  subst hM
  exact nI_of2 (nI_toInt hN) (Int32.not_lt.mpr h.1) h.2
theorem am_rngI {v : Int32} {n N : Nat} (hv : v = nI n) (hn : n ≤ N) (hN : N < 2 ^ 31) : 0 ≤ v ∧ v ≤ nI N := by
  subst hv
  exact ⟨nI_pos' (by omega), nI_le hn hN⟩
/-- an index below a count -/
theorem am_cnt {k : Int32} {n : Nat} (hn : n < 2 ^ 31) : (0 ≤ k ∧ k ≤ nI n - 1) ↔ ∃ j, j < n ∧ k = nI j := by
  cases n with
  | zero =>
    have e : nI 0 - 1 = -1 := by decide
    rw [e]
    constructor
    · intro ⟨h1, h2⟩
      exfalso
      rw [Int32.le_iff_toInt_le] at h1 h2
      have e0 : (0 : Int32).toInt = 0 := rfl
      have e1 : (-1 : Int32).toInt = -1 := by decide
      rw [e0] at h1
      rw [e1] at h2
      omega
    · intro ⟨j, hj, _⟩
      omega
  | succ n =>
    rw [nI_pred]
    constructor
    · intro h
      obtain ⟨j, h1, h2⟩ := am_rng rfl (by omega) h
      exact ⟨j, by omega, h2⟩
    · intro ⟨j, h1, h2⟩
      exact am_rngI h2 (by omega) (by omega)
section
variable {L : Nat} {xs : Nat → Int32} {J : am_J} {d : Nat} {I : am_I} {Q : am_Q}
theorem x_within (hJ : am_Cl am_meth L xs J) {v lo hi : Int32} (h1 : lo ≤ v ∧ v ≤ hi → Q (some (.int 1)) I) (h0 : ¬ (lo ≤ v ∧ v ≤ hi) → Q (some (.int 0)) I) : J d q_X_within 0 [some (.int v), some (.int lo), some (.int hi)] [] I Q := by
  refine am_vc hJ 12 _ _ _ _ _ _ _ ?_
  refine ⟨fun a => ?_, fun a => ⟨fun b => ?_, fun b => ?_⟩⟩
  · exact ⟨Or.inl rfl, h0 (fun q => absurd q.1 (Int32.not_le.mpr a))⟩
  · exact ⟨Or.inl rfl, h0 (fun q => absurd q.2 (Int32.not_le.mpr b))⟩
  · exact ⟨Or.inr rfl, h1 ⟨Int32.not_lt.mp a, Int32.not_lt.mp b⟩⟩
theorem m_in1 (hJ : am_Cl am_meth L xs J) {v lo hi : Int32} (h1 : lo ≤ v ∧ v ≤ hi → Q (some (.int 1)) I) (h0 : ¬ (lo ≤ v ∧ v ≤ hi) → Q (some (.int 0)) I) : J d q_M_in1 0 [some (.int v), some (.int lo), some (.int hi)] [] I Q := by
  refine am_vc hJ 12 _ _ _ _ _ _ _ ?_
  refine ⟨fun a => ?_, fun a => ⟨fun b => ?_, fun b => ?_⟩⟩
  · exact ⟨Or.inl rfl, h0 (fun q => absurd q.1 (Int32.not_le.mpr a))⟩
  · exact ⟨Or.inl rfl, h0 (fun q => absurd q.2 (Int32.not_le.mpr b))⟩
  · exact ⟨Or.inr rfl, h1 ⟨Int32.not_lt.mp a, Int32.not_lt.mp b⟩⟩
theorem m_isGate (hJ : am_Cl am_meth L xs J) {v : Int32} (h1 : 0 ≤ v ∧ v ≤ 5 → Q (some (.int 1)) I) (h0 : ¬ (0 ≤ v ∧ v ≤ 5) → Q (some (.int 0)) I) : J (d + 1) q_M_isGate 0 [some (.int v)] [] I Q := by
  refine am_vc hJ 8 _ _ _ _ _ _ _ ?_
  refine m_in1 hJ (fun h => ?_) (fun h => ?_)
  · exact ⟨Or.inr rfl, h1 h⟩
  · exact ⟨Or.inl rfl, h0 h⟩
theorem m_isDigit (hJ : am_Cl am_meth L xs J) {v : Int32} (h1 : 0 ≤ v ∧ v ≤ 9 → Q (some (.int 1)) I) (h0 : ¬ (0 ≤ v ∧ v ≤ 9) → Q (some (.int 0)) I) : J (d + 1) q_M_isDigit 0 [some (.int v)] [] I Q := by
  refine am_vc hJ 8 _ _ _ _ _ _ _ ?_
  refine m_in1 hJ (fun h => ?_) (fun h => ?_)
  · exact ⟨Or.inr rfl, h1 h⟩
  · exact ⟨Or.inl rfl, h0 h⟩
theorem m_isNeed (hJ : am_Cl am_meth L xs J) {v : Int32} (h1 : 0 ≤ v ∧ v ≤ 60 → Q (some (.int 1)) I) (h0 : ¬ (0 ≤ v ∧ v ≤ 60) → Q (some (.int 0)) I) : J (d + 1) q_M_isNeed 0 [some (.int v)] [] I Q := by
  refine am_vc hJ 8 _ _ _ _ _ _ _ ?_
  refine m_in1 hJ (fun h => ?_) (fun h => ?_)
  · exact ⟨Or.inr rfl, h1 h⟩
  · exact ⟨Or.inl rfl, h0 h⟩
theorem m_isPlan (hJ : am_Cl am_meth L xs J) {v : Int32} (h1 : 0 ≤ v ∧ v ≤ 4 → Q (some (.int 1)) I) (h0 : ¬ (0 ≤ v ∧ v ≤ 4) → Q (some (.int 0)) I) : J (d + 1) q_M_isPlan 0 [some (.int v)] [] I Q := by
  refine am_vc hJ 8 _ _ _ _ _ _ _ ?_
  refine m_in1 hJ (fun h => ?_) (fun h => ?_)
  · exact ⟨Or.inr rfl, h1 h⟩
  · exact ⟨Or.inl rfl, h0 h⟩
theorem m_isSheet (hJ : am_Cl am_meth L xs J) {v : Int32} (h1 : 0 ≤ v ∧ v ≤ 3 → Q (some (.int 1)) I) (h0 : ¬ (0 ≤ v ∧ v ≤ 3) → Q (some (.int 0)) I) : J (d + 1) q_M_isSheet 0 [some (.int v)] [] I Q := by
  refine am_vc hJ 8 _ _ _ _ _ _ _ ?_
  refine m_in1 hJ (fun h => ?_) (fun h => ?_)
  · exact ⟨Or.inr rfl, h1 h⟩
  · exact ⟨Or.inl rfl, h0 h⟩
theorem x_isSheet (hJ : am_Cl am_meth L xs J) {v : Int32} (h1 : 0 ≤ v ∧ v ≤ 3 → Q (some (.int 1)) I) (h0 : ¬ (0 ≤ v ∧ v ≤ 3) → Q (some (.int 0)) I) : J (d + 1) q_X_isSheet 0 [some (.int v)] [] I Q := by
  refine am_vc hJ 8 _ _ _ _ _ _ _ ?_
  refine x_within hJ (fun h => ?_) (fun h => ?_)
  · exact ⟨Or.inr rfl, h1 h⟩
  · exact ⟨Or.inl rfl, h0 h⟩
theorem x_isShelf (hJ : am_Cl am_meth L xs J) {v : Int32} (h1 : 0 ≤ v ∧ v ≤ 3 → Q (some (.int 1)) I) (h0 : ¬ (0 ≤ v ∧ v ≤ 3) → Q (some (.int 0)) I) : J (d + 1) q_X_isShelf 0 [some (.int v)] [] I Q := by
  refine am_vc hJ 8 _ _ _ _ _ _ _ ?_
  refine x_within hJ (fun h => ?_) (fun h => ?_)
  · exact ⟨Or.inr rfl, h1 h⟩
  · exact ⟨Or.inl rfl, h0 h⟩
/-- is there such a person -/
theorem x_has (hJ : am_Cl am_meth L xs J) {k : Int32} {n : Nat} (hn : I 8 2 = nI n) (h6 : n ≤ 6) (h1 : ∀ j, j < n → k = nI j → Q (some (.int 1)) I) (h0 : (¬ ∃ j, j < n ∧ k = nI j) → Q (some (.int 0)) I) : J (d + 1) q_Road_has 0 [some (.ref 8), some (.int k)] [] I Q := by
  refine am_vc hJ 10 _ _ _ _ _ _ _ ?_
  refine x_within hJ (fun h => ?_) (fun h => ?_)
  · rw [hn, am_cnt (by omega)] at h
    obtain ⟨j, h2, h3⟩ := h
    exact ⟨Or.inr rfl, h1 j h2 h3⟩
  · rw [hn, am_cnt (by omega)] at h
    exact ⟨Or.inl rfl, h0 h⟩
theorem m_isPerson (hJ : am_Cl am_meth L xs J) {k : Int32} {n : Nat} (hn : I 67 6 = nI n) (h6 : n ≤ 6) (h1 : ∀ j, j < n → k = nI j → Q (some (.int 1)) I) (h0 : (¬ ∃ j, j < n ∧ k = nI j) → Q (some (.int 0)) I) : J (d + 1) q_M_isPerson 0 [some (.ref 66), some (.int k)] [] I Q := by
  refine am_vc hJ 12 _ _ _ _ _ _ _ ?_
  refine ⟨am_vin (by decide), ?_⟩
  refine m_in1 hJ (fun h => ?_) (fun h => ?_)
  · have h : 0 ≤ k ∧ k ≤ I 67 6 - 1 := h
    rw [hn, am_cnt (by omega)] at h
    obtain ⟨j, h2, h3⟩ := h
    exact ⟨Or.inr rfl, h1 j h2 h3⟩
  · have h : ¬ (0 ≤ k ∧ k ≤ I 67 6 - 1) := h
    rw [hn, am_cnt (by omega)] at h
    exact ⟨Or.inl rfl, h0 h⟩
theorem am_pix {k f : Int32} {a b : Nat} (hk : k = nI a) (hf : f = nI b) : 38 + 6 * k + f = nI (38 + 6 * a + b) := by
  subst hk
  subst hf
  rw [show (38 : Int32) = nI 38 from rfl, show (6 : Int32) = nI 6 from rfl, pk_mul, nI_add, nI_add]
theorem m_get (hJ : am_Cl am_meth L xs J) {k f : Int32} {a b : Nat} (hk : k = nI a) (hf : f = nI b) (ha : a < 6) (hb : b < 6) (h : Q (some (.int (I 67 (38 + 6 * a + b)))) I) : J d q_M_get 0 [some (.ref 66), some (.int k), some (.int f)] [] I Q := by
  refine am_vc hJ 11 _ _ _ _ _ _ _ ?_
  have e := am_pix hk hf
  refine ⟨am_vinN e (by omega) (by omega), ?_⟩
  show Q (some (.int (I 67 (38 + 6 * k + f).toNatClampNeg))) I
  rw [am_clN e (by omega)]
  exact h
theorem m_puts (hJ : am_Cl am_meth L xs J) {k f v : Int32} {a b : Nat} (hk : k = nI a) (hf : f = nI b) (ha : a < 6) (hb : b < 6) (h : Q none (am_put I 67 (38 + 6 * a + b) v)) : J d q_M_puts 0 [some (.ref 66), some (.int k), some (.int f), some (.int v)] [] I Q := by
  refine am_vc hJ 12 _ _ _ _ _ _ _ ?_
  have e := am_pix hk hf
  refine ⟨am_vinN e (by omega) (by omega), ?_⟩
  show Q none (am_put I 67 (38 + 6 * k + f).toNatClampNeg v)
  rw [am_clN e (by omega)]
  exact h
theorem m_becomes (hJ : am_Cl am_meth L xs J) {i v : Int32} {p : Nat} (hi : i = nI p) (hp : p < 322) (h : Q (some (.int (I 67 p))) (am_put I 67 p v)) {z : Option Value} : J d q_M_becomes 0 [some (.ref 66), some (.int i), some (.int v), z] [] I Q := by
  refine am_vc hJ 12 _ _ _ _ _ _ _ ?_
  refine ⟨am_vinN hi hp (by omega), am_vinN hi hp (by omega), ?_⟩
  show Q (some (.int (I 67 i.toNatClampNeg))) (am_put I 67 i.toNatClampNeg v)
  rw [am_clN hi (by omega)]
  exact h
theorem m_isOver (hJ : am_Cl am_meth L xs J) {dy en : Nat} (h0 : I 67 0 = nI dy) (h1 : I 67 1 = nI en) (b0 : dy ≤ 16) (b1 : en ≤ 16) (hy : en ≤ dy → Q (some (.int 1)) I) (hn : dy < en → Q (some (.int 0)) I) : J d q_M_isOver 0 [some (.ref 66)] [] I Q := by
  refine am_vc hJ 14 _ _ _ _ _ _ _ ?_
  refine ⟨am_vin (by decide), ?_⟩
  refine ⟨am_vin (by decide), ?_⟩
  refine ⟨fun a => ?_, fun a => ?_⟩
  · have a : I 67 0 < I 67 1 := a
    rw [h0, h1, nI_ltI (by omega) (by omega)] at a
    exact ⟨Or.inl rfl, hn a⟩
  · have a : ¬ I 67 0 < I 67 1 := a
    rw [h0, h1, nI_ltI (by omega) (by omega)] at a
    exact ⟨Or.inr rfl, hy (by omega)⟩
end
end
section
/-! WHAT A WRITE LEAVES AS IT WAS -/
def am_rc : List Nat := [0, 38, 39, 66, 71, 53, 80, 54, 55, 57, 58, 59, 60, 81, 82, 83, 61, 62, 63, 84, 85, 64, 65, 86, 72]
theorem Rest.kept {I I' : am_I} (h : Rest I) (hk : ∀ o ∈ am_rc, I' o = I o) : Rest I' := by
  have k : ∀ o, o ∈ am_rc → I' o = I o := hk
  obtain ⟨h1, h2, h3, h4, h5, h6⟩ := h
  refine ⟨?_, ?_, ?_, ?_, ?_, ?_⟩
  · unfold TapeR at h1 ⊢
    rw [k 38 (by decide), k 66 (by decide), k 71 (by decide), k 39 (by decide)]
    exact h1
  · unfold RowsR at h2 ⊢
    rw [k 0 (by decide), k 66 (by decide), k 53 (by decide), k 80 (by decide)]
    exact h2
  · unfold SheetR at h3 ⊢
    rw [k 54 (by decide), k 81 (by decide), k 55 (by decide), k 82 (by decide), k 83 (by decide)]
    intro h hh
    have e : I' (57 + h) = I (57 + h) := by
      rcases (show h = 0 ∨ h = 1 ∨ h = 2 ∨ h = 3 by omega) with rfl | rfl | rfl | rfl <;> exact k _ (by decide)
    rw [e]
    exact h3 h hh
  · unfold ShelfR at h4 ⊢
    rw [k 61 (by decide), k 84 (by decide), k 62 (by decide), k 85 (by decide), k 63 (by decide)]
    exact h4
  · unfold TraceR at h5 ⊢
    rw [k 64 (by decide), k 66 (by decide), k 65 (by decide), k 86 (by decide)]
    exact h5
  · unfold LetR at h6 ⊢
    rw [k 72 (by decide)]
    exact h6
def am_kc : List Nat := [0, 66, 23, 24, 25, 26, 27, 28, 29, 30, 31, 32, 34, 35, 36, 37, 68]
theorem TR_cells : ∀ t ∈ TR 23, t.1 ∈ am_kc := by decide +kernel
theorem KeptR.kept {I I' : am_I} {uk : am_U} (h : KeptR I uk) (k : ∀ o ∈ am_kc, I' o = I o) : KeptR I' uk := by
  unfold KeptR at h ⊢
  rw [k 0 (by decide), k 66 (by decide)]
  refine ⟨h.1, h.2.imp id (fun q => ⟨q.1, ?_⟩)⟩
  obtain ⟨h1, ⟨h2, h3⟩, ⟨h4, h5, h6⟩, h7⟩ := q.2
  refine ⟨?_, ⟨h2.kept (fun t ht => k _ (TR_cells t ht)), ?_⟩, ⟨h4.kept (fun t ht => ?_), ?_, ?_⟩, h7⟩
  · unfold MRep at h1 ⊢
    rw [k 68 (by decide)]
    exact h1
  · show RuR (I' 32) uk
    rw [k 32 (by decide)]
    exact h3
  · have e : t.1 = 24 := by
      simp only [TC, List.mem_cons, List.not_mem_nil, or_false] at ht
      rcases ht with rfl | rfl | rfl | rfl <;> rfl
    rw [e]
    exact k 24 (by decide)
  · rw [k 24 (by decide)]
    exact h5
  · rw [k 24 (by decide)]
    exact h6
/-- what of u a place is not read by: the rules' numbers, who was met, who is fed -/
def am_free (j : Nat) : Bool := decide (j ≠ 7) && decide (j < 98) && (List.range 6).all (fun k => decide (j ≠ 42 + 6 * k) && decide (j ≠ 43 + 6 * k))
theorem am_free_use {j : Nat} (h : am_free j = true) : j ≠ 7 ∧ j < 98 ∧ ∀ k, k < 6 → j ≠ 42 + 6 * k ∧ j ≠ 43 + 6 * k := by
  simp only [am_free, Bool.and_eq_true, decide_eq_true_eq, List.all_eq_true, List.mem_range] at h
  exact ⟨h.1.1, h.1.2, h.2⟩
theorem RuR.keptu {cd : Nat → Int32} {u u' : am_U} (h : RuR cd u) (h7 : u' 7 = u 7) (hr : ∀ j, 98 ≤ j → u' j = u j) : RuR cd u' := by
  obtain ⟨at', h0, h1⟩ := h
  have e1 : ∀ r, sp_beg u' r = sp_beg u r := by
    intro r
    unfold sp_beg
    rw [hr _ (by omega)]
  have e2 : ∀ r, sp_end u' r = sp_end u r := by
    intro r
    unfold sp_end
    rw [hr _ (by omega)]
  have e3 : ∀ r, sp_steps u' r = sp_steps u r := by
    intro r
    unfold sp_steps
    rw [e1, e2]
    refine List.map_congr_left (fun i _ => hr _ (by omega))
  refine ⟨at', h0, fun r hrr => ?_⟩
  rw [h7] at hrr
  obtain ⟨⟨len, cs, g1, g2, g3, g4, g5, g6, g7⟩, g8, g9, g10, g11⟩ := h1 r hrr
  refine ⟨⟨len, cs, g1, g2, ?_, ?_, g5, g6, fun F => ?_⟩, g8, g9, ?_, ?_⟩
  · rw [hr _ (by omega)]; exact g3
  · rw [hr _ (by omega)]; exact g4
  · rw [e3]; exact g7 F
  · rw [e1, e2]; exact g10
  · rw [e2]; exact g11
theorem RuR.up {cd : Nat → Int32} {u : am_U} {j n : Nat} (h : RuR cd u) (hj : am_free j = true) : RuR cd (upN u j n) := by
  obtain ⟨h1, h2, -⟩ := am_free_use hj
  exact h.keptu (upN_n (Ne.symm h1)) (fun i hi => upN_n (by omega))
theorem MetR.up {x : Int32} {u : am_U} {j n : Nat} (h : MetR x u) (hj : am_free j = true) : MetR x (upN u j n) := by
  obtain ⟨-, -, h3⟩ := am_free_use hj
  intro k hk
  rw [upN_n (Ne.symm (h3 k hk).1)]
  exact h k hk
theorem fedN.up {u : am_U} {j n : Nat} (hj : am_free j = true) : fedN (upN u j n) = fedN u := by
  obtain ⟨-, -, h3⟩ := am_free_use hj
  unfold fedN
  rw [upN_n (Ne.symm (h3 0 (by decide)).2), upN_n (Ne.symm (h3 1 (by decide)).2), upN_n (Ne.symm (h3 2 (by decide)).2), upN_n (Ne.symm (h3 3 (by decide)).2), upN_n (Ne.symm (h3 4 (by decide)).2), upN_n (Ne.symm (h3 5 (by decide)).2)]
theorem MRep.up {I : am_I} {o : Nat} {u : am_U} {j n : Nat} {v : Int32} (h : MRep I o u) (hv : v = nI n) : MRep (am_put I o j v) o (upN u j n) := by
  intro i hi
  unfold am_put upN
  by_cases e : i = j
  · subst e
    rw [if_pos ⟨rfl, rfl⟩, if_pos rfl, hv]
  · rw [if_neg (fun q => e q.2), if_neg e]
    exact h i hi
theorem MRep.off {I : am_I} {o o' : Nat} {u : am_U} {k : Nat} {v : Int32} (h : MRep I o u) (hv : o ≠ o') : MRep (am_put I o' k v) o u := by
  intro i hi
  unfold am_put
  rw [if_neg (fun q => hv q.1)]
  exact h i hi
/-- a place of the class that holds number j of the row -/
def am_t (o k j : Nat) : Bool := decide ((o, k, j) ∈ TR 8 ++ TC 9) && decide (∀ t ∈ TR 8 ++ TC 9, (t.1 = o ∧ t.2.1 = k) ↔ t.2.2 = j) && am_free j && decide (o ≠ 17) && decide (o ≠ 67) && (decide (o ≠ 9) || decide (k < 4)) && decide (o ∉ am_rc) && decide (o ∉ am_kc)
theorem am_of32 (x : Int32) : ∃ n, n < 2 ^ 32 ∧ x = nI n := ⟨x.toBitVec.toNat, x.toBitVec.isLt, Int32.toBitVec_inj.mp (by show _ = BitVec.ofNat 32 _; simp)⟩
theorem am_nIof (a : Int32) : a = nI a.toBitVec.toNat := by
  obtain ⟨n, hn, e⟩ := am_of32 a
  subst e
  rw [show (nI n).toBitVec.toNat = n from pk_tn hn]
theorem TR8_cells : ∀ t ∈ TR 8 ++ TC 9, t.1 ≠ 67 := by decide +kernel
theorem am_put2 {I : am_I} {o k o' : Nat} {v : Int32} (h : o' ≠ o) : am_put I o k v o' = I o' := am_put_o h
/-- both write one number -/
theorem Main_up {I : am_I} {u : am_U} {o k j n : Nat} {v : Int32} (h : Main I 8 9 67 u) (ht : am_t o k j = true) (hO : OKu (upN u j n)) (hv : v = nI n) : Main (am_put (am_put I o k v) 67 j v) 8 9 67 (upN u j n) := by
  simp only [am_t, Bool.and_eq_true, decide_eq_true_eq, Bool.or_eq_true] at ht
  obtain ⟨⟨⟨⟨⟨⟨⟨t0, t1⟩, t2⟩, t3⟩, t4⟩, t5⟩, t6⟩, t7⟩ := ht
  obtain ⟨hM, ⟨hR, hRu⟩, ⟨hC, hMe, hFe⟩, -⟩ := h
  have e17 : am_put (am_put I o k v) 67 j v 17 = I 17 := by rw [am_put_o (by decide), am_put_o (Ne.symm t3)]
  have e94 : am_put (am_put I o k v) 67 j v 9 4 = I 9 4 := by
    rw [am_put_o (by decide)]
    unfold am_put
    rw [if_neg (by omega)]
  have e95 : am_put (am_put I o k v) 67 j v 9 5 = I 9 5 := by
    rw [am_put_o (by decide)]
    unfold am_put
    rw [if_neg (by omega)]
  refine ⟨(hM.off (Ne.symm t4)).up hv, ⟨?_, ?_⟩, ⟨?_, ?_, ?_⟩, hO⟩
  · exact Rel.off (Rel.put hR o k j hv (fun t q => t1 t (List.mem_append_left _ q))) 67 j (fun t q z => TR8_cells t (List.mem_append_left _ q) z.1)
  · show RuR (am_put (am_put I o k v) 67 j v 17) _
    rw [e17]
    exact hRu.up t2
  · exact Rel.off (Rel.put hC o k j hv (fun t q => t1 t (List.mem_append_right _ q))) 67 j (fun t q z => TR8_cells t (List.mem_append_right _ q) z.1)
  · rw [e94]
    exact hMe.up t2
  · rw [e95, fedN.up t2]
    exact hFe
theorem Main.get {I : am_I} {u : am_U} {o k j : Nat} (h : Main I 8 9 67 u) (ht : am_t o k j = true) : I o k = nI (u j) := by
  simp only [am_t, Bool.and_eq_true, decide_eq_true_eq, Bool.or_eq_true] at ht
  obtain ⟨⟨⟨⟨⟨⟨⟨t0, t1⟩, t2⟩, t3⟩, t4⟩, t5⟩, t6⟩, t7⟩ := ht
  obtain ⟨hM, ⟨hR, hRu⟩, ⟨hC, hMe, hFe⟩, -⟩ := h
  rcases List.mem_append.mp t0 with q | q
  · exact hR _ q
  · exact hC _ q
theorem Inv_up {I : am_I} {u uk : am_U} {o k j n : Nat} {v : Int32} (h : Main I 8 9 67 u) (hK : KeptR I uk) (hR : Rest I) (ht : am_t o k j = true) (hO : OKu (upN u j n)) (hv : v = nI n) : Inv (am_put (am_put I o k v) 67 j v) := by
  refine ⟨upN u j n, uk, Main_up h ht hO hv, hK.kept (fun o' q => ?_), hR.kept (fun o' q => ?_)⟩
  all_goals
    simp only [am_t, Bool.and_eq_true, decide_eq_true_eq, Bool.or_eq_true] at ht
    obtain ⟨⟨⟨⟨⟨⟨⟨t0, t1⟩, t2⟩, t3⟩, t4⟩, t5⟩, t6⟩, t7⟩ := ht
    rw [am_put_o (fun z => by subst z; revert q; decide), am_put_o (fun z => by subst z; first | exact t7 q | exact t6 q)]
theorem OKu.b {u : am_U} (h : OKu u) (j m : Nat) (hq : (j, m) ∈ OKb) : u j ≤ m := h.1 _ hq
theorem OKu.up {u : am_U} {j n : Nat} (h : OKu u) (hb : ∀ q ∈ OKb, q.1 = j → n ≤ q.2) (h01 : upN u j n 0 ≤ upN u j n 1) (h1 : 1 ≤ upN u j n 1) (hk : ∀ k, k < upN u j n 6 → 1 ≤ upN u j n (38 + 6 * k)) (hz : ∀ k f, upN u j n 6 ≤ k → k < 6 → f < 6 → upN u j n (38 + 6 * k + f) = 0) : OKu (upN u j n) := by
  refine ⟨fun q hq => ?_, h01, h1, hk, hz⟩
  by_cases e : q.1 = j
  · rw [e, upN_s]
    exact hb q hq e
  · rw [upN_n e]
    exact h.1 q hq
/-- a number outside day, end, the count and the people -/
theorem OKu.up0 {u : am_U} {j n : Nat} (h : OKu u) (hb : ∀ q ∈ OKb, q.1 = j → n ≤ q.2) (hj : j ≠ 0 ∧ j ≠ 1 ∧ j ≠ 6 ∧ (j < 38 ∨ 74 ≤ j)) : OKu (upN u j n) := by
  obtain ⟨h0, h1, h6, hp⟩ := hj
  obtain ⟨g1, g2, g3, g4, g5⟩ := h
  have e0 : upN u j n 0 = u 0 := upN_n (Ne.symm h0)
  have e1 : upN u j n 1 = u 1 := upN_n (Ne.symm h1)
  have e6 : upN u j n 6 = u 6 := upN_n (Ne.symm h6)
  refine OKu.up ⟨g1, g2, g3, g4, g5⟩ hb (by rw [e0, e1]; exact g2) (by rw [e1]; exact g3) (fun k hk => ?_) (fun k f hk h6 hf => ?_)
  · rw [e6] at hk
    have h66 : u 6 ≤ 6 := g1 (6, 6) (by decide)
    rw [upN_n (by omega)]
    exact g4 k hk
  · rw [e6] at hk
    rw [upN_n (by omega)]
    exact g5 k f hk h6 hf
/-- the end -/
theorem OKu.up1 {u : am_U} {n : Nat} (h : OKu u) (h0 : u 0 ≤ n) (h1 : 1 ≤ n) (h16 : n ≤ 16) : OKu (upN u 1 n) := by
  obtain ⟨g1, g2, g3, g4, g5⟩ := h
  have h66 : u 6 ≤ 6 := g1 (6, 6) (by decide)
  refine OKu.up ⟨g1, g2, g3, g4, g5⟩ (fun q hq e => ?_) h0 h1 (fun k hk => ?_) (fun k f hk h6 hf => ?_)
  · have : ∀ q ∈ OKb, q.1 = 1 → q.2 = 16 := by decide +kernel
    rw [this q hq e]; exact h16
  · have hk : k < u 6 := hk
    rw [upN_n (by omega)]
    exact g4 k hk
  · have hk : u 6 ≤ k := hk
    rw [upN_n (by omega)]
    exact g5 k f hk h6 hf
end
section
section
variable {L : Nat} {xs : Nat → Int32} {J : am_J}
theorem op_ends (hJ : am_Cl am_meth L xs J) (a : Int32) : am_same Inv J q_X_ends q_M_ends [.int a] := by
  intro I hI Qc hQc
  obtain ⟨u, uk, hMn, hK, hRs⟩ := id hI
  obtain ⟨hM, hR, hC, hO⟩ := id hMn
  have hd := hO.b 0 16 (by decide)
  have c0 : I 9 0 = nI (u 0) := hC.1.get 9 0 0 (by decide)
  have m0 : I 67 0 = nI (u 0) := hM 0 (by decide)
  by_cases h1 : (1 : Int32) ≤ a ∧ a ≤ 16
  · obtain ⟨n, hn, rfl⟩ := am_rng (N := 16) rfl (by decide) ⟨Int32.le_trans (by decide) h1.1, h1.2⟩
    have hn1 : 1 ≤ n := by
      have := h1.1
      rw [show (1 : Int32) = nI 1 from rfl, nI_leI (by decide) (by omega)] at this
      exact this
    by_cases h2 : u 0 ≤ n
    · have g1 : I 9 0 ≤ nI n := by rw [c0]; exact nI_le h2 (by omega)
      have g2 : I 67 0 ≤ nI n := by rw [m0]; exact nI_le h2 (by omega)
      repeat (
        (try conv => whnf)
        first
          | refine ⟨am_vin (by decide), ?_⟩
          | refine ⟨(by assumption : vp_in _ _), ?_⟩
          | refine br_f (by decide) ?_
          | refine br_t (by decide) ?_
          | refine br_t (by assumption) ?_
          | refine br_f (by assumption) ?_
          | refine x_within hJ (fun _ => ?_) (fun hq => absurd (by assumption) hq)
          | refine x_within hJ (fun hq => absurd hq (by assumption)) (fun _ => ?_)
          | refine m_in1 hJ (fun _ => ?_) (fun hq => absurd (by assumption) hq)
          | refine m_in1 hJ (fun hq => absurd hq (by assumption)) (fun _ => ?_)
          | refine m_isGate hJ (fun _ => ?_) (fun hq => absurd (by assumption) hq)
          | refine m_isGate hJ (fun hq => absurd hq (by assumption)) (fun _ => ?_)
          | refine m_isDigit hJ (fun _ => ?_) (fun hq => absurd (by assumption) hq)
          | refine m_isDigit hJ (fun hq => absurd hq (by assumption)) (fun _ => ?_)
          | refine m_isNeed hJ (fun _ => ?_) (fun hq => absurd (by assumption) hq)
          | refine m_isNeed hJ (fun hq => absurd hq (by assumption)) (fun _ => ?_)
          | refine m_isPlan hJ (fun _ => ?_) (fun hq => absurd (by assumption) hq)
          | refine m_isPlan hJ (fun hq => absurd hq (by assumption)) (fun _ => ?_)
          | refine m_isSheet hJ (fun _ => ?_) (fun hq => absurd (by assumption) hq)
          | refine m_isSheet hJ (fun hq => absurd hq (by assumption)) (fun _ => ?_)
          | refine x_isSheet hJ (fun _ => ?_) (fun hq => absurd (by assumption) hq)
          | refine x_isSheet hJ (fun hq => absurd hq (by assumption)) (fun _ => ?_)
          | refine x_isShelf hJ (fun _ => ?_) (fun hq => absurd (by assumption) hq)
          | refine x_isShelf hJ (fun hq => absurd hq (by assumption)) (fun _ => ?_)
          | refine x_has hJ (by assumption) (by assumption) (fun _ _ _ => ?_) (fun hq => absurd (by assumption) hq)
          | refine x_has hJ (by assumption) (by assumption) (fun jq h1q h2q => absurd ⟨jq, h1q, h2q⟩ (by assumption)) (fun _ => ?_)
          | refine m_isPerson hJ (by assumption) (by assumption) (fun _ _ _ => ?_) (fun hq => absurd (by assumption) hq)
          | refine m_isPerson hJ (by assumption) (by assumption) (fun jq h1q h2q => absurd ⟨jq, h1q, h2q⟩ (by assumption)) (fun _ => ?_)
          | refine am_vc hJ 120 40 _ _ _ _ _ _ ?_
          | refine ⟨_, rfl, ?_⟩)
      refine m_becomes hJ (p := 1) rfl (by decide) ?_
      refine ⟨?_, hQc _ (Inv_up hMn hK hRs (by decide +kernel) ?_ rfl)⟩
      · show some (Value.int (I 67 1)) = some (Value.int (I 8 10))
        rw [hM 1 (by decide), hR.1.get 8 10 1 (by decide)]
      · exact OKu.up1 hO h2 hn1 hn
    · have g1 : ¬ I 9 0 ≤ nI n := by rw [c0, nI_leI (by omega) (by omega)]; exact h2
      have g2 : ¬ I 67 0 ≤ nI n := by rw [m0, nI_leI (by omega) (by omega)]; exact h2
      repeat (
        (try conv => whnf)
        first
          | refine ⟨am_vin (by decide), ?_⟩
          | refine ⟨(by assumption : vp_in _ _), ?_⟩
          | refine br_f (by decide) ?_
          | refine br_t (by decide) ?_
          | refine br_t (by assumption) ?_
          | refine br_f (by assumption) ?_
          | refine x_within hJ (fun _ => ?_) (fun hq => absurd (by assumption) hq)
          | refine x_within hJ (fun hq => absurd hq (by assumption)) (fun _ => ?_)
          | refine m_in1 hJ (fun _ => ?_) (fun hq => absurd (by assumption) hq)
          | refine m_in1 hJ (fun hq => absurd hq (by assumption)) (fun _ => ?_)
          | refine m_isGate hJ (fun _ => ?_) (fun hq => absurd (by assumption) hq)
          | refine m_isGate hJ (fun hq => absurd hq (by assumption)) (fun _ => ?_)
          | refine m_isDigit hJ (fun _ => ?_) (fun hq => absurd (by assumption) hq)
          | refine m_isDigit hJ (fun hq => absurd hq (by assumption)) (fun _ => ?_)
          | refine m_isNeed hJ (fun _ => ?_) (fun hq => absurd (by assumption) hq)
          | refine m_isNeed hJ (fun hq => absurd hq (by assumption)) (fun _ => ?_)
          | refine m_isPlan hJ (fun _ => ?_) (fun hq => absurd (by assumption) hq)
          | refine m_isPlan hJ (fun hq => absurd hq (by assumption)) (fun _ => ?_)
          | refine m_isSheet hJ (fun _ => ?_) (fun hq => absurd (by assumption) hq)
          | refine m_isSheet hJ (fun hq => absurd hq (by assumption)) (fun _ => ?_)
          | refine x_isSheet hJ (fun _ => ?_) (fun hq => absurd (by assumption) hq)
          | refine x_isSheet hJ (fun hq => absurd hq (by assumption)) (fun _ => ?_)
          | refine x_isShelf hJ (fun _ => ?_) (fun hq => absurd (by assumption) hq)
          | refine x_isShelf hJ (fun hq => absurd hq (by assumption)) (fun _ => ?_)
          | refine x_has hJ (by assumption) (by assumption) (fun _ _ _ => ?_) (fun hq => absurd (by assumption) hq)
          | refine x_has hJ (by assumption) (by assumption) (fun jq h1q h2q => absurd ⟨jq, h1q, h2q⟩ (by assumption)) (fun _ => ?_)
          | refine m_isPerson hJ (by assumption) (by assumption) (fun _ _ _ => ?_) (fun hq => absurd (by assumption) hq)
          | refine m_isPerson hJ (by assumption) (by assumption) (fun jq h1q h2q => absurd ⟨jq, h1q, h2q⟩ (by assumption)) (fun _ => ?_)
          | refine am_vc hJ 120 40 _ _ _ _ _ _ ?_
          | refine ⟨_, rfl, ?_⟩)
      exact ⟨rfl, hQc _ hI⟩
  · repeat (
      (try conv => whnf)
      first
        | refine ⟨am_vin (by decide), ?_⟩
        | refine ⟨(by assumption : vp_in _ _), ?_⟩
        | refine br_f (by decide) ?_
        | refine br_t (by decide) ?_
        | refine br_t (by assumption) ?_
        | refine br_f (by assumption) ?_
        | refine x_within hJ (fun _ => ?_) (fun hq => absurd (by assumption) hq)
        | refine x_within hJ (fun hq => absurd hq (by assumption)) (fun _ => ?_)
        | refine m_in1 hJ (fun _ => ?_) (fun hq => absurd (by assumption) hq)
        | refine m_in1 hJ (fun hq => absurd hq (by assumption)) (fun _ => ?_)
        | refine m_isGate hJ (fun _ => ?_) (fun hq => absurd (by assumption) hq)
        | refine m_isGate hJ (fun hq => absurd hq (by assumption)) (fun _ => ?_)
        | refine m_isDigit hJ (fun _ => ?_) (fun hq => absurd (by assumption) hq)
        | refine m_isDigit hJ (fun hq => absurd hq (by assumption)) (fun _ => ?_)
        | refine m_isNeed hJ (fun _ => ?_) (fun hq => absurd (by assumption) hq)
        | refine m_isNeed hJ (fun hq => absurd hq (by assumption)) (fun _ => ?_)
        | refine m_isPlan hJ (fun _ => ?_) (fun hq => absurd (by assumption) hq)
        | refine m_isPlan hJ (fun hq => absurd hq (by assumption)) (fun _ => ?_)
        | refine m_isSheet hJ (fun _ => ?_) (fun hq => absurd (by assumption) hq)
        | refine m_isSheet hJ (fun hq => absurd hq (by assumption)) (fun _ => ?_)
        | refine x_isSheet hJ (fun _ => ?_) (fun hq => absurd (by assumption) hq)
        | refine x_isSheet hJ (fun hq => absurd hq (by assumption)) (fun _ => ?_)
        | refine x_isShelf hJ (fun _ => ?_) (fun hq => absurd (by assumption) hq)
        | refine x_isShelf hJ (fun hq => absurd hq (by assumption)) (fun _ => ?_)
        | refine x_has hJ (by assumption) (by assumption) (fun _ _ _ => ?_) (fun hq => absurd (by assumption) hq)
        | refine x_has hJ (by assumption) (by assumption) (fun jq h1q h2q => absurd ⟨jq, h1q, h2q⟩ (by assumption)) (fun _ => ?_)
        | refine m_isPerson hJ (by assumption) (by assumption) (fun _ _ _ => ?_) (fun hq => absurd (by assumption) hq)
        | refine m_isPerson hJ (by assumption) (by assumption) (fun jq h1q h2q => absurd ⟨jq, h1q, h2q⟩ (by assumption)) (fun _ => ?_)
        | refine am_vc hJ 120 40 _ _ _ _ _ _ ?_
        | refine ⟨_, rfl, ?_⟩)
    exact ⟨rfl, hQc _ hI⟩
end
end
