-- ===== PART A: goes FIRST, ahead of the names: the tables' words, and 'selects' of the private methods out of them =====
/-- a private method of a class that the tables say can be made, by its rows of tables_1 -/
def lw_okq (q : MethodName × Nat) : Prop := (q.1.cls ≠ "java/lang/invoke/MethodHandle" ∧ q.1.cls ≠ "java/lang/invoke/VarHandle") ∧ Cond.instantiable q.1.cls q.2 ∈ tables_1 ∧ Cond.privateMethod q.1 ∈ tables_1 ∧ Cond.instanceMethod q.1 ∈ tables_1
theorem lw_p0 : lw_okq (⟨"HedgeCouncil", "refuse", "(I)I"⟩, 18) := ⟨⟨by decide +kernel, by decide +kernel⟩, List.mem_of_getElem? (i := 21) (by decide +kernel), List.mem_of_getElem? (i := 376) (by decide +kernel), List.mem_of_getElem? (i := 377) (by decide +kernel)⟩
theorem lw_p1 : lw_okq (⟨"HedgeCouncil", "accept", "(I)I"⟩, 18) := ⟨⟨by decide +kernel, by decide +kernel⟩, List.mem_of_getElem? (i := 21) (by decide +kernel), List.mem_of_getElem? (i := 396) (by decide +kernel), List.mem_of_getElem? (i := 397) (by decide +kernel)⟩
theorem lw_p2 : lw_okq (⟨"HedgeCouncil$Course", "hear", "(LHedgeCouncil$Chamber;LHedgeCouncil$Moment;I)V"⟩, 4) := ⟨⟨by decide +kernel, by decide +kernel⟩, List.mem_of_getElem? (i := 152) (by decide +kernel), List.mem_of_getElem? (i := 432) (by decide +kernel), List.mem_of_getElem? (i := 433) (by decide +kernel)⟩
theorem lw_p3 : lw_okq (⟨"HedgeCouncil$Course", "told", "(LHedgeCouncil$Text;II)I"⟩, 4) := ⟨⟨by decide +kernel, by decide +kernel⟩, List.mem_of_getElem? (i := 152) (by decide +kernel), List.mem_of_getElem? (i := 447) (by decide +kernel), List.mem_of_getElem? (i := 448) (by decide +kernel)⟩
theorem lw_p4 : lw_okq (⟨"HedgeCouncil$Course", "begin", "(LHedgeCouncil$Chamber;I)V"⟩, 4) := ⟨⟨by decide +kernel, by decide +kernel⟩, List.mem_of_getElem? (i := 152) (by decide +kernel), List.mem_of_getElem? (i := 473) (by decide +kernel), List.mem_of_getElem? (i := 474) (by decide +kernel)⟩
theorem lw_p5 : lw_okq (⟨"HedgeCouncil$Course", "passMinute", "(LHedgeCouncil$Chamber;LHedgeCouncil$Moment;LHedgeCouncil$Text;I)Z"⟩, 4) := ⟨⟨by decide +kernel, by decide +kernel⟩, List.mem_of_getElem? (i := 152) (by decide +kernel), List.mem_of_getElem? (i := 484) (by decide +kernel), List.mem_of_getElem? (i := 485) (by decide +kernel)⟩
theorem lw_p6 : lw_okq (⟨"HedgeCouncil", "putFour", "(I)V"⟩, 18) := ⟨⟨by decide +kernel, by decide +kernel⟩, List.mem_of_getElem? (i := 21) (by decide +kernel), List.mem_of_getElem? (i := 510) (by decide +kernel), List.mem_of_getElem? (i := 511) (by decide +kernel)⟩
theorem lw_p7 : lw_okq (⟨"HedgeCouncil", "addFromTape", "(I)Z"⟩, 18) := ⟨⟨by decide +kernel, by decide +kernel⟩, List.mem_of_getElem? (i := 21) (by decide +kernel), List.mem_of_getElem? (i := 522) (by decide +kernel), List.mem_of_getElem? (i := 523) (by decide +kernel)⟩
theorem lw_p8 : lw_okq (⟨"HedgeCouncil$Reader", "splitTokens", "([II)V"⟩, 10) := ⟨⟨by decide +kernel, by decide +kernel⟩, List.mem_of_getElem? (i := 204) (by decide +kernel), List.mem_of_getElem? (i := 546) (by decide +kernel), List.mem_of_getElem? (i := 547) (by decide +kernel)⟩
theorem lw_p9 : lw_okq (⟨"HedgeCouncil$Reader", "addToken", "(II)V"⟩, 10) := ⟨⟨by decide +kernel, by decide +kernel⟩, List.mem_of_getElem? (i := 204) (by decide +kernel), List.mem_of_getElem? (i := 608) (by decide +kernel), List.mem_of_getElem? (i := 609) (by decide +kernel)⟩
theorem lw_p10 : lw_okq (⟨"HedgeCouncil$Reader", "readClause", "()Z"⟩, 10) := ⟨⟨by decide +kernel, by decide +kernel⟩, List.mem_of_getElem? (i := 204) (by decide +kernel), List.mem_of_getElem? (i := 622) (by decide +kernel), List.mem_of_getElem? (i := 623) (by decide +kernel)⟩
theorem lw_p11 : lw_okq (⟨"HedgeCouncil$Reader", "faultHere", "()Z"⟩, 10) := ⟨⟨by decide +kernel, by decide +kernel⟩, List.mem_of_getElem? (i := 204) (by decide +kernel), List.mem_of_getElem? (i := 630) (by decide +kernel), List.mem_of_getElem? (i := 631) (by decide +kernel)⟩
theorem lw_p12 : lw_okq (⟨"HedgeCouncil$Reader", "nextToken", "()V"⟩, 10) := ⟨⟨by decide +kernel, by decide +kernel⟩, List.mem_of_getElem? (i := 204) (by decide +kernel), List.mem_of_getElem? (i := 634) (by decide +kernel), List.mem_of_getElem? (i := 635) (by decide +kernel)⟩
theorem lw_p13 : lw_okq (⟨"HedgeCouncil$Reader", "readOrder", "(II)Z"⟩, 10) := ⟨⟨by decide +kernel, by decide +kernel⟩, List.mem_of_getElem? (i := 204) (by decide +kernel), List.mem_of_getElem? (i := 638) (by decide +kernel), List.mem_of_getElem? (i := 639) (by decide +kernel)⟩
theorem lw_p14 : lw_okq (⟨"HedgeCouncil$Reader", "readSum", "()Z"⟩, 10) := ⟨⟨by decide +kernel, by decide +kernel⟩, List.mem_of_getElem? (i := 204) (by decide +kernel), List.mem_of_getElem? (i := 642) (by decide +kernel), List.mem_of_getElem? (i := 643) (by decide +kernel)⟩
theorem lw_p15 : lw_okq (⟨"HedgeCouncil$Reader", "readTerm", "()Z"⟩, 10) := ⟨⟨by decide +kernel, by decide +kernel⟩, List.mem_of_getElem? (i := 204) (by decide +kernel), List.mem_of_getElem? (i := 646) (by decide +kernel), List.mem_of_getElem? (i := 647) (by decide +kernel)⟩
def lw_privs_1 : List (MethodName × Nat) := [(⟨"HedgeCouncil", "refuse", "(I)I"⟩, 18), (⟨"HedgeCouncil", "accept", "(I)I"⟩, 18), (⟨"HedgeCouncil$Course", "hear", "(LHedgeCouncil$Chamber;LHedgeCouncil$Moment;I)V"⟩, 4), (⟨"HedgeCouncil$Course", "told", "(LHedgeCouncil$Text;II)I"⟩, 4), (⟨"HedgeCouncil$Course", "begin", "(LHedgeCouncil$Chamber;I)V"⟩, 4), (⟨"HedgeCouncil$Course", "passMinute", "(LHedgeCouncil$Chamber;LHedgeCouncil$Moment;LHedgeCouncil$Text;I)Z"⟩, 4), (⟨"HedgeCouncil", "putFour", "(I)V"⟩, 18), (⟨"HedgeCouncil", "addFromTape", "(I)Z"⟩, 18), (⟨"HedgeCouncil$Reader", "splitTokens", "([II)V"⟩, 10), (⟨"HedgeCouncil$Reader", "addToken", "(II)V"⟩, 10), (⟨"HedgeCouncil$Reader", "readClause", "()Z"⟩, 10), (⟨"HedgeCouncil$Reader", "faultHere", "()Z"⟩, 10), (⟨"HedgeCouncil$Reader", "nextToken", "()V"⟩, 10), (⟨"HedgeCouncil$Reader", "readOrder", "(II)Z"⟩, 10), (⟨"HedgeCouncil$Reader", "readSum", "()Z"⟩, 10), (⟨"HedgeCouncil$Reader", "readTerm", "()Z"⟩, 10)]
theorem lw_r1 : ∀ q ∈ lw_privs_1, lw_okq q := List.forall_mem_cons.mpr ⟨lw_p0, List.forall_mem_cons.mpr ⟨lw_p1, List.forall_mem_cons.mpr ⟨lw_p2, List.forall_mem_cons.mpr ⟨lw_p3, List.forall_mem_cons.mpr ⟨lw_p4, List.forall_mem_cons.mpr ⟨lw_p5, List.forall_mem_cons.mpr ⟨lw_p6, List.forall_mem_cons.mpr ⟨lw_p7, List.forall_mem_cons.mpr ⟨lw_p8, List.forall_mem_cons.mpr ⟨lw_p9, List.forall_mem_cons.mpr ⟨lw_p10, List.forall_mem_cons.mpr ⟨lw_p11, List.forall_mem_cons.mpr ⟨lw_p12, List.forall_mem_cons.mpr ⟨lw_p13, List.forall_mem_cons.mpr ⟨lw_p14, List.forall_mem_cons.mpr ⟨lw_p15, fun _ h => absurd h List.not_mem_nil⟩⟩⟩⟩⟩⟩⟩⟩⟩⟩⟩⟩⟩⟩⟩⟩
theorem lw_p16 : lw_okq (⟨"HedgeCouncil$Reader", "readPart", "()Z"⟩, 10) := ⟨⟨by decide +kernel, by decide +kernel⟩, List.mem_of_getElem? (i := 204) (by decide +kernel), List.mem_of_getElem? (i := 650) (by decide +kernel), List.mem_of_getElem? (i := 651) (by decide +kernel)⟩
theorem lw_p17 : lw_okq (⟨"HedgeCouncil$Reader", "readBrackets", "(Z)Z"⟩, 10) := ⟨⟨by decide +kernel, by decide +kernel⟩, List.mem_of_getElem? (i := 204) (by decide +kernel), List.mem_of_getElem? (i := 654) (by decide +kernel), List.mem_of_getElem? (i := 655) (by decide +kernel)⟩
theorem lw_p18 : lw_okq (⟨"HedgeCouncil$Reader", "readTest", "()Z"⟩, 10) := ⟨⟨by decide +kernel, by decide +kernel⟩, List.mem_of_getElem? (i := 204) (by decide +kernel), List.mem_of_getElem? (i := 658) (by decide +kernel), List.mem_of_getElem? (i := 659) (by decide +kernel)⟩
theorem lw_p19 : lw_okq (⟨"HedgeCouncil$Reader", "readBoth", "()Z"⟩, 10) := ⟨⟨by decide +kernel, by decide +kernel⟩, List.mem_of_getElem? (i := 204) (by decide +kernel), List.mem_of_getElem? (i := 662) (by decide +kernel), List.mem_of_getElem? (i := 663) (by decide +kernel)⟩
theorem lw_p20 : lw_okq (⟨"HedgeCouncil$Reader", "readPlain", "()Z"⟩, 10) := ⟨⟨by decide +kernel, by decide +kernel⟩, List.mem_of_getElem? (i := 204) (by decide +kernel), List.mem_of_getElem? (i := 666) (by decide +kernel), List.mem_of_getElem? (i := 667) (by decide +kernel)⟩
theorem lw_p21 : lw_okq (⟨"HedgeCouncil$Reader", "take", "(I)Z"⟩, 10) := ⟨⟨by decide +kernel, by decide +kernel⟩, List.mem_of_getElem? (i := 204) (by decide +kernel), List.mem_of_getElem? (i := 670) (by decide +kernel), List.mem_of_getElem? (i := 671) (by decide +kernel)⟩
theorem lw_p22 : lw_okq (⟨"HedgeCouncil$Reader", "readComparison", "()Z"⟩, 10) := ⟨⟨by decide +kernel, by decide +kernel⟩, List.mem_of_getElem? (i := 204) (by decide +kernel), List.mem_of_getElem? (i := 674) (by decide +kernel), List.mem_of_getElem? (i := 675) (by decide +kernel)⟩
theorem lw_p23 : lw_okq (⟨"HedgeCouncil$Reader", "numberAtHand", "(I)I"⟩, 10) := ⟨⟨by decide +kernel, by decide +kernel⟩, List.mem_of_getElem? (i := 204) (by decide +kernel), List.mem_of_getElem? (i := 686) (by decide +kernel), List.mem_of_getElem? (i := 687) (by decide +kernel)⟩
theorem lw_p24 : lw_okq (⟨"HedgeCouncil$Reader", "readOne", "(I)Z"⟩, 10) := ⟨⟨by decide +kernel, by decide +kernel⟩, List.mem_of_getElem? (i := 204) (by decide +kernel), List.mem_of_getElem? (i := 696) (by decide +kernel), List.mem_of_getElem? (i := 697) (by decide +kernel)⟩
theorem lw_p25 : lw_okq (⟨"HedgeCouncil$Reader", "readLaw", "(II)Z"⟩, 10) := ⟨⟨by decide +kernel, by decide +kernel⟩, List.mem_of_getElem? (i := 204) (by decide +kernel), List.mem_of_getElem? (i := 700) (by decide +kernel), List.mem_of_getElem? (i := 701) (by decide +kernel)⟩
theorem lw_p26 : lw_okq (⟨"HedgeCouncil$Errand", "runOnce", "(LHedgeCouncil$Text;ILHedgeCouncil$Chamber;LHedgeCouncil$Moment;LHedgeCouncil$Course;LHedgeCouncil$Past;)Z"⟩, 3) := ⟨⟨by decide +kernel, by decide +kernel⟩, List.mem_of_getElem? (i := 295) (by decide +kernel), List.mem_of_getElem? (i := 727) (by decide +kernel), List.mem_of_getElem? (i := 728) (by decide +kernel)⟩
theorem lw_p27 : lw_okq (⟨"HedgeCouncil$Errand", "hear", "(LHedgeCouncil$Chamber;LHedgeCouncil$Moment;)V"⟩, 3) := ⟨⟨by decide +kernel, by decide +kernel⟩, List.mem_of_getElem? (i := 295) (by decide +kernel), List.mem_of_getElem? (i := 731) (by decide +kernel), List.mem_of_getElem? (i := 732) (by decide +kernel)⟩
theorem lw_p28 : lw_okq (⟨"HedgeCouncil$Errand", "sumAt", "(LHedgeCouncil$Text;I)J"⟩, 3) := ⟨⟨by decide +kernel, by decide +kernel⟩, List.mem_of_getElem? (i := 295) (by decide +kernel), List.mem_of_getElem? (i := 738) (by decide +kernel), List.mem_of_getElem? (i := 739) (by decide +kernel)⟩
theorem lw_p29 : lw_okq (⟨"HedgeCouncil", "act", "(III)I"⟩, 18) := ⟨⟨by decide +kernel, by decide +kernel⟩, List.mem_of_getElem? (i := 21) (by decide +kernel), List.mem_of_getElem? (i := 786) (by decide +kernel), List.mem_of_getElem? (i := 787) (by decide +kernel)⟩
theorem lw_p30 : lw_okq (⟨"HedgeCouncil$Paths", "findSources", "(LHedgeCouncil$Chamber;)V"⟩, 2) := ⟨⟨by decide +kernel, by decide +kernel⟩, List.mem_of_getElem? (i := 189) (by decide +kernel), List.mem_of_getElem? (i := 901) (by decide +kernel), List.mem_of_getElem? (i := 902) (by decide +kernel)⟩
theorem lw_p31 : lw_okq (⟨"HedgeCouncil$Paths", "knotOf", "(I)I"⟩, 2) := ⟨⟨by decide +kernel, by decide +kernel⟩, List.mem_of_getElem? (i := 189) (by decide +kernel), List.mem_of_getElem? (i := 905) (by decide +kernel), List.mem_of_getElem? (i := 906) (by decide +kernel)⟩
def lw_privs_2 : List (MethodName × Nat) := [(⟨"HedgeCouncil$Reader", "readPart", "()Z"⟩, 10), (⟨"HedgeCouncil$Reader", "readBrackets", "(Z)Z"⟩, 10), (⟨"HedgeCouncil$Reader", "readTest", "()Z"⟩, 10), (⟨"HedgeCouncil$Reader", "readBoth", "()Z"⟩, 10), (⟨"HedgeCouncil$Reader", "readPlain", "()Z"⟩, 10), (⟨"HedgeCouncil$Reader", "take", "(I)Z"⟩, 10), (⟨"HedgeCouncil$Reader", "readComparison", "()Z"⟩, 10), (⟨"HedgeCouncil$Reader", "numberAtHand", "(I)I"⟩, 10), (⟨"HedgeCouncil$Reader", "readOne", "(I)Z"⟩, 10), (⟨"HedgeCouncil$Reader", "readLaw", "(II)Z"⟩, 10), (⟨"HedgeCouncil$Errand", "runOnce", "(LHedgeCouncil$Text;ILHedgeCouncil$Chamber;LHedgeCouncil$Moment;LHedgeCouncil$Course;LHedgeCouncil$Past;)Z"⟩, 3), (⟨"HedgeCouncil$Errand", "hear", "(LHedgeCouncil$Chamber;LHedgeCouncil$Moment;)V"⟩, 3), (⟨"HedgeCouncil$Errand", "sumAt", "(LHedgeCouncil$Text;I)J"⟩, 3), (⟨"HedgeCouncil", "act", "(III)I"⟩, 18), (⟨"HedgeCouncil$Paths", "findSources", "(LHedgeCouncil$Chamber;)V"⟩, 2), (⟨"HedgeCouncil$Paths", "knotOf", "(I)I"⟩, 2)]
theorem lw_r2 : ∀ q ∈ lw_privs_2, lw_okq q := List.forall_mem_cons.mpr ⟨lw_p16, List.forall_mem_cons.mpr ⟨lw_p17, List.forall_mem_cons.mpr ⟨lw_p18, List.forall_mem_cons.mpr ⟨lw_p19, List.forall_mem_cons.mpr ⟨lw_p20, List.forall_mem_cons.mpr ⟨lw_p21, List.forall_mem_cons.mpr ⟨lw_p22, List.forall_mem_cons.mpr ⟨lw_p23, List.forall_mem_cons.mpr ⟨lw_p24, List.forall_mem_cons.mpr ⟨lw_p25, List.forall_mem_cons.mpr ⟨lw_p26, List.forall_mem_cons.mpr ⟨lw_p27, List.forall_mem_cons.mpr ⟨lw_p28, List.forall_mem_cons.mpr ⟨lw_p29, List.forall_mem_cons.mpr ⟨lw_p30, List.forall_mem_cons.mpr ⟨lw_p31, fun _ h => absurd h List.not_mem_nil⟩⟩⟩⟩⟩⟩⟩⟩⟩⟩⟩⟩⟩⟩⟩⟩
theorem lw_p32 : lw_okq (⟨"HedgeCouncilModel", "refuses", "(I)I"⟩, 48) := ⟨⟨by decide +kernel, by decide +kernel⟩, List.mem_of_getElem? (i := 1015) (by decide +kernel), List.mem_of_getElem? (i := 1174) (by decide +kernel), List.mem_of_getElem? (i := 1175) (by decide +kernel)⟩
theorem lw_p33 : lw_okq (⟨"HedgeCouncilModel", "good", "(I)I"⟩, 48) := ⟨⟨by decide +kernel, by decide +kernel⟩, List.mem_of_getElem? (i := 1015) (by decide +kernel), List.mem_of_getElem? (i := 1178) (by decide +kernel), List.mem_of_getElem? (i := 1179) (by decide +kernel)⟩
theorem lw_p34 : lw_okq (⟨"HedgeCouncilModel", "settled", "(I)I"⟩, 48) := ⟨⟨by decide +kernel, by decide +kernel⟩, List.mem_of_getElem? (i := 1015) (by decide +kernel), List.mem_of_getElem? (i := 1186) (by decide +kernel), List.mem_of_getElem? (i := 1187) (by decide +kernel)⟩
theorem lw_p35 : lw_okq (⟨"HedgeCouncilModel", "many", "()I"⟩, 48) := ⟨⟨by decide +kernel, by decide +kernel⟩, List.mem_of_getElem? (i := 1015) (by decide +kernel), List.mem_of_getElem? (i := 1197) (by decide +kernel), List.mem_of_getElem? (i := 1198) (by decide +kernel)⟩
theorem lw_p36 : lw_okq (⟨"HedgeCouncilModel", "adds", "(III)I"⟩, 48) := ⟨⟨by decide +kernel, by decide +kernel⟩, List.mem_of_getElem? (i := 1015) (by decide +kernel), List.mem_of_getElem? (i := 1201) (by decide +kernel), List.mem_of_getElem? (i := 1202) (by decide +kernel)⟩
theorem lw_p37 : lw_okq (⟨"HedgeCouncilModel", "isOne", "(I)Z"⟩, 48) := ⟨⟨by decide +kernel, by decide +kernel⟩, List.mem_of_getElem? (i := 1015) (by decide +kernel), List.mem_of_getElem? (i := 1212) (by decide +kernel), List.mem_of_getElem? (i := 1213) (by decide +kernel)⟩
theorem lw_p38 : lw_okq (⟨"HedgeCouncilModel", "toldBare", "(II)I"⟩, 48) := ⟨⟨by decide +kernel, by decide +kernel⟩, List.mem_of_getElem? (i := 1015) (by decide +kernel), List.mem_of_getElem? (i := 1220) (by decide +kernel), List.mem_of_getElem? (i := 1221) (by decide +kernel)⟩
theorem lw_p39 : lw_okq (⟨"HedgeCouncilModel", "isOpen", "(I)Z"⟩, 48) := ⟨⟨by decide +kernel, by decide +kernel⟩, List.mem_of_getElem? (i := 1015) (by decide +kernel), List.mem_of_getElem? (i := 1224) (by decide +kernel), List.mem_of_getElem? (i := 1225) (by decide +kernel)⟩
theorem lw_p40 : lw_okq (⟨"HedgeCouncilModel", "toldByLaw", "(II)I"⟩, 48) := ⟨⟨by decide +kernel, by decide +kernel⟩, List.mem_of_getElem? (i := 1015) (by decide +kernel), List.mem_of_getElem? (i := 1231) (by decide +kernel), List.mem_of_getElem? (i := 1232) (by decide +kernel)⟩
theorem lw_p41 : lw_okq (⟨"HedgeCouncilModel", "needsNow", "(I)I"⟩, 48) := ⟨⟨by decide +kernel, by decide +kernel⟩, List.mem_of_getElem? (i := 1015) (by decide +kernel), List.mem_of_getElem? (i := 1235) (by decide +kernel), List.mem_of_getElem? (i := 1236) (by decide +kernel)⟩
theorem lw_p42 : lw_okq (⟨"HedgeCouncilModel", "tells", "(III)I"⟩, 48) := ⟨⟨by decide +kernel, by decide +kernel⟩, List.mem_of_getElem? (i := 1015) (by decide +kernel), List.mem_of_getElem? (i := 1239) (by decide +kernel), List.mem_of_getElem? (i := 1240) (by decide +kernel)⟩
theorem lw_p43 : lw_okq (⟨"HedgeCouncilModel", "setsAsked", "(I)V"⟩, 48) := ⟨⟨by decide +kernel, by decide +kernel⟩, List.mem_of_getElem? (i := 1015) (by decide +kernel), List.mem_of_getElem? (i := 1243) (by decide +kernel), List.mem_of_getElem? (i := 1244) (by decide +kernel)⟩
theorem lw_p44 : lw_okq (⟨"HedgeCouncilModel", "nearOf", "(I)I"⟩, 48) := ⟨⟨by decide +kernel, by decide +kernel⟩, List.mem_of_getElem? (i := 1015) (by decide +kernel), List.mem_of_getElem? (i := 1247) (by decide +kernel), List.mem_of_getElem? (i := 1248) (by decide +kernel)⟩
theorem lw_p45 : lw_okq (⟨"HedgeCouncilModel", "codeAt", "(I)I"⟩, 48) := ⟨⟨by decide +kernel, by decide +kernel⟩, List.mem_of_getElem? (i := 1015) (by decide +kernel), List.mem_of_getElem? (i := 1254) (by decide +kernel), List.mem_of_getElem? (i := 1255) (by decide +kernel)⟩
theorem lw_p46 : lw_okq (⟨"HedgeCouncilModel", "sumOf", "(Z)J"⟩, 48) := ⟨⟨by decide +kernel, by decide +kernel⟩, List.mem_of_getElem? (i := 1015) (by decide +kernel), List.mem_of_getElem? (i := 1258) (by decide +kernel), List.mem_of_getElem? (i := 1259) (by decide +kernel)⟩
theorem lw_p47 : lw_okq (⟨"HedgeCouncilModel", "termOf", "(Z)J"⟩, 48) := ⟨⟨by decide +kernel, by decide +kernel⟩, List.mem_of_getElem? (i := 1015) (by decide +kernel), List.mem_of_getElem? (i := 1262) (by decide +kernel), List.mem_of_getElem? (i := 1263) (by decide +kernel)⟩
def lw_privs_3 : List (MethodName × Nat) := [(⟨"HedgeCouncilModel", "refuses", "(I)I"⟩, 48), (⟨"HedgeCouncilModel", "good", "(I)I"⟩, 48), (⟨"HedgeCouncilModel", "settled", "(I)I"⟩, 48), (⟨"HedgeCouncilModel", "many", "()I"⟩, 48), (⟨"HedgeCouncilModel", "adds", "(III)I"⟩, 48), (⟨"HedgeCouncilModel", "isOne", "(I)Z"⟩, 48), (⟨"HedgeCouncilModel", "toldBare", "(II)I"⟩, 48), (⟨"HedgeCouncilModel", "isOpen", "(I)Z"⟩, 48), (⟨"HedgeCouncilModel", "toldByLaw", "(II)I"⟩, 48), (⟨"HedgeCouncilModel", "needsNow", "(I)I"⟩, 48), (⟨"HedgeCouncilModel", "tells", "(III)I"⟩, 48), (⟨"HedgeCouncilModel", "setsAsked", "(I)V"⟩, 48), (⟨"HedgeCouncilModel", "nearOf", "(I)I"⟩, 48), (⟨"HedgeCouncilModel", "codeAt", "(I)I"⟩, 48), (⟨"HedgeCouncilModel", "sumOf", "(Z)J"⟩, 48), (⟨"HedgeCouncilModel", "termOf", "(Z)J"⟩, 48)]
theorem lw_r3 : ∀ q ∈ lw_privs_3, lw_okq q := List.forall_mem_cons.mpr ⟨lw_p32, List.forall_mem_cons.mpr ⟨lw_p33, List.forall_mem_cons.mpr ⟨lw_p34, List.forall_mem_cons.mpr ⟨lw_p35, List.forall_mem_cons.mpr ⟨lw_p36, List.forall_mem_cons.mpr ⟨lw_p37, List.forall_mem_cons.mpr ⟨lw_p38, List.forall_mem_cons.mpr ⟨lw_p39, List.forall_mem_cons.mpr ⟨lw_p40, List.forall_mem_cons.mpr ⟨lw_p41, List.forall_mem_cons.mpr ⟨lw_p42, List.forall_mem_cons.mpr ⟨lw_p43, List.forall_mem_cons.mpr ⟨lw_p44, List.forall_mem_cons.mpr ⟨lw_p45, List.forall_mem_cons.mpr ⟨lw_p46, List.forall_mem_cons.mpr ⟨lw_p47, fun _ h => absurd h List.not_mem_nil⟩⟩⟩⟩⟩⟩⟩⟩⟩⟩⟩⟩⟩⟩⟩⟩
theorem lw_p48 : lw_okq (⟨"HedgeCouncilModel", "partOf", "(Z)J"⟩, 48) := ⟨⟨by decide +kernel, by decide +kernel⟩, List.mem_of_getElem? (i := 1015) (by decide +kernel), List.mem_of_getElem? (i := 1266) (by decide +kernel), List.mem_of_getElem? (i := 1267) (by decide +kernel)⟩
theorem lw_p49 : lw_okq (⟨"HedgeCouncilModel", "passes0", "(I)Z"⟩, 48) := ⟨⟨by decide +kernel, by decide +kernel⟩, List.mem_of_getElem? (i := 1015) (by decide +kernel), List.mem_of_getElem? (i := 1273) (by decide +kernel), List.mem_of_getElem? (i := 1274) (by decide +kernel)⟩
theorem lw_p50 : lw_okq (⟨"HedgeCouncilModel", "orderValue", "(II)I"⟩, 48) := ⟨⟨by decide +kernel, by decide +kernel⟩, List.mem_of_getElem? (i := 1015) (by decide +kernel), List.mem_of_getElem? (i := 1277) (by decide +kernel), List.mem_of_getElem? (i := 1278) (by decide +kernel)⟩
theorem lw_p51 : lw_okq (⟨"HedgeCouncilModel", "bounded", "(JZ)J"⟩, 48) := ⟨⟨by decide +kernel, by decide +kernel⟩, List.mem_of_getElem? (i := 1015) (by decide +kernel), List.mem_of_getElem? (i := 1281) (by decide +kernel), List.mem_of_getElem? (i := 1282) (by decide +kernel)⟩
theorem lw_p52 : lw_okq (⟨"HedgeCouncilModel", "testOf", "(Z)Z"⟩, 48) := ⟨⟨by decide +kernel, by decide +kernel⟩, List.mem_of_getElem? (i := 1015) (by decide +kernel), List.mem_of_getElem? (i := 1287) (by decide +kernel), List.mem_of_getElem? (i := 1288) (by decide +kernel)⟩
theorem lw_p53 : lw_okq (⟨"HedgeCouncilModel", "bothOf", "(Z)Z"⟩, 48) := ⟨⟨by decide +kernel, by decide +kernel⟩, List.mem_of_getElem? (i := 1015) (by decide +kernel), List.mem_of_getElem? (i := 1291) (by decide +kernel), List.mem_of_getElem? (i := 1292) (by decide +kernel)⟩
theorem lw_p54 : lw_okq (⟨"HedgeCouncilModel", "plainOf", "(Z)Z"⟩, 48) := ⟨⟨by decide +kernel, by decide +kernel⟩, List.mem_of_getElem? (i := 1015) (by decide +kernel), List.mem_of_getElem? (i := 1295) (by decide +kernel), List.mem_of_getElem? (i := 1296) (by decide +kernel)⟩
theorem lw_p55 : lw_okq (⟨"HedgeCouncilModel", "positiveOf", "(Z)Z"⟩, 48) := ⟨⟨by decide +kernel, by decide +kernel⟩, List.mem_of_getElem? (i := 1015) (by decide +kernel), List.mem_of_getElem? (i := 1299) (by decide +kernel), List.mem_of_getElem? (i := 1300) (by decide +kernel)⟩
theorem lw_p56 : lw_okq (⟨"HedgeCouncilModel", "wantsNow", "(I)I"⟩, 48) := ⟨⟨by decide +kernel, by decide +kernel⟩, List.mem_of_getElem? (i := 1015) (by decide +kernel), List.mem_of_getElem? (i := 1304) (by decide +kernel), List.mem_of_getElem? (i := 1305) (by decide +kernel)⟩
theorem lw_p57 : lw_okq (⟨"HedgeCouncilModel", "shutsNow", "(I)Z"⟩, 48) := ⟨⟨by decide +kernel, by decide +kernel⟩, List.mem_of_getElem? (i := 1015) (by decide +kernel), List.mem_of_getElem? (i := 1308) (by decide +kernel), List.mem_of_getElem? (i := 1309) (by decide +kernel)⟩
theorem lw_p58 : lw_okq (⟨"HedgeCouncilModel", "opensNext", "(I)Z"⟩, 48) := ⟨⟨by decide +kernel, by decide +kernel⟩, List.mem_of_getElem? (i := 1015) (by decide +kernel), List.mem_of_getElem? (i := 1312) (by decide +kernel), List.mem_of_getElem? (i := 1313) (by decide +kernel)⟩
theorem lw_p59 : lw_okq (⟨"HedgeCouncilModel", "canRow", "(I)Z"⟩, 48) := ⟨⟨by decide +kernel, by decide +kernel⟩, List.mem_of_getElem? (i := 1015) (by decide +kernel), List.mem_of_getElem? (i := 1330) (by decide +kernel), List.mem_of_getElem? (i := 1331) (by decide +kernel)⟩
theorem lw_p60 : lw_okq (⟨"HedgeCouncilModel", "watchAt", "(I)I"⟩, 48) := ⟨⟨by decide +kernel, by decide +kernel⟩, List.mem_of_getElem? (i := 1015) (by decide +kernel), List.mem_of_getElem? (i := 1334) (by decide +kernel), List.mem_of_getElem? (i := 1335) (by decide +kernel)⟩
theorem lw_p61 : lw_okq (⟨"HedgeCouncilModel", "everybody", "()I"⟩, 48) := ⟨⟨by decide +kernel, by decide +kernel⟩, List.mem_of_getElem? (i := 1015) (by decide +kernel), List.mem_of_getElem? (i := 1338) (by decide +kernel), List.mem_of_getElem? (i := 1339) (by decide +kernel)⟩
theorem lw_p62 : lw_okq (⟨"HedgeCouncilModel", "readsAs", "(Z)Z"⟩, 48) := ⟨⟨by decide +kernel, by decide +kernel⟩, List.mem_of_getElem? (i := 1015) (by decide +kernel), List.mem_of_getElem? (i := 1358) (by decide +kernel), List.mem_of_getElem? (i := 1359) (by decide +kernel)⟩
theorem lw_p63 : lw_okq (⟨"HedgeCouncilModel", "reads", "()Z"⟩, 48) := ⟨⟨by decide +kernel, by decide +kernel⟩, List.mem_of_getElem? (i := 1015) (by decide +kernel), List.mem_of_getElem? (i := 1362) (by decide +kernel), List.mem_of_getElem? (i := 1363) (by decide +kernel)⟩
def lw_privs_4 : List (MethodName × Nat) := [(⟨"HedgeCouncilModel", "partOf", "(Z)J"⟩, 48), (⟨"HedgeCouncilModel", "passes0", "(I)Z"⟩, 48), (⟨"HedgeCouncilModel", "orderValue", "(II)I"⟩, 48), (⟨"HedgeCouncilModel", "bounded", "(JZ)J"⟩, 48), (⟨"HedgeCouncilModel", "testOf", "(Z)Z"⟩, 48), (⟨"HedgeCouncilModel", "bothOf", "(Z)Z"⟩, 48), (⟨"HedgeCouncilModel", "plainOf", "(Z)Z"⟩, 48), (⟨"HedgeCouncilModel", "positiveOf", "(Z)Z"⟩, 48), (⟨"HedgeCouncilModel", "wantsNow", "(I)I"⟩, 48), (⟨"HedgeCouncilModel", "shutsNow", "(I)Z"⟩, 48), (⟨"HedgeCouncilModel", "opensNext", "(I)Z"⟩, 48), (⟨"HedgeCouncilModel", "canRow", "(I)Z"⟩, 48), (⟨"HedgeCouncilModel", "watchAt", "(I)I"⟩, 48), (⟨"HedgeCouncilModel", "everybody", "()I"⟩, 48), (⟨"HedgeCouncilModel", "readsAs", "(Z)Z"⟩, 48), (⟨"HedgeCouncilModel", "reads", "()Z"⟩, 48)]
theorem lw_r4 : ∀ q ∈ lw_privs_4, lw_okq q := List.forall_mem_cons.mpr ⟨lw_p48, List.forall_mem_cons.mpr ⟨lw_p49, List.forall_mem_cons.mpr ⟨lw_p50, List.forall_mem_cons.mpr ⟨lw_p51, List.forall_mem_cons.mpr ⟨lw_p52, List.forall_mem_cons.mpr ⟨lw_p53, List.forall_mem_cons.mpr ⟨lw_p54, List.forall_mem_cons.mpr ⟨lw_p55, List.forall_mem_cons.mpr ⟨lw_p56, List.forall_mem_cons.mpr ⟨lw_p57, List.forall_mem_cons.mpr ⟨lw_p58, List.forall_mem_cons.mpr ⟨lw_p59, List.forall_mem_cons.mpr ⟨lw_p60, List.forall_mem_cons.mpr ⟨lw_p61, List.forall_mem_cons.mpr ⟨lw_p62, List.forall_mem_cons.mpr ⟨lw_p63, fun _ h => absurd h List.not_mem_nil⟩⟩⟩⟩⟩⟩⟩⟩⟩⟩⟩⟩⟩⟩⟩⟩
theorem lw_p64 : lw_okq (⟨"HedgeCouncilModel", "splits", "(I)V"⟩, 48) := ⟨⟨by decide +kernel, by decide +kernel⟩, List.mem_of_getElem? (i := 1015) (by decide +kernel), List.mem_of_getElem? (i := 1366) (by decide +kernel), List.mem_of_getElem? (i := 1367) (by decide +kernel)⟩
theorem lw_p65 : lw_okq (⟨"HedgeCouncilModel", "wordOf", "(II)I"⟩, 48) := ⟨⟨by decide +kernel, by decide +kernel⟩, List.mem_of_getElem? (i := 1015) (by decide +kernel), List.mem_of_getElem? (i := 1376) (by decide +kernel), List.mem_of_getElem? (i := 1377) (by decide +kernel)⟩
theorem lw_p66 : lw_okq (⟨"HedgeCouncilModel", "readOne", "()V"⟩, 48) := ⟨⟨by decide +kernel, by decide +kernel⟩, List.mem_of_getElem? (i := 1015) (by decide +kernel), List.mem_of_getElem? (i := 1381) (by decide +kernel), List.mem_of_getElem? (i := 1382) (by decide +kernel)⟩
theorem lw_p67 : lw_okq (⟨"HedgeCouncilModel", "readOrder", "()V"⟩, 48) := ⟨⟨by decide +kernel, by decide +kernel⟩, List.mem_of_getElem? (i := 1015) (by decide +kernel), List.mem_of_getElem? (i := 1385) (by decide +kernel), List.mem_of_getElem? (i := 1386) (by decide +kernel)⟩
theorem lw_p68 : lw_okq (⟨"HedgeCouncilModel", "takes0", "(I)Z"⟩, 48) := ⟨⟨by decide +kernel, by decide +kernel⟩, List.mem_of_getElem? (i := 1015) (by decide +kernel), List.mem_of_getElem? (i := 1389) (by decide +kernel), List.mem_of_getElem? (i := 1390) (by decide +kernel)⟩
theorem lw_p69 : lw_okq (⟨"HedgeCouncilModel", "fine", "()Z"⟩, 48) := ⟨⟨by decide +kernel, by decide +kernel⟩, List.mem_of_getElem? (i := 1015) (by decide +kernel), List.mem_of_getElem? (i := 1393) (by decide +kernel), List.mem_of_getElem? (i := 1394) (by decide +kernel)⟩
theorem lw_p70 : lw_okq (⟨"HedgeCouncilModel", "readSum", "(I)V"⟩, 48) := ⟨⟨by decide +kernel, by decide +kernel⟩, List.mem_of_getElem? (i := 1015) (by decide +kernel), List.mem_of_getElem? (i := 1397) (by decide +kernel), List.mem_of_getElem? (i := 1398) (by decide +kernel)⟩
theorem lw_p71 : lw_okq (⟨"HedgeCouncilModel", "readTerm", "(I)V"⟩, 48) := ⟨⟨by decide +kernel, by decide +kernel⟩, List.mem_of_getElem? (i := 1015) (by decide +kernel), List.mem_of_getElem? (i := 1401) (by decide +kernel), List.mem_of_getElem? (i := 1402) (by decide +kernel)⟩
theorem lw_p72 : lw_okq (⟨"HedgeCouncilModel", "readPart", "(I)V"⟩, 48) := ⟨⟨by decide +kernel, by decide +kernel⟩, List.mem_of_getElem? (i := 1015) (by decide +kernel), List.mem_of_getElem? (i := 1405) (by decide +kernel), List.mem_of_getElem? (i := 1406) (by decide +kernel)⟩
theorem lw_p73 : lw_okq (⟨"HedgeCouncilModel", "faults", "()V"⟩, 48) := ⟨⟨by decide +kernel, by decide +kernel⟩, List.mem_of_getElem? (i := 1015) (by decide +kernel), List.mem_of_getElem? (i := 1409) (by decide +kernel), List.mem_of_getElem? (i := 1410) (by decide +kernel)⟩
theorem lw_p74 : lw_okq (⟨"HedgeCouncilModel", "must", "(I)V"⟩, 48) := ⟨⟨by decide +kernel, by decide +kernel⟩, List.mem_of_getElem? (i := 1015) (by decide +kernel), List.mem_of_getElem? (i := 1413) (by decide +kernel), List.mem_of_getElem? (i := 1414) (by decide +kernel)⟩
theorem lw_p75 : lw_okq (⟨"HedgeCouncilModel", "leaf", "()V"⟩, 48) := ⟨⟨by decide +kernel, by decide +kernel⟩, List.mem_of_getElem? (i := 1015) (by decide +kernel), List.mem_of_getElem? (i := 1417) (by decide +kernel), List.mem_of_getElem? (i := 1418) (by decide +kernel)⟩
theorem lw_p76 : lw_okq (⟨"HedgeCouncilModel", "mustNumber", "(II)V"⟩, 48) := ⟨⟨by decide +kernel, by decide +kernel⟩, List.mem_of_getElem? (i := 1015) (by decide +kernel), List.mem_of_getElem? (i := 1421) (by decide +kernel), List.mem_of_getElem? (i := 1422) (by decide +kernel)⟩
theorem lw_p77 : lw_okq (⟨"HedgeCouncilModel", "readTest", "(I)V"⟩, 48) := ⟨⟨by decide +kernel, by decide +kernel⟩, List.mem_of_getElem? (i := 1015) (by decide +kernel), List.mem_of_getElem? (i := 1425) (by decide +kernel), List.mem_of_getElem? (i := 1426) (by decide +kernel)⟩
theorem lw_p78 : lw_okq (⟨"HedgeCouncilModel", "readBoth", "(I)V"⟩, 48) := ⟨⟨by decide +kernel, by decide +kernel⟩, List.mem_of_getElem? (i := 1015) (by decide +kernel), List.mem_of_getElem? (i := 1429) (by decide +kernel), List.mem_of_getElem? (i := 1430) (by decide +kernel)⟩
theorem lw_p79 : lw_okq (⟨"HedgeCouncilModel", "readPlain", "(I)V"⟩, 48) := ⟨⟨by decide +kernel, by decide +kernel⟩, List.mem_of_getElem? (i := 1015) (by decide +kernel), List.mem_of_getElem? (i := 1433) (by decide +kernel), List.mem_of_getElem? (i := 1434) (by decide +kernel)⟩
def lw_privs_5 : List (MethodName × Nat) := [(⟨"HedgeCouncilModel", "splits", "(I)V"⟩, 48), (⟨"HedgeCouncilModel", "wordOf", "(II)I"⟩, 48), (⟨"HedgeCouncilModel", "readOne", "()V"⟩, 48), (⟨"HedgeCouncilModel", "readOrder", "()V"⟩, 48), (⟨"HedgeCouncilModel", "takes0", "(I)Z"⟩, 48), (⟨"HedgeCouncilModel", "fine", "()Z"⟩, 48), (⟨"HedgeCouncilModel", "readSum", "(I)V"⟩, 48), (⟨"HedgeCouncilModel", "readTerm", "(I)V"⟩, 48), (⟨"HedgeCouncilModel", "readPart", "(I)V"⟩, 48), (⟨"HedgeCouncilModel", "faults", "()V"⟩, 48), (⟨"HedgeCouncilModel", "must", "(I)V"⟩, 48), (⟨"HedgeCouncilModel", "leaf", "()V"⟩, 48), (⟨"HedgeCouncilModel", "mustNumber", "(II)V"⟩, 48), (⟨"HedgeCouncilModel", "readTest", "(I)V"⟩, 48), (⟨"HedgeCouncilModel", "readBoth", "(I)V"⟩, 48), (⟨"HedgeCouncilModel", "readPlain", "(I)V"⟩, 48)]
theorem lw_r5 : ∀ q ∈ lw_privs_5, lw_okq q := List.forall_mem_cons.mpr ⟨lw_p64, List.forall_mem_cons.mpr ⟨lw_p65, List.forall_mem_cons.mpr ⟨lw_p66, List.forall_mem_cons.mpr ⟨lw_p67, List.forall_mem_cons.mpr ⟨lw_p68, List.forall_mem_cons.mpr ⟨lw_p69, List.forall_mem_cons.mpr ⟨lw_p70, List.forall_mem_cons.mpr ⟨lw_p71, List.forall_mem_cons.mpr ⟨lw_p72, List.forall_mem_cons.mpr ⟨lw_p73, List.forall_mem_cons.mpr ⟨lw_p74, List.forall_mem_cons.mpr ⟨lw_p75, List.forall_mem_cons.mpr ⟨lw_p76, List.forall_mem_cons.mpr ⟨lw_p77, List.forall_mem_cons.mpr ⟨lw_p78, List.forall_mem_cons.mpr ⟨lw_p79, fun _ h => absurd h List.not_mem_nil⟩⟩⟩⟩⟩⟩⟩⟩⟩⟩⟩⟩⟩⟩⟩⟩
theorem lw_p80 : lw_okq (⟨"HedgeCouncilModel", "readClause", "()V"⟩, 48) := ⟨⟨by decide +kernel, by decide +kernel⟩, List.mem_of_getElem? (i := 1015) (by decide +kernel), List.mem_of_getElem? (i := 1437) (by decide +kernel), List.mem_of_getElem? (i := 1438) (by decide +kernel)⟩
theorem lw_p81 : lw_okq (⟨"HedgeCouncilModel", "lays", "(I)V"⟩, 48) := ⟨⟨by decide +kernel, by decide +kernel⟩, List.mem_of_getElem? (i := 1015) (by decide +kernel), List.mem_of_getElem? (i := 1441) (by decide +kernel), List.mem_of_getElem? (i := 1442) (by decide +kernel)⟩
theorem lw_p82 : lw_okq (⟨"HedgeCouncilModel", "isLaw", "(I)Z"⟩, 48) := ⟨⟨by decide +kernel, by decide +kernel⟩, List.mem_of_getElem? (i := 1015) (by decide +kernel), List.mem_of_getElem? (i := 1453) (by decide +kernel), List.mem_of_getElem? (i := 1454) (by decide +kernel)⟩
theorem lw_p83 : lw_okq (⟨"HedgeCouncilModel", "touchesKept", "(I)I"⟩, 48) := ⟨⟨by decide +kernel, by decide +kernel⟩, List.mem_of_getElem? (i := 1015) (by decide +kernel), List.mem_of_getElem? (i := 1465) (by decide +kernel), List.mem_of_getElem? (i := 1466) (by decide +kernel)⟩
theorem lw_p84 : lw_okq (⟨"HedgeCouncilModel", "keeps", "(I)V"⟩, 48) := ⟨⟨by decide +kernel, by decide +kernel⟩, List.mem_of_getElem? (i := 1015) (by decide +kernel), List.mem_of_getElem? (i := 1469) (by decide +kernel), List.mem_of_getElem? (i := 1470) (by decide +kernel)⟩
theorem lw_p85 : lw_okq (⟨"HedgeCouncilModel", "touches", "(I)V"⟩, 48) := ⟨⟨by decide +kernel, by decide +kernel⟩, List.mem_of_getElem? (i := 1015) (by decide +kernel), List.mem_of_getElem? (i := 1473) (by decide +kernel), List.mem_of_getElem? (i := 1474) (by decide +kernel)⟩
theorem lw_p86 : lw_okq (⟨"HedgeCouncilModel", "goodOr", "(I)I"⟩, 48) := ⟨⟨by decide +kernel, by decide +kernel⟩, List.mem_of_getElem? (i := 1015) (by decide +kernel), List.mem_of_getElem? (i := 1477) (by decide +kernel), List.mem_of_getElem? (i := 1478) (by decide +kernel)⟩
theorem lw_p87 : lw_okq (⟨"HedgeCouncilModel", "coaxesKept", "(I)I"⟩, 48) := ⟨⟨by decide +kernel, by decide +kernel⟩, List.mem_of_getElem? (i := 1015) (by decide +kernel), List.mem_of_getElem? (i := 1485) (by decide +kernel), List.mem_of_getElem? (i := 1486) (by decide +kernel)⟩
theorem lw_p88 : lw_okq (⟨"HedgeCouncilModel", "temptsKept", "(II)I"⟩, 48) := ⟨⟨by decide +kernel, by decide +kernel⟩, List.mem_of_getElem? (i := 1015) (by decide +kernel), List.mem_of_getElem? (i := 1493) (by decide +kernel), List.mem_of_getElem? (i := 1494) (by decide +kernel)⟩
theorem lw_p89 : lw_okq (⟨"HedgeCouncilModel", "passesKept", "()I"⟩, 48) := ⟨⟨by decide +kernel, by decide +kernel⟩, List.mem_of_getElem? (i := 1015) (by decide +kernel), List.mem_of_getElem? (i := 1501) (by decide +kernel), List.mem_of_getElem? (i := 1502) (by decide +kernel)⟩
theorem lw_p90 : lw_okq (⟨"HedgeCouncilModel", "minutePasses", "(I)I"⟩, 48) := ⟨⟨by decide +kernel, by decide +kernel⟩, List.mem_of_getElem? (i := 1015) (by decide +kernel), List.mem_of_getElem? (i := 1505) (by decide +kernel), List.mem_of_getElem? (i := 1506) (by decide +kernel)⟩
theorem lw_p91 : lw_okq (⟨"HedgeCouncilModel", "laysAllMinutes", "(III)V"⟩, 48) := ⟨⟨by decide +kernel, by decide +kernel⟩, List.mem_of_getElem? (i := 1015) (by decide +kernel), List.mem_of_getElem? (i := 1516) (by decide +kernel), List.mem_of_getElem? (i := 1517) (by decide +kernel)⟩
theorem lw_p92 : lw_okq (⟨"HedgeCouncilModel", "laysMinutes", "(IIII)I"⟩, 48) := ⟨⟨by decide +kernel, by decide +kernel⟩, List.mem_of_getElem? (i := 1015) (by decide +kernel), List.mem_of_getElem? (i := 1520) (by decide +kernel), List.mem_of_getElem? (i := 1521) (by decide +kernel)⟩
theorem lw_p93 : lw_okq (⟨"HedgeCouncilModel", "laysAside", "(I)V"⟩, 48) := ⟨⟨by decide +kernel, by decide +kernel⟩, List.mem_of_getElem? (i := 1015) (by decide +kernel), List.mem_of_getElem? (i := 1524) (by decide +kernel), List.mem_of_getElem? (i := 1525) (by decide +kernel)⟩
theorem lw_p94 : lw_okq (⟨"HedgeCouncilModel", "isSettled", "(I)Z"⟩, 48) := ⟨⟨by decide +kernel, by decide +kernel⟩, List.mem_of_getElem? (i := 1015) (by decide +kernel), List.mem_of_getElem? (i := 1528) (by decide +kernel), List.mem_of_getElem? (i := 1529) (by decide +kernel)⟩
theorem lw_p95 : lw_okq (⟨"HedgeCouncilModel", "takesBack", "(I)V"⟩, 48) := ⟨⟨by decide +kernel, by decide +kernel⟩, List.mem_of_getElem? (i := 1015) (by decide +kernel), List.mem_of_getElem? (i := 1532) (by decide +kernel), List.mem_of_getElem? (i := 1533) (by decide +kernel)⟩
def lw_privs_6 : List (MethodName × Nat) := [(⟨"HedgeCouncilModel", "readClause", "()V"⟩, 48), (⟨"HedgeCouncilModel", "lays", "(I)V"⟩, 48), (⟨"HedgeCouncilModel", "isLaw", "(I)Z"⟩, 48), (⟨"HedgeCouncilModel", "touchesKept", "(I)I"⟩, 48), (⟨"HedgeCouncilModel", "keeps", "(I)V"⟩, 48), (⟨"HedgeCouncilModel", "touches", "(I)V"⟩, 48), (⟨"HedgeCouncilModel", "goodOr", "(I)I"⟩, 48), (⟨"HedgeCouncilModel", "coaxesKept", "(I)I"⟩, 48), (⟨"HedgeCouncilModel", "temptsKept", "(II)I"⟩, 48), (⟨"HedgeCouncilModel", "passesKept", "()I"⟩, 48), (⟨"HedgeCouncilModel", "minutePasses", "(I)I"⟩, 48), (⟨"HedgeCouncilModel", "laysAllMinutes", "(III)V"⟩, 48), (⟨"HedgeCouncilModel", "laysMinutes", "(IIII)I"⟩, 48), (⟨"HedgeCouncilModel", "laysAside", "(I)V"⟩, 48), (⟨"HedgeCouncilModel", "isSettled", "(I)Z"⟩, 48), (⟨"HedgeCouncilModel", "takesBack", "(I)V"⟩, 48)]
theorem lw_r6 : ∀ q ∈ lw_privs_6, lw_okq q := List.forall_mem_cons.mpr ⟨lw_p80, List.forall_mem_cons.mpr ⟨lw_p81, List.forall_mem_cons.mpr ⟨lw_p82, List.forall_mem_cons.mpr ⟨lw_p83, List.forall_mem_cons.mpr ⟨lw_p84, List.forall_mem_cons.mpr ⟨lw_p85, List.forall_mem_cons.mpr ⟨lw_p86, List.forall_mem_cons.mpr ⟨lw_p87, List.forall_mem_cons.mpr ⟨lw_p88, List.forall_mem_cons.mpr ⟨lw_p89, List.forall_mem_cons.mpr ⟨lw_p90, List.forall_mem_cons.mpr ⟨lw_p91, List.forall_mem_cons.mpr ⟨lw_p92, List.forall_mem_cons.mpr ⟨lw_p93, List.forall_mem_cons.mpr ⟨lw_p94, List.forall_mem_cons.mpr ⟨lw_p95, fun _ h => absurd h List.not_mem_nil⟩⟩⟩⟩⟩⟩⟩⟩⟩⟩⟩⟩⟩⟩⟩⟩
theorem lw_p96 : lw_okq (⟨"HedgeCouncilModel", "opensBy", "(II)I"⟩, 48) := ⟨⟨by decide +kernel, by decide +kernel⟩, List.mem_of_getElem? (i := 1015) (by decide +kernel), List.mem_of_getElem? (i := 1540) (by decide +kernel), List.mem_of_getElem? (i := 1541) (by decide +kernel)⟩
theorem lw_p97 : lw_okq (⟨"HedgeCouncilModel", "shutNow", "()I"⟩, 48) := ⟨⟨by decide +kernel, by decide +kernel⟩, List.mem_of_getElem? (i := 1015) (by decide +kernel), List.mem_of_getElem? (i := 1556) (by decide +kernel), List.mem_of_getElem? (i := 1557) (by decide +kernel)⟩
theorem lw_p98 : lw_okq (⟨"HedgeCouncilModel", "fewestFor", "(II)I"⟩, 48) := ⟨⟨by decide +kernel, by decide +kernel⟩, List.mem_of_getElem? (i := 1015) (by decide +kernel), List.mem_of_getElem? (i := 1560) (by decide +kernel), List.mem_of_getElem? (i := 1561) (by decide +kernel)⟩
theorem lw_p99 : lw_okq (⟨"HedgeCouncilModel", "openLast", "(II)I"⟩, 48) := ⟨⟨by decide +kernel, by decide +kernel⟩, List.mem_of_getElem? (i := 1015) (by decide +kernel), List.mem_of_getElem? (i := 1575) (by decide +kernel), List.mem_of_getElem? (i := 1576) (by decide +kernel)⟩
theorem lw_p100 : lw_okq (⟨"HedgeCouncilModel", "fewestHeld", "(I)I"⟩, 48) := ⟨⟨by decide +kernel, by decide +kernel⟩, List.mem_of_getElem? (i := 1015) (by decide +kernel), List.mem_of_getElem? (i := 1583) (by decide +kernel), List.mem_of_getElem? (i := 1584) (by decide +kernel)⟩
theorem lw_p101 : lw_okq (⟨"HedgeCouncilModel", "staysShut", "(II)Z"⟩, 48) := ⟨⟨by decide +kernel, by decide +kernel⟩, List.mem_of_getElem? (i := 1015) (by decide +kernel), List.mem_of_getElem? (i := 1587) (by decide +kernel), List.mem_of_getElem? (i := 1588) (by decide +kernel)⟩
theorem lw_p102 : lw_okq (⟨"HedgeCouncilModel", "openNext", "()I"⟩, 48) := ⟨⟨by decide +kernel, by decide +kernel⟩, List.mem_of_getElem? (i := 1015) (by decide +kernel), List.mem_of_getElem? (i := 1595) (by decide +kernel), List.mem_of_getElem? (i := 1596) (by decide +kernel)⟩
theorem lw_p103 : lw_okq (⟨"HedgeCouncilModel", "laysLeft", "(I)V"⟩, 48) := ⟨⟨by decide +kernel, by decide +kernel⟩, List.mem_of_getElem? (i := 1015) (by decide +kernel), List.mem_of_getElem? (i := 1603) (by decide +kernel), List.mem_of_getElem? (i := 1604) (by decide +kernel)⟩
theorem lw_p104 : lw_okq (⟨"HedgeCouncilModel", "watches", "(II)Z"⟩, 48) := ⟨⟨by decide +kernel, by decide +kernel⟩, List.mem_of_getElem? (i := 1015) (by decide +kernel), List.mem_of_getElem? (i := 1607) (by decide +kernel), List.mem_of_getElem? (i := 1608) (by decide +kernel)⟩
theorem lw_p105 : lw_okq (⟨"HedgeCouncilModel", "nextInChain", "(I)I"⟩, 48) := ⟨⟨by decide +kernel, by decide +kernel⟩, List.mem_of_getElem? (i := 1015) (by decide +kernel), List.mem_of_getElem? (i := 1611) (by decide +kernel), List.mem_of_getElem? (i := 1612) (by decide +kernel)⟩
theorem lw_p106 : lw_okq (⟨"HedgeCouncilModel", "laysKnots", "()V"⟩, 48) := ⟨⟨by decide +kernel, by decide +kernel⟩, List.mem_of_getElem? (i := 1015) (by decide +kernel), List.mem_of_getElem? (i := 1619) (by decide +kernel), List.mem_of_getElem? (i := 1620) (by decide +kernel)⟩
theorem lw_p107 : lw_okq (⟨"HedgeCouncilModel", "reached", "(I)I"⟩, 48) := ⟨⟨by decide +kernel, by decide +kernel⟩, List.mem_of_getElem? (i := 1015) (by decide +kernel), List.mem_of_getElem? (i := 1623) (by decide +kernel), List.mem_of_getElem? (i := 1624) (by decide +kernel)⟩
theorem lw_p108 : lw_okq (⟨"HedgeCouncilModel", "isLowest", "(I)Z"⟩, 48) := ⟨⟨by decide +kernel, by decide +kernel⟩, List.mem_of_getElem? (i := 1015) (by decide +kernel), List.mem_of_getElem? (i := 1627) (by decide +kernel), List.mem_of_getElem? (i := 1628) (by decide +kernel)⟩
theorem lw_p109 : lw_okq (⟨"HedgeCouncilModel", "isReached", "(I)Z"⟩, 48) := ⟨⟨by decide +kernel, by decide +kernel⟩, List.mem_of_getElem? (i := 1015) (by decide +kernel), List.mem_of_getElem? (i := 1635) (by decide +kernel), List.mem_of_getElem? (i := 1636) (by decide +kernel)⟩
theorem lw_p110 : lw_okq (⟨"HedgeCouncilModel", "asSeen", "(I)I"⟩, 48) := ⟨⟨by decide +kernel, by decide +kernel⟩, List.mem_of_getElem? (i := 1015) (by decide +kernel), List.mem_of_getElem? (i := 1651) (by decide +kernel), List.mem_of_getElem? (i := 1652) (by decide +kernel)⟩
theorem lw_p111 : lw_okq (⟨"HedgeCouncilModel", "runs", "(I)Z"⟩, 48) := ⟨⟨by decide +kernel, by decide +kernel⟩, List.mem_of_getElem? (i := 1015) (by decide +kernel), List.mem_of_getElem? (i := 1678) (by decide +kernel), List.mem_of_getElem? (i := 1679) (by decide +kernel)⟩
def lw_privs_7 : List (MethodName × Nat) := [(⟨"HedgeCouncilModel", "opensBy", "(II)I"⟩, 48), (⟨"HedgeCouncilModel", "shutNow", "()I"⟩, 48), (⟨"HedgeCouncilModel", "fewestFor", "(II)I"⟩, 48), (⟨"HedgeCouncilModel", "openLast", "(II)I"⟩, 48), (⟨"HedgeCouncilModel", "fewestHeld", "(I)I"⟩, 48), (⟨"HedgeCouncilModel", "staysShut", "(II)Z"⟩, 48), (⟨"HedgeCouncilModel", "openNext", "()I"⟩, 48), (⟨"HedgeCouncilModel", "laysLeft", "(I)V"⟩, 48), (⟨"HedgeCouncilModel", "watches", "(II)Z"⟩, 48), (⟨"HedgeCouncilModel", "nextInChain", "(I)I"⟩, 48), (⟨"HedgeCouncilModel", "laysKnots", "()V"⟩, 48), (⟨"HedgeCouncilModel", "reached", "(I)I"⟩, 48), (⟨"HedgeCouncilModel", "isLowest", "(I)Z"⟩, 48), (⟨"HedgeCouncilModel", "isReached", "(I)Z"⟩, 48), (⟨"HedgeCouncilModel", "asSeen", "(I)I"⟩, 48), (⟨"HedgeCouncilModel", "runs", "(I)Z"⟩, 48)]
theorem lw_r7 : ∀ q ∈ lw_privs_7, lw_okq q := List.forall_mem_cons.mpr ⟨lw_p96, List.forall_mem_cons.mpr ⟨lw_p97, List.forall_mem_cons.mpr ⟨lw_p98, List.forall_mem_cons.mpr ⟨lw_p99, List.forall_mem_cons.mpr ⟨lw_p100, List.forall_mem_cons.mpr ⟨lw_p101, List.forall_mem_cons.mpr ⟨lw_p102, List.forall_mem_cons.mpr ⟨lw_p103, List.forall_mem_cons.mpr ⟨lw_p104, List.forall_mem_cons.mpr ⟨lw_p105, List.forall_mem_cons.mpr ⟨lw_p106, List.forall_mem_cons.mpr ⟨lw_p107, List.forall_mem_cons.mpr ⟨lw_p108, List.forall_mem_cons.mpr ⟨lw_p109, List.forall_mem_cons.mpr ⟨lw_p110, List.forall_mem_cons.mpr ⟨lw_p111, fun _ h => absurd h List.not_mem_nil⟩⟩⟩⟩⟩⟩⟩⟩⟩⟩⟩⟩⟩⟩⟩⟩
theorem lw_p112 : lw_okq (⟨"HedgeCouncilModel", "goesAlong", "(IZ)V"⟩, 48) := ⟨⟨by decide +kernel, by decide +kernel⟩, List.mem_of_getElem? (i := 1015) (by decide +kernel), List.mem_of_getElem? (i := 1682) (by decide +kernel), List.mem_of_getElem? (i := 1683) (by decide +kernel)⟩
theorem lw_p113 : lw_okq (⟨"HedgeCouncilModel", "obeys", "()I"⟩, 48) := ⟨⟨by decide +kernel, by decide +kernel⟩, List.mem_of_getElem? (i := 1015) (by decide +kernel), List.mem_of_getElem? (i := 1686) (by decide +kernel), List.mem_of_getElem? (i := 1687) (by decide +kernel)⟩
theorem lw_p114 : lw_okq (⟨"HedgeCouncilModel", "drawnAct", "()V"⟩, 48) := ⟨⟨by decide +kernel, by decide +kernel⟩, List.mem_of_getElem? (i := 1015) (by decide +kernel), List.mem_of_getElem? (i := 1698) (by decide +kernel), List.mem_of_getElem? (i := 1699) (by decide +kernel)⟩
theorem lw_p115 : lw_okq (⟨"HedgeCouncilModel", "draws", "(I)I"⟩, 48) := ⟨⟨by decide +kernel, by decide +kernel⟩, List.mem_of_getElem? (i := 1015) (by decide +kernel), List.mem_of_getElem? (i := 1702) (by decide +kernel), List.mem_of_getElem? (i := 1703) (by decide +kernel)⟩
theorem lw_p116 : lw_okq (⟨"HedgeCouncilModel", "refusals", "(I)I"⟩, 48) := ⟨⟨by decide +kernel, by decide +kernel⟩, List.mem_of_getElem? (i := 1015) (by decide +kernel), List.mem_of_getElem? (i := 1717) (by decide +kernel), List.mem_of_getElem? (i := 1718) (by decide +kernel)⟩
def lw_privs_8 : List (MethodName × Nat) := [(⟨"HedgeCouncilModel", "goesAlong", "(IZ)V"⟩, 48), (⟨"HedgeCouncilModel", "obeys", "()I"⟩, 48), (⟨"HedgeCouncilModel", "drawnAct", "()V"⟩, 48), (⟨"HedgeCouncilModel", "draws", "(I)I"⟩, 48), (⟨"HedgeCouncilModel", "refusals", "(I)I"⟩, 48)]
theorem lw_r8 : ∀ q ∈ lw_privs_8, lw_okq q := List.forall_mem_cons.mpr ⟨lw_p112, List.forall_mem_cons.mpr ⟨lw_p113, List.forall_mem_cons.mpr ⟨lw_p114, List.forall_mem_cons.mpr ⟨lw_p115, List.forall_mem_cons.mpr ⟨lw_p116, fun _ h => absurd h List.not_mem_nil⟩⟩⟩⟩⟩
def lw_privs : List (MethodName × Nat) := lw_privs_1 ++ (lw_privs_2 ++ (lw_privs_3 ++ (lw_privs_4 ++ (lw_privs_5 ++ (lw_privs_6 ++ (lw_privs_7 ++ (lw_privs_8)))))))
def lw_tbl : List Cond := k2_sels lw_privs ++ tables_1
theorem lw_privs_ok : ∀ q ∈ lw_privs, lw_okq q := by
  show ∀ q ∈ lw_privs_1 ++ (lw_privs_2 ++ (lw_privs_3 ++ (lw_privs_4 ++ (lw_privs_5 ++ (lw_privs_6 ++ (lw_privs_7 ++ (lw_privs_8))))))), lw_okq q
  exact List.forall_mem_append.mpr ⟨lw_r1, List.forall_mem_append.mpr ⟨lw_r2, List.forall_mem_append.mpr ⟨lw_r3, List.forall_mem_append.mpr ⟨lw_r4, List.forall_mem_append.mpr ⟨lw_r5, List.forall_mem_append.mpr ⟨lw_r6, List.forall_mem_append.mpr ⟨lw_r7, lw_r8⟩⟩⟩⟩⟩⟩⟩

def RX0 : String := "HedgeCouncil$Chamber"
def TX0 : u_T := fun k => match k with
  | 0 => ("HedgeCouncil$Chamber", "many", "I", false)
  | 1 => ("HedgeCouncil$Chamber", "now", "LHedgeCouncil$Moment;", true)
  | 2 => ("HedgeCouncil$Chamber", "shy", "[I", true)
  | 3 => ("HedgeCouncil$Chamber", "watches", "[I", true)
  | 4 => ("HedgeCouncil$Chamber", "starts", "I", false)
  | 5 => ("HedgeCouncil$Chamber", "hush", "I", false)
  | 6 => ("HedgeCouncil$Chamber", "mood", "I", false)
  | 7 => ("HedgeCouncil$Chamber", "seenMany", "I", false)
  | 8 => ("HedgeCouncil$Chamber", "seenMinute", "[I", true)
  | 9 => ("HedgeCouncil$Chamber", "seenOpen", "[I", true)
  | 10 => ("HedgeCouncil$Chamber", "lawMany", "I", false)
  | 11 => ("HedgeCouncil$Chamber", "laws", "[LHedgeCouncil$Text;", true)
  | _ => ("HedgeCouncil$Chamber", "force", "I", false)
def tyX0 : Nat → FieldType := fun k => match k with
  | 0 => .int
  | 1 => .object "HedgeCouncil$Moment"
  | 2 => .array .int
  | 3 => .array .int
  | 4 => .int
  | 5 => .int
  | 6 => .int
  | 7 => .int
  | 8 => .array .int
  | 9 => .array .int
  | 10 => .int
  | 11 => .array (.object "HedgeCouncil$Text")
  | _ => .int
theorem nmX0 : ∀ a, a < 13 → ∀ b, b < 13 → a ≠ b → (TX0 a).2.1 ≠ (TX0 b).2.1 := by decide +kernel
theorem tyX0_ok : ∀ k, k < 13 → parseFieldDescriptor (TX0 k).2.2.1 = some (tyX0 k) := by decide +kernel
abbrev cX0_init : ByteArray := prog_2_method_1_code
def yX0_init : MethodName := ⟨RX0, "<init>", "()V"⟩
abbrev cX0_copyFrom : ByteArray := prog_2_method_2_code
def yX0_copyFrom : MethodName := ⟨RX0, "copyFrom", "(LHedgeCouncil$Chamber;)V"⟩
abbrev cX0_has : ByteArray := prog_2_method_3_code
def yX0_has : MethodName := ⟨RX0, "has", "(J)Z"⟩
abbrev cX0_everyone : ByteArray := prog_2_method_4_code
def yX0_everyone : MethodName := ⟨RX0, "everyone", "()I"⟩
abbrev cX0_add : ByteArray := prog_2_method_5_code
def yX0_add : MethodName := ⟨RX0, "add", "(III)I"⟩
abbrev cX0_setWatching : ByteArray := prog_2_method_6_code
def yX0_setWatching : MethodName := ⟨RX0, "setWatching", "(III)I"⟩
abbrev cX0_term : ByteArray := prog_2_method_7_code
def yX0_term : MethodName := ⟨RX0, "term", "(I)I"⟩
abbrev cX0_setTerm : ByteArray := prog_2_method_8_code
def yX0_setTerm : MethodName := ⟨RX0, "setTerm", "(II)V"⟩
abbrev cX0_addSeen : ByteArray := prog_2_method_9_code
def yX0_addSeen : MethodName := ⟨RX0, "addSeen", "(II)I"⟩
abbrev cX0_addLaw : ByteArray := prog_2_method_10_code
def yX0_addLaw : MethodName := ⟨RX0, "addLaw", "(LHedgeCouncil$Text;)I"⟩
abbrev cX0_lawAt : ByteArray := prog_2_method_11_code
def yX0_lawAt : MethodName := ⟨RX0, "lawAt", "(I)LHedgeCouncil$Text;"⟩
abbrev cX0_lawInForce : ByteArray := prog_2_method_12_code
def yX0_lawInForce : MethodName := ⟨RX0, "lawInForce", "()LHedgeCouncil$Text;"⟩
abbrev cX0_whyNot : ByteArray := prog_2_method_13_code
def yX0_whyNot : MethodName := ⟨RX0, "whyNot", "(LHedgeCouncil$Moment;IJJ)I"⟩
def RX1 : String := "HedgeCouncil$Course"
def TX1 : u_T := fun k => match k with
  | 0 => ("HedgeCouncil$Course", "reckoner", "LHedgeCouncil$Reckoner;", true)
  | 1 => ("HedgeCouncil$Course", "paper", "LHedgeCouncil$Moment;", true)
  | 2 => ("HedgeCouncil$Course", "comesTo", "[I", true)
  | _ => ("HedgeCouncil$Course", "openAt", "[I", true)
def tyX1 : Nat → FieldType := fun k => match k with
  | 0 => .object "HedgeCouncil$Reckoner"
  | 1 => .object "HedgeCouncil$Moment"
  | 2 => .array .int
  | _ => .array .int
theorem nmX1 : ∀ a, a < 4 → ∀ b, b < 4 → a ≠ b → (TX1 a).2.1 ≠ (TX1 b).2.1 := by decide +kernel
theorem tyX1_ok : ∀ k, k < 4 → parseFieldDescriptor (TX1 k).2.2.1 = some (tyX1 k) := by decide +kernel
abbrev cX1_init : ByteArray := prog_3_method_1_code
def yX1_init : MethodName := ⟨RX1, "<init>", "()V"⟩
abbrev cX1_ask : ByteArray := prog_3_method_2_code
def yX1_ask : MethodName := ⟨RX1, "ask", "(LHedgeCouncil$Chamber;II)I"⟩
abbrev cX1_perform : ByteArray := prog_3_method_3_code
def yX1_perform : MethodName := ⟨RX1, "perform", "(LHedgeCouncil$Chamber;LHedgeCouncil$Moment;III)I"⟩
abbrev cX1_passMinute : ByteArray := prog_3_method_4_code
def yX1_passMinute : MethodName := ⟨RX1, "passMinute", "(LHedgeCouncil$Chamber;LHedgeCouncil$Moment;LHedgeCouncil$Text;I)Z"⟩
abbrev cX1_hear : ByteArray := prog_3_method_5_code
def yX1_hear : MethodName := ⟨RX1, "hear", "(LHedgeCouncil$Chamber;LHedgeCouncil$Moment;I)V"⟩
abbrev cX1_told : ByteArray := prog_3_method_6_code
def yX1_told : MethodName := ⟨RX1, "told", "(LHedgeCouncil$Text;II)I"⟩
abbrev cX1_begin : ByteArray := prog_3_method_7_code
def yX1_begin : MethodName := ⟨RX1, "begin", "(LHedgeCouncil$Chamber;I)V"⟩
abbrev cX1_openBehind : ByteArray := prog_3_method_8_code
def yX1_openBehind : MethodName := ⟨RX1, "openBehind", "(LHedgeCouncil$Chamber;II)I"⟩
abbrev cX1_openByLaw : ByteArray := prog_3_method_9_code
def yX1_openByLaw : MethodName := ⟨RX1, "openByLaw", "(LHedgeCouncil$Chamber;LHedgeCouncil$Text;)I"⟩
abbrev cX1_firstMinute : ByteArray := prog_3_method_10_code
def yX1_firstMinute : MethodName := ⟨RX1, "firstMinute", "(LHedgeCouncil$Chamber;III)I"⟩
abbrev cX1_fewestCoaxed : ByteArray := prog_3_method_11_code
def yX1_fewestCoaxed : MethodName := ⟨RX1, "fewestCoaxed", "(LHedgeCouncil$Chamber;II)I"⟩
abbrev cX1_fewestHeld : ByteArray := prog_3_method_12_code
def yX1_fewestHeld : MethodName := ⟨RX1, "fewestHeld", "(LHedgeCouncil$Chamber;I)I"⟩
abbrev cX1_isPart : ByteArray := prog_3_method_13_code
def yX1_isPart : MethodName := ⟨RX1, "isPart", "(III)Z"⟩
abbrev cX1_follow : ByteArray := prog_3_method_14_code
def yX1_follow : MethodName := ⟨RX1, "follow", "(LHedgeCouncil$Chamber;)V"⟩
abbrev cX1_firstReturn : ByteArray := prog_3_method_15_code
def yX1_firstReturn : MethodName := ⟨RX1, "firstReturn", "()I"⟩
abbrev cX1_likeSeen : ByteArray := prog_3_method_16_code
def yX1_likeSeen : MethodName := ⟨RX1, "likeSeen", "(LHedgeCouncil$Chamber;)I"⟩
abbrev cX1_bestLook : ByteArray := prog_3_method_17_code
def yX1_bestLook : MethodName := ⟨RX1, "bestLook", "(I)I"⟩
abbrev cX1_leftAt : ByteArray := prog_3_method_18_code
def yX1_leftAt : MethodName := ⟨RX1, "leftAt", "(II)I"⟩
abbrev cX1_holdCouncils : ByteArray := prog_3_method_19_code
def yX1_holdCouncils : MethodName := ⟨RX1, "holdCouncils", "(LHedgeCouncil$Chamber;LHedgeCouncil$Moment;II)V"⟩
abbrev cX1_nextDraw : ByteArray := prog_3_method_20_code
def yX1_nextDraw : MethodName := ⟨RX1, "nextDraw", "(I)I"⟩
def RX2 : String := "HedgeCouncil$Errand"
def TX2 : u_T := fun k => match k with
  | 0 => ("HedgeCouncil$Errand", "done", "I", false)
  | 1 => ("HedgeCouncil$Errand", "latest", "I", false)
  | _ => ("HedgeCouncil$Errand", "reckoner", "LHedgeCouncil$Reckoner;", true)
def tyX2 : Nat → FieldType := fun k => match k with
  | 0 => .int
  | 1 => .int
  | _ => .object "HedgeCouncil$Reckoner"
theorem nmX2 : ∀ a, a < 3 → ∀ b, b < 3 → a ≠ b → (TX2 a).2.1 ≠ (TX2 b).2.1 := by decide +kernel
theorem tyX2_ok : ∀ k, k < 3 → parseFieldDescriptor (TX2 k).2.2.1 = some (tyX2 k) := by decide +kernel
abbrev cX2_init : ByteArray := prog_4_method_1_code
def yX2_init : MethodName := ⟨RX2, "<init>", "()V"⟩
abbrev cX2_runAll : ByteArray := prog_4_method_2_code
def yX2_runAll : MethodName := ⟨RX2, "runAll", "(LHedgeCouncil$Text;LHedgeCouncil$Chamber;LHedgeCouncil$Moment;LHedgeCouncil$Course;LHedgeCouncil$Past;)I"⟩
abbrev cX2_runOnce : ByteArray := prog_4_method_3_code
def yX2_runOnce : MethodName := ⟨RX2, "runOnce", "(LHedgeCouncil$Text;ILHedgeCouncil$Chamber;LHedgeCouncil$Moment;LHedgeCouncil$Course;LHedgeCouncil$Past;)Z"⟩
abbrev cX2_sumAt : ByteArray := prog_4_method_4_code
def yX2_sumAt : MethodName := ⟨RX2, "sumAt", "(LHedgeCouncil$Text;I)J"⟩
abbrev cX2_hear : ByteArray := prog_4_method_5_code
def yX2_hear : MethodName := ⟨RX2, "hear", "(LHedgeCouncil$Chamber;LHedgeCouncil$Moment;)V"⟩
def RX3 : String := "HedgeCouncil$Moment"
def TX3 : u_T := fun k => match k with
  | 0 => ("HedgeCouncil$Moment", "open", "I", false)
  | 1 => ("HedgeCouncil$Moment", "minute", "I", false)
  | 2 => ("HedgeCouncil$Moment", "want", "[I", true)
  | _ => ("HedgeCouncil$Moment", "still", "[I", true)
def tyX3 : Nat → FieldType := fun k => match k with
  | 0 => .int
  | 1 => .int
  | 2 => .array .int
  | _ => .array .int
theorem nmX3 : ∀ a, a < 4 → ∀ b, b < 4 → a ≠ b → (TX3 a).2.1 ≠ (TX3 b).2.1 := by decide +kernel
theorem tyX3_ok : ∀ k, k < 4 → parseFieldDescriptor (TX3 k).2.2.1 = some (tyX3 k) := by decide +kernel
abbrev cX3_init : ByteArray := prog_5_method_1_code
def yX3_init : MethodName := ⟨RX3, "<init>", "()V"⟩
abbrev cX3_copyFrom : ByteArray := prog_5_method_2_code
def yX3_copyFrom : MethodName := ⟨RX3, "copyFrom", "(LHedgeCouncil$Moment;)V"⟩
abbrev cX3_isOpen : ByteArray := prog_5_method_3_code
def yX3_isOpen : MethodName := ⟨RX3, "isOpen", "(I)Z"⟩
abbrev cX3_openMany : ByteArray := prog_5_method_4_code
def yX3_openMany : MethodName := ⟨RX3, "openMany", "()I"⟩
abbrev cX3_shutOne : ByteArray := prog_5_method_5_code
def yX3_shutOne : MethodName := ⟨RX3, "shutOne", "(I)I"⟩
abbrev cX3_openOne : ByteArray := prog_5_method_6_code
def yX3_openOne : MethodName := ⟨RX3, "openOne", "(I)V"⟩
abbrev cX3_changeWant : ByteArray := prog_5_method_7_code
def yX3_changeWant : MethodName := ⟨RX3, "changeWant", "(II)I"⟩
def RX4 : String := "HedgeCouncil$Past"
def TX4 : u_T := fun k => match k with
  | 0 => ("HedgeCouncil$Past", "size", "I", false)
  | 1 => ("HedgeCouncil$Past", "next", "I", false)
  | 2 => ("HedgeCouncil$Past", "kinds", "[I", true)
  | _ => ("HedgeCouncil$Past", "moments", "[LHedgeCouncil$Moment;", true)
def tyX4 : Nat → FieldType := fun k => match k with
  | 0 => .int
  | 1 => .int
  | 2 => .array .int
  | _ => .array (.object "HedgeCouncil$Moment")
theorem nmX4 : ∀ a, a < 4 → ∀ b, b < 4 → a ≠ b → (TX4 a).2.1 ≠ (TX4 b).2.1 := by decide +kernel
theorem tyX4_ok : ∀ k, k < 4 → parseFieldDescriptor (TX4 k).2.2.1 = some (tyX4 k) := by decide +kernel
abbrev cX4_init : ByteArray := prog_6_method_1_code
def yX4_init : MethodName := ⟨RX4, "<init>", "()V"⟩
abbrev cX4_clear : ByteArray := prog_6_method_2_code
def yX4_clear : MethodName := ⟨RX4, "clear", "()V"⟩
abbrev cX4_keep : ByteArray := prog_6_method_3_code
def yX4_keep : MethodName := ⟨RX4, "keep", "(ILHedgeCouncil$Moment;)V"⟩
abbrev cX4_takeBack : ByteArray := prog_6_method_4_code
def yX4_takeBack : MethodName := ⟨RX4, "takeBack", "(LHedgeCouncil$Moment;)I"⟩
def RX5 : String := "HedgeCouncil$Paths"
def TX5 : u_T := fun k => match k with
  | 0 => ("HedgeCouncil$Paths", "layers", "[I", true)
  | _ => ("HedgeCouncil$Paths", "sources", "[I", true)
def tyX5 : Nat → FieldType := fun k => match k with
  | 0 => .array .int
  | _ => .array .int
theorem nmX5 : ∀ a, a < 2 → ∀ b, b < 2 → a ≠ b → (TX5 a).2.1 ≠ (TX5 b).2.1 := by decide +kernel
theorem tyX5_ok : ∀ k, k < 2 → parseFieldDescriptor (TX5 k).2.2.1 = some (tyX5 k) := by decide +kernel
abbrev cX5_init : ByteArray := prog_7_method_1_code
def yX5_init : MethodName := ⟨RX5, "<init>", "()V"⟩
abbrev cX5_measure : ByteArray := prog_7_method_2_code
def yX5_measure : MethodName := ⟨RX5, "measure", "(LHedgeCouncil$Chamber;II)I"⟩
abbrev cX5_member : ByteArray := prog_7_method_3_code
def yX5_member : MethodName := ⟨RX5, "member", "(LHedgeCouncil$Chamber;III)I"⟩
abbrev cX5_watchedBy : ByteArray := prog_7_method_4_code
def yX5_watchedBy : MethodName := ⟨RX5, "watchedBy", "(LHedgeCouncil$Chamber;I)I"⟩
abbrev cX5_lowestWatcher : ByteArray := prog_7_method_5_code
def yX5_lowestWatcher : MethodName := ⟨RX5, "lowestWatcher", "(LHedgeCouncil$Chamber;II)I"⟩
abbrev cX5_findSources : ByteArray := prog_7_method_6_code
def yX5_findSources : MethodName := ⟨RX5, "findSources", "(LHedgeCouncil$Chamber;)V"⟩
abbrev cX5_knotOf : ByteArray := prog_7_method_7_code
def yX5_knotOf : MethodName := ⟨RX5, "knotOf", "(I)I"⟩
abbrev cX5_lowestOfKnots : ByteArray := prog_7_method_8_code
def yX5_lowestOfKnots : MethodName := ⟨RX5, "lowestOfKnots", "(LHedgeCouncil$Chamber;)I"⟩
abbrev cX5_fewestHeads : ByteArray := prog_7_method_9_code
def yX5_fewestHeads : MethodName := ⟨RX5, "fewestHeads", "(LHedgeCouncil$Chamber;)I"⟩
def RX6 : String := "HedgeCouncil$Reader"
def TX6 : u_T := fun k => match k with
  | 0 => ("HedgeCouncil$Reader", "text", "LHedgeCouncil$Text;", true)
  | 1 => ("HedgeCouncil$Reader", "tokens", "[I", true)
  | 2 => ("HedgeCouncil$Reader", "places", "[I", true)
  | 3 => ("HedgeCouncil$Reader", "tokenMany", "I", false)
  | 4 => ("HedgeCouncil$Reader", "at", "I", false)
  | 5 => ("HedgeCouncil$Reader", "token", "I", false)
  | 6 => ("HedgeCouncil$Reader", "isOrders", "Z", false)
  | 7 => ("HedgeCouncil$Reader", "parts", "I", false)
  | 8 => ("HedgeCouncil$Reader", "depth", "I", false)
  | _ => ("HedgeCouncil$Reader", "faultPlace", "I", false)
def tyX6 : Nat → FieldType := fun k => match k with
  | 0 => .object "HedgeCouncil$Text"
  | 1 => .array .int
  | 2 => .array .int
  | 3 => .int
  | 4 => .int
  | 5 => .int
  | 6 => .boolean
  | 7 => .int
  | 8 => .int
  | _ => .int
theorem nmX6 : ∀ a, a < 10 → ∀ b, b < 10 → a ≠ b → (TX6 a).2.1 ≠ (TX6 b).2.1 := by decide +kernel
theorem tyX6_ok : ∀ k, k < 10 → parseFieldDescriptor (TX6 k).2.2.1 = some (tyX6 k) := by decide +kernel
abbrev cX6_init : ByteArray := prog_8_method_1_code
def yX6_init : MethodName := ⟨RX6, "<init>", "()V"⟩
abbrev cX6_read : ByteArray := prog_8_method_2_code
def yX6_read : MethodName := ⟨RX6, "read", "([IIZ)I"⟩
abbrev cX6_splitTokens : ByteArray := prog_8_method_3_code
def yX6_splitTokens : MethodName := ⟨RX6, "splitTokens", "([II)V"⟩
abbrev cX6_addToken : ByteArray := prog_8_method_4_code
def yX6_addToken : MethodName := ⟨RX6, "addToken", "(II)V"⟩
abbrev cX6_isLetter : ByteArray := prog_8_method_5_code
def yX6_isLetter : MethodName := ⟨RX6, "isLetter", "(I)Z"⟩
abbrev cX6_isDigit : ByteArray := prog_8_method_6_code
def yX6_isDigit : MethodName := ⟨RX6, "isDigit", "(I)Z"⟩
abbrev cX6_wordToken : ByteArray := prog_8_method_7_code
def yX6_wordToken : MethodName := ⟨RX6, "wordToken", "([III)I"⟩
abbrev cX6_isSpelledAt : ByteArray := prog_8_method_8_code
def yX6_isSpelledAt : MethodName := ⟨RX6, "isSpelledAt", "([IIII)Z"⟩
abbrev cX6_numberToken : ByteArray := prog_8_method_9_code
def yX6_numberToken : MethodName := ⟨RX6, "numberToken", "([III)I"⟩
abbrev cX6_nextToken : ByteArray := prog_8_method_10_code
def yX6_nextToken : MethodName := ⟨RX6, "nextToken", "()V"⟩
abbrev cX6_take : ByteArray := prog_8_method_11_code
def yX6_take : MethodName := ⟨RX6, "take", "(I)Z"⟩
abbrev cX6_numberAtHand : ByteArray := prog_8_method_12_code
def yX6_numberAtHand : MethodName := ⟨RX6, "numberAtHand", "(I)I"⟩
abbrev cX6_faultHere : ByteArray := prog_8_method_13_code
def yX6_faultHere : MethodName := ⟨RX6, "faultHere", "()Z"⟩
abbrev cX6_readClause : ByteArray := prog_8_method_14_code
def yX6_readClause : MethodName := ⟨RX6, "readClause", "()Z"⟩
abbrev cX6_readLaw : ByteArray := prog_8_method_15_code
def yX6_readLaw : MethodName := ⟨RX6, "readLaw", "(II)Z"⟩
abbrev cX6_readOrder : ByteArray := prog_8_method_16_code
def yX6_readOrder : MethodName := ⟨RX6, "readOrder", "(II)Z"⟩
abbrev cX6_readTest : ByteArray := prog_8_method_17_code
def yX6_readTest : MethodName := ⟨RX6, "readTest", "()Z"⟩
abbrev cX6_readBoth : ByteArray := prog_8_method_18_code
def yX6_readBoth : MethodName := ⟨RX6, "readBoth", "()Z"⟩
abbrev cX6_readPlain : ByteArray := prog_8_method_19_code
def yX6_readPlain : MethodName := ⟨RX6, "readPlain", "()Z"⟩
abbrev cX6_readComparison : ByteArray := prog_8_method_20_code
def yX6_readComparison : MethodName := ⟨RX6, "readComparison", "()Z"⟩
abbrev cX6_readSum : ByteArray := prog_8_method_21_code
def yX6_readSum : MethodName := ⟨RX6, "readSum", "()Z"⟩
abbrev cX6_readTerm : ByteArray := prog_8_method_22_code
def yX6_readTerm : MethodName := ⟨RX6, "readTerm", "()Z"⟩
abbrev cX6_readPart : ByteArray := prog_8_method_23_code
def yX6_readPart : MethodName := ⟨RX6, "readPart", "()Z"⟩
abbrev cX6_isOrderWord : ByteArray := prog_8_method_24_code
def yX6_isOrderWord : MethodName := ⟨RX6, "isOrderWord", "(I)Z"⟩
abbrev cX6_firstOf : ByteArray := prog_8_method_25_code
def yX6_firstOf : MethodName := ⟨RX6, "firstOf", "(I)I"⟩
abbrev cX6_readOne : ByteArray := prog_8_method_26_code
def yX6_readOne : MethodName := ⟨RX6, "readOne", "(I)Z"⟩
abbrev cX6_readBrackets : ByteArray := prog_8_method_27_code
def yX6_readBrackets : MethodName := ⟨RX6, "readBrackets", "(Z)Z"⟩
def RX7 : String := "HedgeCouncil$Reckoner"
def TX7 : u_T := fun k => match k with
  | 0 => ("HedgeCouncil$Reckoner", "values", "[I", true)
  | _ => ("HedgeCouncil$Reckoner", "stack", "[J", true)
def tyX7 : Nat → FieldType := fun k => match k with
  | 0 => .array .int
  | _ => .array .long
theorem nmX7 : ∀ a, a < 2 → ∀ b, b < 2 → a ≠ b → (TX7 a).2.1 ≠ (TX7 b).2.1 := by decide +kernel
theorem tyX7_ok : ∀ k, k < 2 → parseFieldDescriptor (TX7 k).2.2.1 = some (tyX7 k) := by decide +kernel
abbrev cX7_init : ByteArray := prog_9_method_1_code
def yX7_init : MethodName := ⟨RX7, "<init>", "()V"⟩
abbrev cX7_reckon : ByteArray := prog_9_method_2_code
def yX7_reckon : MethodName := ⟨RX7, "reckon", "(LHedgeCouncil$Text;I)J"⟩
abbrev cX7_join : ByteArray := prog_9_method_3_code
def yX7_join : MethodName := ⟨RX7, "join", "(IJJ)J"⟩
def RX8 : String := "HedgeCouncil$Text"
def TX8 : u_T := fun k => match k with
  | 0 => ("HedgeCouncil$Text", "clauses", "I", false)
  | 1 => ("HedgeCouncil$Text", "steps", "I", false)
  | 2 => ("HedgeCouncil$Text", "asksTime", "Z", false)
  | 3 => ("HedgeCouncil$Text", "kind", "[I", true)
  | 4 => ("HedgeCouncil$Text", "first", "[I", true)
  | 5 => ("HedgeCouncil$Text", "second", "[I", true)
  | 6 => ("HedgeCouncil$Text", "test", "[I", true)
  | 7 => ("HedgeCouncil$Text", "times", "[I", true)
  | _ => ("HedgeCouncil$Text", "code", "[I", true)
def tyX8 : Nat → FieldType := fun k => match k with
  | 0 => .int
  | 1 => .int
  | 2 => .boolean
  | 3 => .array .int
  | 4 => .array .int
  | 5 => .array .int
  | 6 => .array .int
  | 7 => .array .int
  | _ => .array .int
theorem nmX8 : ∀ a, a < 9 → ∀ b, b < 9 → a ≠ b → (TX8 a).2.1 ≠ (TX8 b).2.1 := by decide +kernel
theorem tyX8_ok : ∀ k, k < 9 → parseFieldDescriptor (TX8 k).2.2.1 = some (tyX8 k) := by decide +kernel
abbrev cX8_init : ByteArray := prog_10_method_1_code
def yX8_init : MethodName := ⟨RX8, "<init>", "(II)V"⟩
abbrev cX8_trimmed : ByteArray := prog_10_method_2_code
def yX8_trimmed : MethodName := ⟨RX8, "trimmed", "()LHedgeCouncil$Text;"⟩
abbrev cX8_clear : ByteArray := prog_10_method_3_code
def yX8_clear : MethodName := ⟨RX8, "clear", "()V"⟩
abbrev cX8_addClause : ByteArray := prog_10_method_4_code
def yX8_addClause : MethodName := ⟨RX8, "addClause", "(I)Z"⟩
abbrev cX8_addStep : ByteArray := prog_10_method_5_code
def yX8_addStep : MethodName := ⟨RX8, "addStep", "(II)I"⟩
abbrev cX8_aimHere : ByteArray := prog_10_method_6_code
def yX8_aimHere : MethodName := ⟨RX8, "aimHere", "(I)V"⟩
def RX9 : String := "HedgeCouncil"
def TX9 : u_T := fun k => match k with
  | 0 => ("HedgeCouncil", "chamber", "LHedgeCouncil$Chamber;", true)
  | 1 => ("HedgeCouncil", "images", "[LHedgeCouncil$Chamber;", true)
  | 2 => ("HedgeCouncil", "past", "LHedgeCouncil$Past;", true)
  | 3 => ("HedgeCouncil", "course", "LHedgeCouncil$Course;", true)
  | 4 => ("HedgeCouncil", "paths", "LHedgeCouncil$Paths;", true)
  | 5 => ("HedgeCouncil", "drawnMoment", "LHedgeCouncil$Moment;", true)
  | 6 => ("HedgeCouncil", "drawnMany", "I", false)
  | 7 => ("HedgeCouncil", "tape", "[I", true)
  | 8 => ("HedgeCouncil", "tapeSize", "I", false)
  | 9 => ("HedgeCouncil", "reader", "LHedgeCouncil$Reader;", true)
  | 10 => ("HedgeCouncil", "errand", "LHedgeCouncil$Errand;", true)
  | 11 => ("HedgeCouncil", "trial", "LHedgeCouncil$Moment;", true)
  | 12 => ("HedgeCouncil", "chances", "[J", true)
  | 13 => ("HedgeCouncil", "refusals", "[I", true)
  | 14 => ("HedgeCouncil", "latestRefusal", "I", false)
  | 15 => ("HedgeCouncil", "latestBurrs", "I", false)
  | 16 => ("HedgeCouncil", "latestFault", "I", false)
  | _ => ("HedgeCouncil", "latestStop", "I", false)
def tyX9 : Nat → FieldType := fun k => match k with
  | 0 => .object "HedgeCouncil$Chamber"
  | 1 => .array (.object "HedgeCouncil$Chamber")
  | 2 => .object "HedgeCouncil$Past"
  | 3 => .object "HedgeCouncil$Course"
  | 4 => .object "HedgeCouncil$Paths"
  | 5 => .object "HedgeCouncil$Moment"
  | 6 => .int
  | 7 => .array .int
  | 8 => .int
  | 9 => .object "HedgeCouncil$Reader"
  | 10 => .object "HedgeCouncil$Errand"
  | 11 => .object "HedgeCouncil$Moment"
  | 12 => .array .long
  | 13 => .array .int
  | 14 => .int
  | 15 => .int
  | 16 => .int
  | _ => .int
theorem nmX9 : ∀ a, a < 18 → ∀ b, b < 18 → a ≠ b → (TX9 a).2.1 ≠ (TX9 b).2.1 := by decide +kernel
theorem tyX9_ok : ∀ k, k < 18 → parseFieldDescriptor (TX9 k).2.2.1 = some (tyX9 k) := by decide +kernel
abbrev cX9_init : ByteArray := prog_1_method_1_code
def yX9_init : MethodName := ⟨RX9, "<init>", "()V"⟩
abbrev cX9_hedgehog : ByteArray := prog_1_method_2_code
def yX9_hedgehog : MethodName := ⟨RX9, "hedgehog", "(II)I"⟩
abbrev cX9_watch : ByteArray := prog_1_method_3_code
def yX9_watch : MethodName := ⟨RX9, "watch", "(III)I"⟩
abbrev cX9_of : ByteArray := prog_1_method_4_code
def yX9_of : MethodName := ⟨RX9, "of", "(II)I"⟩
abbrev cX9_terms : ByteArray := prog_1_method_5_code
def yX9_terms : MethodName := ⟨RX9, "terms", "(II)I"⟩
abbrev cX9_feed : ByteArray := prog_1_method_6_code
def yX9_feed : MethodName := ⟨RX9, "feed", "(IIIII)I"⟩
abbrev cX9_end : ByteArray := prog_1_method_7_code
def yX9_end : MethodName := ⟨RX9, "end", "(I)I"⟩
abbrev cX9_row : ByteArray := prog_1_method_8_code
def yX9_row : MethodName := ⟨RX9, "row", "()I"⟩
abbrev cX9_burrs : ByteArray := prog_1_method_9_code
def yX9_burrs : MethodName := ⟨RX9, "burrs", "()I"⟩
abbrev cX9_law : ByteArray := prog_1_method_10_code
def yX9_law : MethodName := ⟨RX9, "law", "()I"⟩
abbrev cX9_orders : ByteArray := prog_1_method_11_code
def yX9_orders : MethodName := ⟨RX9, "orders", "()I"⟩
abbrev cX9_fault : ByteArray := prog_1_method_12_code
def yX9_fault : MethodName := ⟨RX9, "fault", "()I"⟩
abbrev cX9_stopped : ByteArray := prog_1_method_13_code
def yX9_stopped : MethodName := ⟨RX9, "stopped", "()I"⟩
abbrev cX9_force : ByteArray := prog_1_method_14_code
def yX9_force : MethodName := ⟨RX9, "force", "(I)I"⟩
abbrev cX9_touch : ByteArray := prog_1_method_15_code
def yX9_touch : MethodName := ⟨RX9, "touch", "(I)I"⟩
abbrev cX9_coax : ByteArray := prog_1_method_16_code
def yX9_coax : MethodName := ⟨RX9, "coax", "(I)I"⟩
abbrev cX9_tempt : ByteArray := prog_1_method_17_code
def yX9_tempt : MethodName := ⟨RX9, "tempt", "(II)I"⟩
abbrev cX9_pass : ByteArray := prog_1_method_18_code
def yX9_pass : MethodName := ⟨RX9, "pass", "()I"⟩
abbrev cX9_undo : ByteArray := prog_1_method_19_code
def yX9_undo : MethodName := ⟨RX9, "undo", "()I"⟩
abbrev cX9_later : ByteArray := prog_1_method_20_code
def yX9_later : MethodName := ⟨RX9, "later", "(I)I"⟩
abbrev cX9_opens : ByteArray := prog_1_method_21_code
def yX9_opens : MethodName := ⟨RX9, "opens", "(I)I"⟩
abbrev cX9_together : ByteArray := prog_1_method_22_code
def yX9_together : MethodName := ⟨RX9, "together", "()I"⟩
abbrev cX9_again : ByteArray := prog_1_method_23_code
def yX9_again : MethodName := ⟨RX9, "again", "()I"⟩
abbrev cX9_seeds : ByteArray := prog_1_method_24_code
def yX9_seeds : MethodName := ⟨RX9, "seeds", "(I)I"⟩
abbrev cX9_seedsFor : ByteArray := prog_1_method_25_code
def yX9_seedsFor : MethodName := ⟨RX9, "seedsFor", "(II)I"⟩
abbrev cX9_spread : ByteArray := prog_1_method_26_code
def yX9_spread : MethodName := ⟨RX9, "spread", "(I)I"⟩
abbrev cX9_held : ByteArray := prog_1_method_27_code
def yX9_held : MethodName := ⟨RX9, "held", "(II)I"⟩
abbrev cX9_chain : ByteArray := prog_1_method_28_code
def yX9_chain : MethodName := ⟨RX9, "chain", "(III)I"⟩
abbrev cX9_knots : ByteArray := prog_1_method_29_code
def yX9_knots : MethodName := ⟨RX9, "knots", "()I"⟩
abbrev cX9_heads : ByteArray := prog_1_method_30_code
def yX9_heads : MethodName := ⟨RX9, "heads", "(I)I"⟩
abbrev cX9_seen : ByteArray := prog_1_method_31_code
def yX9_seen : MethodName := ⟨RX9, "seen", "(II)I"⟩
abbrev cX9_forget : ByteArray := prog_1_method_32_code
def yX9_forget : MethodName := ⟨RX9, "forget", "()I"⟩
abbrev cX9_canBe : ByteArray := prog_1_method_33_code
def yX9_canBe : MethodName := ⟨RX9, "canBe", "()I"⟩
abbrev cX9_look : ByteArray := prog_1_method_34_code
def yX9_look : MethodName := ⟨RX9, "look", "(I)I"⟩
abbrev cX9_few : ByteArray := prog_1_method_35_code
def yX9_few : MethodName := ⟨RX9, "few", "(II)J"⟩
abbrev cX9_compare : ByteArray := prog_1_method_36_code
def yX9_compare : MethodName := ⟨RX9, "compare", "(I)I"⟩
abbrev cX9_councils : ByteArray := prog_1_method_37_code
def yX9_councils : MethodName := ⟨RX9, "councils", "(II)I"⟩
abbrev cX9_drawn : ByteArray := prog_1_method_38_code
def yX9_drawn : MethodName := ⟨RX9, "drawn", "(II)I"⟩
abbrev cX9_image : ByteArray := prog_1_method_39_code
def yX9_image : MethodName := ⟨RX9, "image", "(I)I"⟩
abbrev cX9_back : ByteArray := prog_1_method_40_code
def yX9_back : MethodName := ⟨RX9, "back", "(I)I"⟩
abbrev cX9_count : ByteArray := prog_1_method_41_code
def yX9_count : MethodName := ⟨RX9, "count", "(I)I"⟩
abbrev cX9_status : ByteArray := prog_1_method_42_code
def yX9_status : MethodName := ⟨RX9, "status", "()I"⟩
abbrev cX9_isUpTo : ByteArray := prog_1_method_43_code
def yX9_isUpTo : MethodName := ⟨RX9, "isUpTo", "(JI)Z"⟩
abbrev cX9_accept : ByteArray := prog_1_method_44_code
def yX9_accept : MethodName := ⟨RX9, "accept", "(I)I"⟩
abbrev cX9_refuse : ByteArray := prog_1_method_45_code
def yX9_refuse : MethodName := ⟨RX9, "refuse", "(I)I"⟩
abbrev cX9_act : ByteArray := prog_1_method_46_code
def yX9_act : MethodName := ⟨RX9, "act", "(III)I"⟩
abbrev cX9_tellSet : ByteArray := prog_1_method_47_code
def yX9_tellSet : MethodName := ⟨RX9, "tellSet", "(II)I"⟩
abbrev cX9_putFour : ByteArray := prog_1_method_48_code
def yX9_putFour : MethodName := ⟨RX9, "putFour", "(I)V"⟩
abbrev cX9_addFromTape : ByteArray := prog_1_method_49_code
def yX9_addFromTape : MethodName := ⟨RX9, "addFromTape", "(I)Z"⟩
def RX10 : String := "HedgeCouncilModel"
def TX10 : u_T := fun k => match k with
  | 0 => ("HedgeCouncilModel", "status", "I", false)
  | 1 => ("HedgeCouncilModel", "refused", "[I", true)
  | 2 => ("HedgeCouncilModel", "kept", "[I", true)
  | 3 => ("HedgeCouncilModel", "images", "[I", true)
  | 4 => ("HedgeCouncilModel", "hasImage", "[Z", true)
  | 5 => ("HedgeCouncilModel", "aside", "[I", true)
  | 6 => ("HedgeCouncilModel", "burrs0", "I", false)
  | 7 => ("HedgeCouncilModel", "words", "[B", true)
  | 8 => ("HedgeCouncilModel", "firstWord", "I", false)
  | 9 => ("HedgeCouncilModel", "lastWord", "I", false)
  | 10 => ("HedgeCouncilModel", "isOrders", "Z", false)
  | 11 => ("HedgeCouncilModel", "tape", "[B", true)
  | 12 => ("HedgeCouncilModel", "five", "[I", true)
  | 13 => ("HedgeCouncilModel", "taped", "I", false)
  | 14 => ("HedgeCouncilModel", "fault", "I", false)
  | 15 => ("HedgeCouncilModel", "code", "[I", true)
  | 16 => ("HedgeCouncilModel", "value", "[I", true)
  | 17 => ("HedgeCouncilModel", "placed", "[I", true)
  | 18 => ("HedgeCouncilModel", "tokens", "I", false)
  | 19 => ("HedgeCouncilModel", "token", "I", false)
  | 20 => ("HedgeCouncilModel", "leaves", "I", false)
  | 21 => ("HedgeCouncilModel", "bad", "I", false)
  | 22 => ("HedgeCouncilModel", "go", "I", false)
  | 23 => ("HedgeCouncilModel", "goEnd", "I", false)
  | 24 => ("HedgeCouncilModel", "broken", "Z", false)
  | 25 => ("HedgeCouncilModel", "inOrders", "Z", false)
  | 26 => ("HedgeCouncilModel", "asked", "[I", true)
  | 27 => ("HedgeCouncilModel", "orderDone", "I", false)
  | 28 => ("HedgeCouncilModel", "orderLatest", "I", false)
  | 29 => ("HedgeCouncilModel", "wantThen", "[I", true)
  | 30 => ("HedgeCouncilModel", "left0", "[I", true)
  | 31 => ("HedgeCouncilModel", "leftAhead", "[I", true)
  | 32 => ("HedgeCouncilModel", "undoMany", "I", false)
  | 33 => ("HedgeCouncilModel", "openAt", "[I", true)
  | 34 => ("HedgeCouncilModel", "left", "[I", true)
  | 35 => ("HedgeCouncilModel", "reach", "[I", true)
  | 36 => ("HedgeCouncilModel", "knot", "[I", true)
  | 37 => ("HedgeCouncilModel", "shares", "[J", true)
  | 38 => ("HedgeCouncilModel", "stopped0", "I", false)
  | 39 => ("HedgeCouncilModel", "orderAt", "I", false)
  | 40 => ("HedgeCouncilModel", "howOften", "I", false)
  | 41 => ("HedgeCouncilModel", "head", "I", false)
  | 42 => ("HedgeCouncilModel", "sumsAre", "Z", false)
  | 43 => ("HedgeCouncilModel", "testIs", "Z", false)
  | 44 => ("HedgeCouncilModel", "sums", "[J", true)
  | 45 => ("HedgeCouncilModel", "drawnMoved", "[I", true)
  | 46 => ("HedgeCouncilModel", "drawnMany", "I", false)
  | _ => ("HedgeCouncilModel", "latest", "I", false)
def tyX10 : Nat → FieldType := fun k => match k with
  | 0 => .int
  | 1 => .array .int
  | 2 => .array .int
  | 3 => .array .int
  | 4 => .array .boolean
  | 5 => .array .int
  | 6 => .int
  | 7 => .array .byte
  | 8 => .int
  | 9 => .int
  | 10 => .boolean
  | 11 => .array .byte
  | 12 => .array .int
  | 13 => .int
  | 14 => .int
  | 15 => .array .int
  | 16 => .array .int
  | 17 => .array .int
  | 18 => .int
  | 19 => .int
  | 20 => .int
  | 21 => .int
  | 22 => .int
  | 23 => .int
  | 24 => .boolean
  | 25 => .boolean
  | 26 => .array .int
  | 27 => .int
  | 28 => .int
  | 29 => .array .int
  | 30 => .array .int
  | 31 => .array .int
  | 32 => .int
  | 33 => .array .int
  | 34 => .array .int
  | 35 => .array .int
  | 36 => .array .int
  | 37 => .array .long
  | 38 => .int
  | 39 => .int
  | 40 => .int
  | 41 => .int
  | 42 => .boolean
  | 43 => .boolean
  | 44 => .array .long
  | 45 => .array .int
  | 46 => .int
  | _ => .int
theorem nmX10 : ∀ a, a < 48 → ∀ b, b < 48 → a ≠ b → (TX10 a).2.1 ≠ (TX10 b).2.1 := by decide +kernel
theorem tyX10_ok : ∀ k, k < 48 → parseFieldDescriptor (TX10 k).2.2.1 = some (tyX10 k) := by decide +kernel
abbrev cX10_lies : ByteArray := prog_12_method_1_code
def yX10_lies : MethodName := ⟨RX10, "lies", "(III)Z"⟩
abbrev cX10_lesser : ByteArray := prog_12_method_2_code
def yX10_lesser : MethodName := ⟨RX10, "lesser", "(II)I"⟩
abbrev cX10_greater : ByteArray := prog_12_method_3_code
def yX10_greater : MethodName := ⟨RX10, "greater", "(II)I"⟩
abbrev cX10_refuses : ByteArray := prog_12_method_4_code
def yX10_refuses : MethodName := ⟨RX10, "refuses", "(I)I"⟩
abbrev cX10_good : ByteArray := prog_12_method_5_code
def yX10_good : MethodName := ⟨RX10, "good", "(I)I"⟩
abbrev cX10_settled : ByteArray := prog_12_method_6_code
def yX10_settled : MethodName := ⟨RX10, "settled", "(I)I"⟩
abbrev cX10_isIn : ByteArray := prog_12_method_7_code
def yX10_isIn : MethodName := ⟨RX10, "isIn", "(II)Z"⟩
abbrev cX10_ones : ByteArray := prog_12_method_8_code
def yX10_ones : MethodName := ⟨RX10, "ones", "(I)I"⟩
abbrev cX10_isNine : ByteArray := prog_12_method_9_code
def yX10_isNine : MethodName := ⟨RX10, "isNine", "(I)Z"⟩
abbrev cX10_isBit : ByteArray := prog_12_method_10_code
def yX10_isBit : MethodName := ⟨RX10, "isBit", "(I)Z"⟩
abbrev cX10_init : ByteArray := prog_12_method_11_code
def yX10_init : MethodName := ⟨RX10, "<init>", "()V"⟩
abbrev cX10_laysAside : ByteArray := prog_12_method_12_code
def yX10_laysAside : MethodName := ⟨RX10, "laysAside", "(I)V"⟩
abbrev cX10_takesBack : ByteArray := prog_12_method_13_code
def yX10_takesBack : MethodName := ⟨RX10, "takesBack", "(I)V"⟩
abbrev cX10_image : ByteArray := prog_12_method_14_code
def yX10_image : MethodName := ⟨RX10, "image", "(I)I"⟩
abbrev cX10_back : ByteArray := prog_12_method_15_code
def yX10_back : MethodName := ⟨RX10, "back", "(I)I"⟩
abbrev cX10_many : ByteArray := prog_12_method_16_code
def yX10_many : MethodName := ⟨RX10, "many", "()I"⟩
abbrev cX10_everybody : ByteArray := prog_12_method_17_code
def yX10_everybody : MethodName := ⟨RX10, "everybody", "()I"⟩
abbrev cX10_isOne : ByteArray := prog_12_method_18_code
def yX10_isOne : MethodName := ⟨RX10, "isOne", "(I)Z"⟩
abbrev cX10_isOpen : ByteArray := prog_12_method_19_code
def yX10_isOpen : MethodName := ⟨RX10, "isOpen", "(I)Z"⟩
abbrev cX10_adds : ByteArray := prog_12_method_20_code
def yX10_adds : MethodName := ⟨RX10, "adds", "(III)I"⟩
abbrev cX10_hedgehog : ByteArray := prog_12_method_21_code
def yX10_hedgehog : MethodName := ⟨RX10, "hedgehog", "(II)I"⟩
abbrev cX10_watch : ByteArray := prog_12_method_22_code
def yX10_watch : MethodName := ⟨RX10, "watch", "(III)I"⟩
abbrev cX10_toldBare : ByteArray := prog_12_method_23_code
def yX10_toldBare : MethodName := ⟨RX10, "toldBare", "(II)I"⟩
abbrev cX10_toldByLaw : ByteArray := prog_12_method_24_code
def yX10_toldByLaw : MethodName := ⟨RX10, "toldByLaw", "(II)I"⟩
abbrev cX10_of : ByteArray := prog_12_method_25_code
def yX10_of : MethodName := ⟨RX10, "of", "(II)I"⟩
abbrev cX10_isTerm : ByteArray := prog_12_method_26_code
def yX10_isTerm : MethodName := ⟨RX10, "isTerm", "(II)Z"⟩
abbrev cX10_termAt : ByteArray := prog_12_method_27_code
def yX10_termAt : MethodName := ⟨RX10, "termAt", "(I)I"⟩
abbrev cX10_terms : ByteArray := prog_12_method_28_code
def yX10_terms : MethodName := ⟨RX10, "terms", "(II)I"⟩
abbrev cX10_watchAt : ByteArray := prog_12_method_29_code
def yX10_watchAt : MethodName := ⟨RX10, "watchAt", "(I)I"⟩
abbrev cX10_canRow : ByteArray := prog_12_method_30_code
def yX10_canRow : MethodName := ⟨RX10, "canRow", "(I)Z"⟩
abbrev cX10_row : ByteArray := prog_12_method_31_code
def yX10_row : MethodName := ⟨RX10, "row", "()I"⟩
abbrev cX10_burrs : ByteArray := prog_12_method_32_code
def yX10_burrs : MethodName := ⟨RX10, "burrs", "()I"⟩
abbrev cX10_feed : ByteArray := prog_12_method_33_code
def yX10_feed : MethodName := ⟨RX10, "feed", "(IIIII)I"⟩
abbrev cX10_end : ByteArray := prog_12_method_34_code
def yX10_end : MethodName := ⟨RX10, "end", "(I)I"⟩
abbrev cX10_isSmall : ByteArray := prog_12_method_35_code
def yX10_isSmall : MethodName := ⟨RX10, "isSmall", "(I)Z"⟩
abbrev cX10_isDigit : ByteArray := prog_12_method_36_code
def yX10_isDigit : MethodName := ⟨RX10, "isDigit", "(I)Z"⟩
abbrev cX10_wordOf : ByteArray := prog_12_method_37_code
def yX10_wordOf : MethodName := ⟨RX10, "wordOf", "(II)I"⟩
abbrev cX10_splits : ByteArray := prog_12_method_38_code
def yX10_splits : MethodName := ⟨RX10, "splits", "(I)V"⟩
abbrev cX10_fine : ByteArray := prog_12_method_39_code
def yX10_fine : MethodName := ⟨RX10, "fine", "()Z"⟩
abbrev cX10_faults : ByteArray := prog_12_method_40_code
def yX10_faults : MethodName := ⟨RX10, "faults", "()V"⟩
abbrev cX10_takes0 : ByteArray := prog_12_method_41_code
def yX10_takes0 : MethodName := ⟨RX10, "takes0", "(I)Z"⟩
abbrev cX10_must : ByteArray := prog_12_method_42_code
def yX10_must : MethodName := ⟨RX10, "must", "(I)V"⟩
abbrev cX10_leaf : ByteArray := prog_12_method_43_code
def yX10_leaf : MethodName := ⟨RX10, "leaf", "()V"⟩
abbrev cX10_sign : ByteArray := prog_12_method_44_code
def yX10_sign : MethodName := ⟨RX10, "sign", "(C)I"⟩
abbrev cX10_mustNumber : ByteArray := prog_12_method_45_code
def yX10_mustNumber : MethodName := ⟨RX10, "mustNumber", "(II)V"⟩
abbrev cX10_readClause : ByteArray := prog_12_method_46_code
def yX10_readClause : MethodName := ⟨RX10, "readClause", "()V"⟩
abbrev cX10_readOrder : ByteArray := prog_12_method_47_code
def yX10_readOrder : MethodName := ⟨RX10, "readOrder", "()V"⟩
abbrev cX10_readOne : ByteArray := prog_12_method_48_code
def yX10_readOne : MethodName := ⟨RX10, "readOne", "()V"⟩
abbrev cX10_readTest : ByteArray := prog_12_method_49_code
def yX10_readTest : MethodName := ⟨RX10, "readTest", "(I)V"⟩
abbrev cX10_readBoth : ByteArray := prog_12_method_50_code
def yX10_readBoth : MethodName := ⟨RX10, "readBoth", "(I)V"⟩
abbrev cX10_readPlain : ByteArray := prog_12_method_51_code
def yX10_readPlain : MethodName := ⟨RX10, "readPlain", "(I)V"⟩
abbrev cX10_readSum : ByteArray := prog_12_method_52_code
def yX10_readSum : MethodName := ⟨RX10, "readSum", "(I)V"⟩
abbrev cX10_readTerm : ByteArray := prog_12_method_53_code
def yX10_readTerm : MethodName := ⟨RX10, "readTerm", "(I)V"⟩
abbrev cX10_readPart : ByteArray := prog_12_method_54_code
def yX10_readPart : MethodName := ⟨RX10, "readPart", "(I)V"⟩
abbrev cX10_reads : ByteArray := prog_12_method_55_code
def yX10_reads : MethodName := ⟨RX10, "reads", "()Z"⟩
abbrev cX10_readsAs : ByteArray := prog_12_method_56_code
def yX10_readsAs : MethodName := ⟨RX10, "readsAs", "(Z)Z"⟩
abbrev cX10_lays : ByteArray := prog_12_method_57_code
def yX10_lays : MethodName := ⟨RX10, "lays", "(I)V"⟩
abbrev cX10_law : ByteArray := prog_12_method_58_code
def yX10_law : MethodName := ⟨RX10, "law", "()I"⟩
abbrev cX10_fault : ByteArray := prog_12_method_59_code
def yX10_fault : MethodName := ⟨RX10, "fault", "()I"⟩
abbrev cX10_isLaw : ByteArray := prog_12_method_60_code
def yX10_isLaw : MethodName := ⟨RX10, "isLaw", "(I)Z"⟩
abbrev cX10_force : ByteArray := prog_12_method_61_code
def yX10_force : MethodName := ⟨RX10, "force", "(I)I"⟩
abbrev cX10_codeAt : ByteArray := prog_12_method_62_code
def yX10_codeAt : MethodName := ⟨RX10, "codeAt", "(I)I"⟩
abbrev cX10_passes0 : ByteArray := prog_12_method_63_code
def yX10_passes0 : MethodName := ⟨RX10, "passes0", "(I)Z"⟩
abbrev cX10_bounded : ByteArray := prog_12_method_64_code
def yX10_bounded : MethodName := ⟨RX10, "bounded", "(JZ)J"⟩
abbrev cX10_sumOf : ByteArray := prog_12_method_65_code
def yX10_sumOf : MethodName := ⟨RX10, "sumOf", "(Z)J"⟩
abbrev cX10_termOf : ByteArray := prog_12_method_66_code
def yX10_termOf : MethodName := ⟨RX10, "termOf", "(Z)J"⟩
abbrev cX10_partOf : ByteArray := prog_12_method_67_code
def yX10_partOf : MethodName := ⟨RX10, "partOf", "(Z)J"⟩
abbrev cX10_orderValue : ByteArray := prog_12_method_68_code
def yX10_orderValue : MethodName := ⟨RX10, "orderValue", "(II)I"⟩
abbrev cX10_testOf : ByteArray := prog_12_method_69_code
def yX10_testOf : MethodName := ⟨RX10, "testOf", "(Z)Z"⟩
abbrev cX10_bothOf : ByteArray := prog_12_method_70_code
def yX10_bothOf : MethodName := ⟨RX10, "bothOf", "(Z)Z"⟩
abbrev cX10_plainOf : ByteArray := prog_12_method_71_code
def yX10_plainOf : MethodName := ⟨RX10, "plainOf", "(Z)Z"⟩
abbrev cX10_positiveOf : ByteArray := prog_12_method_72_code
def yX10_positiveOf : MethodName := ⟨RX10, "positiveOf", "(Z)Z"⟩
abbrev cX10_nearOf : ByteArray := prog_12_method_73_code
def yX10_nearOf : MethodName := ⟨RX10, "nearOf", "(I)I"⟩
abbrev cX10_setsAsked : ByteArray := prog_12_method_74_code
def yX10_setsAsked : MethodName := ⟨RX10, "setsAsked", "(I)V"⟩
abbrev cX10_tells : ByteArray := prog_12_method_75_code
def yX10_tells : MethodName := ⟨RX10, "tells", "(III)I"⟩
abbrev cX10_needsNow : ByteArray := prog_12_method_76_code
def yX10_needsNow : MethodName := ⟨RX10, "needsNow", "(I)I"⟩
abbrev cX10_wantsNow : ByteArray := prog_12_method_77_code
def yX10_wantsNow : MethodName := ⟨RX10, "wantsNow", "(I)I"⟩
abbrev cX10_shutsNow : ByteArray := prog_12_method_78_code
def yX10_shutsNow : MethodName := ⟨RX10, "shutsNow", "(I)Z"⟩
abbrev cX10_opensNext : ByteArray := prog_12_method_79_code
def yX10_opensNext : MethodName := ⟨RX10, "opensNext", "(I)Z"⟩
abbrev cX10_minutePasses : ByteArray := prog_12_method_80_code
def yX10_minutePasses : MethodName := ⟨RX10, "minutePasses", "(I)I"⟩
abbrev cX10_touches : ByteArray := prog_12_method_81_code
def yX10_touches : MethodName := ⟨RX10, "touches", "(I)V"⟩
abbrev cX10_keeps : ByteArray := prog_12_method_82_code
def yX10_keeps : MethodName := ⟨RX10, "keeps", "(I)V"⟩
abbrev cX10_undo : ByteArray := prog_12_method_83_code
def yX10_undo : MethodName := ⟨RX10, "undo", "()I"⟩
abbrev cX10_goodOr : ByteArray := prog_12_method_84_code
def yX10_goodOr : MethodName := ⟨RX10, "goodOr", "(I)I"⟩
abbrev cX10_touchesKept : ByteArray := prog_12_method_85_code
def yX10_touchesKept : MethodName := ⟨RX10, "touchesKept", "(I)I"⟩
abbrev cX10_coaxesKept : ByteArray := prog_12_method_86_code
def yX10_coaxesKept : MethodName := ⟨RX10, "coaxesKept", "(I)I"⟩
abbrev cX10_temptsKept : ByteArray := prog_12_method_87_code
def yX10_temptsKept : MethodName := ⟨RX10, "temptsKept", "(II)I"⟩
abbrev cX10_passesKept : ByteArray := prog_12_method_88_code
def yX10_passesKept : MethodName := ⟨RX10, "passesKept", "()I"⟩
abbrev cX10_touch : ByteArray := prog_12_method_89_code
def yX10_touch : MethodName := ⟨RX10, "touch", "(I)I"⟩
abbrev cX10_coax : ByteArray := prog_12_method_90_code
def yX10_coax : MethodName := ⟨RX10, "coax", "(I)I"⟩
abbrev cX10_tempt : ByteArray := prog_12_method_91_code
def yX10_tempt : MethodName := ⟨RX10, "tempt", "(II)I"⟩
abbrev cX10_pass : ByteArray := prog_12_method_92_code
def yX10_pass : MethodName := ⟨RX10, "pass", "()I"⟩
abbrev cX10_laysMinutes : ByteArray := prog_12_method_93_code
def yX10_laysMinutes : MethodName := ⟨RX10, "laysMinutes", "(IIII)I"⟩
abbrev cX10_isSettled : ByteArray := prog_12_method_94_code
def yX10_isSettled : MethodName := ⟨RX10, "isSettled", "(I)Z"⟩
abbrev cX10_laysAllMinutes : ByteArray := prog_12_method_95_code
def yX10_laysAllMinutes : MethodName := ⟨RX10, "laysAllMinutes", "(III)V"⟩
abbrev cX10_opensBy : ByteArray := prog_12_method_96_code
def yX10_opensBy : MethodName := ⟨RX10, "opensBy", "(II)I"⟩
abbrev cX10_later : ByteArray := prog_12_method_97_code
def yX10_later : MethodName := ⟨RX10, "later", "(I)I"⟩
abbrev cX10_opens : ByteArray := prog_12_method_98_code
def yX10_opens : MethodName := ⟨RX10, "opens", "(I)I"⟩
abbrev cX10_together : ByteArray := prog_12_method_99_code
def yX10_together : MethodName := ⟨RX10, "together", "()I"⟩
abbrev cX10_again : ByteArray := prog_12_method_100_code
def yX10_again : MethodName := ⟨RX10, "again", "()I"⟩
abbrev cX10_fewestFor : ByteArray := prog_12_method_101_code
def yX10_fewestFor : MethodName := ⟨RX10, "fewestFor", "(II)I"⟩
abbrev cX10_toldOf : ByteArray := prog_12_method_102_code
def yX10_toldOf : MethodName := ⟨RX10, "toldOf", "(II)I"⟩
abbrev cX10_shutNow : ByteArray := prog_12_method_103_code
def yX10_shutNow : MethodName := ⟨RX10, "shutNow", "()I"⟩
abbrev cX10_seeds : ByteArray := prog_12_method_104_code
def yX10_seeds : MethodName := ⟨RX10, "seeds", "(I)I"⟩
abbrev cX10_seedsFor : ByteArray := prog_12_method_105_code
def yX10_seedsFor : MethodName := ⟨RX10, "seedsFor", "(II)I"⟩
abbrev cX10_openLast : ByteArray := prog_12_method_106_code
def yX10_openLast : MethodName := ⟨RX10, "openLast", "(II)I"⟩
abbrev cX10_spread : ByteArray := prog_12_method_107_code
def yX10_spread : MethodName := ⟨RX10, "spread", "(I)I"⟩
abbrev cX10_staysShut : ByteArray := prog_12_method_108_code
def yX10_staysShut : MethodName := ⟨RX10, "staysShut", "(II)Z"⟩
abbrev cX10_held : ByteArray := prog_12_method_109_code
def yX10_held : MethodName := ⟨RX10, "held", "(II)I"⟩
abbrev cX10_fewestHeld : ByteArray := prog_12_method_110_code
def yX10_fewestHeld : MethodName := ⟨RX10, "fewestHeld", "(I)I"⟩
abbrev cX10_compare : ByteArray := prog_12_method_111_code
def yX10_compare : MethodName := ⟨RX10, "compare", "(I)I"⟩
abbrev cX10_openNext : ByteArray := prog_12_method_112_code
def yX10_openNext : MethodName := ⟨RX10, "openNext", "()I"⟩
abbrev cX10_watches : ByteArray := prog_12_method_113_code
def yX10_watches : MethodName := ⟨RX10, "watches", "(II)Z"⟩
abbrev cX10_laysLeft : ByteArray := prog_12_method_114_code
def yX10_laysLeft : MethodName := ⟨RX10, "laysLeft", "(I)V"⟩
abbrev cX10_chain : ByteArray := prog_12_method_115_code
def yX10_chain : MethodName := ⟨RX10, "chain", "(III)I"⟩
abbrev cX10_nextInChain : ByteArray := prog_12_method_116_code
def yX10_nextInChain : MethodName := ⟨RX10, "nextInChain", "(I)I"⟩
abbrev cX10_reached : ByteArray := prog_12_method_117_code
def yX10_reached : MethodName := ⟨RX10, "reached", "(I)I"⟩
abbrev cX10_laysKnots : ByteArray := prog_12_method_118_code
def yX10_laysKnots : MethodName := ⟨RX10, "laysKnots", "()V"⟩
abbrev cX10_isLowest : ByteArray := prog_12_method_119_code
def yX10_isLowest : MethodName := ⟨RX10, "isLowest", "(I)Z"⟩
abbrev cX10_knots : ByteArray := prog_12_method_120_code
def yX10_knots : MethodName := ⟨RX10, "knots", "()I"⟩
abbrev cX10_isReached : ByteArray := prog_12_method_121_code
def yX10_isReached : MethodName := ⟨RX10, "isReached", "(I)Z"⟩
abbrev cX10_heads : ByteArray := prog_12_method_122_code
def yX10_heads : MethodName := ⟨RX10, "heads", "(I)I"⟩
abbrev cX10_seen : ByteArray := prog_12_method_123_code
def yX10_seen : MethodName := ⟨RX10, "seen", "(II)I"⟩
abbrev cX10_forget : ByteArray := prog_12_method_124_code
def yX10_forget : MethodName := ⟨RX10, "forget", "()I"⟩
abbrev cX10_asSeen : ByteArray := prog_12_method_125_code
def yX10_asSeen : MethodName := ⟨RX10, "asSeen", "(I)I"⟩
abbrev cX10_canBe : ByteArray := prog_12_method_126_code
def yX10_canBe : MethodName := ⟨RX10, "canBe", "()I"⟩
abbrev cX10_look : ByteArray := prog_12_method_127_code
def yX10_look : MethodName := ⟨RX10, "look", "(I)I"⟩
abbrev cX10_few : ByteArray := prog_12_method_128_code
def yX10_few : MethodName := ⟨RX10, "few", "(II)J"⟩
abbrev cX10_stopped : ByteArray := prog_12_method_129_code
def yX10_stopped : MethodName := ⟨RX10, "stopped", "()I"⟩
abbrev cX10_orders : ByteArray := prog_12_method_130_code
def yX10_orders : MethodName := ⟨RX10, "orders", "()I"⟩
abbrev cX10_goesAlong : ByteArray := prog_12_method_131_code
def yX10_goesAlong : MethodName := ⟨RX10, "goesAlong", "(IZ)V"⟩
abbrev cX10_small : ByteArray := prog_12_method_132_code
def yX10_small : MethodName := ⟨RX10, "small", "(J)I"⟩
abbrev cX10_obeys : ByteArray := prog_12_method_133_code
def yX10_obeys : MethodName := ⟨RX10, "obeys", "()I"⟩
abbrev cX10_runs : ByteArray := prog_12_method_134_code
def yX10_runs : MethodName := ⟨RX10, "runs", "(I)Z"⟩
abbrev cX10_draws : ByteArray := prog_12_method_135_code
def yX10_draws : MethodName := ⟨RX10, "draws", "(I)I"⟩
abbrev cX10_drawnAct : ByteArray := prog_12_method_136_code
def yX10_drawnAct : MethodName := ⟨RX10, "drawnAct", "()V"⟩
abbrev cX10_councils : ByteArray := prog_12_method_137_code
def yX10_councils : MethodName := ⟨RX10, "councils", "(II)I"⟩
abbrev cX10_drawn : ByteArray := prog_12_method_138_code
def yX10_drawn : MethodName := ⟨RX10, "drawn", "(II)I"⟩
abbrev cX10_refusals : ByteArray := prog_12_method_139_code
def yX10_refusals : MethodName := ⟨RX10, "refusals", "(I)I"⟩
abbrev cX10_count : ByteArray := prog_12_method_140_code
def yX10_count : MethodName := ⟨RX10, "count", "(I)I"⟩
abbrev cX10_status : ByteArray := prog_12_method_141_code
def yX10_status : MethodName := ⟨RX10, "status", "()I"⟩
def RJ6 : String := "java/lang/Integer"
abbrev cJ6_lowestOneBit_0f7a4 : ByteArray := prog_13_method_46_code
def yJ6_lowestOneBit_0f7a4 : MethodName := ⟨RJ6, "lowestOneBit", "(I)I"⟩
abbrev cJ6_bitCount_0f7a4 : ByteArray := prog_13_method_49_code
def yJ6_bitCount_0f7a4 : MethodName := ⟨RJ6, "bitCount", "(I)I"⟩
def RJ9 : String := "java/lang/Math"
abbrev cJ9_max_7cf53 : ByteArray := prog_14_method_65_code
def yJ9_max_7cf53 : MethodName := ⟨RJ9, "max", "(II)I"⟩
abbrev cJ9_max_f86c9 : ByteArray := prog_14_method_66_code
def yJ9_max_f86c9 : MethodName := ⟨RJ9, "max", "(JJ)J"⟩
abbrev cJ9_min_7cf53 : ByteArray := prog_14_method_69_code
def yJ9_min_7cf53 : MethodName := ⟨RJ9, "min", "(II)I"⟩
abbrev cJ9_min_f86c9 : ByteArray := prog_14_method_70_code
def yJ9_min_f86c9 : MethodName := ⟨RJ9, "min", "(JJ)J"⟩
def RJ0 : String := "java/lang/String"
abbrev cJ0_length_8abf5 : ByteArray := prog_15_method_54_code
def yJ0_length_8abf5 : MethodName := ⟨RJ0, "length", "()I"⟩
abbrev cJ0_charAt_5068e : ByteArray := prog_15_method_56_code
def yJ0_charAt_5068e : MethodName := ⟨RJ0, "charAt", "(I)C"⟩
abbrev cJ0_coder_7d493 : ByteArray := prog_15_method_152_code
def yJ0_coder_7d493 : MethodName := ⟨RJ0, "coder", "()B"⟩
abbrev cJ0_isLatin1_aae02 : ByteArray := prog_15_method_154_code
def yJ0_isLatin1_aae02 : MethodName := ⟨RJ0, "isLatin1", "()Z"⟩
abbrev cJ0_checkIndex_df160 : ByteArray := prog_15_method_155_code
def yJ0_checkIndex_df160 : MethodName := ⟨RJ0, "checkIndex", "(II)V"⟩
def RJ1 : String := "java/lang/StringLatin1"
abbrev cJ1_charAt_3b067 : ByteArray := prog_16_method_2_code
def yJ1_charAt_3b067 : MethodName := ⟨RJ1, "charAt", "([BI)C"⟩
def RJ2 : String := "java/lang/StringUTF16"
abbrev cJ2_getChar_3b067 : ByteArray := prog_17_method_5_code
def yJ2_getChar_3b067 : MethodName := ⟨RJ2, "getChar", "([BI)C"⟩
abbrev cJ2_length_9d52b : ByteArray := prog_17_method_6_code
def yJ2_length_9d52b : MethodName := ⟨RJ2, "length", "([B)I"⟩
abbrev cJ2_charAt_3b067 : ByteArray := prog_17_method_83_code
def yJ2_charAt_3b067 : MethodName := ⟨RJ2, "charAt", "([BI)C"⟩
abbrev cJ2_checkIndex_2214a : ByteArray := prog_17_method_91_code
def yJ2_checkIndex_2214a : MethodName := ⟨RJ2, "checkIndex", "(I[B)V"⟩
def RJ10 : String := "java/lang/System"
def RJ7 : String := "java/util/Arrays"
abbrev cJ7_fill_d0a16 : ByteArray := prog_19_method_101_code
def yJ7_fill_d0a16 : MethodName := ⟨RJ7, "fill", "([JJ)V"⟩
def RJ3 : String := "jdk/internal/util/Preconditions"
abbrev cJ3_checkIndex_8e157 : ByteArray := prog_20_method_11_code
def yJ3_checkIndex_8e157 : MethodName := ⟨RJ3, "checkIndex", "(IILjava/util/function/BiFunction;)I"⟩
def RL : String := "HedgeCouncilLaw"
abbrev cL_law : ByteArray := code
def yL_law : MethodName := ⟨RL, "law", "([I)Z"⟩
abbrev vwCl : List vw_C := [(RX0, TX0, 13), (RX1, TX1, 4), (RX2, TX2, 3), (RX3, TX3, 4), (RX4, TX4, 4), (RX5, TX5, 2), (RX6, TX6, 10), (RX7, TX7, 2), (RX8, TX8, 9), (RX9, TX9, 18), (RX10, TX10, 48)]
