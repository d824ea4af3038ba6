section
-- ===== PART A: goes FIRST, ahead of the names: the tables' words, and 'selects' of the private methods out of them =====
/-- a private method of a class that the tables say can be made, by its rows of tables_1 -/
def lw_okq (q : MethodName × Nat) : Prop := (q.1.cls ≠ "java/lang/invoke/MethodHandle" ∧ q.1.cls ≠ "java/lang/invoke/VarHandle") ∧ Cond.instantiable q.1.cls q.2 ∈ tables_1 ∧ Cond.privateMethod q.1 ∈ tables_1 ∧ Cond.instanceMethod q.1 ∈ tables_1
theorem lw_p0 : lw_okq (⟨"WashingLines$Text", "splitAt", "(I)I"⟩, 8) := ⟨⟨by decide +kernel, by decide +kernel⟩, List.mem_of_getElem? (i := 31) (by decide +kernel), List.mem_of_getElem? (i := 525) (by decide +kernel), List.mem_of_getElem? (i := 526) (by decide +kernel)⟩
theorem lw_p1 : lw_okq (⟨"WashingLines$Text", "byteAt", "(I)I"⟩, 8) := ⟨⟨by decide +kernel, by decide +kernel⟩, List.mem_of_getElem? (i := 31) (by decide +kernel), List.mem_of_getElem? (i := 529) (by decide +kernel), List.mem_of_getElem? (i := 530) (by decide +kernel)⟩
theorem lw_p2 : lw_okq (⟨"WashingLines$Text", "splitNumber", "(I)I"⟩, 8) := ⟨⟨by decide +kernel, by decide +kernel⟩, List.mem_of_getElem? (i := 31) (by decide +kernel), List.mem_of_getElem? (i := 536) (by decide +kernel), List.mem_of_getElem? (i := 537) (by decide +kernel)⟩
theorem lw_p3 : lw_okq (⟨"WashingLines$Text", "addToken", "(III)V"⟩, 8) := ⟨⟨by decide +kernel, by decide +kernel⟩, List.mem_of_getElem? (i := 31) (by decide +kernel), List.mem_of_getElem? (i := 540) (by decide +kernel), List.mem_of_getElem? (i := 541) (by decide +kernel)⟩
theorem lw_p4 : lw_okq (⟨"WashingLines$Text", "splitWord", "(I)I"⟩, 8) := ⟨⟨by decide +kernel, by decide +kernel⟩, List.mem_of_getElem? (i := 31) (by decide +kernel), List.mem_of_getElem? (i := 547) (by decide +kernel), List.mem_of_getElem? (i := 548) (by decide +kernel)⟩
theorem lw_p5 : lw_okq (⟨"WashingLines$Text", "wordKind", "(II)I"⟩, 8) := ⟨⟨by decide +kernel, by decide +kernel⟩, List.mem_of_getElem? (i := 31) (by decide +kernel), List.mem_of_getElem? (i := 551) (by decide +kernel), List.mem_of_getElem? (i := 552) (by decide +kernel)⟩
theorem lw_p6 : lw_okq (⟨"WashingLines$Text", "isWordAt", "(III)Z"⟩, 8) := ⟨⟨by decide +kernel, by decide +kernel⟩, List.mem_of_getElem? (i := 31) (by decide +kernel), List.mem_of_getElem? (i := 604) (by decide +kernel), List.mem_of_getElem? (i := 605) (by decide +kernel)⟩
theorem lw_p7 : lw_okq (⟨"WashingLines$Text", "splitSign", "(I)I"⟩, 8) := ⟨⟨by decide +kernel, by decide +kernel⟩, List.mem_of_getElem? (i := 31) (by decide +kernel), List.mem_of_getElem? (i := 608) (by decide +kernel), List.mem_of_getElem? (i := 609) (by decide +kernel)⟩
theorem lw_p8 : lw_okq (⟨"WashingLines$CourtReader", "hasPlace", "(I)Z"⟩, 1) := ⟨⟨by decide +kernel, by decide +kernel⟩, List.mem_of_getElem? (i := 66) (by decide +kernel), List.mem_of_getElem? (i := 683) (by decide +kernel), List.mem_of_getElem? (i := 684) (by decide +kernel)⟩
theorem lw_p9 : lw_okq (⟨"WashingLines$CourtReader", "readClause", "(LWashingLines$Text;I)V"⟩, 1) := ⟨⟨by decide +kernel, by decide +kernel⟩, List.mem_of_getElem? (i := 66) (by decide +kernel), List.mem_of_getElem? (i := 691) (by decide +kernel), List.mem_of_getElem? (i := 692) (by decide +kernel)⟩
theorem lw_p10 : lw_okq (⟨"WashingLines$CourtReader", "readCourt", "(LWashingLines$Text;)V"⟩, 1) := ⟨⟨by decide +kernel, by decide +kernel⟩, List.mem_of_getElem? (i := 66) (by decide +kernel), List.mem_of_getElem? (i := 695) (by decide +kernel), List.mem_of_getElem? (i := 696) (by decide +kernel)⟩
theorem lw_p11 : lw_okq (⟨"WashingLines$CourtReader", "readFamily", "(LWashingLines$Text;)V"⟩, 1) := ⟨⟨by decide +kernel, by decide +kernel⟩, List.mem_of_getElem? (i := 66) (by decide +kernel), List.mem_of_getElem? (i := 710) (by decide +kernel), List.mem_of_getElem? (i := 711) (by decide +kernel)⟩
theorem lw_p12 : lw_okq (⟨"WashingLines$CourtReader", "readLine", "(LWashingLines$Text;)V"⟩, 1) := ⟨⟨by decide +kernel, by decide +kernel⟩, List.mem_of_getElem? (i := 66) (by decide +kernel), List.mem_of_getElem? (i := 714) (by decide +kernel), List.mem_of_getElem? (i := 715) (by decide +kernel)⟩
theorem lw_p13 : lw_okq (⟨"WashingLines$CourtReader", "readLinen", "(LWashingLines$Text;)V"⟩, 1) := ⟨⟨by decide +kernel, by decide +kernel⟩, List.mem_of_getElem? (i := 66) (by decide +kernel), List.mem_of_getElem? (i := 726) (by decide +kernel), List.mem_of_getElem? (i := 727) (by decide +kernel)⟩
theorem lw_p14 : lw_okq (⟨"WashingLines$CourtReader", "readRain", "(LWashingLines$Text;)V"⟩, 1) := ⟨⟨by decide +kernel, by decide +kernel⟩, List.mem_of_getElem? (i := 66) (by decide +kernel), List.mem_of_getElem? (i := 730) (by decide +kernel), List.mem_of_getElem? (i := 731) (by decide +kernel)⟩
theorem lw_p15 : lw_okq (⟨"WashingLines$CourtReader", "readHung", "(LWashingLines$Text;)V"⟩, 1) := ⟨⟨by decide +kernel, by decide +kernel⟩, List.mem_of_getElem? (i := 66) (by decide +kernel), List.mem_of_getElem? (i := 734) (by decide +kernel), List.mem_of_getElem? (i := 735) (by decide +kernel)⟩
def lw_privs_1 : List (MethodName × Nat) := [(⟨"WashingLines$Text", "splitAt", "(I)I"⟩, 8), (⟨"WashingLines$Text", "byteAt", "(I)I"⟩, 8), (⟨"WashingLines$Text", "splitNumber", "(I)I"⟩, 8), (⟨"WashingLines$Text", "addToken", "(III)V"⟩, 8), (⟨"WashingLines$Text", "splitWord", "(I)I"⟩, 8), (⟨"WashingLines$Text", "wordKind", "(II)I"⟩, 8), (⟨"WashingLines$Text", "isWordAt", "(III)Z"⟩, 8), (⟨"WashingLines$Text", "splitSign", "(I)I"⟩, 8), (⟨"WashingLines$CourtReader", "hasPlace", "(I)Z"⟩, 1), (⟨"WashingLines$CourtReader", "readClause", "(LWashingLines$Text;I)V"⟩, 1), (⟨"WashingLines$CourtReader", "readCourt", "(LWashingLines$Text;)V"⟩, 1), (⟨"WashingLines$CourtReader", "readFamily", "(LWashingLines$Text;)V"⟩, 1), (⟨"WashingLines$CourtReader", "readLine", "(LWashingLines$Text;)V"⟩, 1), (⟨"WashingLines$CourtReader", "readLinen", "(LWashingLines$Text;)V"⟩, 1), (⟨"WashingLines$CourtReader", "readRain", "(LWashingLines$Text;)V"⟩, 1), (⟨"WashingLines$CourtReader", "readHung", "(LWashingLines$Text;)V"⟩, 1)]
theorem lw_r1 : ∀ q ∈ lw_privs_1, lw_okq q := List.forall_mem_cons.mpr ⟨lw_p0, List.forall_mem_cons.mpr ⟨lw_p1, List.forall_mem_cons.mpr ⟨lw_p2, List.forall_mem_cons.mpr ⟨lw_p3, List.forall_mem_cons.mpr ⟨lw_p4, List.forall_mem_cons.mpr ⟨lw_p5, List.forall_mem_cons.mpr ⟨lw_p6, List.forall_mem_cons.mpr ⟨lw_p7, List.forall_mem_cons.mpr ⟨lw_p8, List.forall_mem_cons.mpr ⟨lw_p9, List.forall_mem_cons.mpr ⟨lw_p10, List.forall_mem_cons.mpr ⟨lw_p11, List.forall_mem_cons.mpr ⟨lw_p12, List.forall_mem_cons.mpr ⟨lw_p13, List.forall_mem_cons.mpr ⟨lw_p14, List.forall_mem_cons.mpr ⟨lw_p15, fun _ h => absurd h List.not_mem_nil⟩⟩⟩⟩⟩⟩⟩⟩⟩⟩⟩⟩⟩⟩⟩⟩
theorem lw_p16 : lw_okq (⟨"WashingLines$RuleReader", "readSum", "(LWashingLines$Text;)V"⟩, 2) := ⟨⟨by decide +kernel, by decide +kernel⟩, List.mem_of_getElem? (i := 236) (by decide +kernel), List.mem_of_getElem? (i := 805) (by decide +kernel), List.mem_of_getElem? (i := 806) (by decide +kernel)⟩
theorem lw_p17 : lw_okq (⟨"WashingLines$RuleReader", "readTerm", "(LWashingLines$Text;)V"⟩, 2) := ⟨⟨by decide +kernel, by decide +kernel⟩, List.mem_of_getElem? (i := 236) (by decide +kernel), List.mem_of_getElem? (i := 809) (by decide +kernel), List.mem_of_getElem? (i := 810) (by decide +kernel)⟩
theorem lw_p18 : lw_okq (⟨"WashingLines$RuleReader", "readTest", "(LWashingLines$Text;I)V"⟩, 2) := ⟨⟨by decide +kernel, by decide +kernel⟩, List.mem_of_getElem? (i := 236) (by decide +kernel), List.mem_of_getElem? (i := 819) (by decide +kernel), List.mem_of_getElem? (i := 820) (by decide +kernel)⟩
theorem lw_p19 : lw_okq (⟨"WashingLines$RuleReader", "readFact", "(LWashingLines$Text;I)V"⟩, 2) := ⟨⟨by decide +kernel, by decide +kernel⟩, List.mem_of_getElem? (i := 236) (by decide +kernel), List.mem_of_getElem? (i := 823) (by decide +kernel), List.mem_of_getElem? (i := 824) (by decide +kernel)⟩
theorem lw_p20 : lw_okq (⟨"WashingLines$RuleReader", "readComparison", "(LWashingLines$Text;)V"⟩, 2) := ⟨⟨by decide +kernel, by decide +kernel⟩, List.mem_of_getElem? (i := 236) (by decide +kernel), List.mem_of_getElem? (i := 827) (by decide +kernel), List.mem_of_getElem? (i := 828) (by decide +kernel)⟩
theorem lw_p21 : lw_okq (⟨"WashingLines", "linesOf", "(I)I"⟩, 9) := ⟨⟨by decide +kernel, by decide +kernel⟩, List.mem_of_getElem? (i := 23) (by decide +kernel), List.mem_of_getElem? (i := 856) (by decide +kernel), List.mem_of_getElem? (i := 857) (by decide +kernel)⟩
theorem lw_p22 : lw_okq (⟨"WashingLines", "startNow", "()V"⟩, 9) := ⟨⟨by decide +kernel, by decide +kernel⟩, List.mem_of_getElem? (i := 23) (by decide +kernel), List.mem_of_getElem? (i := 860) (by decide +kernel), List.mem_of_getElem? (i := 861) (by decide +kernel)⟩
theorem lw_p23 : lw_okq (⟨"WashingLines$Hours", "measureLinen", "(III)V"⟩, 10) := ⟨⟨by decide +kernel, by decide +kernel⟩, List.mem_of_getElem? (i := 349) (by decide +kernel), List.mem_of_getElem? (i := 884) (by decide +kernel), List.mem_of_getElem? (i := 885) (by decide +kernel)⟩
theorem lw_p24 : lw_okq (⟨"WashingLines$Law", "push", "(J)V"⟩, 4) := ⟨⟨by decide +kernel, by decide +kernel⟩, List.mem_of_getElem? (i := 242) (by decide +kernel), List.mem_of_getElem? (i := 897) (by decide +kernel), List.mem_of_getElem? (i := 898) (by decide +kernel)⟩
theorem lw_p25 : lw_okq (⟨"WashingLines$Law", "turnTop", "()V"⟩, 4) := ⟨⟨by decide +kernel, by decide +kernel⟩, List.mem_of_getElem? (i := 242) (by decide +kernel), List.mem_of_getElem? (i := 905) (by decide +kernel), List.mem_of_getElem? (i := 906) (by decide +kernel)⟩
theorem lw_p26 : lw_okq (⟨"WashingLines", "ownerNow", "(I)I"⟩, 9) := ⟨⟨by decide +kernel, by decide +kernel⟩, List.mem_of_getElem? (i := 23) (by decide +kernel), List.mem_of_getElem? (i := 926) (by decide +kernel), List.mem_of_getElem? (i := 927) (by decide +kernel)⟩
theorem lw_p27 : lw_okq (⟨"WashingLines$Hours", "wetBehind", "(I)I"⟩, 10) := ⟨⟨by decide +kernel, by decide +kernel⟩, List.mem_of_getElem? (i := 349) (by decide +kernel), List.mem_of_getElem? (i := 953) (by decide +kernel), List.mem_of_getElem? (i := 954) (by decide +kernel)⟩
theorem lw_p28 : lw_okq (⟨"WashingLines$Seeker", "choosePieces", "(LWashingLines$Court;LWashingLines$Yard;I)V"⟩, 12) := ⟨⟨by decide +kernel, by decide +kernel⟩, List.mem_of_getElem? (i := 396) (by decide +kernel), List.mem_of_getElem? (i := 1027) (by decide +kernel), List.mem_of_getElem? (i := 1028) (by decide +kernel)⟩
theorem lw_p29 : lw_okq (⟨"WashingLines$Seeker", "layRow", "(II)V"⟩, 12) := ⟨⟨by decide +kernel, by decide +kernel⟩, List.mem_of_getElem? (i := 396) (by decide +kernel), List.mem_of_getElem? (i := 1033) (by decide +kernel), List.mem_of_getElem? (i := 1034) (by decide +kernel)⟩
theorem lw_p30 : lw_okq (⟨"WashingLines$Seeker", "hangRow", "(LWashingLines$Hours;)Z"⟩, 12) := ⟨⟨by decide +kernel, by decide +kernel⟩, List.mem_of_getElem? (i := 396) (by decide +kernel), List.mem_of_getElem? (i := 1038) (by decide +kernel), List.mem_of_getElem? (i := 1039) (by decide +kernel)⟩
theorem lw_p31 : lw_okq (⟨"WashingLines$Seeker", "bestFrom", "(LWashingLines$Hours;III)I"⟩, 12) := ⟨⟨by decide +kernel, by decide +kernel⟩, List.mem_of_getElem? (i := 396) (by decide +kernel), List.mem_of_getElem? (i := 1065) (by decide +kernel), List.mem_of_getElem? (i := 1066) (by decide +kernel)⟩
def lw_privs_2 : List (MethodName × Nat) := [(⟨"WashingLines$RuleReader", "readSum", "(LWashingLines$Text;)V"⟩, 2), (⟨"WashingLines$RuleReader", "readTerm", "(LWashingLines$Text;)V"⟩, 2), (⟨"WashingLines$RuleReader", "readTest", "(LWashingLines$Text;I)V"⟩, 2), (⟨"WashingLines$RuleReader", "readFact", "(LWashingLines$Text;I)V"⟩, 2), (⟨"WashingLines$RuleReader", "readComparison", "(LWashingLines$Text;)V"⟩, 2), (⟨"WashingLines", "linesOf", "(I)I"⟩, 9), (⟨"WashingLines", "startNow", "()V"⟩, 9), (⟨"WashingLines$Hours", "measureLinen", "(III)V"⟩, 10), (⟨"WashingLines$Law", "push", "(J)V"⟩, 4), (⟨"WashingLines$Law", "turnTop", "()V"⟩, 4), (⟨"WashingLines", "ownerNow", "(I)I"⟩, 9), (⟨"WashingLines$Hours", "wetBehind", "(I)I"⟩, 10), (⟨"WashingLines$Seeker", "choosePieces", "(LWashingLines$Court;LWashingLines$Yard;I)V"⟩, 12), (⟨"WashingLines$Seeker", "layRow", "(II)V"⟩, 12), (⟨"WashingLines$Seeker", "hangRow", "(LWashingLines$Hours;)Z"⟩, 12), (⟨"WashingLines$Seeker", "bestFrom", "(LWashingLines$Hours;III)I"⟩, 12)]
theorem lw_r2 : ∀ q ∈ lw_privs_2, lw_okq q := List.forall_mem_cons.mpr ⟨lw_p16, List.forall_mem_cons.mpr ⟨lw_p17, List.forall_mem_cons.mpr ⟨lw_p18, List.forall_mem_cons.mpr ⟨lw_p19, List.forall_mem_cons.mpr ⟨lw_p20, List.forall_mem_cons.mpr ⟨lw_p21, List.forall_mem_cons.mpr ⟨lw_p22, List.forall_mem_cons.mpr ⟨lw_p23, List.forall_mem_cons.mpr ⟨lw_p24, List.forall_mem_cons.mpr ⟨lw_p25, List.forall_mem_cons.mpr ⟨lw_p26, List.forall_mem_cons.mpr ⟨lw_p27, List.forall_mem_cons.mpr ⟨lw_p28, List.forall_mem_cons.mpr ⟨lw_p29, List.forall_mem_cons.mpr ⟨lw_p30, List.forall_mem_cons.mpr ⟨lw_p31, fun _ h => absurd h List.not_mem_nil⟩⟩⟩⟩⟩⟩⟩⟩⟩⟩⟩⟩⟩⟩⟩⟩
theorem lw_p32 : lw_okq (⟨"WashingLines$Seeker", "bestBehind", "(LWashingLines$Hours;IIII)I"⟩, 12) := ⟨⟨by decide +kernel, by decide +kernel⟩, List.mem_of_getElem? (i := 396) (by decide +kernel), List.mem_of_getElem? (i := 1072) (by decide +kernel), List.mem_of_getElem? (i := 1073) (by decide +kernel)⟩
theorem lw_p33 : lw_okq (⟨"WashingLines$Seeker", "relax", "(LWashingLines$Court;I)V"⟩, 12) := ⟨⟨by decide +kernel, by decide +kernel⟩, List.mem_of_getElem? (i := 396) (by decide +kernel), List.mem_of_getElem? (i := 1120) (by decide +kernel), List.mem_of_getElem? (i := 1121) (by decide +kernel)⟩
theorem lw_p34 : lw_okq (⟨"WashingLines$Seeker", "distanceFrom", "(I)I"⟩, 12) := ⟨⟨by decide +kernel, by decide +kernel⟩, List.mem_of_getElem? (i := 396) (by decide +kernel), List.mem_of_getElem? (i := 1124) (by decide +kernel), List.mem_of_getElem? (i := 1125) (by decide +kernel)⟩
theorem lw_p35 : lw_okq (⟨"WashingLines$Seeker", "leadsOn", "(LWashingLines$Court;III)Z"⟩, 12) := ⟨⟨by decide +kernel, by decide +kernel⟩, List.mem_of_getElem? (i := 396) (by decide +kernel), List.mem_of_getElem? (i := 1128) (by decide +kernel), List.mem_of_getElem? (i := 1129) (by decide +kernel)⟩
theorem lw_p36 : lw_okq (⟨"WashingLines$Trials", "fits", "(LWashingLines$Hours;LWashingLines$World;I)Z"⟩, 3) := ⟨⟨by decide +kernel, by decide +kernel⟩, List.mem_of_getElem? (i := 444) (by decide +kernel), List.mem_of_getElem? (i := 1167) (by decide +kernel), List.mem_of_getElem? (i := 1168) (by decide +kernel)⟩
theorem lw_p37 : lw_okq (⟨"WashingLinesModel", "put", "(I)V"⟩, 74) := ⟨⟨by decide +kernel, by decide +kernel⟩, List.mem_of_getElem? (i := 1237) (by decide +kernel), List.mem_of_getElem? (i := 1470) (by decide +kernel), List.mem_of_getElem? (i := 1471) (by decide +kernel)⟩
theorem lw_p38 : lw_okq (⟨"WashingLinesModel", "readsAll", "()V"⟩, 74) := ⟨⟨by decide +kernel, by decide +kernel⟩, List.mem_of_getElem? (i := 1237) (by decide +kernel), List.mem_of_getElem? (i := 1482) (by decide +kernel), List.mem_of_getElem? (i := 1483) (by decide +kernel)⟩
theorem lw_p39 : lw_okq (⟨"WashingLinesModel", "starts", "()V"⟩, 74) := ⟨⟨by decide +kernel, by decide +kernel⟩, List.mem_of_getElem? (i := 1237) (by decide +kernel), List.mem_of_getElem? (i := 1486) (by decide +kernel), List.mem_of_getElem? (i := 1487) (by decide +kernel)⟩
theorem lw_p40 : lw_okq (⟨"WashingLinesModel", "courtClause", "(I)V"⟩, 74) := ⟨⟨by decide +kernel, by decide +kernel⟩, List.mem_of_getElem? (i := 1237) (by decide +kernel), List.mem_of_getElem? (i := 1490) (by decide +kernel), List.mem_of_getElem? (i := 1491) (by decide +kernel)⟩
theorem lw_p41 : lw_okq (⟨"WashingLinesModel", "blanks", "()V"⟩, 74) := ⟨⟨by decide +kernel, by decide +kernel⟩, List.mem_of_getElem? (i := 1237) (by decide +kernel), List.mem_of_getElem? (i := 1494) (by decide +kernel), List.mem_of_getElem? (i := 1495) (by decide +kernel)⟩
theorem lw_p42 : lw_okq (⟨"WashingLinesModel", "sign", "()I"⟩, 74) := ⟨⟨by decide +kernel, by decide +kernel⟩, List.mem_of_getElem? (i := 1237) (by decide +kernel), List.mem_of_getElem? (i := 1498) (by decide +kernel), List.mem_of_getElem? (i := 1499) (by decide +kernel)⟩
theorem lw_p43 : lw_okq (⟨"WashingLinesModel", "stood", "(Ljava/lang/String;)Z"⟩, 74) := ⟨⟨by decide +kernel, by decide +kernel⟩, List.mem_of_getElem? (i := 1237) (by decide +kernel), List.mem_of_getElem? (i := 1511) (by decide +kernel), List.mem_of_getElem? (i := 1512) (by decide +kernel)⟩
theorem lw_p44 : lw_okq (⟨"WashingLinesModel", "fails", "(II)V"⟩, 74) := ⟨⟨by decide +kernel, by decide +kernel⟩, List.mem_of_getElem? (i := 1237) (by decide +kernel), List.mem_of_getElem? (i := 1517) (by decide +kernel), List.mem_of_getElem? (i := 1518) (by decide +kernel)⟩
theorem lw_p45 : lw_okq (⟨"WashingLinesModel", "isFull", "(II)Z"⟩, 74) := ⟨⟨by decide +kernel, by decide +kernel⟩, List.mem_of_getElem? (i := 1237) (by decide +kernel), List.mem_of_getElem? (i := 1521) (by decide +kernel), List.mem_of_getElem? (i := 1522) (by decide +kernel)⟩
theorem lw_p46 : lw_okq (⟨"WashingLinesModel", "courtPart", "(I)V"⟩, 74) := ⟨⟨by decide +kernel, by decide +kernel⟩, List.mem_of_getElem? (i := 1237) (by decide +kernel), List.mem_of_getElem? (i := 1525) (by decide +kernel), List.mem_of_getElem? (i := 1526) (by decide +kernel)⟩
theorem lw_p47 : lw_okq (⟨"WashingLinesModel", "amount", "(II)I"⟩, 74) := ⟨⟨by decide +kernel, by decide +kernel⟩, List.mem_of_getElem? (i := 1237) (by decide +kernel), List.mem_of_getElem? (i := 1529) (by decide +kernel), List.mem_of_getElem? (i := 1530) (by decide +kernel)⟩
def lw_privs_3 : List (MethodName × Nat) := [(⟨"WashingLines$Seeker", "bestBehind", "(LWashingLines$Hours;IIII)I"⟩, 12), (⟨"WashingLines$Seeker", "relax", "(LWashingLines$Court;I)V"⟩, 12), (⟨"WashingLines$Seeker", "distanceFrom", "(I)I"⟩, 12), (⟨"WashingLines$Seeker", "leadsOn", "(LWashingLines$Court;III)Z"⟩, 12), (⟨"WashingLines$Trials", "fits", "(LWashingLines$Hours;LWashingLines$World;I)Z"⟩, 3), (⟨"WashingLinesModel", "put", "(I)V"⟩, 74), (⟨"WashingLinesModel", "readsAll", "()V"⟩, 74), (⟨"WashingLinesModel", "starts", "()V"⟩, 74), (⟨"WashingLinesModel", "courtClause", "(I)V"⟩, 74), (⟨"WashingLinesModel", "blanks", "()V"⟩, 74), (⟨"WashingLinesModel", "sign", "()I"⟩, 74), (⟨"WashingLinesModel", "stood", "(Ljava/lang/String;)Z"⟩, 74), (⟨"WashingLinesModel", "fails", "(II)V"⟩, 74), (⟨"WashingLinesModel", "isFull", "(II)Z"⟩, 74), (⟨"WashingLinesModel", "courtPart", "(I)V"⟩, 74), (⟨"WashingLinesModel", "amount", "(II)I"⟩, 74)]
theorem lw_r3 : ∀ q ∈ lw_privs_3, lw_okq q := List.forall_mem_cons.mpr ⟨lw_p32, List.forall_mem_cons.mpr ⟨lw_p33, List.forall_mem_cons.mpr ⟨lw_p34, List.forall_mem_cons.mpr ⟨lw_p35, List.forall_mem_cons.mpr ⟨lw_p36, List.forall_mem_cons.mpr ⟨lw_p37, List.forall_mem_cons.mpr ⟨lw_p38, List.forall_mem_cons.mpr ⟨lw_p39, List.forall_mem_cons.mpr ⟨lw_p40, List.forall_mem_cons.mpr ⟨lw_p41, List.forall_mem_cons.mpr ⟨lw_p42, List.forall_mem_cons.mpr ⟨lw_p43, List.forall_mem_cons.mpr ⟨lw_p44, List.forall_mem_cons.mpr ⟨lw_p45, List.forall_mem_cons.mpr ⟨lw_p46, List.forall_mem_cons.mpr ⟨lw_p47, fun _ h => absurd h List.not_mem_nil⟩⟩⟩⟩⟩⟩⟩⟩⟩⟩⟩⟩⟩⟩⟩⟩
theorem lw_p48 : lw_okq (⟨"WashingLinesModel", "digits", "(I)I"⟩, 74) := ⟨⟨by decide +kernel, by decide +kernel⟩, List.mem_of_getElem? (i := 1237) (by decide +kernel), List.mem_of_getElem? (i := 1534) (by decide +kernel), List.mem_of_getElem? (i := 1535) (by decide +kernel)⟩
theorem lw_p49 : lw_okq (⟨"WashingLinesModel", "isDigit", "()Z"⟩, 74) := ⟨⟨by decide +kernel, by decide +kernel⟩, List.mem_of_getElem? (i := 1237) (by decide +kernel), List.mem_of_getElem? (i := 1538) (by decide +kernel), List.mem_of_getElem? (i := 1539) (by decide +kernel)⟩
theorem lw_p50 : lw_okq (⟨"WashingLinesModel", "readsLinen", "()V"⟩, 74) := ⟨⟨by decide +kernel, by decide +kernel⟩, List.mem_of_getElem? (i := 1237) (by decide +kernel), List.mem_of_getElem? (i := 1547) (by decide +kernel), List.mem_of_getElem? (i := 1548) (by decide +kernel)⟩
theorem lw_p51 : lw_okq (⟨"WashingLinesModel", "readsLine", "()V"⟩, 74) := ⟨⟨by decide +kernel, by decide +kernel⟩, List.mem_of_getElem? (i := 1237) (by decide +kernel), List.mem_of_getElem? (i := 1551) (by decide +kernel), List.mem_of_getElem? (i := 1552) (by decide +kernel)⟩
theorem lw_p52 : lw_okq (⟨"WashingLinesModel", "readsHung", "()V"⟩, 74) := ⟨⟨by decide +kernel, by decide +kernel⟩, List.mem_of_getElem? (i := 1237) (by decide +kernel), List.mem_of_getElem? (i := 1555) (by decide +kernel), List.mem_of_getElem? (i := 1556) (by decide +kernel)⟩
theorem lw_p53 : lw_okq (⟨"WashingLinesModel", "couldHang", "(II)Z"⟩, 74) := ⟨⟨by decide +kernel, by decide +kernel⟩, List.mem_of_getElem? (i := 1237) (by decide +kernel), List.mem_of_getElem? (i := 1559) (by decide +kernel), List.mem_of_getElem? (i := 1560) (by decide +kernel)⟩
theorem lw_p54 : lw_okq (⟨"WashingLinesModel", "goesOn", "()Z"⟩, 74) := ⟨⟨by decide +kernel, by decide +kernel⟩, List.mem_of_getElem? (i := 1237) (by decide +kernel), List.mem_of_getElem? (i := 1563) (by decide +kernel), List.mem_of_getElem? (i := 1564) (by decide +kernel)⟩
theorem lw_p55 : lw_okq (⟨"WashingLinesModel", "begins", "()V"⟩, 74) := ⟨⟨by decide +kernel, by decide +kernel⟩, List.mem_of_getElem? (i := 1237) (by decide +kernel), List.mem_of_getElem? (i := 1570) (by decide +kernel), List.mem_of_getElem? (i := 1571) (by decide +kernel)⟩
theorem lw_p56 : lw_okq (⟨"WashingLinesModel", "ruleClause", "(I)V"⟩, 74) := ⟨⟨by decide +kernel, by decide +kernel⟩, List.mem_of_getElem? (i := 1237) (by decide +kernel), List.mem_of_getElem? (i := 1578) (by decide +kernel), List.mem_of_getElem? (i := 1579) (by decide +kernel)⟩
theorem lw_p57 : lw_okq (⟨"WashingLinesModel", "sum", "()V"⟩, 74) := ⟨⟨by decide +kernel, by decide +kernel⟩, List.mem_of_getElem? (i := 1237) (by decide +kernel), List.mem_of_getElem? (i := 1583) (by decide +kernel), List.mem_of_getElem? (i := 1584) (by decide +kernel)⟩
theorem lw_p58 : lw_okq (⟨"WashingLinesModel", "term", "()V"⟩, 74) := ⟨⟨by decide +kernel, by decide +kernel⟩, List.mem_of_getElem? (i := 1237) (by decide +kernel), List.mem_of_getElem? (i := 1587) (by decide +kernel), List.mem_of_getElem? (i := 1588) (by decide +kernel)⟩
theorem lw_p59 : lw_okq (⟨"WashingLinesModel", "value", "()V"⟩, 74) := ⟨⟨by decide +kernel, by decide +kernel⟩, List.mem_of_getElem? (i := 1237) (by decide +kernel), List.mem_of_getElem? (i := 1591) (by decide +kernel), List.mem_of_getElem? (i := 1592) (by decide +kernel)⟩
theorem lw_p60 : lw_okq (⟨"WashingLinesModel", "isCounted", "(I)V"⟩, 74) := ⟨⟨by decide +kernel, by decide +kernel⟩, List.mem_of_getElem? (i := 1237) (by decide +kernel), List.mem_of_getElem? (i := 1595) (by decide +kernel), List.mem_of_getElem? (i := 1596) (by decide +kernel)⟩
theorem lw_p61 : lw_okq (⟨"WashingLinesModel", "entry", "(II)V"⟩, 74) := ⟨⟨by decide +kernel, by decide +kernel⟩, List.mem_of_getElem? (i := 1237) (by decide +kernel), List.mem_of_getElem? (i := 1599) (by decide +kernel), List.mem_of_getElem? (i := 1600) (by decide +kernel)⟩
theorem lw_p62 : lw_okq (⟨"WashingLinesModel", "takes", "(Ljava/lang/String;)Z"⟩, 74) := ⟨⟨by decide +kernel, by decide +kernel⟩, List.mem_of_getElem? (i := 1237) (by decide +kernel), List.mem_of_getElem? (i := 1617) (by decide +kernel), List.mem_of_getElem? (i := 1618) (by decide +kernel)⟩
theorem lw_p63 : lw_okq (⟨"WashingLinesModel", "test", "()V"⟩, 74) := ⟨⟨by decide +kernel, by decide +kernel⟩, List.mem_of_getElem? (i := 1237) (by decide +kernel), List.mem_of_getElem? (i := 1621) (by decide +kernel), List.mem_of_getElem? (i := 1622) (by decide +kernel)⟩
def lw_privs_4 : List (MethodName × Nat) := [(⟨"WashingLinesModel", "digits", "(I)I"⟩, 74), (⟨"WashingLinesModel", "isDigit", "()Z"⟩, 74), (⟨"WashingLinesModel", "readsLinen", "()V"⟩, 74), (⟨"WashingLinesModel", "readsLine", "()V"⟩, 74), (⟨"WashingLinesModel", "readsHung", "()V"⟩, 74), (⟨"WashingLinesModel", "couldHang", "(II)Z"⟩, 74), (⟨"WashingLinesModel", "goesOn", "()Z"⟩, 74), (⟨"WashingLinesModel", "begins", "()V"⟩, 74), (⟨"WashingLinesModel", "ruleClause", "(I)V"⟩, 74), (⟨"WashingLinesModel", "sum", "()V"⟩, 74), (⟨"WashingLinesModel", "term", "()V"⟩, 74), (⟨"WashingLinesModel", "value", "()V"⟩, 74), (⟨"WashingLinesModel", "isCounted", "(I)V"⟩, 74), (⟨"WashingLinesModel", "entry", "(II)V"⟩, 74), (⟨"WashingLinesModel", "takes", "(Ljava/lang/String;)Z"⟩, 74), (⟨"WashingLinesModel", "test", "()V"⟩, 74)]
theorem lw_r4 : ∀ q ∈ lw_privs_4, lw_okq q := List.forall_mem_cons.mpr ⟨lw_p48, List.forall_mem_cons.mpr ⟨lw_p49, List.forall_mem_cons.mpr ⟨lw_p50, List.forall_mem_cons.mpr ⟨lw_p51, List.forall_mem_cons.mpr ⟨lw_p52, List.forall_mem_cons.mpr ⟨lw_p53, List.forall_mem_cons.mpr ⟨lw_p54, List.forall_mem_cons.mpr ⟨lw_p55, List.forall_mem_cons.mpr ⟨lw_p56, List.forall_mem_cons.mpr ⟨lw_p57, List.forall_mem_cons.mpr ⟨lw_p58, List.forall_mem_cons.mpr ⟨lw_p59, List.forall_mem_cons.mpr ⟨lw_p60, List.forall_mem_cons.mpr ⟨lw_p61, List.forall_mem_cons.mpr ⟨lw_p62, List.forall_mem_cons.mpr ⟨lw_p63, fun _ h => absurd h List.not_mem_nil⟩⟩⟩⟩⟩⟩⟩⟩⟩⟩⟩⟩⟩⟩⟩⟩
theorem lw_p64 : lw_okq (⟨"WashingLinesModel", "fact", "()Z"⟩, 74) := ⟨⟨by decide +kernel, by decide +kernel⟩, List.mem_of_getElem? (i := 1237) (by decide +kernel), List.mem_of_getElem? (i := 1625) (by decide +kernel), List.mem_of_getElem? (i := 1626) (by decide +kernel)⟩
theorem lw_p65 : lw_okq (⟨"WashingLinesModel", "opens", "(I)V"⟩, 74) := ⟨⟨by decide +kernel, by decide +kernel⟩, List.mem_of_getElem? (i := 1237) (by decide +kernel), List.mem_of_getElem? (i := 1630) (by decide +kernel), List.mem_of_getElem? (i := 1631) (by decide +kernel)⟩
theorem lw_p66 : lw_okq (⟨"WashingLinesModel", "compared", "()V"⟩, 74) := ⟨⟨by decide +kernel, by decide +kernel⟩, List.mem_of_getElem? (i := 1237) (by decide +kernel), List.mem_of_getElem? (i := 1634) (by decide +kernel), List.mem_of_getElem? (i := 1635) (by decide +kernel)⟩
theorem lw_p67 : lw_okq (⟨"WashingLinesModel", "answers", "(I)V"⟩, 74) := ⟨⟨by decide +kernel, by decide +kernel⟩, List.mem_of_getElem? (i := 1237) (by decide +kernel), List.mem_of_getElem? (i := 1638) (by decide +kernel), List.mem_of_getElem? (i := 1639) (by decide +kernel)⟩
theorem lw_p68 : lw_okq (⟨"WashingLinesModel", "top", "()I"⟩, 74) := ⟨⟨by decide +kernel, by decide +kernel⟩, List.mem_of_getElem? (i := 1237) (by decide +kernel), List.mem_of_getElem? (i := 1642) (by decide +kernel), List.mem_of_getElem? (i := 1643) (by decide +kernel)⟩
theorem lw_p69 : lw_okq (⟨"WashingLinesModel", "isFamily", "(I)Z"⟩, 74) := ⟨⟨by decide +kernel, by decide +kernel⟩, List.mem_of_getElem? (i := 1237) (by decide +kernel), List.mem_of_getElem? (i := 1657) (by decide +kernel), List.mem_of_getElem? (i := 1658) (by decide +kernel)⟩
theorem lw_p70 : lw_okq (⟨"WashingLinesModel", "linesOf", "(I)I"⟩, 74) := ⟨⟨by decide +kernel, by decide +kernel⟩, List.mem_of_getElem? (i := 1237) (by decide +kernel), List.mem_of_getElem? (i := 1661) (by decide +kernel), List.mem_of_getElem? (i := 1662) (by decide +kernel)⟩
theorem lw_p71 : lw_okq (⟨"WashingLinesModel", "ownerOf", "(I)I"⟩, 74) := ⟨⟨by decide +kernel, by decide +kernel⟩, List.mem_of_getElem? (i := 1237) (by decide +kernel), List.mem_of_getElem? (i := 1665) (by decide +kernel), List.mem_of_getElem? (i := 1666) (by decide +kernel)⟩
theorem lw_p72 : lw_okq (⟨"WashingLinesModel", "isCut", "(I)Z"⟩, 74) := ⟨⟨by decide +kernel, by decide +kernel⟩, List.mem_of_getElem? (i := 1237) (by decide +kernel), List.mem_of_getElem? (i := 1669) (by decide +kernel), List.mem_of_getElem? (i := 1670) (by decide +kernel)⟩
theorem lw_p73 : lw_okq (⟨"WashingLinesModel", "asks", "(II)V"⟩, 74) := ⟨⟨by decide +kernel, by decide +kernel⟩, List.mem_of_getElem? (i := 1237) (by decide +kernel), List.mem_of_getElem? (i := 1676) (by decide +kernel), List.mem_of_getElem? (i := 1677) (by decide +kernel)⟩
theorem lw_p74 : lw_okq (⟨"WashingLinesModel", "rains", "(I)Z"⟩, 74) := ⟨⟨by decide +kernel, by decide +kernel⟩, List.mem_of_getElem? (i := 1237) (by decide +kernel), List.mem_of_getElem? (i := 1680) (by decide +kernel), List.mem_of_getElem? (i := 1681) (by decide +kernel)⟩
theorem lw_p75 : lw_okq (⟨"WashingLinesModel", "claimed", "()J"⟩, 74) := ⟨⟨by decide +kernel, by decide +kernel⟩, List.mem_of_getElem? (i := 1237) (by decide +kernel), List.mem_of_getElem? (i := 1684) (by decide +kernel), List.mem_of_getElem? (i := 1685) (by decide +kernel)⟩
theorem lw_p76 : lw_okq (⟨"WashingLinesModel", "answer", "(III)J"⟩, 74) := ⟨⟨by decide +kernel, by decide +kernel⟩, List.mem_of_getElem? (i := 1237) (by decide +kernel), List.mem_of_getElem? (i := 1688) (by decide +kernel), List.mem_of_getElem? (i := 1689) (by decide +kernel)⟩
theorem lw_p77 : lw_okq (⟨"WashingLinesModel", "isLine", "(I)Z"⟩, 74) := ⟨⟨by decide +kernel, by decide +kernel⟩, List.mem_of_getElem? (i := 1237) (by decide +kernel), List.mem_of_getElem? (i := 1702) (by decide +kernel), List.mem_of_getElem? (i := 1703) (by decide +kernel)⟩
theorem lw_p78 : lw_okq (⟨"WashingLinesModel", "lengthLeft", "(I)I"⟩, 74) := ⟨⟨by decide +kernel, by decide +kernel⟩, List.mem_of_getElem? (i := 1237) (by decide +kernel), List.mem_of_getElem? (i := 1706) (by decide +kernel), List.mem_of_getElem? (i := 1707) (by decide +kernel)⟩
theorem lw_p79 : lw_okq (⟨"WashingLinesModel", "linenOn", "(I)I"⟩, 74) := ⟨⟨by decide +kernel, by decide +kernel⟩, List.mem_of_getElem? (i := 1237) (by decide +kernel), List.mem_of_getElem? (i := 1710) (by decide +kernel), List.mem_of_getElem? (i := 1711) (by decide +kernel)⟩
def lw_privs_5 : List (MethodName × Nat) := [(⟨"WashingLinesModel", "fact", "()Z"⟩, 74), (⟨"WashingLinesModel", "opens", "(I)V"⟩, 74), (⟨"WashingLinesModel", "compared", "()V"⟩, 74), (⟨"WashingLinesModel", "answers", "(I)V"⟩, 74), (⟨"WashingLinesModel", "top", "()I"⟩, 74), (⟨"WashingLinesModel", "isFamily", "(I)Z"⟩, 74), (⟨"WashingLinesModel", "linesOf", "(I)I"⟩, 74), (⟨"WashingLinesModel", "ownerOf", "(I)I"⟩, 74), (⟨"WashingLinesModel", "isCut", "(I)Z"⟩, 74), (⟨"WashingLinesModel", "asks", "(II)V"⟩, 74), (⟨"WashingLinesModel", "rains", "(I)Z"⟩, 74), (⟨"WashingLinesModel", "claimed", "()J"⟩, 74), (⟨"WashingLinesModel", "answer", "(III)J"⟩, 74), (⟨"WashingLinesModel", "isLine", "(I)Z"⟩, 74), (⟨"WashingLinesModel", "lengthLeft", "(I)I"⟩, 74), (⟨"WashingLinesModel", "linenOn", "(I)I"⟩, 74)]
theorem lw_r5 : ∀ q ∈ lw_privs_5, lw_okq q := List.forall_mem_cons.mpr ⟨lw_p64, List.forall_mem_cons.mpr ⟨lw_p65, List.forall_mem_cons.mpr ⟨lw_p66, List.forall_mem_cons.mpr ⟨lw_p67, List.forall_mem_cons.mpr ⟨lw_p68, List.forall_mem_cons.mpr ⟨lw_p69, List.forall_mem_cons.mpr ⟨lw_p70, List.forall_mem_cons.mpr ⟨lw_p71, List.forall_mem_cons.mpr ⟨lw_p72, List.forall_mem_cons.mpr ⟨lw_p73, List.forall_mem_cons.mpr ⟨lw_p74, List.forall_mem_cons.mpr ⟨lw_p75, List.forall_mem_cons.mpr ⟨lw_p76, List.forall_mem_cons.mpr ⟨lw_p77, List.forall_mem_cons.mpr ⟨lw_p78, List.forall_mem_cons.mpr ⟨lw_p79, fun _ h => absurd h List.not_mem_nil⟩⟩⟩⟩⟩⟩⟩⟩⟩⟩⟩⟩⟩⟩⟩⟩
theorem lw_p80 : lw_okq (⟨"WashingLinesModel", "isLinen", "(I)Z"⟩, 74) := ⟨⟨by decide +kernel, by decide +kernel⟩, List.mem_of_getElem? (i := 1237) (by decide +kernel), List.mem_of_getElem? (i := 1718) (by decide +kernel), List.mem_of_getElem? (i := 1719) (by decide +kernel)⟩
theorem lw_p81 : lw_okq (⟨"WashingLinesModel", "movesAll", "(IZ)V"⟩, 74) := ⟨⟨by decide +kernel, by decide +kernel⟩, List.mem_of_getElem? (i := 1237) (by decide +kernel), List.mem_of_getElem? (i := 1726) (by decide +kernel), List.mem_of_getElem? (i := 1727) (by decide +kernel)⟩
theorem lw_p82 : lw_okq (⟨"WashingLinesModel", "moves", "(I)I"⟩, 74) := ⟨⟨by decide +kernel, by decide +kernel⟩, List.mem_of_getElem? (i := 1237) (by decide +kernel), List.mem_of_getElem? (i := 1730) (by decide +kernel), List.mem_of_getElem? (i := 1731) (by decide +kernel)⟩
theorem lw_p83 : lw_okq (⟨"WashingLinesModel", "movesRow", "([I)V"⟩, 74) := ⟨⟨by decide +kernel, by decide +kernel⟩, List.mem_of_getElem? (i := 1237) (by decide +kernel), List.mem_of_getElem? (i := 1734) (by decide +kernel), List.mem_of_getElem? (i := 1735) (by decide +kernel)⟩
theorem lw_p84 : lw_okq (⟨"WashingLinesModel", "isCourt", "()Z"⟩, 74) := ⟨⟨by decide +kernel, by decide +kernel⟩, List.mem_of_getElem? (i := 1237) (by decide +kernel), List.mem_of_getElem? (i := 1742) (by decide +kernel), List.mem_of_getElem? (i := 1743) (by decide +kernel)⟩
theorem lw_p85 : lw_okq (⟨"WashingLinesModel", "keepsAct", "()V"⟩, 74) := ⟨⟨by decide +kernel, by decide +kernel⟩, List.mem_of_getElem? (i := 1237) (by decide +kernel), List.mem_of_getElem? (i := 1746) (by decide +kernel), List.mem_of_getElem? (i := 1747) (by decide +kernel)⟩
theorem lw_p86 : lw_okq (⟨"WashingLinesModel", "goes", "()I"⟩, 74) := ⟨⟨by decide +kernel, by decide +kernel⟩, List.mem_of_getElem? (i := 1237) (by decide +kernel), List.mem_of_getElem? (i := 1750) (by decide +kernel), List.mem_of_getElem? (i := 1751) (by decide +kernel)⟩
theorem lw_p87 : lw_okq (⟨"WashingLinesModel", "canHang", "(II)Z"⟩, 74) := ⟨⟨by decide +kernel, by decide +kernel⟩, List.mem_of_getElem? (i := 1237) (by decide +kernel), List.mem_of_getElem? (i := 1758) (by decide +kernel), List.mem_of_getElem? (i := 1759) (by decide +kernel)⟩
theorem lw_p88 : lw_okq (⟨"WashingLinesModel", "hangsOn", "(II)V"⟩, 74) := ⟨⟨by decide +kernel, by decide +kernel⟩, List.mem_of_getElem? (i := 1237) (by decide +kernel), List.mem_of_getElem? (i := 1762) (by decide +kernel), List.mem_of_getElem? (i := 1763) (by decide +kernel)⟩
theorem lw_p89 : lw_okq (⟨"WashingLinesModel", "comesDown", "(I)V"⟩, 74) := ⟨⟨by decide +kernel, by decide +kernel⟩, List.mem_of_getElem? (i := 1237) (by decide +kernel), List.mem_of_getElem? (i := 1770) (by decide +kernel), List.mem_of_getElem? (i := 1771) (by decide +kernel)⟩
theorem lw_p90 : lw_okq (⟨"WashingLinesModel", "isNumber", "(II)Z"⟩, 74) := ⟨⟨by decide +kernel, by decide +kernel⟩, List.mem_of_getElem? (i := 1237) (by decide +kernel), List.mem_of_getElem? (i := 1791) (by decide +kernel), List.mem_of_getElem? (i := 1792) (by decide +kernel)⟩
theorem lw_p91 : lw_okq (⟨"WashingLinesModel", "keepsAll", "()V"⟩, 74) := ⟨⟨by decide +kernel, by decide +kernel⟩, List.mem_of_getElem? (i := 1237) (by decide +kernel), List.mem_of_getElem? (i := 1796) (by decide +kernel), List.mem_of_getElem? (i := 1797) (by decide +kernel)⟩
theorem lw_p92 : lw_okq (⟨"WashingLinesModel", "carriesAll", "(IZ)V"⟩, 74) := ⟨⟨by decide +kernel, by decide +kernel⟩, List.mem_of_getElem? (i := 1237) (by decide +kernel), List.mem_of_getElem? (i := 1800) (by decide +kernel), List.mem_of_getElem? (i := 1801) (by decide +kernel)⟩
theorem lw_p93 : lw_okq (⟨"WashingLinesModel", "carryRow", "([I)V"⟩, 74) := ⟨⟨by decide +kernel, by decide +kernel⟩, List.mem_of_getElem? (i := 1237) (by decide +kernel), List.mem_of_getElem? (i := 1804) (by decide +kernel), List.mem_of_getElem? (i := 1805) (by decide +kernel)⟩
theorem lw_p94 : lw_okq (⟨"WashingLinesModel", "goFor", "(I)V"⟩, 74) := ⟨⟨by decide +kernel, by decide +kernel⟩, List.mem_of_getElem? (i := 1237) (by decide +kernel), List.mem_of_getElem? (i := 1808) (by decide +kernel), List.mem_of_getElem? (i := 1809) (by decide +kernel)⟩
theorem lw_p95 : lw_okq (⟨"WashingLinesModel", "laysBack", "()V"⟩, 74) := ⟨⟨by decide +kernel, by decide +kernel⟩, List.mem_of_getElem? (i := 1237) (by decide +kernel), List.mem_of_getElem? (i := 1812) (by decide +kernel), List.mem_of_getElem? (i := 1813) (by decide +kernel)⟩
def lw_privs_6 : List (MethodName × Nat) := [(⟨"WashingLinesModel", "isLinen", "(I)Z"⟩, 74), (⟨"WashingLinesModel", "movesAll", "(IZ)V"⟩, 74), (⟨"WashingLinesModel", "moves", "(I)I"⟩, 74), (⟨"WashingLinesModel", "movesRow", "([I)V"⟩, 74), (⟨"WashingLinesModel", "isCourt", "()Z"⟩, 74), (⟨"WashingLinesModel", "keepsAct", "()V"⟩, 74), (⟨"WashingLinesModel", "goes", "()I"⟩, 74), (⟨"WashingLinesModel", "canHang", "(II)Z"⟩, 74), (⟨"WashingLinesModel", "hangsOn", "(II)V"⟩, 74), (⟨"WashingLinesModel", "comesDown", "(I)V"⟩, 74), (⟨"WashingLinesModel", "isNumber", "(II)Z"⟩, 74), (⟨"WashingLinesModel", "keepsAll", "()V"⟩, 74), (⟨"WashingLinesModel", "carriesAll", "(IZ)V"⟩, 74), (⟨"WashingLinesModel", "carryRow", "([I)V"⟩, 74), (⟨"WashingLinesModel", "goFor", "(I)V"⟩, 74), (⟨"WashingLinesModel", "laysBack", "()V"⟩, 74)]
theorem lw_r6 : ∀ q ∈ lw_privs_6, lw_okq q := List.forall_mem_cons.mpr ⟨lw_p80, List.forall_mem_cons.mpr ⟨lw_p81, List.forall_mem_cons.mpr ⟨lw_p82, List.forall_mem_cons.mpr ⟨lw_p83, List.forall_mem_cons.mpr ⟨lw_p84, List.forall_mem_cons.mpr ⟨lw_p85, List.forall_mem_cons.mpr ⟨lw_p86, List.forall_mem_cons.mpr ⟨lw_p87, List.forall_mem_cons.mpr ⟨lw_p88, List.forall_mem_cons.mpr ⟨lw_p89, List.forall_mem_cons.mpr ⟨lw_p90, List.forall_mem_cons.mpr ⟨lw_p91, List.forall_mem_cons.mpr ⟨lw_p92, List.forall_mem_cons.mpr ⟨lw_p93, List.forall_mem_cons.mpr ⟨lw_p94, List.forall_mem_cons.mpr ⟨lw_p95, fun _ h => absurd h List.not_mem_nil⟩⟩⟩⟩⟩⟩⟩⟩⟩⟩⟩⟩⟩⟩⟩⟩
theorem lw_p96 : lw_okq (⟨"WashingLinesModel", "laysToHang", "(I)V"⟩, 74) := ⟨⟨by decide +kernel, by decide +kernel⟩, List.mem_of_getElem? (i := 1237) (by decide +kernel), List.mem_of_getElem? (i := 1826) (by decide +kernel), List.mem_of_getElem? (i := 1827) (by decide +kernel)⟩
theorem lw_p97 : lw_okq (⟨"WashingLinesModel", "hangsRow", "(I)Z"⟩, 74) := ⟨⟨by decide +kernel, by decide +kernel⟩, List.mem_of_getElem? (i := 1237) (by decide +kernel), List.mem_of_getElem? (i := 1830) (by decide +kernel), List.mem_of_getElem? (i := 1831) (by decide +kernel)⟩
theorem lw_p98 : lw_okq (⟨"WashingLinesModel", "playsGame", "(III)V"⟩, 74) := ⟨⟨by decide +kernel, by decide +kernel⟩, List.mem_of_getElem? (i := 1237) (by decide +kernel), List.mem_of_getElem? (i := 1840) (by decide +kernel), List.mem_of_getElem? (i := 1841) (by decide +kernel)⟩
theorem lw_p99 : lw_okq (⟨"WashingLinesModel", "takesValue", "(II)V"⟩, 74) := ⟨⟨by decide +kernel, by decide +kernel⟩, List.mem_of_getElem? (i := 1237) (by decide +kernel), List.mem_of_getElem? (i := 1845) (by decide +kernel), List.mem_of_getElem? (i := 1846) (by decide +kernel)⟩
theorem lw_p100 : lw_okq (⟨"WashingLinesModel", "goesThrough", "(III)V"⟩, 74) := ⟨⟨by decide +kernel, by decide +kernel⟩, List.mem_of_getElem? (i := 1237) (by decide +kernel), List.mem_of_getElem? (i := 1849) (by decide +kernel), List.mem_of_getElem? (i := 1850) (by decide +kernel)⟩
theorem lw_p101 : lw_okq (⟨"WashingLinesModel", "acts", "(II)Z"⟩, 74) := ⟨⟨by decide +kernel, by decide +kernel⟩, List.mem_of_getElem? (i := 1237) (by decide +kernel), List.mem_of_getElem? (i := 1853) (by decide +kernel), List.mem_of_getElem? (i := 1854) (by decide +kernel)⟩
theorem lw_p102 : lw_okq (⟨"WashingLinesModel", "hangsSet", "(II)Z"⟩, 74) := ⟨⟨by decide +kernel, by decide +kernel⟩, List.mem_of_getElem? (i := 1237) (by decide +kernel), List.mem_of_getElem? (i := 1868) (by decide +kernel), List.mem_of_getElem? (i := 1869) (by decide +kernel)⟩
theorem lw_p103 : lw_okq (⟨"WashingLinesModel", "laysFar", "(I)V"⟩, 74) := ⟨⟨by decide +kernel, by decide +kernel⟩, List.mem_of_getElem? (i := 1237) (by decide +kernel), List.mem_of_getElem? (i := 1877) (by decide +kernel), List.mem_of_getElem? (i := 1878) (by decide +kernel)⟩
theorem lw_p104 : lw_okq (⟨"WashingLinesModel", "over", "(II)I"⟩, 74) := ⟨⟨by decide +kernel, by decide +kernel⟩, List.mem_of_getElem? (i := 1237) (by decide +kernel), List.mem_of_getElem? (i := 1882) (by decide +kernel), List.mem_of_getElem? (i := 1883) (by decide +kernel)⟩
theorem lw_p105 : lw_okq (⟨"WashingLinesModel", "loadOf", "(II)I"⟩, 74) := ⟨⟨by decide +kernel, by decide +kernel⟩, List.mem_of_getElem? (i := 1237) (by decide +kernel), List.mem_of_getElem? (i := 1890) (by decide +kernel), List.mem_of_getElem? (i := 1891) (by decide +kernel)⟩
theorem lw_p106 : lw_okq (⟨"WashingLinesModel", "couldRule", "(II)Z"⟩, 74) := ⟨⟨by decide +kernel, by decide +kernel⟩, List.mem_of_getElem? (i := 1237) (by decide +kernel), List.mem_of_getElem? (i := 1912) (by decide +kernel), List.mem_of_getElem? (i := 1913) (by decide +kernel)⟩
theorem lw_p107 : lw_okq (⟨"WashingLinesModel", "areLogsSo", "(I)Z"⟩, 74) := ⟨⟨by decide +kernel, by decide +kernel⟩, List.mem_of_getElem? (i := 1237) (by decide +kernel), List.mem_of_getElem? (i := 1916) (by decide +kernel), List.mem_of_getElem? (i := 1917) (by decide +kernel)⟩
theorem lw_p108 : lw_okq (⟨"WashingLinesModel", "draws", "(I)I"⟩, 74) := ⟨⟨by decide +kernel, by decide +kernel⟩, List.mem_of_getElem? (i := 1237) (by decide +kernel), List.mem_of_getElem? (i := 1937) (by decide +kernel), List.mem_of_getElem? (i := 1938) (by decide +kernel)⟩
theorem lw_p109 : lw_okq (⟨"WashingLinesModel", "dryOnes", "()I"⟩, 74) := ⟨⟨by decide +kernel, by decide +kernel⟩, List.mem_of_getElem? (i := 1237) (by decide +kernel), List.mem_of_getElem? (i := 1945) (by decide +kernel), List.mem_of_getElem? (i := 1946) (by decide +kernel)⟩
theorem lw_p110 : lw_okq (⟨"WashingLinesModel", "allHung", "()I"⟩, 74) := ⟨⟨by decide +kernel, by decide +kernel⟩, List.mem_of_getElem? (i := 1237) (by decide +kernel), List.mem_of_getElem? (i := 1953) (by decide +kernel), List.mem_of_getElem? (i := 1954) (by decide +kernel)⟩
def lw_privs_7 : List (MethodName × Nat) := [(⟨"WashingLinesModel", "laysToHang", "(I)V"⟩, 74), (⟨"WashingLinesModel", "hangsRow", "(I)Z"⟩, 74), (⟨"WashingLinesModel", "playsGame", "(III)V"⟩, 74), (⟨"WashingLinesModel", "takesValue", "(II)V"⟩, 74), (⟨"WashingLinesModel", "goesThrough", "(III)V"⟩, 74), (⟨"WashingLinesModel", "acts", "(II)Z"⟩, 74), (⟨"WashingLinesModel", "hangsSet", "(II)Z"⟩, 74), (⟨"WashingLinesModel", "laysFar", "(I)V"⟩, 74), (⟨"WashingLinesModel", "over", "(II)I"⟩, 74), (⟨"WashingLinesModel", "loadOf", "(II)I"⟩, 74), (⟨"WashingLinesModel", "couldRule", "(II)Z"⟩, 74), (⟨"WashingLinesModel", "areLogsSo", "(I)Z"⟩, 74), (⟨"WashingLinesModel", "draws", "(I)I"⟩, 74), (⟨"WashingLinesModel", "dryOnes", "()I"⟩, 74), (⟨"WashingLinesModel", "allHung", "()I"⟩, 74)]
theorem lw_r7 : ∀ q ∈ lw_privs_7, lw_okq q := List.forall_mem_cons.mpr ⟨lw_p96, List.forall_mem_cons.mpr ⟨lw_p97, List.forall_mem_cons.mpr ⟨lw_p98, List.forall_mem_cons.mpr ⟨lw_p99, List.forall_mem_cons.mpr ⟨lw_p100, List.forall_mem_cons.mpr ⟨lw_p101, List.forall_mem_cons.mpr ⟨lw_p102, List.forall_mem_cons.mpr ⟨lw_p103, List.forall_mem_cons.mpr ⟨lw_p104, List.forall_mem_cons.mpr ⟨lw_p105, List.forall_mem_cons.mpr ⟨lw_p106, List.forall_mem_cons.mpr ⟨lw_p107, List.forall_mem_cons.mpr ⟨lw_p108, List.forall_mem_cons.mpr ⟨lw_p109, List.forall_mem_cons.mpr ⟨lw_p110, fun _ h => absurd h List.not_mem_nil⟩⟩⟩⟩⟩⟩⟩⟩⟩⟩⟩⟩⟩⟩⟩
def lw_privs : List (MethodName × Nat) := lw_privs_1 ++ (lw_privs_2 ++ (lw_privs_3 ++ (lw_privs_4 ++ (lw_privs_5 ++ (lw_privs_6 ++ (lw_privs_7))))))
def lw_tbl : List Cond := k2_sels lw_privs ++ tables_1
theorem lw_privs_ok : ∀ q ∈ lw_privs, lw_okq q := by
  show ∀ q ∈ lw_privs_1 ++ (lw_privs_2 ++ (lw_privs_3 ++ (lw_privs_4 ++ (lw_privs_5 ++ (lw_privs_6 ++ (lw_privs_7)))))), lw_okq q
  exact List.forall_mem_append.mpr ⟨lw_r1, List.forall_mem_append.mpr ⟨lw_r2, List.forall_mem_append.mpr ⟨lw_r3, List.forall_mem_append.mpr ⟨lw_r4, List.forall_mem_append.mpr ⟨lw_r5, List.forall_mem_append.mpr ⟨lw_r6, lw_r7⟩⟩⟩⟩⟩⟩
end
section
/-! THE SMALL MACHINE: what the bytecode does, over whole numbers and a list of cells. Values: an int, a long, null, a reference. -/
abbrev AV (ρ : Type) : Type := Int ⊕ (Int ⊕ Option ρ)
abbrev vI {ρ : Type} (x : Int) : AV ρ := Sum.inl x
abbrev vL {ρ : Type} (x : Int) : AV ρ := Sum.inr (Sum.inl x)
abbrev vN {ρ : Type} : AV ρ := Sum.inr (Sum.inr none)
abbrev vR {ρ : Type} (a : ρ) : AV ρ := Sum.inr (Sum.inr (some a))
abbrev am_L (ρ : Type) : Type := List (Option (AV ρ))
/-- an instruction: its kind, two numbers, a whole number, a table -/
abbrev am_I : Type := Nat × Nat × Nat × Int × List (Int × Nat)
def jadd (x y : Int) : Int := (Int32.ofInt x + Int32.ofInt y).toInt
def jsub (x y : Int) : Int := (Int32.ofInt x - Int32.ofInt y).toInt
def jmul (x y : Int) : Int := (Int32.ofInt x * Int32.ofInt y).toInt
def jand (x y : Int) : Int := (Int32.ofInt x &&& Int32.ofInt y).toInt
def jor (x y : Int) : Int := (Int32.ofInt x ||| Int32.ofInt y).toInt
def jxor (x y : Int) : Int := (Int32.ofInt x ^^^ Int32.ofInt y).toInt
def jshl (x y : Int) : Int := (Int32.ofInt x <<< (Int32.ofInt y &&& 31)).toInt
def jshr (x y : Int) : Int := (Int32.ofInt x >>> (Int32.ofInt y &&& 31)).toInt
def jushr (x y : Int) : Int := (((Int32.ofInt x).toUInt32 >>> ((Int32.ofInt y).toUInt32 &&& Int32.toUInt32 31)).toInt32).toInt
def jdiv (x y : Int) : Int := (Int32.ofInt x / Int32.ofInt y).toInt
def jrem (x y : Int) : Int := (Int32.ofInt x - Int32.ofInt x / Int32.ofInt y * Int32.ofInt y).toInt
def jneg (x : Int) : Int := (-(Int32.ofInt x)).toInt
def ji2b (x : Int) : Int := ((Int32.ofInt x).toInt8.toInt32).toInt
def ji2c (x : Int) : Int := (((Int32.ofInt x).toUInt32 % 65536).toInt32).toInt
def ji2l (x : Int) : Int := ((Int32.ofInt x).toInt64).toInt
def jl2i (x : Int) : Int := ((Int64.ofInt x).toInt32).toInt
def kadd (x y : Int) : Int := (Int64.ofInt x + Int64.ofInt y).toInt
def ksub (x y : Int) : Int := (Int64.ofInt x - Int64.ofInt y).toInt
def kmul (x y : Int) : Int := (Int64.ofInt x * Int64.ofInt y).toInt
def kand (x y : Int) : Int := (Int64.ofInt x &&& Int64.ofInt y).toInt
def kor (x y : Int) : Int := (Int64.ofInt x ||| Int64.ofInt y).toInt
def kdiv (x y : Int) : Int := (Int64.ofInt x / Int64.ofInt y).toInt
def krem (x y : Int) : Int := (Int64.ofInt x - Int64.ofInt x / Int64.ofInt y * Int64.ofInt y).toInt
def jcmp (x y : Int) : Int := if y < x then 1 else if x = y then 0 else -1
def am_ibin (b : Nat) (x y : Int) : Option Int := match b with
  | 0 => some (jadd x y)
  | 1 => some (jsub x y)
  | 2 => some (jmul x y)
  | 3 => some (jand x y)
  | 4 => some (jor x y)
  | 5 => some (jxor x y)
  | 6 => some (jshl x y)
  | 7 => some (jshr x y)
  | 8 => some (jushr x y)
  | 9 => if y = 0 then none else some (jdiv x y)
  | 10 => if y = 0 then none else some (jrem x y)
  | _ => none
def am_iun (b : Nat) (x : Int) : Option Int := match b with
  | 0 => some (jneg x)
  | 1 => some (ji2b x)
  | 2 => some (ji2c x)
  | _ => none
def am_lbin (b : Nat) (x y : Int) : Option Int := match b with
  | 0 => some (kadd x y)
  | 1 => some (ksub x y)
  | 2 => some (kmul x y)
  | 3 => some (kand x y)
  | 4 => some (kor x y)
  | 5 => if y = 0 then none else some (kdiv x y)
  | 6 => if y = 0 then none else some (krem x y)
  | _ => none
def am_cond (b : Nat) (x y : Int) : Prop := match b with
  | 0 => x = y
  | 1 => ¬ x = y
  | 2 => x < y
  | 3 => y ≤ x
  | 4 => y < x
  | _ => x ≤ y
def am_condD (b : Nat) (x y : Int) : Decidable (am_cond b x y) := match b with
  | 0 => inferInstanceAs (Decidable (x = y))
  | 1 => inferInstanceAs (Decidable (¬ x = y))
  | 2 => inferInstanceAs (Decidable (x < y))
  | 3 => inferInstanceAs (Decidable (y ≤ x))
  | 4 => inferInstanceAs (Decidable (y < x))
  | 5 => inferInstanceAs (Decidable (x ≤ y))
  | _ + 6 => inferInstanceAs (Decidable (x ≤ y))
def am_isL {ρ : Type} : AV ρ → Bool
  | .inr (.inl _) => true
  | _ => false
def am_cat {ρ : Type} (v : AV ρ) : Nat := if am_isL v then 2 else 1
def am_ty {ρ : Type} (t : Nat) (v : AV ρ) : Bool := match t, v with
  | 0, .inl _ => true
  | 1, .inr (.inl _) => true
  | 2, .inr (.inr _) => true
  | _, _ => false
/-- a long one place ahead goes when a place is written -/
def am_kill {ρ : Type} (x : Nat) (L : am_L ρ) : am_L ρ := match x with
  | 0 => L
  | y + 1 => match L[y]? with
    | some (some (.inr (.inl _))) => L.set y none
    | _ => L
def am_st {ρ : Type} (x : Nat) (v : AV ρ) (L : am_L ρ) : Option (am_L ρ) := match v with
  | .inr (.inl _) => if x + 1 < L.length then some (((am_kill x L).set x (some v)).set (x + 1) none) else none
  | _ => if x < L.length then some ((am_kill x L).set x (some v)) else none
def am_sw (tb : List (Int × Nat)) (d : Nat) (x : Int) : Nat := match tb with
  | [] => d
  | (k, t) :: r => if x = k then t else am_sw r d x
/-- a step that touches neither cells nor calls: where it goes on, with which locals, which stack -/
def am_p {ρ : Type} (op x y : Nat) (im : Int) (tb : List (Int × Nat)) (nx : Nat) (L : am_L ρ) (S : List (AV ρ)) : Option (Nat × am_L ρ × List (AV ρ)) := match op with
  | 0 => some (nx, L, vI im :: S)
  | 1 => some (nx, L, vL im :: S)
  | 2 => some (nx, L, vN :: S)
  | 3 => match L[x]? with
    | some (some v) => if am_ty y v = true then some (nx, L, v :: S) else none
    | _ => none
  | 4 => match S with
    | v :: S' => if am_ty y v = true then match am_st x v L with
        | some L' => some (nx, L', S')
        | none => none
      else none
    | _ => none
  | 5 => match L[x]? with
    | some (some (.inl v)) => some (nx, L.set x (some (vI (jadd v im))), S)
    | _ => none
  | 6 => match S with
    | .inl b :: .inl a :: S' => match am_ibin x a b with
      | some r => some (nx, L, vI r :: S')
      | none => none
    | _ => none
  | 7 => match S with
    | .inl a :: S' => match am_iun x a with
      | some r => some (nx, L, vI r :: S')
      | none => none
    | _ => none
  | 8 => match S with
    | .inl a :: S' => some (nx, L, vL (ji2l a) :: S')
    | _ => none
  | 9 => match S with
    | .inr (.inl a) :: S' => some (nx, L, vI (jl2i a) :: S')
    | _ => none
  | 10 => match S with
    | .inr (.inl b) :: .inr (.inl a) :: S' => match am_lbin x a b with
      | some r => some (nx, L, vL r :: S')
      | none => none
    | _ => none
  | 11 => match S with
    | .inr (.inl b) :: .inr (.inl a) :: S' => some (nx, L, vI (jcmp a b) :: S')
    | _ => none
  | 12 => match S with
    | .inl v :: S' => some (nx, L, vI v :: vI v :: S')
    | .inr (.inr v) :: S' => some (nx, L, .inr (.inr v) :: .inr (.inr v) :: S')
    | _ => none
  | 13 => match S with
    | .inl v :: .inr (.inr u) :: S' => some (nx, L, vI v :: .inr (.inr u) :: vI v :: .inr (.inr u) :: S')
    | _ => none
  | 14 => match S with
    | .inl _ :: S' => some (nx, L, S')
    | .inr (.inr _) :: S' => some (nx, L, S')
    | _ => none
  | 15 => match S with
    | .inl b :: .inl a :: S' => some (@ite _ (am_cond x a b) (am_condD x a b) y nx, L, S')
    | _ => none
  | 16 => match S with
    | .inl a :: S' => some (@ite _ (am_cond x a 0) (am_condD x a 0) y nx, L, S')
    | _ => none
  | 17 => match S with
    | .inr (.inr none) :: S' => some (if x = 0 then y else nx, L, S')
    | .inr (.inr (some _)) :: S' => some (if x = 0 then nx else y, L, S')
    | _ => none
  | 18 => some (y, L, S)
  | 19 => match S with
    | .inl a :: S' => some (am_sw tb y a, L, S')
    | _ => none
  | _ => none
/-- the locals at a method's start -/
def am_loc {ρ : Type} (n : Nat) (as : List (AV ρ)) : am_L ρ := match as with
  | [] => List.replicate n none
  | v :: r => if am_isL v then some v :: none :: am_loc (n - 2) r else some v :: am_loc (n - 1) r
def am_small {ρ : Type} (S : List (AV ρ)) : Bool := decide ((S.map am_cat).sum ≤ 8)
/-- a run: n steps at most, calls d deep at most; what comes back, and the memory behind it -/
def am_run {ρ μ : Type} (P : Nat → Nat → Option (am_I × Nat)) (NL : Nat → Nat) (mem : Nat → Nat → List (AV ρ) → μ → Option (Option (AV ρ) × μ)) :
    Nat → Nat → Nat → Nat → am_L ρ → List (AV ρ) → μ → Option (Option (AV ρ) × μ)
  | 0, _, _, _, _, _, _ => none
  | n + 1, d, k, pc, L, S, m =>
    match P k pc with
    | none => none
    | some ((op, x, y, im, tb), nx) =>
      match op with
      | 21 => match d with
        | 0 => none
        | d' + 1 =>
          if y ≤ S.length ∧ am_small (S.drop y) = true ∧ ((S.take y).map am_cat).sum ≤ NL x ∧ (im = 1 ∨ (mem 17 x ((S.take y).reverse.take 1) m).isSome = true) then
            match am_run P NL mem n d' x 0 (am_loc (NL x) (S.take y).reverse) [] m with
            | none => none
            | some (rv, m') => am_run P NL mem n d k nx L (rv.toList ++ S.drop y) m'
          else none
      | 22 => match S with
        | [v] => if (match x, v with
            | 0, .inl _ => true
            | 1, .inl z => decide (z = 0 ∨ z = 1)
            | 2, .inr (.inl _) => true
            | 3, .inr (.inr _) => true
            | 4, .inl z => decide (0 ≤ z ∧ z ≤ 127)
            | _, _ => false) = true then some (some v, m) else none
        | _ => none
      | 23 => match S with
        | [] => some (none, m)
        | _ => none
      | 24 => match d with
        | 0 => none
        | _ + 1 =>
          if y ≤ S.length ∧ am_small (S.drop y) = true then
            match mem x im.toNat (S.take y).reverse m with
            | none => none
            | some (rv, m') => am_run P NL mem n d k nx L (rv.toList ++ S.drop y) m'
          else none
      | _ => match am_p op x y im tb nx L S with
        | none => none
        | some (pc', L', S') => am_run P NL mem n d k pc' L' S' m
end
section
/-! THE TABLES of the small machine, written by a program out of the Statement: classes, fields, methods, links by their places in lw_tbl, the bytecode encoded -/
def am_own : List String := ["WashingLines", "WashingLines$Text", "WashingLines$CourtReader", "WashingLines$Court", "WashingLines$Yard", "WashingLines$RuleReader", "WashingLines$Law", "WashingLines$Book", "WashingLines$World", "WashingLines$Hours", "WashingLines$Seeker", "WashingLines$Trials", "WashingLinesModel", "WashingLinesLaw", "java/lang/Math", "java/lang/Integer", "java/lang/String", "java/lang/StringLatin1", "jdk/internal/util/Preconditions"]
def am_F0 : u_T := fun k => match k with
  | 0 => ("WashingLines", "text", "LWashingLines$Text;", true)
  | 1 => ("WashingLines", "courtReader", "LWashingLines$CourtReader;", true)
  | 2 => ("WashingLines", "ruleReader", "LWashingLines$RuleReader;", true)
  | 3 => ("WashingLines", "book", "LWashingLines$Book;", true)
  | 4 => ("WashingLines", "world", "LWashingLines$World;", true)
  | 5 => ("WashingLines", "images", "[LWashingLines$World;", true)
  | 6 => ("WashingLines", "hours", "LWashingLines$Hours;", true)
  | 7 => ("WashingLines", "seeker", "LWashingLines$Seeker;", true)
  | _ => ("WashingLines", "trials", "LWashingLines$Trials;", true)
def am_F1 : u_T := fun k => match k with
  | 0 => ("WashingLines$Text", "bytes", "[I", true)
  | 1 => ("WashingLines$Text", "size", "I", false)
  | 2 => ("WashingLines$Text", "kinds", "[I", true)
  | 3 => ("WashingLines$Text", "places", "[I", true)
  | 4 => ("WashingLines$Text", "values", "[I", true)
  | 5 => ("WashingLines$Text", "tokens", "I", false)
  | 6 => ("WashingLines$Text", "at", "I", false)
  | _ => ("WashingLines$Text", "fault", "I", false)
def am_F2 : u_T := fun k => match k with
  | _ => ("WashingLines$CourtReader", "draft", "LWashingLines$Court;", true)
def am_F3 : u_T := fun k => match k with
  | 0 => ("WashingLines$Court", "told", "Z", false)
  | 1 => ("WashingLines$Court", "sun", "I", false)
  | 2 => ("WashingLines$Court", "soak", "I", false)
  | 3 => ("WashingLines$Court", "families", "I", false)
  | 4 => ("WashingLines$Court", "lines", "I", false)
  | 5 => ("WashingLines$Court", "linens", "I", false)
  | 6 => ("WashingLines$Court", "rains", "I", false)
  | 7 => ("WashingLines$Court", "poleA", "[I", true)
  | 8 => ("WashingLines$Court", "poleB", "[I", true)
  | 9 => ("WashingLines$Court", "length", "[I", true)
  | 10 => ("WashingLines$Court", "strength", "[I", true)
  | 11 => ("WashingLines$Court", "linenFamily", "[I", true)
  | 12 => ("WashingLines$Court", "linenLength", "[I", true)
  | 13 => ("WashingLines$Court", "linenWet", "[I", true)
  | 14 => ("WashingLines$Court", "rainFirst", "[I", true)
  | 15 => ("WashingLines$Court", "rainLast", "[I", true)
  | _ => ("WashingLines$Court", "begin", "LWashingLines$Yard;", true)
def am_F4 : u_T := fun k => match k with
  | 0 => ("WashingLines$Yard", "hour", "I", false)
  | 1 => ("WashingLines$Yard", "held", "[I", true)
  | 2 => ("WashingLines$Yard", "cut", "[I", true)
  | 3 => ("WashingLines$Yard", "on", "[I", true)
  | 4 => ("WashingLines$Yard", "wet", "[I", true)
  | 5 => ("WashingLines$Yard", "pegs", "[I", true)
  | _ => ("WashingLines$Yard", "air", "[I", true)
def am_F5 : u_T := fun k => match k with
  | 0 => ("WashingLines$RuleReader", "draft", "LWashingLines$Law;", true)
  | _ => ("WashingLines$RuleReader", "parts", "I", false)
def am_F6 : u_T := fun k => match k with
  | 0 => ("WashingLines$Law", "code", "[I", true)
  | 1 => ("WashingLines$Law", "size", "I", false)
  | 2 => ("WashingLines$Law", "stack", "[J", true)
  | _ => ("WashingLines$Law", "top", "I", false)
def am_F7 : u_T := fun k => match k with
  | 0 => ("WashingLines$Book", "written", "[LWashingLines$Law;", true)
  | 1 => ("WashingLines$Book", "plain", "LWashingLines$Law;", true)
  | _ => ("WashingLines$Book", "rules", "I", false)
def am_F8 : u_T := fun k => match k with
  | 0 => ("WashingLines$World", "court", "LWashingLines$Court;", true)
  | 1 => ("WashingLines$World", "now", "LWashingLines$Yard;", true)
  | 2 => ("WashingLines$World", "past", "[LWashingLines$Yard;", true)
  | 3 => ("WashingLines$World", "nextPast", "I", false)
  | 4 => ("WashingLines$World", "undoable", "I", false)
  | 5 => ("WashingLines$World", "logHour", "[I", true)
  | 6 => ("WashingLines$World", "logLine", "[I", true)
  | 7 => ("WashingLines$World", "logFamily", "[I", true)
  | 8 => ("WashingLines$World", "logs", "I", false)
  | 9 => ("WashingLines$World", "force", "I", false)
  | _ => ("WashingLines$World", "x", "I", false)
def am_F9 : u_T := fun k => match k with
  | 0 => ("WashingLines$Hours", "yard", "LWashingLines$Yard;", true)
  | 1 => ("WashingLines$Hours", "court", "LWashingLines$Court;", false)
  | 2 => ("WashingLines$Hours", "law", "LWashingLines$Law;", false)
  | 3 => ("WashingLines$Hours", "rain", "Z", false)
  | 4 => ("WashingLines$Hours", "cells", "[I", true)
  | 5 => ("WashingLines$Hours", "damp", "[I", true)
  | 6 => ("WashingLines$Hours", "wettest", "[I", true)
  | 7 => ("WashingLines$Hours", "wetness", "[I", true)
  | 8 => ("WashingLines$Hours", "lineCells", "[I", true)
  | _ => ("WashingLines$Hours", "owners", "[I", true)
def am_F10 : u_T := fun k => match k with
  | 0 => ("WashingLines$Seeker", "best", "I", false)
  | 1 => ("WashingLines$Seeker", "firstAct", "I", false)
  | 2 => ("WashingLines$Seeker", "firstLine", "I", false)
  | 3 => ("WashingLines$Seeker", "pieces", "[I", true)
  | 4 => ("WashingLines$Seeker", "row", "[I", true)
  | 5 => ("WashingLines$Seeker", "bestRow", "[I", true)
  | 6 => ("WashingLines$Seeker", "placed", "I", false)
  | 7 => ("WashingLines$Seeker", "turnYards", "[LWashingLines$Yard;", true)
  | 8 => ("WashingLines$Seeker", "one", "I", false)
  | 9 => ("WashingLines$Seeker", "other", "I", false)
  | 10 => ("WashingLines$Seeker", "turns", "I", false)
  | _ => ("WashingLines$Seeker", "distance", "[I", true)
def am_F11 : u_T := fun k => match k with
  | 0 => ("WashingLines$Trials", "fitting", "I", false)
  | 1 => ("WashingLines$Trials", "first", "I", false)
  | _ => ("WashingLines$Trials", "heldBy", "[[I", true)
def am_F12 : u_T := fun k => match k with
  | 0 => ("WashingLinesModel", "thrown", "I", false)
  | 1 => ("WashingLinesModel", "scalar", "[I", true)
  | 2 => ("WashingLinesModel", "pegs", "[I", true)
  | 3 => ("WashingLinesModel", "air", "[I", true)
  | 4 => ("WashingLinesModel", "one", "[I", true)
  | 5 => ("WashingLinesModel", "other", "[I", true)
  | 6 => ("WashingLinesModel", "length", "[I", true)
  | 7 => ("WashingLinesModel", "strength", "[I", true)
  | 8 => ("WashingLinesModel", "held", "[I", true)
  | 9 => ("WashingLinesModel", "whose", "[I", true)
  | 10 => ("WashingLinesModel", "size", "[I", true)
  | 11 => ("WashingLinesModel", "wet", "[I", true)
  | 12 => ("WashingLinesModel", "hangs", "[I", true)
  | 13 => ("WashingLinesModel", "rainFrom", "[I", true)
  | 14 => ("WashingLinesModel", "rainTo", "[I", true)
  | 15 => ("WashingLinesModel", "logHour", "[I", true)
  | 16 => ("WashingLinesModel", "logLine", "[I", true)
  | 17 => ("WashingLinesModel", "logWho", "[I", true)
  | 18 => ("WashingLinesModel", "toldPegs", "[I", true)
  | 19 => ("WashingLinesModel", "toldWet", "[I", true)
  | 20 => ("WashingLinesModel", "toldHangs", "[I", true)
  | 21 => ("WashingLinesModel", "newScalar", "[I", true)
  | 22 => ("WashingLinesModel", "newPegs", "[I", true)
  | 23 => ("WashingLinesModel", "newOne", "[I", true)
  | 24 => ("WashingLinesModel", "newOther", "[I", true)
  | 25 => ("WashingLinesModel", "newLength", "[I", true)
  | 26 => ("WashingLinesModel", "newStrength", "[I", true)
  | 27 => ("WashingLinesModel", "newWhose", "[I", true)
  | 28 => ("WashingLinesModel", "newSize", "[I", true)
  | 29 => ("WashingLinesModel", "newWet", "[I", true)
  | 30 => ("WashingLinesModel", "newHangs", "[I", true)
  | 31 => ("WashingLinesModel", "newFrom", "[I", true)
  | 32 => ("WashingLinesModel", "newTo", "[I", true)
  | 33 => ("WashingLinesModel", "taped", "I", false)
  | 34 => ("WashingLinesModel", "p", "I", false)
  | 35 => ("WashingLinesModel", "fault", "I", false)
  | 36 => ("WashingLinesModel", "slot", "I", false)
  | 37 => ("WashingLinesModel", "rules", "I", false)
  | 38 => ("WashingLinesModel", "entries", "I", false)
  | 39 => ("WashingLinesModel", "deep", "I", false)
  | 40 => ("WashingLinesModel", "counted", "I", false)
  | 41 => ("WashingLinesModel", "opened", "I", false)
  | 42 => ("WashingLinesModel", "words", "I", false)
  | 43 => ("WashingLinesModel", "tape", "[B", true)
  | 44 => ("WashingLinesModel", "sort", "[I", true)
  | 45 => ("WashingLinesModel", "number", "[I", true)
  | 46 => ("WashingLinesModel", "clauses", "[I", true)
  | 47 => ("WashingLinesModel", "sumAt", "[I", true)
  | 48 => ("WashingLinesModel", "testAt", "[I", true)
  | 49 => ("WashingLinesModel", "endAt", "[I", true)
  | 50 => ("WashingLinesModel", "open", "[I", true)
  | 51 => ("WashingLinesModel", "asked", "[J", true)
  | 52 => ("WashingLinesModel", "stack", "[J", true)
  | 53 => ("WashingLinesModel", "isDrawnRain", "Z", false)
  | 54 => ("WashingLinesModel", "owners", "[I", true)
  | 55 => ("WashingLinesModel", "past", "[I", true)
  | 56 => ("WashingLinesModel", "ring", "[I", true)
  | 57 => ("WashingLinesModel", "pastMany", "I", false)
  | 58 => ("WashingLinesModel", "pastAt", "I", false)
  | 59 => ("WashingLinesModel", "takesBack", "Z", false)
  | 60 => ("WashingLinesModel", "toHang", "[I", true)
  | 61 => ("WashingLinesModel", "row", "[I", true)
  | 62 => ("WashingLinesModel", "bestRow", "[I", true)
  | 63 => ("WashingLinesModel", "hungMany", "I", false)
  | 64 => ("WashingLinesModel", "choice", "[I", true)
  | 65 => ("WashingLinesModel", "value", "[I", true)
  | 66 => ("WashingLinesModel", "firstAct", "I", false)
  | 67 => ("WashingLinesModel", "far", "[I", true)
  | 68 => ("WashingLinesModel", "shown", "[I", true)
  | 69 => ("WashingLinesModel", "alike", "[I", true)
  | 70 => ("WashingLinesModel", "images", "[I", true)
  | 71 => ("WashingLinesModel", "isMade", "[Z", true)
  | 72 => ("WashingLinesModel", "imageAt", "I", false)
  | _ => ("WashingLinesModel", "goesBack", "Z", false)
abbrev am_cl : List vw_C := [("WashingLines", am_F0, 9), ("WashingLines$Text", am_F1, 8), ("WashingLines$CourtReader", am_F2, 1), ("WashingLines$Court", am_F3, 17), ("WashingLines$Yard", am_F4, 7), ("WashingLines$RuleReader", am_F5, 2), ("WashingLines$Law", am_F6, 4), ("WashingLines$Book", am_F7, 3), ("WashingLines$World", am_F8, 11), ("WashingLines$Hours", am_F9, 10), ("WashingLines$Seeker", am_F10, 12), ("WashingLines$Trials", am_F11, 3), ("WashingLinesModel", am_F12, 74)]
def am_ftT : List (List Nat) := [[2, 2, 2, 2, 2, 2, 2, 2, 2], [2, 0, 2, 2, 2, 0, 0, 0], [2], [1, 0, 0, 0, 0, 0, 0, 2, 2, 2, 2, 2, 2, 2, 2, 2, 2], [0, 2, 2, 2, 2, 2, 2], [2, 0], [2, 0, 2, 0], [2, 2, 0], [2, 2, 2, 0, 0, 2, 2, 2, 0, 0, 0], [2, 2, 2, 1, 2, 2, 2, 2, 2, 2], [0, 0, 0, 2, 2, 2, 0, 2, 0, 0, 0, 2], [0, 0, 2], [0, 2, 2, 2, 2, 2, 2, 2, 2, 2, 2, 2, 2, 2, 2, 2, 2, 2, 2, 2, 2, 2, 2, 2, 2, 2, 2, 2, 2, 2, 2, 2, 2, 0, 0, 0, 0, 0, 0, 0, 0, 0, 0, 2, 2, 2, 2, 2, 2, 2, 2, 2, 2, 1, 2, 2, 2, 0, 0, 1, 2, 2, 2, 0, 2, 2, 0, 2, 2, 2, 2, 2, 0, 1]]
def am_ft (c : Nat) : List Nat := am_ftT.getD c []
/-- the number of the law; those below are callable -/
abbrev am_NM : Nat := 286
/-- fields of texts, statics: own class, entry, which -/
def am_fsT : List (Nat × Nat × Nat × Nat) := [(16, 9, 0, 2075), (16, 15, 1, 2076)]
def am_gsT : List (Nat × Nat × Nat × Nat) := [(16, 38, 0, 674), (16, 1053, 1, 690)]
/-- links of fields: own class, entry, field (128 * class + place), place of the word -/
def am_flT : List (Nat × Nat × Nat × Nat) := [(1, 9, 128, 147), (1, 24, 129, 148), (0, 77, 129, 149), (1, 15, 130, 150), (1, 18, 131, 151), (1, 21, 132, 152), (1, 28, 133, 153), (1, 31, 134, 154), (2, 26, 135, 155), (5, 30, 135, 156), (1, 34, 135, 157), (4, 33, 512, 198), (9, 89, 512, 199), (0, 192, 512, 200), (4, 9, 513, 201), (11, 65, 513, 202), (9, 67, 513, 203), (8, 90, 513, 204), (0, 167, 513, 205), (4, 15, 514, 206), (9, 125, 514, 207), (0, 170, 514, 208), (10, 170, 514, 209), (4, 18, 515, 210), (10, 90, 515, 211), (9, 80, 515, 212), (8, 84, 515, 213), (0, 185, 515, 214), (4, 21, 516, 215), (9, 83, 516, 216), (0, 182, 516, 217), (2, 138, 516, 218), (4, 24, 517, 219), (2, 104, 517, 220), (0, 126, 517, 221), (9, 135, 517, 222), (4, 27, 518, 223), (9, 74, 518, 224), (0, 132, 518, 225), (3, 46, 384, 241), (2, 55, 384, 242), (0, 188, 384, 243), (3, 50, 385, 244), (9, 106, 385, 245), (2, 94, 385, 246), (0, 336, 385, 247), (3, 54, 386, 248), (9, 97, 386, 249), (2, 97, 386, 250), (0, 339, 386, 251), (3, 57, 387, 252), (2, 59, 387, 253), (9, 128, 387, 254), (0, 342, 387, 255), (3, 60, 388, 256), (10, 45, 388, 257), (11, 77, 388, 258), (0, 96, 388, 259), (2, 62, 388, 260), (3, 63, 389, 261), (2, 65, 389, 262), (0, 345, 389, 263), (3, 66, 390, 264), (2, 68, 390, 265), (3, 9, 391, 266), (2, 117, 391, 267), (0, 145, 391, 268), (10, 186, 391, 269), (3, 15, 392, 270), (2, 120, 392, 271), (0, 148, 392, 272), (10, 189, 392, 273), (3, 18, 393, 274), (9, 77, 393, 275), (0, 151, 393, 276), (2, 123, 393, 277), (4, 73, 393, 278), (10, 192, 393, 279), (3, 21, 394, 280), (0, 154, 394, 281), (2, 126, 394, 282), (4, 79, 394, 283), (3, 24, 395, 284), (10, 87, 395, 285), (4, 52, 395, 286), (9, 112, 395, 287), (0, 176, 395, 288), (2, 129, 395, 289), (3, 27, 396, 290), (4, 58, 396, 291), (9, 118, 396, 292), (0, 179, 396, 293), (2, 132, 396, 294), (3, 30, 397, 295), (2, 135, 397, 296), (0, 227, 397, 297), (3, 33, 398, 298), (2, 149, 398, 299), (3, 36, 399, 300), (2, 152, 399, 301), (3, 42, 400, 302), (8, 47, 400, 303), (11, 38, 400, 304), (2, 100, 400, 305), (2, 12, 256, 341), (0, 85, 256, 342), (6, 9, 768, 358), (6, 19, 769, 359), (5, 18, 769, 360), (6, 15, 770, 361), (6, 29, 771, 362), (5, 12, 640, 373), (0, 106, 640, 374), (5, 22, 641, 375), (7, 11, 896, 394), (7, 18, 897, 395), (7, 26, 898, 396), (11, 23, 898, 397), (0, 308, 898, 398), (8, 12, 1024, 417), (11, 28, 1024, 418), (0, 93, 1024, 419), (8, 21, 1025, 420), (0, 122, 1025, 421), (8, 25, 1026, 422), (8, 59, 1027, 423), (8, 53, 1028, 424), (0, 236, 1028, 425), (8, 29, 1029, 426), (8, 33, 1030, 427), (8, 36, 1031, 428), (8, 56, 1032, 429), (0, 284, 1032, 430), (8, 39, 1033, 431), (0, 116, 1033, 432), (8, 68, 1034, 433), (0, 319, 1034, 434), (9, 12, 1152, 471), (10, 53, 1152, 472), (11, 58, 1152, 473), (0, 205, 1152, 474), (9, 21, 1153, 475), (10, 31, 1153, 476), (9, 28, 1154, 477), (9, 93, 1155, 478), (9, 32, 1156, 479), (9, 36, 1157, 480), (9, 39, 1158, 481), (9, 42, 1159, 482), (9, 45, 1160, 483), (9, 48, 1161, 484), (10, 50, 1280, 514), (0, 249, 1280, 515), (10, 116, 1281, 516), (0, 260, 1281, 517), (10, 179, 1282, 518), (0, 275, 1282, 519), (10, 9, 1283, 520), (10, 15, 1284, 521), (10, 18, 1285, 522), (10, 41, 1286, 523), (10, 23, 1287, 524), (10, 107, 1288, 525), (10, 110, 1289, 526), (10, 113, 1290, 527), (10, 27, 1291, 528), (11, 16, 1408, 562), (0, 295, 1408, 563), (11, 20, 1409, 564), (0, 298, 1409, 565), (11, 11, 1410, 566), (0, 10, 0, 574), (0, 19, 1, 575), (0, 26, 2, 576), (0, 33, 3, 577), (0, 40, 4, 578), (0, 44, 5, 579), (0, 51, 6, 580), (0, 58, 7, 581), (0, 65, 8, 582), (12, 9, 1537, 1353), (12, 13, 1538, 1354), (12, 16, 1539, 1355), (12, 19, 1540, 1356), (12, 22, 1541, 1357), (12, 25, 1542, 1358), (12, 28, 1543, 1359), (12, 31, 1544, 1360), (12, 34, 1545, 1361), (12, 37, 1546, 1362), (12, 40, 1547, 1363), (12, 43, 1548, 1364), (12, 46, 1549, 1365), (12, 49, 1550, 1366), (12, 52, 1551, 1367), (12, 55, 1552, 1368), (12, 58, 1553, 1369), (12, 61, 1554, 1370), (12, 64, 1555, 1371), (12, 67, 1556, 1372), (12, 70, 1557, 1373), (12, 73, 1558, 1374), (12, 76, 1559, 1375), (12, 79, 1560, 1376), (12, 82, 1561, 1377), (12, 85, 1562, 1378), (12, 88, 1563, 1379), (12, 91, 1564, 1380), (12, 94, 1565, 1381), (12, 97, 1566, 1382), (12, 100, 1567, 1383), (12, 103, 1568, 1384), (12, 193, 1569, 1385), (12, 224, 1570, 1386), (12, 221, 1571, 1387), (12, 250, 1572, 1388), (12, 380, 1573, 1389), (12, 253, 1574, 1390), (12, 293, 1575, 1391), (12, 256, 1576, 1392), (12, 290, 1577, 1393), (12, 106, 1578, 1394), (12, 110, 1579, 1395), (12, 114, 1580, 1396), (12, 117, 1581, 1397), (12, 120, 1582, 1398), (12, 123, 1583, 1399), (12, 126, 1584, 1400), (12, 129, 1585, 1401), (12, 132, 1586, 1402), (12, 135, 1587, 1403), (12, 139, 1588, 1404), (12, 400, 1589, 1405), (12, 142, 1590, 1406), (12, 145, 1591, 1407), (12, 148, 1592, 1408), (12, 367, 1593, 1409), (12, 445, 1594, 1410), (12, 442, 1595, 1411), (12, 151, 1596, 1412), (12, 154, 1597, 1413), (12, 157, 1598, 1414), (12, 493, 1599, 1415), (12, 160, 1600, 1416), (12, 163, 1601, 1417), (12, 510, 1602, 1418), (12, 166, 1603, 1419), (12, 169, 1604, 1420), (12, 172, 1605, 1421), (12, 175, 1606, 1422), (12, 178, 1607, 1423), (12, 575, 1608, 1424), (12, 572, 1609, 1425)]
/-- methods: name, code, locals, what it answers, its place in lw_tbl, static (1) or not, the place of that word, of selects (0: none), of initialized, how many parameters -/
abbrev am_MI : Type := MethodName × ByteArray × Nat × Option Jvm.ClassFile.FieldType × Nat × Nat × Nat × Nat × Nat × Nat
def am_mt : List am_MI := [
  (⟨"WashingLines", "<init>", "()V"⟩, prog_1_method_1_code, 1, none, 137, 0, 136, 0, 112, 0),
  (⟨"WashingLines$Text", "<init>", "()V"⟩, prog_9_method_1_code, 1, none, 145, 0, 144, 0, 113, 0),
  (⟨"WashingLines$CourtReader", "<init>", "()V"⟩, prog_4_method_1_code, 1, none, 180, 0, 179, 0, 114, 0),
  (⟨"WashingLines$Court", "<init>", "()V"⟩, prog_3_method_1_code, 1, none, 186, 0, 185, 0, 115, 0),
  (⟨"WashingLines$Yard", "<init>", "()V"⟩, prog_12_method_1_code, 1, none, 192, 0, 191, 0, 116, 0),
  (⟨"WashingLines$Yard", "clear", "()V"⟩, prog_12_method_2_code, 2, none, 197, 0, 195, 197, 116, 0),
  (⟨"WashingLines$RuleReader", "<init>", "()V"⟩, prog_7_method_1_code, 1, none, 350, 0, 349, 0, 117, 0),
  (⟨"WashingLines$Law", "<init>", "()V"⟩, prog_6_method_1_code, 1, none, 356, 0, 355, 0, 118, 0),
  (⟨"WashingLines$Book", "<init>", "()V"⟩, prog_2_method_1_code, 2, none, 385, 0, 384, 0, 119, 0),
  (⟨"WashingLines$Law", "add", "(I)V"⟩, prog_6_method_2_code, 2, none, 393, 0, 391, 393, 118, 1),
  (⟨"WashingLines$World", "<init>", "()V"⟩, prog_11_method_1_code, 2, none, 410, 0, 409, 0, 120, 0),
  (⟨"WashingLines$Hours", "<init>", "()V"⟩, prog_5_method_1_code, 1, none, 463, 0, 462, 0, 121, 0),
  (⟨"WashingLines$Seeker", "<init>", "()V"⟩, prog_8_method_1_code, 2, none, 510, 0, 509, 0, 122, 0),
  (⟨"WashingLines$Trials", "<init>", "()V"⟩, prog_10_method_1_code, 1, none, 558, 0, 557, 0, 123, 0),
  (⟨"WashingLines", "feed", "(IIIII)I"⟩, prog_1_method_2_code, 6, (some .int), 605, 0, 603, 605, 112, 5),
  (⟨"WashingLines$Text", "hasRoom", "(I)Z"⟩, prog_9_method_2_code, 2, (some .boolean), 609, 0, 607, 609, 113, 1),
  (⟨"WashingLines$Text", "append", "(I)V"⟩, prog_9_method_3_code, 3, none, 613, 0, 611, 613, 113, 1),
  (⟨"WashingLines", "end", "(I)I"⟩, prog_1_method_3_code, 2, (some .int), 617, 0, 615, 617, 112, 1),
  (⟨"WashingLines", "court", "()I"⟩, prog_1_method_4_code, 2, (some .int), 621, 0, 619, 621, 112, 0),
  (⟨"WashingLines$CourtReader", "read", "(LWashingLines$Text;)I"⟩, prog_4_method_2_code, 4, (some .int), 625, 0, 623, 625, 114, 1),
  (⟨"WashingLines$Court", "clear", "()V"⟩, prog_3_method_2_code, 1, none, 629, 0, 627, 629, 115, 0),
  (⟨"WashingLines$Text", "split", "()V"⟩, prog_9_method_4_code, 3, none, 634, 0, 632, 634, 113, 0),
  (⟨"WashingLines$Text", "splitAt", "(I)I"⟩, prog_9_method_13_code, 3, (some .int), 638, 0, 637, 1, 113, 1),
  (⟨"WashingLines$Text", "byteAt", "(I)I"⟩, prog_9_method_19_code, 2, (some .int), 642, 0, 641, 2, 113, 1),
  (⟨"WashingLines$Text", "isDigit", "(I)Z"⟩, prog_9_method_21_code, 1, (some .boolean), 645, 1, 644, 0, 113, 1),
  (⟨"WashingLines$Text", "splitNumber", "(I)I"⟩, prog_9_method_14_code, 5, (some .int), 649, 0, 648, 3, 113, 1),
  (⟨"WashingLines$Text", "addToken", "(III)V"⟩, prog_9_method_20_code, 4, none, 653, 0, 652, 4, 113, 3),
  (⟨"WashingLines$Text", "isLetter", "(I)Z"⟩, prog_9_method_22_code, 1, (some .boolean), 656, 1, 655, 0, 113, 1),
  (⟨"WashingLines$Text", "splitWord", "(I)I"⟩, prog_9_method_15_code, 4, (some .int), 660, 0, 659, 5, 113, 1),
  (⟨"WashingLines$Text", "wordKind", "(II)I"⟩, prog_9_method_17_code, 6, (some .int), 664, 0, 663, 6, 113, 2),
  (⟨"WashingLines$Text", "isWordAt", "(III)Z"⟩, prog_9_method_18_code, 6, (some .boolean), 717, 0, 716, 7, 113, 3),
  (⟨"WashingLines$Text", "splitSign", "(I)I"⟩, prog_9_method_16_code, 3, (some .int), 721, 0, 720, 8, 113, 1),
  (⟨"WashingLines$Text", "kind", "()I"⟩, prog_9_method_5_code, 1, (some .int), 785, 0, 783, 785, 113, 0),
  (⟨"WashingLines$CourtReader", "opensClause", "(I)Z"⟩, prog_4_method_3_code, 1, (some .boolean), 788, 1, 787, 0, 114, 1),
  (⟨"WashingLines$Text", "refuse", "(I)V"⟩, prog_9_method_10_code, 2, none, 792, 0, 790, 792, 113, 1),
  (⟨"WashingLines$CourtReader", "hasPlace", "(I)Z"⟩, prog_4_method_4_code, 2, (some .boolean), 796, 0, 795, 9, 114, 1),
  (⟨"WashingLines$Text", "step", "()V"⟩, prog_9_method_8_code, 1, none, 800, 0, 798, 800, 113, 0),
  (⟨"WashingLines$CourtReader", "readClause", "(LWashingLines$Text;I)V"⟩, prog_4_method_5_code, 3, none, 804, 0, 803, 10, 114, 2),
  (⟨"WashingLines$CourtReader", "readCourt", "(LWashingLines$Text;)V"⟩, prog_4_method_6_code, 2, none, 808, 0, 807, 11, 114, 1),
  (⟨"WashingLines$Text", "numberWithin", "(II)I"⟩, prog_9_method_12_code, 4, (some .int), 812, 0, 810, 812, 113, 2),
  (⟨"WashingLines$Text", "value", "()I"⟩, prog_9_method_7_code, 1, (some .int), 818, 0, 816, 818, 113, 0),
  (⟨"WashingLines$CourtReader", "readFamily", "(LWashingLines$Text;)V"⟩, prog_4_method_7_code, 3, none, 823, 0, 822, 12, 114, 1),
  (⟨"WashingLines$CourtReader", "readLine", "(LWashingLines$Text;)V"⟩, prog_4_method_8_code, 8, none, 827, 0, 826, 13, 114, 1),
  (⟨"WashingLines$Text", "place", "()I"⟩, prog_9_method_6_code, 1, (some .int), 831, 0, 829, 831, 113, 0),
  (⟨"WashingLines$Text", "refuseAt", "(II)V"⟩, prog_9_method_11_code, 3, none, 835, 0, 833, 835, 113, 2),
  (⟨"WashingLines$CourtReader", "readLinen", "(LWashingLines$Text;)V"⟩, prog_4_method_9_code, 6, none, 839, 0, 838, 14, 114, 1),
  (⟨"WashingLines$CourtReader", "readRain", "(LWashingLines$Text;)V"⟩, prog_4_method_11_code, 4, none, 843, 0, 842, 15, 114, 1),
  (⟨"WashingLines$CourtReader", "readHung", "(LWashingLines$Text;)V"⟩, prog_4_method_10_code, 5, none, 847, 0, 846, 16, 114, 1),
  (⟨"WashingLines$Yard", "mayHang", "(LWashingLines$Court;II)Z"⟩, prog_12_method_4_code, 5, (some .boolean), 851, 0, 849, 851, 116, 3),
  (⟨"WashingLines$Court", "isLinen", "(I)Z"⟩, prog_3_method_6_code, 2, (some .boolean), 855, 0, 853, 855, 115, 1),
  (⟨"WashingLines$Court", "isLine", "(I)Z"⟩, prog_3_method_5_code, 2, (some .boolean), 859, 0, 857, 859, 115, 1),
  (⟨"WashingLines$Court", "isFamily", "(I)Z"⟩, prog_3_method_4_code, 2, (some .boolean), 863, 0, 861, 863, 115, 1),
  (⟨"WashingLines$Yard", "lengthLeft", "(LWashingLines$Court;I)I"⟩, prog_12_method_9_code, 3, (some .int), 867, 0, 865, 867, 116, 2),
  (⟨"WashingLines$Yard", "cellsOn", "(LWashingLines$Court;I)I"⟩, prog_12_method_8_code, 5, (some .int), 871, 0, 869, 871, 116, 2),
  (⟨"WashingLines$Yard", "putUp", "(LWashingLines$Court;II)V"⟩, prog_12_method_5_code, 4, none, 875, 0, 873, 875, 116, 3),
  (⟨"WashingLines$Text", "expect", "(I)V"⟩, prog_9_method_9_code, 2, none, 880, 0, 878, 880, 113, 1),
  (⟨"WashingLines$World", "settle", "(LWashingLines$Court;)V"⟩, prog_11_method_2_code, 2, none, 884, 0, 882, 884, 120, 1),
  (⟨"WashingLines$Court", "copyFrom", "(LWashingLines$Court;)V"⟩, prog_3_method_3_code, 2, none, 888, 0, 886, 888, 115, 1),
  (⟨"WashingLines$Yard", "copyFrom", "(LWashingLines$Yard;)V"⟩, prog_12_method_3_code, 2, none, 895, 0, 893, 895, 116, 1),
  (⟨"WashingLines", "rule", "()I"⟩, prog_1_method_5_code, 2, (some .int), 902, 0, 900, 902, 112, 0),
  (⟨"WashingLines$Book", "isFull", "()Z"⟩, prog_2_method_2_code, 1, (some .boolean), 906, 0, 904, 906, 119, 0),
  (⟨"WashingLines$RuleReader", "read", "(LWashingLines$Text;)I"⟩, prog_7_method_2_code, 3, (some .int), 910, 0, 908, 910, 117, 1),
  (⟨"WashingLines$RuleReader", "readSum", "(LWashingLines$Text;)V"⟩, prog_7_method_6_code, 4, none, 918, 0, 917, 17, 117, 1),
  (⟨"WashingLines$RuleReader", "readTerm", "(LWashingLines$Text;)V"⟩, prog_7_method_7_code, 6, none, 922, 0, 921, 18, 117, 1),
  (⟨"WashingLines$RuleReader", "isValue", "(I)Z"⟩, prog_7_method_8_code, 1, (some .boolean), 926, 1, 925, 0, 117, 1),
  (⟨"WashingLines$RuleReader", "readTest", "(LWashingLines$Text;I)V"⟩, prog_7_method_3_code, 6, none, 932, 0, 931, 19, 117, 2),
  (⟨"WashingLines$RuleReader", "readFact", "(LWashingLines$Text;I)V"⟩, prog_7_method_4_code, 6, none, 936, 0, 935, 20, 117, 2),
  (⟨"WashingLines$RuleReader", "readComparison", "(LWashingLines$Text;)V"⟩, prog_7_method_5_code, 3, none, 940, 0, 939, 21, 117, 1),
  (⟨"WashingLines$RuleReader", "isComparison", "(I)Z"⟩, prog_7_method_9_code, 1, (some .boolean), 943, 1, 942, 0, 117, 1),
  (⟨"WashingLines$Book", "write", "(LWashingLines$Law;)I"⟩, prog_2_method_5_code, 2, (some .int), 947, 0, 945, 947, 119, 1),
  (⟨"WashingLines$Law", "copyFrom", "(LWashingLines$Law;)V"⟩, prog_6_method_3_code, 2, none, 951, 0, 949, 951, 118, 1),
  (⟨"WashingLines", "force", "(I)I"⟩, prog_1_method_6_code, 3, (some .int), 956, 0, 954, 956, 112, 1),
  (⟨"WashingLines$Book", "isRule", "(I)Z"⟩, prog_2_method_3_code, 2, (some .boolean), 960, 0, 958, 960, 119, 1),
  (⟨"WashingLines", "family", "(II)I"⟩, prog_1_method_7_code, 3, (some .int), 964, 0, 962, 964, 112, 2),
  (⟨"WashingLines", "linesOf", "(I)I"⟩, prog_1_method_38_code, 4, (some .int), 969, 0, 968, 22, 112, 1),
  (⟨"WashingLines", "startNow", "()V"⟩, prog_1_method_36_code, 1, none, 973, 0, 972, 23, 112, 0),
  (⟨"WashingLines$Book", "lawOf", "(I)LWashingLines$Law;"⟩, prog_2_method_4_code, 2, (some (.object "WashingLines$Law")), 977, 0, 975, 977, 119, 1),
  (⟨"WashingLines$Hours", "start", "(LWashingLines$Court;LWashingLines$Law;LWashingLines$Yard;)V"⟩, prog_5_method_2_code, 4, none, 982, 0, 980, 982, 121, 3),
  (⟨"WashingLines$Hours", "measure", "(Z)V"⟩, prog_5_method_6_code, 5, none, 987, 0, 985, 987, 121, 1),
  (⟨"WashingLines$Court", "isRainAt", "(I)Z"⟩, prog_3_method_8_code, 3, (some .boolean), 991, 0, 989, 991, 115, 1),
  (⟨"WashingLines$Hours", "measureLinen", "(III)V"⟩, prog_5_method_7_code, 4, none, 997, 0, 996, 24, 121, 3),
  (⟨"WashingLines$Hours", "ownerOf", "(I)I"⟩, prog_5_method_8_code, 8, (some .int), 1002, 0, 1000, 1002, 121, 1),
  (⟨"WashingLines$Law", "sumFor", "(LWashingLines$Hours;II)J"⟩, prog_6_method_4_code, 6, (some .long), 1006, 0, 1004, 1006, 118, 3),
  (⟨"WashingLines$Law", "push", "(J)V"⟩, prog_6_method_5_code, 3, none, 1010, 0, 1009, 25, 118, 1),
  (⟨"WashingLines$Hours", "valueOf", "(III)J"⟩, prog_5_method_9_code, 5, (some .long), 1014, 0, 1012, 1014, 121, 3),
  (⟨"WashingLines$Law", "turnTop", "()V"⟩, prog_6_method_6_code, 1, none, 1018, 0, 1017, 26, 118, 0),
  (⟨"WashingLines$Law", "joined", "(IJJ)J"⟩, prog_6_method_7_code, 5, (some .long), 1021, 1, 1020, 0, 118, 3),
  (⟨"WashingLines$Court", "linenOf", "(I)I"⟩, prog_3_method_7_code, 4, (some .int), 1025, 0, 1023, 1025, 115, 1),
  (⟨"WashingLines", "line", "(II)I"⟩, prog_1_method_8_code, 5, (some .int), 1029, 0, 1027, 1029, 112, 2),
  (⟨"WashingLines$Yard", "linenOn", "(I)I"⟩, prog_12_method_10_code, 4, (some .int), 1035, 0, 1033, 1035, 116, 1),
  (⟨"WashingLines", "ownerNow", "(I)I"⟩, prog_1_method_37_code, 2, (some .int), 1039, 0, 1038, 27, 112, 1),
  (⟨"WashingLines", "linen", "(II)I"⟩, prog_1_method_9_code, 4, (some .int), 1043, 0, 1041, 1043, 112, 2),
  (⟨"WashingLines", "hour", "()I"⟩, prog_1_method_10_code, 2, (some .int), 1048, 0, 1046, 1048, 112, 0),
  (⟨"WashingLines$World", "keepPast", "()V"⟩, prog_11_method_4_code, 2, none, 1052, 0, 1050, 1052, 120, 0),
  (⟨"WashingLines$Hours", "pass", "(Z)I"⟩, prog_5_method_4_code, 5, (some .int), 1060, 0, 1058, 1060, 121, 1),
  (⟨"WashingLines$Hours", "wetBehind", "(I)I"⟩, prog_5_method_5_code, 2, (some .int), 1066, 0, 1065, 28, 121, 1),
  (⟨"WashingLines", "hang", "(II)I"⟩, prog_1_method_11_code, 3, (some .int), 1071, 0, 1069, 1071, 112, 2),
  (⟨"WashingLines", "take", "(I)I"⟩, prog_1_method_12_code, 3, (some .int), 1077, 0, 1075, 1077, 112, 1),
  (⟨"WashingLines$World", "hangs", "(I)Z"⟩, prog_11_method_6_code, 2, (some .boolean), 1081, 0, 1079, 1081, 120, 1),
  (⟨"WashingLines$Yard", "takeDown", "(LWashingLines$Court;I)V"⟩, prog_12_method_6_code, 3, none, 1086, 0, 1084, 1086, 116, 2),
  (⟨"WashingLines", "wash", "(I)I"⟩, prog_1_method_13_code, 3, (some .int), 1090, 0, 1088, 1090, 112, 1),
  (⟨"WashingLines", "cut", "(I)I"⟩, prog_1_method_14_code, 2, (some .int), 1094, 0, 1092, 1094, 112, 1),
  (⟨"WashingLines$Yard", "cutDown", "(LWashingLines$Court;I)I"⟩, prog_12_method_7_code, 5, (some .int), 1098, 0, 1096, 1098, 116, 2),
  (⟨"WashingLines", "mend", "(I)Z"⟩, prog_1_method_15_code, 2, (some .boolean), 1103, 0, 1101, 1103, 112, 1),
  (⟨"WashingLines", "undo", "()I"⟩, prog_1_method_16_code, 1, (some .int), 1107, 0, 1105, 1107, 112, 0),
  (⟨"WashingLines$World", "giveBackPast", "()Z"⟩, prog_11_method_5_code, 2, (some .boolean), 1111, 0, 1109, 1111, 120, 0),
  (⟨"WashingLines", "ahead", "(III)I"⟩, prog_1_method_17_code, 6, (some .int), 1115, 0, 1113, 1115, 112, 3),
  (⟨"WashingLines$Hours", "passMany", "(I)V"⟩, prog_5_method_3_code, 3, none, 1119, 0, 1117, 1119, 121, 1),
  (⟨"WashingLines", "dries", "(I)I"⟩, prog_1_method_18_code, 3, (some .int), 1124, 0, 1122, 1124, 112, 1),
  (⟨"WashingLines$Yard", "isDryUp", "(I)Z"⟩, prog_12_method_14_code, 2, (some .boolean), 1128, 0, 1126, 1128, 116, 1),
  (⟨"WashingLines", "most", "(III)I"⟩, prog_1_method_19_code, 4, (some .int), 1132, 0, 1130, 1132, 112, 3),
  (⟨"WashingLines$Seeker", "seekMost", "(LWashingLines$Hours;LWashingLines$Yard;II)V"⟩, prog_8_method_2_code, 7, none, 1136, 0, 1134, 1136, 122, 4),
  (⟨"WashingLines$Seeker", "choosePieces", "(LWashingLines$Court;LWashingLines$Yard;I)V"⟩, prog_8_method_4_code, 6, none, 1140, 0, 1139, 29, 122, 3),
  (⟨"WashingLines$Seeker", "layRow", "(II)V"⟩, prog_8_method_5_code, 5, none, 1146, 0, 1145, 30, 122, 2),
  (⟨"WashingLines$Seeker", "hangRow", "(LWashingLines$Hours;)Z"⟩, prog_8_method_6_code, 3, (some .boolean), 1151, 0, 1150, 31, 122, 1),
  (⟨"WashingLines$Yard", "airOf", "(I)I"⟩, prog_12_method_13_code, 2, (some .int), 1158, 0, 1156, 1158, 116, 1),
  (⟨"WashingLines$Seeker", "placedAt", "(I)I"⟩, prog_8_method_3_code, 2, (some .int), 1163, 0, 1161, 1163, 122, 1),
  (⟨"WashingLines", "game", "(IIII)I"⟩, prog_1_method_20_code, 6, (some .int), 1167, 0, 1165, 1167, 112, 4),
  (⟨"WashingLines$Seeker", "seekAct", "(LWashingLines$Hours;III)V"⟩, prog_8_method_7_code, 5, none, 1172, 0, 1170, 1172, 122, 4),
  (⟨"WashingLines$Seeker", "bestFrom", "(LWashingLines$Hours;III)I"⟩, prog_8_method_8_code, 10, (some .int), 1178, 0, 1177, 32, 122, 4),
  (⟨"WashingLines$Seeker", "mayAct", "(LWashingLines$Court;LWashingLines$Yard;II)Z"⟩, prog_8_method_10_code, 5, (some .boolean), 1181, 1, 1180, 0, 122, 4),
  (⟨"WashingLines$Seeker", "bestBehind", "(LWashingLines$Hours;IIII)I"⟩, prog_8_method_9_code, 6, (some .int), 1185, 0, 1184, 33, 122, 5),
  (⟨"WashingLines", "free", "(II)I"⟩, prog_1_method_21_code, 3, (some .int), 1190, 0, 1188, 1190, 112, 2),
  (⟨"WashingLines$Seeker", "leastSet", "(LWashingLines$Hours;LWashingLines$Yard;II)I"⟩, prog_8_method_11_code, 10, (some .int), 1194, 0, 1192, 1194, 122, 4),
  (⟨"WashingLines$Yard", "linenUp", "()I"⟩, prog_12_method_11_code, 3, (some .int), 1200, 0, 1198, 1200, 116, 0),
  (⟨"WashingLines$Seeker", "moveAll", "(LWashingLines$Hours;IIZ)Z"⟩, prog_8_method_12_code, 5, (some .boolean), 1209, 1, 1208, 0, 122, 4),
  (⟨"WashingLines", "sizeOrSet", "(II)I"⟩, prog_1_method_39_code, 2, (some .int), 1215, 1, 1214, 0, 112, 2),
  (⟨"WashingLines", "few", "(III)I"⟩, prog_1_method_22_code, 4, (some .int), 1220, 0, 1218, 1220, 112, 3),
  (⟨"WashingLines", "way", "(III)I"⟩, prog_1_method_23_code, 5, (some .int), 1224, 0, 1222, 1224, 112, 3),
  (⟨"WashingLines$Seeker", "seekWay", "(LWashingLines$Court;LWashingLines$Yard;II)Z"⟩, prog_8_method_13_code, 7, (some .boolean), 1228, 0, 1226, 1228, 122, 4),
  (⟨"WashingLines$Seeker", "relax", "(LWashingLines$Court;I)V"⟩, prog_8_method_14_code, 6, none, 1233, 0, 1232, 34, 122, 2),
  (⟨"WashingLines$Seeker", "distanceFrom", "(I)I"⟩, prog_8_method_16_code, 2, (some .int), 1237, 0, 1236, 35, 122, 1),
  (⟨"WashingLines$Seeker", "leadsOn", "(LWashingLines$Court;III)Z"⟩, prog_8_method_15_code, 6, (some .boolean), 1241, 0, 1240, 36, 122, 4),
  (⟨"WashingLines", "bears", "(I)I"⟩, prog_1_method_24_code, 4, (some .int), 1245, 0, 1243, 1245, 112, 1),
  (⟨"WashingLines$Yard", "bearsForce", "(LWashingLines$Court;II)Z"⟩, prog_12_method_15_code, 6, (some .boolean), 1249, 0, 1247, 1249, 116, 3),
  (⟨"WashingLines", "storm", "(I)I"⟩, prog_1_method_25_code, 4, (some .int), 1253, 0, 1251, 1253, 112, 1),
  (⟨"WashingLines", "worth", "(II)I"⟩, prog_1_method_26_code, 5, (some .int), 1257, 0, 1255, 1257, 112, 2),
  (⟨"WashingLines", "log", "(III)I"⟩, prog_1_method_27_code, 5, (some .int), 1262, 0, 1260, 1262, 112, 3),
  (⟨"WashingLines$World", "addLog", "(III)V"⟩, prog_11_method_7_code, 4, none, 1266, 0, 1264, 1266, 120, 3),
  (⟨"WashingLines", "ruled", "(I)I"⟩, prog_1_method_28_code, 2, (some .int), 1270, 0, 1268, 1270, 112, 1),
  (⟨"WashingLines$Trials", "tryAll", "(LWashingLines$Hours;LWashingLines$World;LWashingLines$Book;I)V"⟩, prog_10_method_2_code, 6, none, 1274, 0, 1272, 1274, 123, 4),
  (⟨"WashingLines$Trials", "fits", "(LWashingLines$Hours;LWashingLines$World;I)Z"⟩, prog_10_method_3_code, 5, (some .boolean), 1280, 0, 1279, 37, 123, 3),
  (⟨"WashingLines$World", "isAsLogged", "(ILWashingLines$Yard;)Z"⟩, prog_11_method_8_code, 5, (some .boolean), 1285, 0, 1283, 1285, 120, 2),
  (⟨"WashingLines", "look", "(II)I"⟩, prog_1_method_29_code, 4, (some .int), 1291, 0, 1289, 1291, 112, 2),
  (⟨"WashingLines$Trials", "bestLook", "(LWashingLines$Court;)I"⟩, prog_10_method_4_code, 4, (some .int), 1295, 0, 1293, 1295, 123, 1),
  (⟨"WashingLines$Trials", "mostAlike", "(I)I"⟩, prog_10_method_5_code, 6, (some .int), 1299, 0, 1297, 1299, 123, 1),
  (⟨"WashingLines", "laws", "(III)I"⟩, prog_1_method_30_code, 7, (some .int), 1305, 0, 1303, 1305, 112, 3),
  (⟨"WashingLines", "seed", "(I)I"⟩, prog_1_method_31_code, 3, (some .int), 1309, 0, 1307, 1309, 112, 1),
  (⟨"WashingLines", "years", "(IIII)I"⟩, prog_1_method_32_code, 12, (some .int), 1313, 0, 1311, 1313, 112, 4),
  (⟨"WashingLines$Hours", "dryUp", "()I"⟩, prog_5_method_10_code, 3, (some .int), 1322, 0, 1320, 1322, 121, 0),
  (⟨"WashingLines", "count", "(I)I"⟩, prog_1_method_33_code, 3, (some .int), 1327, 0, 1325, 1327, 112, 1),
  (⟨"WashingLines$Yard", "linesCut", "()I"⟩, prog_12_method_12_code, 3, (some .int), 1332, 0, 1330, 1332, 116, 0),
  (⟨"WashingLines", "image", "(I)I"⟩, prog_1_method_34_code, 3, (some .int), 1337, 0, 1335, 1337, 112, 1),
  (⟨"WashingLines$World", "copyFrom", "(LWashingLines$World;)V"⟩, prog_11_method_3_code, 3, none, 1341, 0, 1339, 1341, 120, 1),
  (⟨"WashingLines", "back", "(I)I"⟩, prog_1_method_35_code, 3, (some .int), 1346, 0, 1344, 1346, 112, 1),
  (⟨"WashingLinesModel", "<init>", "()V"⟩, prog_14_method_1_code, 1, none, 1351, 0, 1350, 0, 124, 0),
  (⟨"WashingLinesModel", "feed", "(IIIII)I"⟩, prog_14_method_11_code, 6, (some .int), 1579, 0, 1577, 1579, 124, 5),
  (⟨"WashingLinesModel", "put", "(I)V"⟩, prog_14_method_12_code, 3, none, 1583, 0, 1582, 38, 124, 1),
  (⟨"WashingLinesModel", "end", "(I)I"⟩, prog_14_method_13_code, 2, (some .int), 1587, 0, 1585, 1587, 124, 1),
  (⟨"WashingLinesModel", "court", "()I"⟩, prog_14_method_47_code, 2, (some .int), 1591, 0, 1589, 1591, 124, 0),
  (⟨"WashingLinesModel", "readsAll", "()V"⟩, prog_14_method_45_code, 3, none, 1595, 0, 1594, 39, 124, 0),
  (⟨"WashingLinesModel", "starts", "()V"⟩, prog_14_method_44_code, 1, none, 1599, 0, 1598, 40, 124, 0),
  (⟨"WashingLinesModel", "courtClause", "(I)V"⟩, prog_14_method_41_code, 4, none, 1603, 0, 1602, 41, 124, 1),
  (⟨"WashingLinesModel", "blanks", "()V"⟩, prog_14_method_17_code, 1, none, 1607, 0, 1606, 42, 124, 0),
  (⟨"WashingLinesModel", "sign", "()I"⟩, prog_14_method_16_code, 1, (some .int), 1611, 0, 1610, 43, 124, 0),
  (⟨"WashingLinesModel", "courtWord", "(I)Ljava/lang/String;"⟩, prog_14_method_34_code, 1, (some (.object "java/lang/String")), 1614, 1, 1613, 0, 124, 1),
  (⟨"WashingLinesModel", "stood", "(Ljava/lang/String;)Z"⟩, prog_14_method_19_code, 5, (some .boolean), 1624, 0, 1623, 44, 124, 1),
  (⟨"WashingLinesModel", "fails", "(II)V"⟩, prog_14_method_15_code, 3, none, 1630, 0, 1629, 45, 124, 2),
  (⟨"WashingLinesModel", "isFull", "(II)Z"⟩, prog_14_method_40_code, 3, (some .boolean), 1634, 0, 1633, 46, 124, 2),
  (⟨"WashingLinesModel", "courtPart", "(I)V"⟩, prog_14_method_39_code, 3, none, 1638, 0, 1637, 47, 124, 1),
  (⟨"WashingLinesModel", "amount", "(II)I"⟩, prog_14_method_33_code, 5, (some .int), 1642, 0, 1641, 48, 124, 2),
  (⟨"WashingLinesModel", "digits", "(I)I"⟩, prog_14_method_23_code, 4, (some .int), 1647, 0, 1646, 49, 124, 1),
  (⟨"WashingLinesModel", "isDigit", "()Z"⟩, prog_14_method_18_code, 1, (some .boolean), 1651, 0, 1650, 50, 124, 0),
  (⟨"WashingLinesModel", "in", "(JJJ)Z"⟩, prog_14_method_3_code, 6, (some .boolean), 1656, 1, 1655, 0, 124, 3),
  (⟨"WashingLinesModel", "readsLinen", "()V"⟩, prog_14_method_36_code, 2, none, 1660, 0, 1659, 51, 124, 0),
  (⟨"WashingLinesModel", "readsLine", "()V"⟩, prog_14_method_35_code, 3, none, 1664, 0, 1663, 52, 124, 0),
  (⟨"WashingLinesModel", "readsHung", "()V"⟩, prog_14_method_38_code, 4, none, 1668, 0, 1667, 53, 124, 0),
  (⟨"WashingLinesModel", "couldHang", "(II)Z"⟩, prog_14_method_37_code, 5, (some .boolean), 1672, 0, 1671, 54, 124, 2),
  (⟨"WashingLinesModel", "goesOn", "()Z"⟩, prog_14_method_43_code, 2, (some .boolean), 1676, 0, 1675, 55, 124, 0),
  (⟨"WashingLinesModel", "copies", "([I[I)V"⟩, prog_14_method_42_code, 3, none, 1679, 1, 1678, 0, 124, 2),
  (⟨"WashingLinesModel", "begins", "()V"⟩, prog_14_method_46_code, 2, none, 1683, 0, 1682, 56, 124, 0),
  (⟨"WashingLinesModel", "rule", "()I"⟩, prog_14_method_49_code, 3, (some .int), 1687, 0, 1685, 1687, 124, 0),
  (⟨"WashingLinesModel", "ruleClause", "(I)V"⟩, prog_14_method_48_code, 4, none, 1691, 0, 1690, 57, 124, 1),
  (⟨"WashingLinesModel", "sum", "()V"⟩, prog_14_method_26_code, 2, none, 1696, 0, 1695, 58, 124, 0),
  (⟨"WashingLinesModel", "term", "()V"⟩, prog_14_method_25_code, 2, none, 1700, 0, 1699, 59, 124, 0),
  (⟨"WashingLinesModel", "value", "()V"⟩, prog_14_method_24_code, 3, none, 1704, 0, 1703, 60, 124, 0),
  (⟨"WashingLinesModel", "isCounted", "(I)V"⟩, prog_14_method_22_code, 2, none, 1708, 0, 1707, 61, 124, 1),
  (⟨"WashingLinesModel", "entry", "(II)V"⟩, prog_14_method_21_code, 3, none, 1712, 0, 1711, 62, 124, 2),
  (⟨"WashingLinesModel", "wordOf", "(I)Ljava/lang/String;"⟩, prog_14_method_14_code, 1, (some (.object "java/lang/String")), 1715, 1, 1714, 0, 124, 1),
  (⟨"WashingLinesModel", "takes", "(Ljava/lang/String;)Z"⟩, prog_14_method_20_code, 3, (some .boolean), 1730, 0, 1729, 63, 124, 1),
  (⟨"WashingLinesModel", "test", "()V"⟩, prog_14_method_32_code, 5, none, 1734, 0, 1733, 64, 124, 0),
  (⟨"WashingLinesModel", "fact", "()Z"⟩, prog_14_method_31_code, 1, (some .boolean), 1738, 0, 1737, 65, 124, 0),
  (⟨"WashingLinesModel", "opens", "(I)V"⟩, prog_14_method_29_code, 2, none, 1743, 0, 1742, 66, 124, 1),
  (⟨"WashingLinesModel", "compared", "()V"⟩, prog_14_method_27_code, 3, none, 1747, 0, 1746, 67, 124, 0),
  (⟨"WashingLinesModel", "answers", "(I)V"⟩, prog_14_method_30_code, 2, none, 1751, 0, 1750, 68, 124, 1),
  (⟨"WashingLinesModel", "top", "()I"⟩, prog_14_method_28_code, 1, (some .int), 1755, 0, 1754, 69, 124, 0),
  (⟨"WashingLinesModel", "force", "(I)I"⟩, prog_14_method_50_code, 3, (some .int), 1761, 0, 1759, 1761, 124, 1),
  (⟨"WashingLinesModel", "family", "(II)I"⟩, prog_14_method_61_code, 5, (some .int), 1766, 0, 1764, 1766, 124, 2),
  (⟨"WashingLinesModel", "isFamily", "(I)Z"⟩, prog_14_method_7_code, 2, (some .boolean), 1770, 0, 1769, 70, 124, 1),
  (⟨"WashingLinesModel", "linesOf", "(I)I"⟩, prog_14_method_60_code, 4, (some .int), 1774, 0, 1773, 71, 124, 1),
  (⟨"WashingLinesModel", "ownerOf", "(I)I"⟩, prog_14_method_59_code, 8, (some .int), 1778, 0, 1777, 72, 124, 1),
  (⟨"WashingLinesModel", "isCut", "(I)Z"⟩, prog_14_method_10_code, 2, (some .boolean), 1782, 0, 1781, 73, 124, 1),
  (⟨"WashingLinesModel", "has", "(II)Z"⟩, prog_14_method_5_code, 2, (some .boolean), 1785, 1, 1784, 0, 124, 2),
  (⟨"WashingLinesModel", "asks", "(II)V"⟩, prog_14_method_58_code, 9, none, 1789, 0, 1788, 74, 124, 2),
  (⟨"WashingLinesModel", "rains", "(I)Z"⟩, prog_14_method_55_code, 3, (some .boolean), 1793, 0, 1792, 75, 124, 1),
  (⟨"WashingLinesModel", "claimed", "()J"⟩, prog_14_method_51_code, 3, (some .long), 1797, 0, 1796, 76, 124, 0),
  (⟨"WashingLinesModel", "answer", "(III)J"⟩, prog_14_method_54_code, 8, (some .long), 1801, 0, 1800, 77, 124, 3),
  (⟨"WashingLinesModel", "both", "(IJJ)J"⟩, prog_14_method_53_code, 5, (some .long), 1804, 1, 1803, 0, 124, 3),
  (⟨"WashingLinesModel", "truth", "(Z)J"⟩, prog_14_method_52_code, 1, (some .long), 1807, 1, 1806, 0, 124, 1),
  (⟨"WashingLinesModel", "line", "(II)I"⟩, prog_14_method_62_code, 3, (some .int), 1811, 0, 1809, 1811, 124, 2),
  (⟨"WashingLinesModel", "isLine", "(I)Z"⟩, prog_14_method_8_code, 2, (some .boolean), 1815, 0, 1814, 78, 124, 1),
  (⟨"WashingLinesModel", "lengthLeft", "(I)I"⟩, prog_14_method_56_code, 4, (some .int), 1819, 0, 1818, 79, 124, 1),
  (⟨"WashingLinesModel", "linenOn", "(I)I"⟩, prog_14_method_57_code, 4, (some .int), 1823, 0, 1822, 80, 124, 1),
  (⟨"WashingLinesModel", "linen", "(II)I"⟩, prog_14_method_63_code, 3, (some .int), 1827, 0, 1825, 1827, 124, 2),
  (⟨"WashingLinesModel", "isLinen", "(I)Z"⟩, prog_14_method_9_code, 2, (some .boolean), 1831, 0, 1830, 81, 124, 1),
  (⟨"WashingLinesModel", "undo", "()I"⟩, prog_14_method_70_code, 1, (some .int), 1835, 0, 1833, 1835, 124, 0),
  (⟨"WashingLinesModel", "movesAll", "(IZ)V"⟩, prog_14_method_68_code, 3, none, 1839, 0, 1838, 82, 124, 2),
  (⟨"WashingLinesModel", "moves", "(I)I"⟩, prog_14_method_66_code, 3, (some .int), 1843, 0, 1842, 83, 124, 1),
  (⟨"WashingLinesModel", "movesRow", "([I)V"⟩, prog_14_method_67_code, 3, none, 1847, 0, 1846, 84, 124, 1),
  (⟨"WashingLinesModel", "hour", "()I"⟩, prog_14_method_71_code, 1, (some .int), 1851, 0, 1849, 1851, 124, 0),
  (⟨"WashingLinesModel", "isCourt", "()Z"⟩, prog_14_method_6_code, 1, (some .boolean), 1855, 0, 1854, 85, 124, 0),
  (⟨"WashingLinesModel", "keepsAct", "()V"⟩, prog_14_method_69_code, 2, none, 1859, 0, 1858, 86, 124, 0),
  (⟨"WashingLinesModel", "goes", "()I"⟩, prog_14_method_64_code, 4, (some .int), 1863, 0, 1862, 87, 124, 0),
  (⟨"WashingLinesModel", "hang", "(II)I"⟩, prog_14_method_75_code, 3, (some .int), 1867, 0, 1865, 1867, 124, 2),
  (⟨"WashingLinesModel", "canHang", "(II)Z"⟩, prog_14_method_72_code, 3, (some .boolean), 1871, 0, 1870, 88, 124, 2),
  (⟨"WashingLinesModel", "hangsOn", "(II)V"⟩, prog_14_method_73_code, 3, none, 1875, 0, 1874, 89, 124, 2),
  (⟨"WashingLinesModel", "take", "(I)I"⟩, prog_14_method_76_code, 3, (some .int), 1879, 0, 1877, 1879, 124, 1),
  (⟨"WashingLinesModel", "comesDown", "(I)V"⟩, prog_14_method_74_code, 2, none, 1883, 0, 1882, 90, 124, 1),
  (⟨"WashingLinesModel", "wash", "(I)I"⟩, prog_14_method_77_code, 2, (some .int), 1887, 0, 1885, 1887, 124, 1),
  (⟨"WashingLinesModel", "cut", "(I)I"⟩, prog_14_method_78_code, 4, (some .int), 1891, 0, 1889, 1891, 124, 1),
  (⟨"WashingLinesModel", "mend", "(I)Z"⟩, prog_14_method_79_code, 2, (some .boolean), 1895, 0, 1893, 1895, 124, 1),
  (⟨"WashingLinesModel", "ahead", "(III)I"⟩, prog_14_method_83_code, 5, (some .int), 1899, 0, 1897, 1899, 124, 3),
  (⟨"WashingLinesModel", "isNumber", "(II)Z"⟩, prog_14_method_82_code, 3, (some .boolean), 1904, 0, 1903, 91, 124, 2),
  (⟨"WashingLinesModel", "keepsAll", "()V"⟩, prog_14_method_80_code, 1, none, 1909, 0, 1908, 92, 124, 0),
  (⟨"WashingLinesModel", "carriesAll", "(IZ)V"⟩, prog_14_method_116_code, 3, none, 1913, 0, 1912, 93, 124, 2),
  (⟨"WashingLinesModel", "carryRow", "([I)V"⟩, prog_14_method_115_code, 3, none, 1917, 0, 1916, 94, 124, 1),
  (⟨"WashingLinesModel", "goFor", "(I)V"⟩, prog_14_method_65_code, 3, none, 1921, 0, 1920, 95, 124, 1),
  (⟨"WashingLinesModel", "laysBack", "()V"⟩, prog_14_method_81_code, 1, none, 1925, 0, 1924, 96, 124, 0),
  (⟨"WashingLinesModel", "dries", "(I)I"⟩, prog_14_method_84_code, 4, (some .int), 1929, 0, 1927, 1929, 124, 1),
  (⟨"WashingLinesModel", "most", "(III)I"⟩, prog_14_method_87_code, 7, (some .int), 1933, 0, 1931, 1933, 124, 3),
  (⟨"WashingLinesModel", "laysToHang", "(I)V"⟩, prog_14_method_85_code, 3, none, 1939, 0, 1938, 97, 124, 1),
  (⟨"WashingLinesModel", "hangsRow", "(I)Z"⟩, prog_14_method_86_code, 4, (some .boolean), 1943, 0, 1942, 98, 124, 1),
  (⟨"WashingLinesModel", "game", "(IIII)I"⟩, prog_14_method_92_code, 5, (some .int), 1947, 0, 1945, 1947, 124, 4),
  (⟨"WashingLinesModel", "playsGame", "(III)V"⟩, prog_14_method_91_code, 5, none, 1953, 0, 1952, 99, 124, 3),
  (⟨"WashingLinesModel", "takesValue", "(II)V"⟩, prog_14_method_90_code, 4, none, 1958, 0, 1957, 100, 124, 2),
  (⟨"WashingLinesModel", "goesThrough", "(III)V"⟩, prog_14_method_89_code, 5, none, 1962, 0, 1961, 101, 124, 3),
  (⟨"WashingLinesModel", "acts", "(II)Z"⟩, prog_14_method_88_code, 5, (some .boolean), 1966, 0, 1965, 102, 124, 2),
  (⟨"WashingLinesModel", "free", "(II)I"⟩, prog_14_method_93_code, 7, (some .int), 1970, 0, 1968, 1970, 124, 2),
  (⟨"WashingLinesModel", "bits", "(I)I"⟩, prog_14_method_4_code, 3, (some .int), 1973, 1, 1972, 0, 124, 1),
  (⟨"WashingLinesModel", "few", "(III)I"⟩, prog_14_method_95_code, 7, (some .int), 1977, 0, 1975, 1977, 124, 3),
  (⟨"WashingLinesModel", "hangsSet", "(II)Z"⟩, prog_14_method_94_code, 4, (some .boolean), 1981, 0, 1980, 103, 124, 2),
  (⟨"WashingLinesModel", "way", "(III)I"⟩, prog_14_method_98_code, 6, (some .int), 1985, 0, 1983, 1985, 124, 3),
  (⟨"WashingLinesModel", "laysFar", "(I)V"⟩, prog_14_method_97_code, 5, none, 1990, 0, 1989, 104, 124, 1),
  (⟨"WashingLinesModel", "over", "(II)I"⟩, prog_14_method_96_code, 3, (some .int), 1995, 0, 1994, 105, 124, 2),
  (⟨"WashingLinesModel", "bears", "(I)I"⟩, prog_14_method_100_code, 4, (some .int), 1999, 0, 1997, 1999, 124, 1),
  (⟨"WashingLinesModel", "loadOf", "(II)I"⟩, prog_14_method_99_code, 5, (some .int), 2003, 0, 2002, 106, 124, 2),
  (⟨"WashingLinesModel", "storm", "(I)I"⟩, prog_14_method_101_code, 4, (some .int), 2007, 0, 2005, 2007, 124, 1),
  (⟨"WashingLinesModel", "worth", "(II)I"⟩, prog_14_method_102_code, 6, (some .int), 2012, 0, 2010, 2012, 124, 2),
  (⟨"WashingLinesModel", "log", "(III)I"⟩, prog_14_method_103_code, 5, (some .int), 2017, 0, 2015, 2017, 124, 3),
  (⟨"WashingLinesModel", "ruled", "(I)I"⟩, prog_14_method_106_code, 5, (some .int), 2021, 0, 2019, 2021, 124, 1),
  (⟨"WashingLinesModel", "couldRule", "(II)Z"⟩, prog_14_method_105_code, 5, (some .boolean), 2025, 0, 2024, 107, 124, 2),
  (⟨"WashingLinesModel", "areLogsSo", "(I)Z"⟩, prog_14_method_104_code, 4, (some .boolean), 2029, 0, 2028, 108, 124, 1),
  (⟨"WashingLinesModel", "look", "(II)I"⟩, prog_14_method_107_code, 9, (some .int), 2033, 0, 2031, 2033, 124, 2),
  (⟨"WashingLinesModel", "laws", "(III)I"⟩, prog_14_method_108_code, 8, (some .int), 2037, 0, 2035, 2037, 124, 3),
  (⟨"WashingLinesModel", "seed", "(I)I"⟩, prog_14_method_109_code, 3, (some .int), 2041, 0, 2039, 2041, 124, 1),
  (⟨"WashingLinesModel", "years", "(IIII)I"⟩, prog_14_method_112_code, 11, (some .int), 2045, 0, 2043, 2045, 124, 4),
  (⟨"WashingLinesModel", "draws", "(I)I"⟩, prog_14_method_110_code, 2, (some .int), 2050, 0, 2049, 109, 124, 1),
  (⟨"WashingLinesModel", "dryOnes", "()I"⟩, prog_14_method_111_code, 3, (some .int), 2058, 0, 2057, 110, 124, 0),
  (⟨"WashingLinesModel", "count", "(I)I"⟩, prog_14_method_114_code, 2, (some .int), 2062, 0, 2060, 2062, 124, 1),
  (⟨"WashingLinesModel", "allHung", "()I"⟩, prog_14_method_113_code, 3, (some .int), 2066, 0, 2065, 111, 124, 0),
  (⟨"WashingLinesModel", "image", "(I)I"⟩, prog_14_method_117_code, 2, (some .int), 2070, 0, 2068, 2070, 124, 1),
  (⟨"WashingLinesModel", "back", "(I)I"⟩, prog_14_method_118_code, 2, (some .int), 2074, 0, 2072, 2074, 124, 1),
  (⟨"java/lang/Math", "floorMod", "(II)I"⟩, prog_17_method_50_code, 3, (some .int), 1055, 1, 1054, 0, 129, 2),
  (⟨"java/lang/Integer", "bitCount", "(I)I"⟩, prog_16_method_49_code, 1, (some .int), 1203, 1, 1202, 0, 132, 1),
  (⟨"java/lang/String", "length", "()I"⟩, prog_18_method_54_code, 1, (some .int), 669, 0, 667, 669, 125, 0),
  (⟨"java/lang/String", "coder", "()B"⟩, prog_18_method_152_code, 1, (some .byte), 673, 0, 671, 673, 125, 0),
  (⟨"java/lang/String", "charAt", "(I)C"⟩, prog_18_method_56_code, 2, (some .char), 679, 0, 677, 679, 125, 1),
  (⟨"java/lang/String", "isLatin1", "()Z"⟩, prog_18_method_154_code, 1, (some .boolean), 683, 0, 681, 683, 125, 0),
  (⟨"java/lang/String", "indexOf", "(I)I"⟩, prog_18_method_79_code, 2, (some .int), 726, 0, 724, 726, 125, 1),
  (⟨"java/lang/String", "indexOf", "(II)I"⟩, prog_18_method_80_code, 3, (some .int), 730, 0, 728, 730, 125, 2),
  (⟨"java/lang/String", "checkIndex", "(II)V"⟩, prog_18_method_155_code, 2, none, 689, 1, 688, 0, 125, 2),
  (⟨"java/lang/StringLatin1", "charAt", "([BI)C"⟩, prog_19_method_2_code, 2, (some .char), 686, 1, 685, 0, 126, 2),
  (⟨"java/lang/StringLatin1", "indexOf", "([BIII)I"⟩, prog_19_method_22_code, 4, (some .int), 734, 1, 733, 0, 126, 4),
  (⟨"java/lang/StringLatin1", "canEncode", "(I)Z"⟩, prog_19_method_4_code, 1, (some .boolean), 737, 1, 736, 0, 126, 1),
  (⟨"java/lang/StringLatin1", "indexOfChar", "([BIII)I"⟩, prog_19_method_23_code, 6, (some .int), 746, 1, 745, 0, 126, 4),
  (⟨"jdk/internal/util/Preconditions", "checkIndex", "(IILjava/util/function/BiFunction;)I"⟩, prog_22_method_11_code, 3, (some .int), 694, 1, 693, 0, 127, 3),
  (x, code, 4, ret, 0, 1, 0, 0, 0, 1)]
def am_mi (k : Nat) : am_MI := am_mt.getD k (x, code, 4, ret, 0, 1, 0, 0, 0, 1)
def am_y (k : Nat) : MethodName := (am_mi k).1
def am_bc (k : Nat) : ByteArray := (am_mi k).2.1
def am_nl (k : Nat) : Nat := (am_mi k).2.2.1
def am_rt (k : Nat) : Option Jvm.ClassFile.FieldType := (am_mi k).2.2.2.1
def am_oc : List Nat := [0, 1, 2, 3, 4, 4, 5, 6, 7, 6, 8, 9, 10, 11, 0, 1, 1, 0, 0, 2, 3, 1, 1, 1, 1, 1, 1, 1, 1, 1, 1, 1, 1, 2, 1, 2, 1, 2, 2, 1, 1, 2, 2, 1, 1, 2, 2, 2, 4, 3, 3, 3, 4, 4, 4, 1, 8, 3, 4, 0, 7, 5, 5, 5, 5, 5, 5, 5, 5, 7, 6, 0, 7, 0, 0, 0, 7, 9, 9, 3, 9, 9, 6, 6, 9, 6, 6, 3, 0, 4, 0, 0, 0, 8, 9, 9, 0, 0, 8, 4, 0, 0, 4, 0, 0, 8, 0, 9, 0, 4, 0, 10, 10, 10, 10, 4, 10, 0, 10, 10, 10, 10, 0, 10, 4, 10, 0, 0, 0, 10, 10, 10, 10, 0, 4, 0, 0, 0, 8, 0, 11, 11, 8, 0, 11, 11, 0, 0, 0, 9, 0, 4, 0, 8, 0, 12, 12, 12, 12, 12, 12, 12, 12, 12, 12, 12, 12, 12, 12, 12, 12, 12, 12, 12, 12, 12, 12, 12, 12, 12, 12, 12, 12, 12, 12, 12, 12, 12, 12, 12, 12, 12, 12, 12, 12, 12, 12, 12, 12, 12, 12, 12, 12, 12, 12, 12, 12, 12, 12, 12, 12, 12, 12, 12, 12, 12, 12, 12, 12, 12, 12, 12, 12, 12, 12, 12, 12, 12, 12, 12, 12, 12, 12, 12, 12, 12, 12, 12, 12, 12, 12, 12, 12, 12, 12, 12, 12, 12, 12, 12, 12, 12, 12, 12, 12, 12, 12, 12, 12, 12, 12, 12, 12, 12, 12, 12, 12, 12, 12, 12, 12, 12, 14, 15, 16, 16, 16, 16, 16, 16, 16, 17, 17, 17, 17, 18, 13]
def am_o (k : Nat) : Nat := am_oc.getD k 13
/-- links of methods: own class, entry, how (0 virtual, 1 static, 2 special, 3 special to a private one of a nest mate; 4 a native kind), method (or kind), place of the word -/
def am_mlT : List (Nat × Nat × Nat × Nat × Nat) := [(13, 9, 2, 0, 135), (0, 1, 4, 14, 138), (1, 3, 4, 14, 146), (2, 3, 4, 14, 181), (3, 3, 4, 14, 187), (3, 41, 2, 4, 190), (4, 3, 4, 14, 193), (4, 30, 0, 5, 194), (5, 3, 4, 14, 351), (6, 3, 4, 14, 357), (0, 32, 2, 8, 383), (7, 3, 4, 14, 386), (7, 22, 0, 9, 390), (0, 39, 2, 10, 408), (8, 3, 4, 14, 411), (8, 20, 2, 4, 415), (9, 3, 4, 14, 464), (9, 11, 2, 4, 466), (0, 57, 2, 12, 508), (10, 3, 4, 14, 511), (10, 30, 2, 4, 513), (11, 3, 4, 14, 559), (13, 13, 0, 14, 602), (0, 69, 0, 15, 606), (0, 73, 0, 16, 610), (13, 18, 0, 17, 614), (13, 23, 0, 18, 618), (0, 81, 0, 19, 622), (2, 18, 0, 20, 626), (3, 69, 0, 5, 630), (2, 21, 0, 21, 631), (1, 37, 0, 22, 635), (1, 59, 0, 23, 639), (1, 62, 1, 24, 643), (1, 66, 0, 25, 646), (1, 41, 0, 26, 650), (1, 69, 1, 27, 654), (1, 72, 0, 28, 657), (1, 78, 0, 29, 661), (1, 91, 0, 274, 666), (16, 335, 0, 275, 670), (1, 94, 0, 276, 676), (16, 492, 0, 277, 680), (16, 495, 1, 281, 684), (17, 9, 1, 280, 687), (16, 1059, 1, 285, 692), (1, 98, 0, 30, 714), (1, 75, 0, 31, 718), (1, 84, 0, 278, 723), (16, 633, 0, 279, 727), (16, 505, 0, 274, 731), (16, 637, 1, 282, 732), (17, 88, 1, 283, 735), (17, 92, 4, 15, 738), (17, 38, 4, 16, 741), (17, 95, 1, 284, 744), (2, 30, 0, 32, 782), (2, 34, 1, 33, 786), (2, 38, 0, 34, 789), (2, 42, 0, 35, 793), (2, 45, 0, 36, 797), (2, 48, 0, 37, 801), (2, 71, 0, 38, 805), (2, 90, 0, 39, 809), (1, 45, 0, 32, 813), (1, 52, 0, 34, 814), (1, 56, 0, 40, 815), (1, 49, 0, 36, 819), (2, 75, 0, 41, 820), (2, 78, 0, 42, 824), (2, 110, 0, 43, 828), (2, 113, 0, 44, 832), (2, 81, 0, 45, 836), (2, 84, 0, 46, 840), (2, 87, 0, 47, 844), (2, 141, 0, 48, 848), (4, 43, 0, 49, 852), (4, 49, 0, 50, 856), (4, 55, 0, 51, 860), (4, 61, 0, 52, 864), (4, 76, 0, 53, 868), (2, 145, 0, 54, 872), (4, 65, 0, 48, 876), (2, 52, 0, 55, 877), (0, 89, 0, 56, 881), (8, 43, 0, 57, 885), (3, 72, 4, 10, 889), (3, 78, 0, 58, 892), (4, 37, 4, 10, 896), (8, 50, 0, 58, 897), (13, 28, 0, 59, 899), (0, 101, 0, 60, 903), (0, 105, 0, 61, 907), (5, 25, 0, 21, 911), (5, 33, 0, 32, 912), (5, 37, 0, 34, 913), (5, 41, 0, 55, 914), (5, 44, 0, 62, 915), (5, 68, 0, 63, 919), (5, 71, 0, 40, 923), (5, 74, 1, 64, 924), (5, 55, 0, 9, 927), (5, 48, 0, 36, 928), (5, 51, 0, 65, 929), (5, 58, 0, 66, 933), (5, 61, 0, 67, 937), (5, 64, 1, 68, 941), (0, 109, 0, 69, 944), (7, 34, 0, 70, 948), (6, 23, 4, 10, 952), (13, 32, 0, 71, 953), (0, 113, 0, 72, 957), (13, 36, 0, 73, 961), (0, 119, 0, 51, 965), (0, 135, 0, 74, 966), (0, 198, 0, 75, 970), (0, 311, 0, 76, 974), (7, 30, 0, 72, 978), (0, 315, 0, 77, 979), (9, 51, 0, 58, 983), (0, 360, 0, 78, 984), (9, 109, 0, 79, 988), (9, 115, 0, 50, 992), (9, 70, 0, 51, 993), (9, 121, 0, 80, 994), (9, 100, 4, 15, 998), (0, 364, 0, 81, 999), (9, 131, 0, 82, 1003), (6, 32, 0, 83, 1007), (6, 36, 0, 84, 1011), (6, 42, 0, 85, 1015), (6, 45, 1, 86, 1019), (0, 139, 0, 87, 1022), (13, 41, 0, 88, 1026), (0, 142, 0, 50, 1030), (0, 157, 0, 52, 1031), (0, 161, 0, 89, 1032), (0, 164, 0, 90, 1036), (13, 45, 0, 91, 1040), (0, 173, 0, 49, 1044), (13, 49, 0, 92, 1045), (0, 195, 0, 93, 1049), (8, 71, 1, 272, 1053), (8, 77, 4, 16, 1056), (0, 201, 0, 94, 1057), (9, 59, 0, 78, 1061), (9, 63, 0, 81, 1062), (9, 86, 0, 95, 1063), (0, 208, 0, 58, 1067), (13, 53, 0, 96, 1068), (0, 212, 0, 48, 1072), (0, 216, 0, 54, 1073), (13, 57, 0, 97, 1074), (0, 220, 0, 98, 1078), (8, 80, 0, 49, 1082), (0, 223, 0, 99, 1083), (13, 61, 0, 100, 1087), (13, 65, 0, 101, 1091), (0, 230, 0, 102, 1095), (4, 69, 0, 99, 1099), (13, 69, 0, 103, 1100), (13, 74, 0, 104, 1104), (0, 233, 0, 105, 1108), (13, 78, 0, 106, 1112), (0, 239, 0, 107, 1116), (9, 55, 0, 94, 1120), (13, 83, 0, 108, 1121), (0, 242, 0, 109, 1125), (13, 87, 0, 110, 1129), (0, 245, 0, 111, 1133), (10, 37, 0, 112, 1137), (10, 83, 0, 49, 1141), (10, 57, 0, 58, 1142), (10, 61, 0, 113, 1143), (10, 93, 4, 16, 1147), (10, 65, 0, 114, 1148), (10, 99, 0, 48, 1152), (10, 103, 0, 54, 1153), (10, 69, 0, 107, 1154), (10, 73, 0, 115, 1155), (10, 77, 4, 10, 1159), (0, 252, 0, 116, 1160), (13, 91, 0, 117, 1164), (0, 256, 0, 118, 1169), (10, 121, 0, 119, 1175), (10, 125, 1, 120, 1179), (10, 129, 0, 121, 1182), (10, 133, 0, 94, 1186), (13, 96, 0, 122, 1187), (0, 263, 0, 123, 1191), (10, 137, 0, 89, 1195), (10, 140, 0, 87, 1196), (10, 143, 0, 124, 1197), (10, 147, 1, 273, 1201), (10, 152, 1, 125, 1207), (10, 163, 0, 99, 1210), (10, 156, 0, 78, 1211), (10, 160, 0, 81, 1212), (0, 267, 1, 126, 1213), (0, 367, 1, 273, 1216), (13, 100, 0, 127, 1217), (13, 104, 0, 128, 1221), (0, 271, 0, 129, 1225), (10, 167, 0, 50, 1229), (10, 173, 0, 130, 1230), (10, 176, 0, 131, 1234), (10, 182, 0, 132, 1238), (13, 108, 0, 133, 1242), (0, 278, 0, 134, 1246), (13, 112, 0, 135, 1250), (13, 116, 0, 136, 1254), (0, 281, 0, 115, 1258), (13, 120, 0, 137, 1259), (0, 287, 0, 138, 1263), (13, 124, 0, 139, 1267), (0, 291, 0, 140, 1271), (11, 34, 0, 76, 1275), (11, 44, 0, 77, 1276), (11, 50, 0, 141, 1277), (11, 54, 0, 94, 1281), (11, 61, 0, 142, 1282), (8, 87, 0, 50, 1286), (11, 71, 4, 10, 1287), (13, 128, 0, 143, 1288), (0, 301, 0, 144, 1292), (11, 80, 0, 145, 1296), (11, 84, 4, 15, 1300), (0, 305, 0, 145, 1301), (13, 132, 0, 146, 1302), (13, 136, 0, 147, 1306), (13, 140, 0, 148, 1310), (0, 332, 0, 149, 1319), (9, 138, 0, 109, 1323), (13, 144, 0, 150, 1324), (0, 348, 0, 124, 1328), (0, 351, 0, 151, 1329), (0, 354, 0, 79, 1333), (13, 148, 0, 152, 1334), (0, 357, 0, 153, 1338), (8, 62, 4, 10, 1342), (13, 152, 0, 154, 1343), (13, 12, 2, 155, 1349), (12, 3, 4, 14, 1352), (13, 17, 0, 156, 1576), (12, 196, 0, 157, 1580), (13, 22, 0, 158, 1584), (13, 27, 0, 159, 1588), (12, 361, 0, 160, 1592), (12, 348, 0, 161, 1596), (12, 351, 0, 162, 1600), (12, 243, 0, 163, 1604), (12, 227, 0, 164, 1608), (12, 339, 1, 165, 1612), (12, 246, 0, 166, 1621), (12, 235, 0, 274, 1625), (12, 239, 0, 276, 1626), (12, 259, 0, 167, 1627), (12, 342, 0, 168, 1631), (12, 345, 0, 169, 1635), (12, 323, 0, 170, 1639), (12, 268, 0, 171, 1644), (12, 263, 0, 172, 1648), (12, 185, 1, 173, 1654), (12, 330, 0, 174, 1657), (12, 333, 0, 175, 1661), (12, 336, 0, 176, 1665), (12, 327, 0, 177, 1669), (12, 354, 0, 178, 1673), (12, 357, 1, 179, 1677), (12, 364, 0, 180, 1680), (13, 31, 0, 181, 1684), (12, 383, 0, 182, 1688), (12, 287, 0, 183, 1693), (12, 284, 0, 184, 1697), (12, 282, 0, 185, 1701), (12, 272, 0, 186, 1705), (12, 275, 0, 187, 1709), (12, 278, 1, 188, 1713), (12, 374, 0, 189, 1727), (12, 377, 0, 190, 1731), (12, 307, 0, 191, 1735), (12, 301, 0, 192, 1740), (12, 304, 0, 193, 1744), (12, 310, 0, 194, 1748), (12, 296, 0, 195, 1752), (13, 35, 0, 196, 1758), (13, 40, 0, 197, 1763), (12, 421, 0, 198, 1767), (12, 424, 0, 199, 1771), (12, 418, 0, 200, 1775), (12, 408, 0, 201, 1779), (12, 189, 1, 202, 1783), (12, 411, 0, 203, 1786), (12, 404, 0, 204, 1790), (12, 414, 0, 205, 1794), (12, 388, 0, 206, 1798), (12, 396, 1, 207, 1802), (12, 392, 1, 208, 1805), (13, 44, 0, 209, 1808), (12, 427, 0, 210, 1812), (12, 430, 0, 211, 1816), (12, 433, 0, 212, 1820), (13, 48, 0, 213, 1824), (12, 436, 0, 214, 1828), (13, 77, 0, 215, 1832), (12, 455, 0, 216, 1836), (12, 448, 0, 217, 1840), (12, 451, 0, 218, 1844), (13, 52, 0, 219, 1848), (12, 459, 0, 220, 1852), (12, 462, 0, 221, 1856), (12, 439, 0, 222, 1860), (13, 56, 0, 223, 1864), (12, 465, 0, 224, 1868), (12, 468, 0, 225, 1872), (13, 60, 0, 226, 1876), (12, 471, 0, 227, 1880), (13, 64, 0, 228, 1884), (13, 68, 0, 229, 1888), (13, 73, 0, 230, 1892), (13, 82, 0, 231, 1896), (12, 479, 0, 232, 1901), (12, 484, 0, 233, 1906), (12, 474, 0, 234, 1910), (12, 578, 0, 235, 1914), (12, 487, 0, 236, 1918), (12, 490, 0, 237, 1922), (13, 86, 0, 238, 1926), (13, 90, 0, 239, 1930), (12, 500, 0, 240, 1936), (12, 503, 0, 241, 1940), (13, 95, 0, 242, 1944), (12, 523, 0, 243, 1950), (12, 513, 0, 244, 1955), (12, 516, 0, 245, 1959), (12, 506, 0, 246, 1963), (13, 99, 0, 247, 1967), (12, 526, 1, 248, 1971), (13, 103, 0, 249, 1974), (12, 529, 0, 250, 1978), (13, 107, 0, 251, 1982), (12, 535, 0, 252, 1987), (12, 538, 0, 253, 1992), (13, 111, 0, 254, 1996), (12, 541, 0, 255, 2000), (13, 115, 0, 256, 2004), (13, 119, 0, 257, 2009), (13, 123, 0, 258, 2014), (13, 127, 0, 259, 2018), (12, 551, 0, 260, 2022), (12, 548, 0, 261, 2026), (13, 131, 0, 262, 2030), (13, 135, 0, 263, 2034), (13, 139, 0, 264, 2038), (13, 143, 0, 265, 2042), (12, 563, 0, 266, 2047), (12, 566, 0, 267, 2055), (13, 147, 0, 268, 2059), (12, 569, 0, 269, 2063), (13, 151, 0, 270, 2067), (13, 155, 0, 271, 2071), (0, 9, 3, 1, 143), (0, 18, 3, 2, 178), (2, 11, 3, 3, 184), (0, 25, 3, 6, 348), (5, 11, 3, 7, 354), (7, 17, 3, 7, 389), (8, 11, 3, 3, 413), (0, 50, 3, 11, 461), (9, 20, 3, 3, 468), (9, 27, 3, 7, 470), (0, 64, 3, 13, 556)]
def am_clT : List (Nat × Nat × Nat × Nat) := [(13, 7, 0, 133), (0, 7, 1, 141), (0, 16, 2, 176), (2, 9, 3, 182), (3, 39, 4, 188), (0, 23, 5, 346), (5, 9, 6, 352), (0, 30, 7, 381), (7, 9, 6, 387), (0, 37, 8, 406), (8, 9, 3, 412), (8, 18, 4, 414), (0, 48, 9, 459), (9, 9, 4, 465), (9, 18, 3, 467), (9, 25, 6, 469), (0, 55, 10, 506), (10, 21, 4, 512), (0, 62, 11, 554), (11, 9, 99, 560), (13, 10, 12, 1347)]
def am_ctT : List (Nat × Nat × Int × Nat) := [(0, 255, -100000, 1168), (10, 119, -1000000, 1173), (10, 120, 1000000, 1174), (15, 265, 1431655765, 1204), (15, 266, 858993459, 1205), (15, 267, 252645135, 1206), (12, 267, 99999, 1643), (12, 522, -100000, 1949), (12, 509, 1000000, 1954), (12, 532, 100000, 1991), (12, 560, 65536, 2054)]
def am_ltT : List (Nat × Nat × Int × Nat) := [(0, 322, 1103515245, 1314), (0, 324, 12345, 1315), (0, 326, 2147483648, 1316), (0, 328, 65536, 1317), (0, 330, 100, 1318), (12, 231, 48, 1652), (12, 233, 57, 1653), (12, 386, -1, 1762), (12, 477, 2, 1900), (12, 482, 100, 1905), (12, 496, 12, 1934), (12, 498, 4, 1935), (12, 520, 3, 1948), (12, 533, 7, 1986), (12, 544, 99, 2008), (12, 546, 60, 2013), (12, 561, 10, 2046), (12, 554, 1103515245, 2051), (12, 556, 12345, 2052), (12, 558, 2147483648, 2053)]
def am_txT : List (Nat × Nat × Nat) := [(1, 89, 665), (1, 82, 722), (12, 317, 1615), (12, 200, 1616), (12, 319, 1617), (12, 202, 1618), (12, 321, 1619), (12, 219, 1620), (12, 370, 1692), (12, 204, 1716), (12, 205, 1717), (12, 207, 1718), (12, 208, 1719), (12, 210, 1720), (12, 212, 1721), (12, 214, 1722), (12, 215, 1723), (12, 216, 1724), (12, 217, 1725), (12, 372, 1726), (12, 299, 1739), (12, 313, 1756), (12, 315, 1757)]
def am_tx : List String := ["family line length cells wet wettest all others held pegs air hour rain claim if and or not court linen hung ", ";+-*/%<=>[]", "court", "family", "linen", "line", "hung", "rain", "claim", "length", "cells", "wet", "wettest", "all", "others", "held", "pegs", "air", "hour", "if", "not", "and", "or"]
def am_T : List (List Nat) := [[102, 97, 109, 105, 108, 121, 32, 108, 105, 110, 101, 32, 108, 101, 110, 103, 116, 104, 32, 99, 101, 108, 108, 115, 32, 119, 101, 116, 32, 119, 101, 116, 116, 101, 115, 116, 32, 97, 108, 108, 32, 111, 116, 104, 101, 114, 115, 32, 104, 101, 108, 100, 32, 112, 101, 103, 115, 32, 97, 105, 114, 32, 104, 111, 117, 114, 32, 114, 97, 105, 110, 32, 99, 108, 97, 105, 109, 32, 105, 102, 32, 97, 110, 100, 32, 111, 114, 32, 110, 111, 116, 32, 99, 111, 117, 114, 116, 32, 108, 105, 110, 101, 110, 32, 104, 117, 110, 103, 32], [59, 43, 45, 42, 47, 37, 60, 61, 62, 91, 93], [99, 111, 117, 114, 116], [102, 97, 109, 105, 108, 121], [108, 105, 110, 101, 110], [108, 105, 110, 101], [104, 117, 110, 103], [114, 97, 105, 110], [99, 108, 97, 105, 109], [108, 101, 110, 103, 116, 104], [99, 101, 108, 108, 115], [119, 101, 116], [119, 101, 116, 116, 101, 115, 116], [97, 108, 108], [111, 116, 104, 101, 114, 115], [104, 101, 108, 100], [112, 101, 103, 115], [97, 105, 114], [104, 111, 117, 114], [105, 102], [110, 111, 116], [97, 110, 100], [111, 114]]
/-- WashingLines.<init>()V -/
def am_c0 : List (Nat × am_I × Nat) := [(0, (3, 0, 2, 0, []), 1), (1, (24, 14, 1, 0, []), 4), (4, (3, 0, 2, 0, []), 5), (5, (24, 5, 0, 1, []), 8), (8, (12, 0, 0, 0, []), 9), (9, (21, 1, 1, 3, []), 12), (12, (24, 1, 2, 0, []), 15), (15, (3, 0, 2, 0, []), 16), (16, (24, 5, 0, 2, []), 19), (19, (12, 0, 0, 0, []), 20), (20, (21, 2, 1, 3, []), 23), (23, (24, 1, 2, 1, []), 26), (26, (3, 0, 2, 0, []), 27), (27, (24, 5, 0, 5, []), 30), (30, (12, 0, 0, 0, []), 31), (31, (21, 6, 1, 3, []), 34), (34, (24, 1, 2, 2, []), 37), (37, (3, 0, 2, 0, []), 38), (38, (24, 5, 0, 7, []), 41), (41, (12, 0, 0, 0, []), 42), (42, (21, 8, 1, 2, []), 45), (45, (24, 1, 2, 3, []), 48), (48, (3, 0, 2, 0, []), 49), (49, (24, 5, 0, 8, []), 52), (52, (12, 0, 0, 0, []), 53), (53, (21, 10, 1, 2, []), 56), (56, (24, 1, 2, 4, []), 59), (59, (3, 0, 2, 0, []), 60), (60, (0, 0, 0, 4, []), 61), (61, (24, 7, 1, 8, []), 64), (64, (24, 1, 2, 5, []), 67), (67, (3, 0, 2, 0, []), 68), (68, (24, 5, 0, 9, []), 71), (71, (12, 0, 0, 0, []), 72), (72, (21, 11, 1, 3, []), 75), (75, (24, 1, 2, 6, []), 78), (78, (3, 0, 2, 0, []), 79), (79, (24, 5, 0, 10, []), 82), (82, (12, 0, 0, 0, []), 83), (83, (21, 12, 1, 2, []), 86), (86, (24, 1, 2, 7, []), 89), (89, (3, 0, 2, 0, []), 90), (90, (24, 5, 0, 11, []), 93), (93, (12, 0, 0, 0, []), 94), (94, (21, 13, 1, 3, []), 97), (97, (24, 1, 2, 8, []), 100), (100, (23, 0, 0, 0, []), 101)]
/-- WashingLines$Text.<init>()V -/
def am_c1 : List (Nat × am_I × Nat) := [(0, (3, 0, 2, 0, []), 1), (1, (24, 14, 1, 0, []), 4), (4, (3, 0, 2, 0, []), 5), (5, (0, 0, 0, 400, []), 8), (8, (24, 6, 1, 0, []), 10), (10, (24, 1, 2, 128, []), 13), (13, (3, 0, 2, 0, []), 14), (14, (0, 0, 0, 401, []), 17), (17, (24, 6, 1, 0, []), 19), (19, (24, 1, 2, 130, []), 22), (22, (3, 0, 2, 0, []), 23), (23, (0, 0, 0, 401, []), 26), (26, (24, 6, 1, 0, []), 28), (28, (24, 1, 2, 131, []), 31), (31, (3, 0, 2, 0, []), 32), (32, (0, 0, 0, 401, []), 35), (35, (24, 6, 1, 0, []), 37), (37, (24, 1, 2, 132, []), 40), (40, (23, 0, 0, 0, []), 41)]
/-- WashingLines$CourtReader.<init>()V -/
def am_c2 : List (Nat × am_I × Nat) := [(0, (3, 0, 2, 0, []), 1), (1, (24, 14, 1, 0, []), 4), (4, (3, 0, 2, 0, []), 5), (5, (24, 5, 0, 3, []), 8), (8, (12, 0, 0, 0, []), 9), (9, (21, 3, 1, 3, []), 12), (12, (24, 1, 2, 256, []), 15), (15, (23, 0, 0, 0, []), 16)]
/-- WashingLines$Court.<init>()V -/
def am_c3 : List (Nat × am_I × Nat) := [(0, (3, 0, 2, 0, []), 1), (1, (24, 14, 1, 0, []), 4), (4, (3, 0, 2, 0, []), 5), (5, (0, 0, 0, 6, []), 7), (7, (24, 6, 1, 0, []), 9), (9, (24, 1, 2, 391, []), 12), (12, (3, 0, 2, 0, []), 13), (13, (0, 0, 0, 6, []), 15), (15, (24, 6, 1, 0, []), 17), (17, (24, 1, 2, 392, []), 20), (20, (3, 0, 2, 0, []), 21), (21, (0, 0, 0, 6, []), 23), (23, (24, 6, 1, 0, []), 25), (25, (24, 1, 2, 393, []), 28), (28, (3, 0, 2, 0, []), 29), (29, (0, 0, 0, 6, []), 31), (31, (24, 6, 1, 0, []), 33), (33, (24, 1, 2, 394, []), 36), (36, (3, 0, 2, 0, []), 37), (37, (0, 0, 0, 10, []), 39), (39, (24, 6, 1, 0, []), 41), (41, (24, 1, 2, 395, []), 44), (44, (3, 0, 2, 0, []), 45), (45, (0, 0, 0, 10, []), 47), (47, (24, 6, 1, 0, []), 49), (49, (24, 1, 2, 396, []), 52), (52, (3, 0, 2, 0, []), 53), (53, (0, 0, 0, 10, []), 55), (55, (24, 6, 1, 0, []), 57), (57, (24, 1, 2, 397, []), 60), (60, (3, 0, 2, 0, []), 61), (61, (0, 0, 0, 3, []), 62), (62, (24, 6, 1, 0, []), 64), (64, (24, 1, 2, 398, []), 67), (67, (3, 0, 2, 0, []), 68), (68, (0, 0, 0, 3, []), 69), (69, (24, 6, 1, 0, []), 71), (71, (24, 1, 2, 399, []), 74), (74, (3, 0, 2, 0, []), 75), (75, (24, 5, 0, 4, []), 78), (78, (12, 0, 0, 0, []), 79), (79, (21, 4, 1, 2, []), 82), (82, (24, 1, 2, 400, []), 85), (85, (23, 0, 0, 0, []), 86)]
/-- WashingLines$Yard.<init>()V -/
def am_c4 : List (Nat × am_I × Nat) := [(0, (3, 0, 2, 0, []), 1), (1, (24, 14, 1, 0, []), 4), (4, (3, 0, 2, 0, []), 5), (5, (0, 0, 0, 6, []), 7), (7, (24, 6, 1, 0, []), 9), (9, (24, 1, 2, 513, []), 12), (12, (3, 0, 2, 0, []), 13), (13, (0, 0, 0, 6, []), 15), (15, (24, 6, 1, 0, []), 17), (17, (24, 1, 2, 514, []), 20), (20, (3, 0, 2, 0, []), 21), (21, (0, 0, 0, 10, []), 23), (23, (24, 6, 1, 0, []), 25), (25, (24, 1, 2, 515, []), 28), (28, (3, 0, 2, 0, []), 29), (29, (0, 0, 0, 10, []), 31), (31, (24, 6, 1, 0, []), 33), (33, (24, 1, 2, 516, []), 36), (36, (3, 0, 2, 0, []), 37), (37, (0, 0, 0, 4, []), 38), (38, (24, 6, 1, 0, []), 40), (40, (24, 1, 2, 517, []), 43), (43, (3, 0, 2, 0, []), 44), (44, (0, 0, 0, 4, []), 45), (45, (24, 6, 1, 0, []), 47), (47, (24, 1, 2, 518, []), 50), (50, (3, 0, 2, 0, []), 51), (51, (21, 5, 1, 0, []), 54), (54, (23, 0, 0, 0, []), 55)]
/-- WashingLines$Yard.clear()V -/
def am_c5 : List (Nat × am_I × Nat) := [(0, (3, 0, 2, 0, []), 1), (1, (0, 0, 0, 0, []), 2), (2, (24, 1, 2, 512, []), 5), (5, (0, 0, 0, 0, []), 6), (6, (4, 1, 0, 0, []), 7), (7, (3, 1, 0, 0, []), 8), (8, (0, 0, 0, 6, []), 10), (10, (15, 3, 33, 0, []), 13), (13, (3, 0, 2, 0, []), 14), (14, (24, 0, 1, 513, []), 17), (17, (3, 1, 0, 0, []), 18), (18, (0, 0, 0, -1, []), 19), (19, (24, 3, 3, 0, []), 20), (20, (3, 0, 2, 0, []), 21), (21, (24, 0, 1, 514, []), 24), (24, (3, 1, 0, 0, []), 25), (25, (0, 0, 0, 0, []), 26), (26, (24, 3, 3, 0, []), 27), (27, (5, 1, 0, 1, []), 30), (30, (18, 0, 7, 0, []), 33), (33, (0, 0, 0, 0, []), 34), (34, (4, 1, 0, 0, []), 35), (35, (3, 1, 0, 0, []), 36), (36, (0, 0, 0, 10, []), 38), (38, (15, 3, 61, 0, []), 41), (41, (3, 0, 2, 0, []), 42), (42, (24, 0, 1, 515, []), 45), (45, (3, 1, 0, 0, []), 46), (46, (0, 0, 0, -1, []), 47), (47, (24, 3, 3, 0, []), 48), (48, (3, 0, 2, 0, []), 49), (49, (24, 0, 1, 516, []), 52), (52, (3, 1, 0, 0, []), 53), (53, (0, 0, 0, 0, []), 54), (54, (24, 3, 3, 0, []), 55), (55, (5, 1, 0, 1, []), 58), (58, (18, 0, 35, 0, []), 61), (61, (0, 0, 0, 0, []), 62), (62, (4, 1, 0, 0, []), 63), (63, (3, 1, 0, 0, []), 64), (64, (0, 0, 0, 4, []), 65), (65, (15, 3, 88, 0, []), 68), (68, (3, 0, 2, 0, []), 69), (69, (24, 0, 1, 517, []), 72), (72, (3, 1, 0, 0, []), 73), (73, (0, 0, 0, 0, []), 74), (74, (24, 3, 3, 0, []), 75), (75, (3, 0, 2, 0, []), 76), (76, (24, 0, 1, 518, []), 79), (79, (3, 1, 0, 0, []), 80), (80, (0, 0, 0, 0, []), 81), (81, (24, 3, 3, 0, []), 82), (82, (5, 1, 0, 1, []), 85), (85, (18, 0, 63, 0, []), 88), (88, (23, 0, 0, 0, []), 89)]
/-- WashingLines$RuleReader.<init>()V -/
def am_c6 : List (Nat × am_I × Nat) := [(0, (3, 0, 2, 0, []), 1), (1, (24, 14, 1, 0, []), 4), (4, (3, 0, 2, 0, []), 5), (5, (24, 5, 0, 6, []), 8), (8, (12, 0, 0, 0, []), 9), (9, (21, 7, 1, 3, []), 12), (12, (24, 1, 2, 640, []), 15), (15, (23, 0, 0, 0, []), 16)]
/-- WashingLines$Law.<init>()V -/
def am_c7 : List (Nat × am_I × Nat) := [(0, (3, 0, 2, 0, []), 1), (1, (24, 14, 1, 0, []), 4), (4, (3, 0, 2, 0, []), 5), (5, (0, 0, 0, 400, []), 8), (8, (24, 6, 1, 0, []), 10), (10, (24, 1, 2, 768, []), 13), (13, (3, 0, 2, 0, []), 14), (14, (0, 0, 0, 64, []), 16), (16, (24, 6, 1, 3, []), 18), (18, (24, 1, 2, 770, []), 21), (21, (23, 0, 0, 0, []), 22)]
/-- WashingLines$Book.<init>()V -/
def am_c8 : List (Nat × am_I × Nat) := [(0, (3, 0, 2, 0, []), 1), (1, (24, 14, 1, 0, []), 4), (4, (3, 0, 2, 0, []), 5), (5, (0, 0, 0, 6, []), 7), (7, (24, 7, 1, 6, []), 10), (10, (24, 1, 2, 896, []), 13), (13, (3, 0, 2, 0, []), 14), (14, (24, 5, 0, 6, []), 17), (17, (12, 0, 0, 0, []), 18), (18, (21, 7, 1, 3, []), 21), (21, (24, 1, 2, 897, []), 24), (24, (0, 0, 0, 0, []), 25), (25, (4, 1, 0, 0, []), 26), (26, (3, 1, 0, 0, []), 27), (27, (0, 0, 0, 6, []), 29), (29, (15, 3, 51, 0, []), 32), (32, (3, 0, 2, 0, []), 33), (33, (24, 0, 1, 896, []), 36), (36, (3, 1, 0, 0, []), 37), (37, (24, 5, 0, 6, []), 40), (40, (12, 0, 0, 0, []), 41), (41, (21, 7, 1, 3, []), 44), (44, (24, 3, 3, 4, []), 45), (45, (5, 1, 0, 1, []), 48), (48, (18, 0, 26, 0, []), 51), (51, (3, 0, 2, 0, []), 52), (52, (24, 0, 1, 897, []), 55), (55, (0, 0, 0, -260, []), 58), (58, (21, 9, 2, 0, []), 61), (61, (3, 0, 2, 0, []), 62), (62, (24, 0, 1, 897, []), 65), (65, (0, 0, 0, -59, []), 67), (67, (21, 9, 2, 0, []), 70), (70, (23, 0, 0, 0, []), 71)]
/-- WashingLines$Law.add(I)V -/
def am_c9 : List (Nat × am_I × Nat) := [(0, (3, 0, 2, 0, []), 1), (1, (24, 0, 1, 769, []), 4), (4, (16, 2, 39, 0, []), 7), (7, (3, 0, 2, 0, []), 8), (8, (24, 0, 1, 769, []), 11), (11, (3, 0, 2, 0, []), 12), (12, (24, 0, 1, 768, []), 15), (15, (24, 4, 1, 0, []), 16), (16, (15, 3, 39, 0, []), 19), (19, (3, 0, 2, 0, []), 20), (20, (24, 0, 1, 768, []), 23), (23, (3, 0, 2, 0, []), 24), (24, (24, 0, 1, 769, []), 27), (27, (3, 1, 0, 0, []), 28), (28, (24, 3, 3, 0, []), 29), (29, (3, 0, 2, 0, []), 30), (30, (12, 0, 0, 0, []), 31), (31, (24, 0, 1, 769, []), 34), (34, (0, 0, 0, 1, []), 35), (35, (6, 0, 0, 0, []), 36), (36, (24, 1, 2, 769, []), 39), (39, (23, 0, 0, 0, []), 40)]
/-- WashingLines$World.<init>()V -/
def am_c10 : List (Nat × am_I × Nat) := [(0, (3, 0, 2, 0, []), 1), (1, (24, 14, 1, 0, []), 4), (4, (3, 0, 2, 0, []), 5), (5, (24, 5, 0, 3, []), 8), (8, (12, 0, 0, 0, []), 9), (9, (21, 3, 1, 3, []), 12), (12, (24, 1, 2, 1024, []), 15), (15, (3, 0, 2, 0, []), 16), (16, (24, 5, 0, 4, []), 19), (19, (12, 0, 0, 0, []), 20), (20, (21, 4, 1, 2, []), 23), (23, (24, 1, 2, 1025, []), 26), (26, (3, 0, 2, 0, []), 27), (27, (0, 0, 0, 20, []), 29), (29, (24, 7, 1, 4, []), 32), (32, (24, 1, 2, 1026, []), 35), (35, (3, 0, 2, 0, []), 36), (36, (0, 0, 0, 10, []), 38), (38, (24, 6, 1, 0, []), 40), (40, (24, 1, 2, 1029, []), 43), (43, (3, 0, 2, 0, []), 44), (44, (0, 0, 0, 10, []), 46), (46, (24, 6, 1, 0, []), 48), (48, (24, 1, 2, 1030, []), 51), (51, (3, 0, 2, 0, []), 52), (52, (0, 0, 0, 10, []), 54), (54, (24, 6, 1, 0, []), 56), (56, (24, 1, 2, 1031, []), 59), (59, (3, 0, 2, 0, []), 60), (60, (0, 0, 0, -1, []), 61), (61, (24, 1, 2, 1033, []), 64), (64, (0, 0, 0, 0, []), 65), (65, (4, 1, 0, 0, []), 66), (66, (3, 1, 0, 0, []), 67), (67, (0, 0, 0, 20, []), 69), (69, (15, 3, 91, 0, []), 72), (72, (3, 0, 2, 0, []), 73), (73, (24, 0, 1, 1026, []), 76), (76, (3, 1, 0, 0, []), 77), (77, (24, 5, 0, 4, []), 80), (80, (12, 0, 0, 0, []), 81), (81, (21, 4, 1, 2, []), 84), (84, (24, 3, 3, 4, []), 85), (85, (5, 1, 0, 1, []), 88), (88, (18, 0, 66, 0, []), 91), (91, (23, 0, 0, 0, []), 92)]
/-- WashingLines$Hours.<init>()V -/
def am_c11 : List (Nat × am_I × Nat) := [(0, (3, 0, 2, 0, []), 1), (1, (24, 14, 1, 0, []), 4), (4, (3, 0, 2, 0, []), 5), (5, (24, 5, 0, 4, []), 8), (8, (12, 0, 0, 0, []), 9), (9, (21, 4, 1, 2, []), 12), (12, (24, 1, 2, 1152, []), 15), (15, (3, 0, 2, 0, []), 16), (16, (24, 5, 0, 3, []), 19), (19, (12, 0, 0, 0, []), 20), (20, (21, 3, 1, 3, []), 23), (23, (24, 1, 2, 1153, []), 26), (26, (3, 0, 2, 0, []), 27), (27, (24, 5, 0, 6, []), 30), (30, (12, 0, 0, 0, []), 31), (31, (21, 7, 1, 3, []), 34), (34, (24, 1, 2, 1154, []), 37), (37, (3, 0, 2, 0, []), 38), (38, (0, 0, 0, 24, []), 40), (40, (24, 6, 1, 0, []), 42), (42, (24, 1, 2, 1156, []), 45), (45, (3, 0, 2, 0, []), 46), (46, (0, 0, 0, 24, []), 48), (48, (24, 6, 1, 0, []), 50), (50, (24, 1, 2, 1157, []), 53), (53, (3, 0, 2, 0, []), 54), (54, (0, 0, 0, 24, []), 56), (56, (24, 6, 1, 0, []), 58), (58, (24, 1, 2, 1158, []), 61), (61, (3, 0, 2, 0, []), 62), (62, (0, 0, 0, 24, []), 64), (64, (24, 6, 1, 0, []), 66), (66, (24, 1, 2, 1159, []), 69), (69, (3, 0, 2, 0, []), 70), (70, (0, 0, 0, 6, []), 72), (72, (24, 6, 1, 0, []), 74), (74, (24, 1, 2, 1160, []), 77), (77, (3, 0, 2, 0, []), 78), (78, (0, 0, 0, 6, []), 80), (80, (24, 6, 1, 0, []), 82), (82, (24, 1, 2, 1161, []), 85), (85, (23, 0, 0, 0, []), 86)]
/-- WashingLines$Seeker.<init>()V -/
def am_c12 : List (Nat × am_I × Nat) := [(0, (3, 0, 2, 0, []), 1), (1, (24, 14, 1, 0, []), 4), (4, (3, 0, 2, 0, []), 5), (5, (0, 0, 0, 4, []), 6), (6, (24, 6, 1, 0, []), 8), (8, (24, 1, 2, 1283, []), 11), (11, (3, 0, 2, 0, []), 12), (12, (0, 0, 0, 4, []), 13), (13, (24, 6, 1, 0, []), 15), (15, (24, 1, 2, 1284, []), 18), (18, (3, 0, 2, 0, []), 19), (19, (0, 0, 0, 4, []), 20), (20, (24, 6, 1, 0, []), 22), (22, (24, 1, 2, 1285, []), 25), (25, (3, 0, 2, 0, []), 26), (26, (0, 0, 0, 3, []), 27), (27, (24, 7, 1, 4, []), 30), (30, (24, 1, 2, 1287, []), 33), (33, (3, 0, 2, 0, []), 34), (34, (0, 0, 0, 8, []), 36), (36, (24, 6, 1, 0, []), 38), (38, (24, 1, 2, 1291, []), 41), (41, (0, 0, 0, 0, []), 42), (42, (4, 1, 0, 0, []), 43), (43, (3, 1, 0, 0, []), 44), (44, (0, 0, 0, 3, []), 45), (45, (15, 3, 67, 0, []), 48), (48, (3, 0, 2, 0, []), 49), (49, (24, 0, 1, 1287, []), 52), (52, (3, 1, 0, 0, []), 53), (53, (24, 5, 0, 4, []), 56), (56, (12, 0, 0, 0, []), 57), (57, (21, 4, 1, 2, []), 60), (60, (24, 3, 3, 4, []), 61), (61, (5, 1, 0, 1, []), 64), (64, (18, 0, 43, 0, []), 67), (67, (23, 0, 0, 0, []), 68)]
/-- WashingLines$Trials.<init>()V -/
def am_c13 : List (Nat × am_I × Nat) := [(0, (3, 0, 2, 0, []), 1), (1, (24, 14, 1, 0, []), 4), (4, (3, 0, 2, 0, []), 5), (5, (0, 0, 0, 7, []), 7), (7, (0, 0, 0, 6, []), 9), (9, (24, 8, 2, 0, []), 13), (13, (24, 1, 2, 1410, []), 16), (16, (23, 0, 0, 0, []), 17)]
/-- WashingLines.feed(IIIII)I -/
def am_c14 : List (Nat × am_I × Nat) := [(0, (3, 0, 2, 0, []), 1), (1, (24, 0, 1, 0, []), 4), (4, (0, 0, 0, 20, []), 6), (6, (21, 15, 2, 0, []), 9), (9, (16, 1, 14, 0, []), 12), (12, (0, 0, 0, -1, []), 13), (13, (22, 0, 0, 0, []), 14), (14, (3, 0, 2, 0, []), 15), (15, (24, 0, 1, 0, []), 18), (18, (3, 1, 0, 0, []), 19), (19, (21, 16, 2, 0, []), 22), (22, (3, 0, 2, 0, []), 23), (23, (24, 0, 1, 0, []), 26), (26, (3, 2, 0, 0, []), 27), (27, (21, 16, 2, 0, []), 30), (30, (3, 0, 2, 0, []), 31), (31, (24, 0, 1, 0, []), 34), (34, (3, 3, 0, 0, []), 35), (35, (21, 16, 2, 0, []), 38), (38, (3, 0, 2, 0, []), 39), (39, (24, 0, 1, 0, []), 42), (42, (3, 4, 0, 0, []), 44), (44, (21, 16, 2, 0, []), 47), (47, (3, 0, 2, 0, []), 48), (48, (24, 0, 1, 0, []), 51), (51, (3, 5, 0, 0, []), 53), (53, (21, 16, 2, 0, []), 56), (56, (3, 0, 2, 0, []), 57), (57, (24, 0, 1, 0, []), 60), (60, (24, 0, 1, 129, []), 63), (63, (22, 0, 0, 0, []), 64)]
/-- WashingLines$Text.hasRoom(I)Z -/
def am_c15 : List (Nat × am_I × Nat) := [(0, (3, 0, 2, 0, []), 1), (1, (24, 0, 1, 129, []), 4), (4, (3, 1, 0, 0, []), 5), (5, (6, 0, 0, 0, []), 6), (6, (3, 0, 2, 0, []), 7), (7, (24, 0, 1, 128, []), 10), (10, (24, 4, 1, 0, []), 11), (11, (15, 4, 18, 0, []), 14), (14, (0, 0, 0, 1, []), 15), (15, (18, 0, 19, 0, []), 18), (18, (0, 0, 0, 0, []), 19), (19, (22, 1, 0, 0, []), 20)]
/-- WashingLines$Text.append(I)V -/
def am_c16 : List (Nat × am_I × Nat) := [(0, (0, 0, 0, 24, []), 2), (2, (4, 2, 0, 0, []), 3), (3, (3, 2, 0, 0, []), 4), (4, (16, 2, 58, 0, []), 7), (7, (3, 0, 2, 0, []), 8), (8, (24, 0, 1, 129, []), 11), (11, (16, 2, 52, 0, []), 14), (14, (3, 0, 2, 0, []), 15), (15, (24, 0, 1, 129, []), 18), (18, (3, 0, 2, 0, []), 19), (19, (24, 0, 1, 128, []), 22), (22, (24, 4, 1, 0, []), 23), (23, (15, 3, 52, 0, []), 26), (26, (3, 0, 2, 0, []), 27), (27, (24, 0, 1, 128, []), 30), (30, (3, 0, 2, 0, []), 31), (31, (24, 0, 1, 129, []), 34), (34, (3, 1, 0, 0, []), 35), (35, (3, 2, 0, 0, []), 36), (36, (6, 8, 0, 0, []), 37), (37, (0, 0, 0, 255, []), 40), (40, (6, 3, 0, 0, []), 41), (41, (24, 3, 3, 0, []), 42), (42, (3, 0, 2, 0, []), 43), (43, (12, 0, 0, 0, []), 44), (44, (24, 0, 1, 129, []), 47), (47, (0, 0, 0, 1, []), 48), (48, (6, 0, 0, 0, []), 49), (49, (24, 1, 2, 129, []), 52), (52, (5, 2, 0, -8, []), 55), (55, (18, 0, 3, 0, []), 58), (58, (23, 0, 0, 0, []), 59)]
/-- WashingLines.end(I)I -/
def am_c17 : List (Nat × am_I × Nat) := [(0, (3, 1, 0, 0, []), 1), (1, (16, 2, 15, 0, []), 4), (4, (3, 1, 0, 0, []), 5), (5, (3, 0, 2, 0, []), 6), (6, (24, 0, 1, 0, []), 9), (9, (24, 0, 1, 129, []), 12), (12, (15, 5, 17, 0, []), 15), (15, (0, 0, 0, -1, []), 16), (16, (22, 0, 0, 0, []), 17), (17, (3, 0, 2, 0, []), 18), (18, (24, 0, 1, 0, []), 21), (21, (3, 1, 0, 0, []), 22), (22, (24, 1, 2, 129, []), 25), (25, (3, 1, 0, 0, []), 26), (26, (22, 0, 0, 0, []), 27)]
/-- WashingLines.court()I -/
def am_c18 : List (Nat × am_I × Nat) := [(0, (3, 0, 2, 0, []), 1), (1, (24, 0, 1, 1, []), 4), (4, (3, 0, 2, 0, []), 5), (5, (24, 0, 1, 0, []), 8), (8, (21, 19, 2, 0, []), 11), (11, (4, 1, 0, 0, []), 12), (12, (3, 0, 2, 0, []), 13), (13, (24, 0, 1, 0, []), 16), (16, (0, 0, 0, 0, []), 17), (17, (24, 1, 2, 129, []), 20), (20, (3, 1, 0, 0, []), 21), (21, (16, 0, 29, 0, []), 24), (24, (0, 0, 0, -2, []), 26), (26, (3, 1, 0, 0, []), 27), (27, (6, 1, 0, 0, []), 28), (28, (22, 0, 0, 0, []), 29), (29, (3, 0, 2, 0, []), 30), (30, (24, 0, 1, 4, []), 33), (33, (3, 0, 2, 0, []), 34), (34, (24, 0, 1, 1, []), 37), (37, (24, 0, 1, 256, []), 40), (40, (21, 56, 2, 0, []), 43), (43, (3, 0, 2, 0, []), 44), (44, (24, 0, 1, 4, []), 47), (47, (24, 0, 1, 1024, []), 50), (50, (24, 0, 1, 388, []), 53), (53, (22, 0, 0, 0, []), 54)]
/-- WashingLines$CourtReader.read(LWashingLines$Text;)I -/
def am_c19 : List (Nat × am_I × Nat) := [(0, (3, 0, 2, 0, []), 1), (1, (24, 0, 1, 256, []), 4), (4, (21, 20, 1, 0, []), 7), (7, (3, 1, 2, 0, []), 8), (8, (21, 21, 1, 0, []), 11), (11, (0, 0, 0, 0, []), 12), (12, (4, 2, 0, 0, []), 13), (13, (3, 2, 0, 0, []), 14), (14, (0, 0, 0, 40, []), 16), (16, (15, 4, 106, 0, []), 19), (19, (3, 1, 2, 0, []), 20), (20, (24, 0, 1, 135, []), 23), (23, (16, 1, 106, 0, []), 26), (26, (3, 1, 2, 0, []), 27), (27, (21, 32, 1, 0, []), 30), (30, (4, 3, 0, 0, []), 31), (31, (3, 3, 0, 0, []), 32), (32, (21, 33, 1, 1, []), 35), (35, (16, 1, 46, 0, []), 38), (38, (3, 1, 2, 0, []), 39), (39, (0, 0, 0, 0, []), 40), (40, (21, 34, 2, 0, []), 43), (43, (18, 0, 78, 0, []), 46), (46, (3, 2, 0, 0, []), 47), (47, (0, 0, 0, 40, []), 49), (49, (15, 0, 60, 0, []), 52), (52, (3, 0, 2, 0, []), 53), (53, (3, 3, 0, 0, []), 54), (54, (21, 35, 2, 0, []), 57), (57, (16, 1, 68, 0, []), 60), (60, (3, 1, 2, 0, []), 61), (61, (0, 0, 0, 4, []), 62), (62, (21, 34, 2, 0, []), 65), (65, (18, 0, 78, 0, []), 68), (68, (3, 1, 2, 0, []), 69), (69, (21, 36, 1, 0, []), 72), (72, (3, 0, 2, 0, []), 73), (73, (3, 1, 2, 0, []), 74), (74, (3, 3, 0, 0, []), 75), (75, (21, 37, 3, 0, []), 78), (78, (3, 1, 2, 0, []), 79), (79, (24, 0, 1, 135, []), 82), (82, (16, 1, 94, 0, []), 85), (85, (3, 1, 2, 0, []), 86), (86, (21, 32, 1, 0, []), 89), (89, (16, 1, 94, 0, []), 92), (92, (0, 0, 0, 0, []), 93), (93, (22, 0, 0, 0, []), 94), (94, (3, 1, 2, 0, []), 95), (95, (0, 0, 0, 59, []), 97), (97, (21, 55, 2, 0, []), 100), (100, (5, 2, 0, 1, []), 103), (103, (18, 0, 13, 0, []), 106), (106, (3, 1, 2, 0, []), 107), (107, (24, 0, 1, 135, []), 110), (110, (22, 0, 0, 0, []), 111)]
/-- WashingLines$Court.clear()V -/
def am_c20 : List (Nat × am_I × Nat) := [(0, (3, 0, 2, 0, []), 1), (1, (0, 0, 0, 0, []), 2), (2, (24, 1, 2, 384, []), 5), (5, (3, 0, 2, 0, []), 6), (6, (0, 0, 0, 0, []), 7), (7, (24, 1, 2, 385, []), 10), (10, (3, 0, 2, 0, []), 11), (11, (0, 0, 0, 0, []), 12), (12, (24, 1, 2, 386, []), 15), (15, (3, 0, 2, 0, []), 16), (16, (0, 0, 0, 0, []), 17), (17, (24, 1, 2, 387, []), 20), (20, (3, 0, 2, 0, []), 21), (21, (0, 0, 0, 0, []), 22), (22, (24, 1, 2, 388, []), 25), (25, (3, 0, 2, 0, []), 26), (26, (0, 0, 0, 0, []), 27), (27, (24, 1, 2, 389, []), 30), (30, (3, 0, 2, 0, []), 31), (31, (0, 0, 0, 0, []), 32), (32, (24, 1, 2, 390, []), 35), (35, (3, 0, 2, 0, []), 36), (36, (24, 0, 1, 400, []), 39), (39, (21, 5, 1, 0, []), 42), (42, (23, 0, 0, 0, []), 43)]
/-- WashingLines$Text.split()V -/
def am_c21 : List (Nat × am_I × Nat) := [(0, (3, 0, 2, 0, []), 1), (1, (0, 0, 0, 0, []), 2), (2, (24, 1, 2, 133, []), 5), (5, (3, 0, 2, 0, []), 6), (6, (0, 0, 0, 0, []), 7), (7, (24, 1, 2, 134, []), 10), (10, (3, 0, 2, 0, []), 11), (11, (0, 0, 0, 0, []), 12), (12, (24, 1, 2, 135, []), 15), (15, (0, 0, 0, 0, []), 16), (16, (4, 1, 0, 0, []), 17), (17, (0, 0, 0, 0, []), 18), (18, (4, 2, 0, 0, []), 19), (19, (3, 2, 0, 0, []), 20), (20, (0, 0, 0, 400, []), 23), (23, (15, 3, 48, 0, []), 26), (26, (3, 1, 0, 0, []), 27), (27, (3, 0, 2, 0, []), 28), (28, (24, 0, 1, 129, []), 31), (31, (15, 3, 48, 0, []), 34), (34, (3, 1, 0, 0, []), 35), (35, (3, 0, 2, 0, []), 36), (36, (3, 1, 0, 0, []), 37), (37, (21, 22, 2, 0, []), 40), (40, (6, 0, 0, 0, []), 41), (41, (4, 1, 0, 0, []), 42), (42, (5, 2, 0, 1, []), 45), (45, (18, 0, 19, 0, []), 48), (48, (3, 0, 2, 0, []), 49), (49, (0, 0, 0, 0, []), 50), (50, (3, 0, 2, 0, []), 51), (51, (24, 0, 1, 129, []), 54), (54, (0, 0, 0, 0, []), 55), (55, (21, 26, 4, 0, []), 58), (58, (23, 0, 0, 0, []), 59)]
/-- WashingLines$Text.splitAt(I)I -/
def am_c22 : List (Nat × am_I × Nat) := [(0, (3, 0, 2, 0, []), 1), (1, (3, 1, 0, 0, []), 2), (2, (21, 23, 2, 0, []), 5), (5, (4, 2, 0, 0, []), 6), (6, (3, 2, 0, 0, []), 7), (7, (0, 0, 0, 32, []), 9), (9, (15, 1, 14, 0, []), 12), (12, (0, 0, 0, 1, []), 13), (13, (22, 0, 0, 0, []), 14), (14, (3, 2, 0, 0, []), 15), (15, (21, 24, 1, 1, []), 18), (18, (16, 0, 27, 0, []), 21), (21, (3, 0, 2, 0, []), 22), (22, (3, 1, 0, 0, []), 23), (23, (21, 25, 2, 0, []), 26), (26, (22, 0, 0, 0, []), 27), (27, (3, 2, 0, 0, []), 28), (28, (21, 27, 1, 1, []), 31), (31, (16, 0, 42, 0, []), 34), (34, (3, 0, 2, 0, []), 35), (35, (3, 1, 0, 0, []), 36), (36, (21, 28, 2, 0, []), 39), (39, (18, 0, 47, 0, []), 42), (42, (3, 0, 2, 0, []), 43), (43, (3, 1, 0, 0, []), 44), (44, (21, 31, 2, 0, []), 47), (47, (22, 0, 0, 0, []), 48)]
/-- WashingLines$Text.byteAt(I)I -/
def am_c23 : List (Nat × am_I × Nat) := [(0, (3, 1, 0, 0, []), 1), (1, (16, 2, 30, 0, []), 4), (4, (3, 1, 0, 0, []), 5), (5, (3, 0, 2, 0, []), 6), (6, (24, 0, 1, 129, []), 9), (9, (15, 3, 30, 0, []), 12), (12, (3, 1, 0, 0, []), 13), (13, (3, 0, 2, 0, []), 14), (14, (24, 0, 1, 128, []), 17), (17, (24, 4, 1, 0, []), 18), (18, (15, 3, 30, 0, []), 21), (21, (3, 0, 2, 0, []), 22), (22, (24, 0, 1, 128, []), 25), (25, (3, 1, 0, 0, []), 26), (26, (24, 2, 2, 0, []), 27), (27, (18, 0, 31, 0, []), 30), (30, (0, 0, 0, 0, []), 31), (31, (22, 0, 0, 0, []), 32)]
/-- WashingLines$Text.isDigit(I)Z -/
def am_c24 : List (Nat × am_I × Nat) := [(0, (3, 0, 0, 0, []), 1), (1, (0, 0, 0, 48, []), 3), (3, (15, 2, 16, 0, []), 6), (6, (3, 0, 0, 0, []), 7), (7, (0, 0, 0, 57, []), 9), (9, (15, 4, 16, 0, []), 12), (12, (0, 0, 0, 1, []), 13), (13, (18, 0, 17, 0, []), 16), (16, (0, 0, 0, 0, []), 17), (17, (22, 1, 0, 0, []), 18)]
/-- WashingLines$Text.splitNumber(I)I -/
def am_c25 : List (Nat × am_I × Nat) := [(0, (0, 0, 0, 0, []), 1), (1, (4, 2, 0, 0, []), 2), (2, (0, 0, 0, 0, []), 3), (3, (4, 3, 0, 0, []), 4), (4, (3, 1, 0, 0, []), 5), (5, (4, 4, 0, 0, []), 7), (7, (3, 4, 0, 0, []), 9), (9, (3, 0, 2, 0, []), 10), (10, (24, 0, 1, 129, []), 13), (13, (15, 3, 61, 0, []), 16), (16, (3, 0, 2, 0, []), 17), (17, (3, 4, 0, 0, []), 19), (19, (21, 23, 2, 0, []), 22), (22, (21, 24, 1, 1, []), 25), (25, (16, 0, 61, 0, []), 28), (28, (5, 3, 0, 1, []), 31), (31, (3, 3, 0, 0, []), 32), (32, (0, 0, 0, 5, []), 33), (33, (15, 5, 40, 0, []), 36), (36, (0, 0, 0, -1, []), 37), (37, (18, 0, 54, 0, []), 40), (40, (3, 2, 0, 0, []), 41), (41, (0, 0, 0, 10, []), 43), (43, (6, 2, 0, 0, []), 44), (44, (3, 0, 2, 0, []), 45), (45, (3, 4, 0, 0, []), 47), (47, (21, 23, 2, 0, []), 50), (50, (6, 0, 0, 0, []), 51), (51, (0, 0, 0, 48, []), 53), (53, (6, 1, 0, 0, []), 54), (54, (4, 2, 0, 0, []), 55), (55, (5, 4, 0, 1, []), 58), (58, (18, 0, 7, 0, []), 61), (61, (3, 0, 2, 0, []), 62), (62, (0, 0, 0, 2, []), 63), (63, (3, 1, 0, 0, []), 64), (64, (3, 2, 0, 0, []), 65), (65, (21, 26, 4, 0, []), 68), (68, (3, 3, 0, 0, []), 69), (69, (22, 0, 0, 0, []), 70)]
/-- WashingLines$Text.addToken(III)V -/
def am_c26 : List (Nat × am_I × Nat) := [(0, (3, 0, 2, 0, []), 1), (1, (24, 0, 1, 133, []), 4), (4, (16, 2, 59, 0, []), 7), (7, (3, 0, 2, 0, []), 8), (8, (24, 0, 1, 133, []), 11), (11, (3, 0, 2, 0, []), 12), (12, (24, 0, 1, 130, []), 15), (15, (24, 4, 1, 0, []), 16), (16, (15, 3, 59, 0, []), 19), (19, (3, 0, 2, 0, []), 20), (20, (24, 0, 1, 130, []), 23), (23, (3, 0, 2, 0, []), 24), (24, (24, 0, 1, 133, []), 27), (27, (3, 1, 0, 0, []), 28), (28, (24, 3, 3, 0, []), 29), (29, (3, 0, 2, 0, []), 30), (30, (24, 0, 1, 131, []), 33), (33, (3, 0, 2, 0, []), 34), (34, (24, 0, 1, 133, []), 37), (37, (3, 2, 0, 0, []), 38), (38, (24, 3, 3, 0, []), 39), (39, (3, 0, 2, 0, []), 40), (40, (24, 0, 1, 132, []), 43), (43, (3, 0, 2, 0, []), 44), (44, (24, 0, 1, 133, []), 47), (47, (3, 3, 0, 0, []), 48), (48, (24, 3, 3, 0, []), 49), (49, (3, 0, 2, 0, []), 50), (50, (12, 0, 0, 0, []), 51), (51, (24, 0, 1, 133, []), 54), (54, (0, 0, 0, 1, []), 55), (55, (6, 0, 0, 0, []), 56), (56, (24, 1, 2, 133, []), 59), (59, (23, 0, 0, 0, []), 60)]
/-- WashingLines$Text.isLetter(I)Z -/
def am_c27 : List (Nat × am_I × Nat) := [(0, (3, 0, 0, 0, []), 1), (1, (0, 0, 0, 97, []), 3), (3, (15, 2, 16, 0, []), 6), (6, (3, 0, 0, 0, []), 7), (7, (0, 0, 0, 122, []), 9), (9, (15, 4, 16, 0, []), 12), (12, (0, 0, 0, 1, []), 13), (13, (18, 0, 17, 0, []), 16), (16, (0, 0, 0, 0, []), 17), (17, (22, 1, 0, 0, []), 18)]
/-- WashingLines$Text.splitWord(I)I -/
def am_c28 : List (Nat × am_I × Nat) := [(0, (0, 0, 0, 0, []), 1), (1, (4, 2, 0, 0, []), 2), (2, (3, 1, 0, 0, []), 3), (3, (4, 3, 0, 0, []), 4), (4, (3, 3, 0, 0, []), 5), (5, (3, 0, 2, 0, []), 6), (6, (24, 0, 1, 129, []), 9), (9, (15, 3, 32, 0, []), 12), (12, (3, 0, 2, 0, []), 13), (13, (3, 3, 0, 0, []), 14), (14, (21, 23, 2, 0, []), 17), (17, (21, 27, 1, 1, []), 20), (20, (16, 0, 32, 0, []), 23), (23, (5, 2, 0, 1, []), 26), (26, (5, 3, 0, 1, []), 29), (29, (18, 0, 4, 0, []), 32), (32, (3, 0, 2, 0, []), 33), (33, (3, 0, 2, 0, []), 34), (34, (3, 1, 0, 0, []), 35), (35, (3, 2, 0, 0, []), 36), (36, (21, 29, 3, 0, []), 39), (39, (3, 1, 0, 0, []), 40), (40, (0, 0, 0, 0, []), 41), (41, (21, 26, 4, 0, []), 44), (44, (3, 2, 0, 0, []), 45), (45, (22, 0, 0, 0, []), 46)]
/-- WashingLines$Text.wordKind(II)I -/
def am_c29 : List (Nat × am_I × Nat) := [(0, (0, 0, 0, 256, []), 3), (3, (4, 3, 0, 0, []), 4), (4, (0, 0, 0, 0, []), 5), (5, (4, 4, 0, 0, []), 7), (7, (0, 0, 0, 0, []), 8), (8, (4, 5, 0, 0, []), 10), (10, (3, 5, 0, 0, []), 12), (12, (24, 9, 0, 0, []), 14), (14, (21, 274, 1, 0, []), 17), (17, (15, 3, 69, 0, []), 20), (20, (24, 9, 0, 0, []), 22), (22, (3, 5, 0, 0, []), 24), (24, (21, 276, 2, 0, []), 27), (27, (0, 0, 0, 32, []), 29), (29, (15, 1, 63, 0, []), 32), (32, (3, 5, 0, 0, []), 34), (34, (3, 4, 0, 0, []), 36), (36, (6, 1, 0, 0, []), 37), (37, (3, 2, 0, 0, []), 38), (38, (15, 1, 54, 0, []), 41), (41, (3, 0, 2, 0, []), 42), (42, (3, 4, 0, 0, []), 44), (44, (3, 1, 0, 0, []), 45), (45, (3, 2, 0, 0, []), 46), (46, (21, 30, 4, 0, []), 49), (49, (16, 0, 54, 0, []), 52), (52, (3, 3, 0, 0, []), 53), (53, (22, 0, 0, 0, []), 54), (54, (5, 3, 0, 1, []), 57), (57, (3, 5, 0, 0, []), 59), (59, (0, 0, 0, 1, []), 60), (60, (6, 0, 0, 0, []), 61), (61, (4, 4, 0, 0, []), 63), (63, (5, 5, 0, 1, []), 66), (66, (18, 0, 10, 0, []), 69), (69, (0, 0, 0, 1, []), 70), (70, (22, 0, 0, 0, []), 71)]
/-- WashingLines$Text.isWordAt(III)Z -/
def am_c30 : List (Nat × am_I × Nat) := [(0, (0, 0, 0, 0, []), 1), (1, (4, 4, 0, 0, []), 3), (3, (3, 4, 0, 0, []), 5), (5, (3, 3, 0, 0, []), 6), (6, (15, 3, 74, 0, []), 9), (9, (3, 1, 0, 0, []), 10), (10, (3, 4, 0, 0, []), 12), (12, (6, 0, 0, 0, []), 13), (13, (24, 9, 0, 0, []), 15), (15, (21, 274, 1, 0, []), 18), (18, (15, 3, 37, 0, []), 21), (21, (3, 2, 0, 0, []), 22), (22, (3, 4, 0, 0, []), 24), (24, (6, 0, 0, 0, []), 25), (25, (3, 0, 2, 0, []), 26), (26, (24, 0, 1, 128, []), 29), (29, (24, 4, 1, 0, []), 30), (30, (15, 3, 37, 0, []), 33), (33, (0, 0, 0, 1, []), 34), (34, (18, 0, 38, 0, []), 37), (37, (0, 0, 0, 0, []), 38), (38, (4, 5, 0, 0, []), 40), (40, (3, 5, 0, 0, []), 42), (42, (16, 0, 66, 0, []), 45), (45, (24, 9, 0, 0, []), 47), (47, (3, 1, 0, 0, []), 48), (48, (3, 4, 0, 0, []), 50), (50, (6, 0, 0, 0, []), 51), (51, (21, 276, 2, 0, []), 54), (54, (3, 0, 2, 0, []), 55), (55, (24, 0, 1, 128, []), 58), (58, (3, 2, 0, 0, []), 59), (59, (3, 4, 0, 0, []), 61), (61, (6, 0, 0, 0, []), 62), (62, (24, 2, 2, 0, []), 63), (63, (15, 0, 68, 0, []), 66), (66, (0, 0, 0, 0, []), 67), (67, (22, 1, 0, 0, []), 68), (68, (5, 4, 0, 1, []), 71), (71, (18, 0, 3, 0, []), 74), (74, (0, 0, 0, 1, []), 75), (75, (22, 1, 0, 0, []), 76)]
/-- WashingLines$Text.splitSign(I)I -/
def am_c31 : List (Nat × am_I × Nat) := [(0, (3, 0, 2, 0, []), 1), (1, (3, 1, 0, 0, []), 2), (2, (21, 23, 2, 0, []), 5), (5, (4, 2, 0, 0, []), 6), (6, (3, 0, 2, 0, []), 7), (7, (3, 1, 0, 0, []), 8), (8, (0, 0, 0, 1, []), 9), (9, (6, 0, 0, 0, []), 10), (10, (21, 23, 2, 0, []), 13), (13, (0, 0, 0, 61, []), 15), (15, (15, 1, 49, 0, []), 18), (18, (3, 2, 0, 0, []), 19), (19, (0, 0, 0, 60, []), 21), (21, (15, 0, 30, 0, []), 24), (24, (3, 2, 0, 0, []), 25), (25, (0, 0, 0, 62, []), 27), (27, (15, 1, 49, 0, []), 30), (30, (3, 0, 2, 0, []), 31), (31, (3, 2, 0, 0, []), 32), (32, (0, 0, 0, 60, []), 34), (34, (15, 1, 41, 0, []), 37), (37, (0, 0, 0, 3, []), 38), (38, (18, 0, 42, 0, []), 41), (41, (0, 0, 0, 4, []), 42), (42, (3, 1, 0, 0, []), 43), (43, (0, 0, 0, 0, []), 44), (44, (21, 26, 4, 0, []), 47), (47, (0, 0, 0, 2, []), 48), (48, (22, 0, 0, 0, []), 49), (49, (3, 0, 2, 0, []), 50), (50, (24, 9, 0, 1, []), 52), (52, (3, 2, 0, 0, []), 53), (53, (7, 2, 0, 0, []), 54), (54, (21, 278, 2, 0, []), 57), (57, (16, 2, 64, 0, []), 60), (60, (3, 2, 0, 0, []), 61), (61, (18, 0, 65, 0, []), 64), (64, (0, 0, 0, 1, []), 65), (65, (3, 1, 0, 0, []), 66), (66, (0, 0, 0, 0, []), 67), (67, (21, 26, 4, 0, []), 70), (70, (0, 0, 0, 1, []), 71), (71, (22, 0, 0, 0, []), 72)]
/-- WashingLines$Text.kind()I -/
def am_c32 : List (Nat × am_I × Nat) := [(0, (3, 0, 2, 0, []), 1), (1, (24, 0, 1, 135, []), 4), (4, (16, 1, 38, 0, []), 7), (7, (3, 0, 2, 0, []), 8), (8, (24, 0, 1, 134, []), 11), (11, (16, 2, 38, 0, []), 14), (14, (3, 0, 2, 0, []), 15), (15, (24, 0, 1, 134, []), 18), (18, (3, 0, 2, 0, []), 19), (19, (24, 0, 1, 130, []), 22), (22, (24, 4, 1, 0, []), 23), (23, (15, 3, 38, 0, []), 26), (26, (3, 0, 2, 0, []), 27), (27, (24, 0, 1, 130, []), 30), (30, (3, 0, 2, 0, []), 31), (31, (24, 0, 1, 134, []), 34), (34, (24, 2, 2, 0, []), 35), (35, (18, 0, 39, 0, []), 38), (38, (0, 0, 0, 0, []), 39), (39, (22, 0, 0, 0, []), 40)]
/-- WashingLines$CourtReader.opensClause(I)Z -/
def am_c33 : List (Nat × am_I × Nat) := [(0, (3, 0, 0, 0, []), 1), (1, (0, 0, 0, 274, []), 4), (4, (15, 0, 42, 0, []), 7), (7, (3, 0, 0, 0, []), 8), (8, (0, 0, 0, 256, []), 11), (11, (15, 0, 42, 0, []), 14), (14, (3, 0, 0, 0, []), 15), (15, (0, 0, 0, 257, []), 18), (18, (15, 0, 42, 0, []), 21), (21, (3, 0, 0, 0, []), 22), (22, (0, 0, 0, 275, []), 25), (25, (15, 0, 42, 0, []), 28), (28, (3, 0, 0, 0, []), 29), (29, (0, 0, 0, 276, []), 32), (32, (15, 0, 42, 0, []), 35), (35, (3, 0, 0, 0, []), 36), (36, (0, 0, 0, 268, []), 39), (39, (15, 1, 46, 0, []), 42), (42, (0, 0, 0, 1, []), 43), (43, (18, 0, 47, 0, []), 46), (46, (0, 0, 0, 0, []), 47), (47, (22, 1, 0, 0, []), 48)]
/-- WashingLines$Text.refuse(I)V -/
def am_c34 : List (Nat × am_I × Nat) := [(0, (3, 0, 2, 0, []), 1), (1, (24, 0, 1, 135, []), 4), (4, (16, 1, 46, 0, []), 7), (7, (3, 0, 2, 0, []), 8), (8, (24, 0, 1, 134, []), 11), (11, (16, 2, 46, 0, []), 14), (14, (3, 0, 2, 0, []), 15), (15, (24, 0, 1, 134, []), 18), (18, (3, 0, 2, 0, []), 19), (19, (24, 0, 1, 131, []), 22), (22, (24, 4, 1, 0, []), 23), (23, (15, 3, 46, 0, []), 26), (26, (3, 0, 2, 0, []), 27), (27, (0, 0, 0, 1, []), 28), (28, (0, 0, 0, 8, []), 30), (30, (3, 0, 2, 0, []), 31), (31, (24, 0, 1, 131, []), 34), (34, (3, 0, 2, 0, []), 35), (35, (24, 0, 1, 134, []), 38), (38, (24, 2, 2, 0, []), 39), (39, (6, 2, 0, 0, []), 40), (40, (6, 0, 0, 0, []), 41), (41, (3, 1, 0, 0, []), 42), (42, (6, 0, 0, 0, []), 43), (43, (24, 1, 2, 135, []), 46), (46, (23, 0, 0, 0, []), 47)]
/-- WashingLines$CourtReader.hasPlace(I)Z -/
def am_c35 : List (Nat × am_I × Nat) := [(0, (3, 1, 0, 0, []), 1), (1, (19, 0, 178, 0, [(256, 68), (257, 95), (268, 151), (274, 52), (275, 123)]), 52), (52, (3, 0, 2, 0, []), 53), (53, (24, 0, 1, 256, []), 56), (56, (24, 0, 1, 384, []), 59), (59, (16, 1, 66, 0, []), 62), (62, (0, 0, 0, 1, []), 63), (63, (18, 0, 67, 0, []), 66), (66, (0, 0, 0, 0, []), 67), (67, (22, 1, 0, 0, []), 68), (68, (3, 0, 2, 0, []), 69), (69, (24, 0, 1, 256, []), 72), (72, (24, 0, 1, 384, []), 75), (75, (16, 0, 93, 0, []), 78), (78, (3, 0, 2, 0, []), 79), (79, (24, 0, 1, 256, []), 82), (82, (24, 0, 1, 387, []), 85), (85, (0, 0, 0, 4, []), 86), (86, (15, 3, 93, 0, []), 89), (89, (0, 0, 0, 1, []), 90), (90, (18, 0, 94, 0, []), 93), (93, (0, 0, 0, 0, []), 94), (94, (22, 1, 0, 0, []), 95), (95, (3, 0, 2, 0, []), 96), (96, (24, 0, 1, 256, []), 99), (99, (24, 0, 1, 384, []), 102), (102, (16, 0, 121, 0, []), 105), (105, (3, 0, 2, 0, []), 106), (106, (24, 0, 1, 256, []), 109), (109, (24, 0, 1, 388, []), 112), (112, (0, 0, 0, 6, []), 114), (114, (15, 3, 121, 0, []), 117), (117, (0, 0, 0, 1, []), 118), (118, (18, 0, 122, 0, []), 121), (121, (0, 0, 0, 0, []), 122), (122, (22, 1, 0, 0, []), 123), (123, (3, 0, 2, 0, []), 124), (124, (24, 0, 1, 256, []), 127), (127, (24, 0, 1, 384, []), 130), (130, (16, 0, 149, 0, []), 133), (133, (3, 0, 2, 0, []), 134), (134, (24, 0, 1, 256, []), 137), (137, (24, 0, 1, 389, []), 140), (140, (0, 0, 0, 10, []), 142), (142, (15, 3, 149, 0, []), 145), (145, (0, 0, 0, 1, []), 146), (146, (18, 0, 150, 0, []), 149), (149, (0, 0, 0, 0, []), 150), (150, (22, 1, 0, 0, []), 151), (151, (3, 0, 2, 0, []), 152), (152, (24, 0, 1, 256, []), 155), (155, (24, 0, 1, 384, []), 158), (158, (16, 0, 176, 0, []), 161), (161, (3, 0, 2, 0, []), 162), (162, (24, 0, 1, 256, []), 165), (165, (24, 0, 1, 390, []), 168), (168, (0, 0, 0, 3, []), 169), (169, (15, 3, 176, 0, []), 172), (172, (0, 0, 0, 1, []), 173), (173, (18, 0, 177, 0, []), 176), (176, (0, 0, 0, 0, []), 177), (177, (22, 1, 0, 0, []), 178), (178, (3, 0, 2, 0, []), 179), (179, (24, 0, 1, 256, []), 182), (182, (24, 0, 1, 384, []), 185), (185, (22, 1, 0, 0, []), 186)]
/-- WashingLines$Text.step()V -/
def am_c36 : List (Nat × am_I × Nat) := [(0, (3, 0, 2, 0, []), 1), (1, (24, 0, 1, 134, []), 4), (4, (3, 0, 2, 0, []), 5), (5, (24, 0, 1, 133, []), 8), (8, (0, 0, 0, 1, []), 9), (9, (6, 1, 0, 0, []), 10), (10, (15, 3, 23, 0, []), 13), (13, (3, 0, 2, 0, []), 14), (14, (12, 0, 0, 0, []), 15), (15, (24, 0, 1, 134, []), 18), (18, (0, 0, 0, 1, []), 19), (19, (6, 0, 0, 0, []), 20), (20, (24, 1, 2, 134, []), 23), (23, (23, 0, 0, 0, []), 24)]
/-- WashingLines$CourtReader.readClause(LWashingLines$Text;I)V -/
def am_c37 : List (Nat × am_I × Nat) := [(0, (3, 2, 0, 0, []), 1), (1, (19, 0, 92, 0, [(256, 60), (257, 68), (268, 84), (274, 52), (275, 76)]), 52), (52, (3, 0, 2, 0, []), 53), (53, (3, 1, 2, 0, []), 54), (54, (21, 38, 2, 0, []), 57), (57, (18, 0, 97, 0, []), 60), (60, (3, 0, 2, 0, []), 61), (61, (3, 1, 2, 0, []), 62), (62, (21, 41, 2, 0, []), 65), (65, (18, 0, 97, 0, []), 68), (68, (3, 0, 2, 0, []), 69), (69, (3, 1, 2, 0, []), 70), (70, (21, 42, 2, 0, []), 73), (73, (18, 0, 97, 0, []), 76), (76, (3, 0, 2, 0, []), 77), (77, (3, 1, 2, 0, []), 78), (78, (21, 45, 2, 0, []), 81), (81, (18, 0, 97, 0, []), 84), (84, (3, 0, 2, 0, []), 85), (85, (3, 1, 2, 0, []), 86), (86, (21, 46, 2, 0, []), 89), (89, (18, 0, 97, 0, []), 92), (92, (3, 0, 2, 0, []), 93), (93, (3, 1, 2, 0, []), 94), (94, (21, 47, 2, 0, []), 97), (97, (23, 0, 0, 0, []), 98)]
/-- WashingLines$CourtReader.readCourt(LWashingLines$Text;)V -/
def am_c38 : List (Nat × am_I × Nat) := [(0, (3, 0, 2, 0, []), 1), (1, (24, 0, 1, 256, []), 4), (4, (3, 1, 2, 0, []), 5), (5, (0, 0, 0, 1, []), 6), (6, (0, 0, 0, 5, []), 7), (7, (21, 39, 3, 0, []), 10), (10, (24, 1, 2, 385, []), 13), (13, (3, 0, 2, 0, []), 14), (14, (24, 0, 1, 256, []), 17), (17, (3, 1, 2, 0, []), 18), (18, (0, 0, 0, 1, []), 19), (19, (0, 0, 0, 20, []), 21), (21, (21, 39, 3, 0, []), 24), (24, (24, 1, 2, 386, []), 27), (27, (3, 0, 2, 0, []), 28), (28, (24, 0, 1, 256, []), 31), (31, (0, 0, 0, 1, []), 32), (32, (24, 1, 2, 384, []), 35), (35, (23, 0, 0, 0, []), 36)]
/-- WashingLines$Text.numberWithin(II)I -/
def am_c39 : List (Nat × am_I × Nat) := [(0, (3, 0, 2, 0, []), 1), (1, (21, 32, 1, 0, []), 4), (4, (0, 0, 0, 2, []), 5), (5, (15, 0, 15, 0, []), 8), (8, (3, 0, 2, 0, []), 9), (9, (0, 0, 0, 0, []), 10), (10, (21, 34, 2, 0, []), 13), (13, (0, 0, 0, -1, []), 14), (14, (22, 0, 0, 0, []), 15), (15, (3, 0, 2, 0, []), 16), (16, (21, 40, 1, 0, []), 19), (19, (4, 3, 0, 0, []), 20), (20, (3, 3, 0, 0, []), 21), (21, (3, 1, 0, 0, []), 22), (22, (15, 2, 30, 0, []), 25), (25, (3, 3, 0, 0, []), 26), (26, (3, 2, 0, 0, []), 27), (27, (15, 5, 37, 0, []), 30), (30, (3, 0, 2, 0, []), 31), (31, (0, 0, 0, 1, []), 32), (32, (21, 34, 2, 0, []), 35), (35, (0, 0, 0, -1, []), 36), (36, (22, 0, 0, 0, []), 37), (37, (3, 0, 2, 0, []), 38), (38, (21, 36, 1, 0, []), 41), (41, (3, 3, 0, 0, []), 42), (42, (22, 0, 0, 0, []), 43)]
/-- WashingLines$Text.value()I -/
def am_c40 : List (Nat × am_I × Nat) := [(0, (3, 0, 2, 0, []), 1), (1, (24, 0, 1, 134, []), 4), (4, (16, 2, 31, 0, []), 7), (7, (3, 0, 2, 0, []), 8), (8, (24, 0, 1, 134, []), 11), (11, (3, 0, 2, 0, []), 12), (12, (24, 0, 1, 132, []), 15), (15, (24, 4, 1, 0, []), 16), (16, (15, 3, 31, 0, []), 19), (19, (3, 0, 2, 0, []), 20), (20, (24, 0, 1, 132, []), 23), (23, (3, 0, 2, 0, []), 24), (24, (24, 0, 1, 134, []), 27), (27, (24, 2, 2, 0, []), 28), (28, (18, 0, 32, 0, []), 31), (31, (0, 0, 0, -1, []), 32), (32, (22, 0, 0, 0, []), 33)]
/-- WashingLines$CourtReader.readFamily(LWashingLines$Text;)V -/
def am_c41 : List (Nat × am_I × Nat) := [(0, (3, 1, 2, 0, []), 1), (1, (0, 0, 0, 0, []), 2), (2, (0, 0, 0, 20, []), 4), (4, (21, 39, 3, 0, []), 7), (7, (4, 2, 0, 0, []), 8), (8, (3, 0, 2, 0, []), 9), (9, (24, 0, 1, 256, []), 12), (12, (24, 0, 1, 387, []), 15), (15, (16, 2, 61, 0, []), 18), (18, (3, 0, 2, 0, []), 19), (19, (24, 0, 1, 256, []), 22), (22, (24, 0, 1, 387, []), 25), (25, (0, 0, 0, 4, []), 26), (26, (15, 3, 61, 0, []), 29), (29, (3, 0, 2, 0, []), 30), (30, (24, 0, 1, 256, []), 33), (33, (24, 0, 1, 400, []), 36), (36, (24, 0, 1, 517, []), 39), (39, (3, 0, 2, 0, []), 40), (40, (24, 0, 1, 256, []), 43), (43, (24, 0, 1, 387, []), 46), (46, (3, 2, 0, 0, []), 47), (47, (24, 3, 3, 0, []), 48), (48, (3, 0, 2, 0, []), 49), (49, (24, 0, 1, 256, []), 52), (52, (12, 0, 0, 0, []), 53), (53, (24, 0, 1, 387, []), 56), (56, (0, 0, 0, 1, []), 57), (57, (6, 0, 0, 0, []), 58), (58, (24, 1, 2, 387, []), 61), (61, (23, 0, 0, 0, []), 62)]
/-- WashingLines$CourtReader.readLine(LWashingLines$Text;)V -/
def am_c42 : List (Nat × am_I × Nat) := [(0, (3, 1, 2, 0, []), 1), (1, (0, 0, 0, 0, []), 2), (2, (0, 0, 0, 7, []), 4), (4, (21, 39, 3, 0, []), 7), (7, (4, 2, 0, 0, []), 8), (8, (3, 1, 2, 0, []), 9), (9, (21, 43, 1, 0, []), 12), (12, (4, 3, 0, 0, []), 13), (13, (3, 1, 2, 0, []), 14), (14, (0, 0, 0, 0, []), 15), (15, (0, 0, 0, 7, []), 17), (17, (21, 39, 3, 0, []), 20), (20, (4, 4, 0, 0, []), 22), (22, (3, 2, 0, 0, []), 23), (23, (3, 4, 0, 0, []), 25), (25, (15, 1, 34, 0, []), 28), (28, (3, 1, 2, 0, []), 29), (29, (3, 3, 0, 0, []), 30), (30, (0, 0, 0, 1, []), 31), (31, (21, 44, 3, 0, []), 34), (34, (3, 1, 2, 0, []), 35), (35, (0, 0, 0, 1, []), 36), (36, (0, 0, 0, 9, []), 38), (38, (21, 39, 3, 0, []), 41), (41, (4, 5, 0, 0, []), 43), (43, (3, 1, 2, 0, []), 44), (44, (0, 0, 0, 1, []), 45), (45, (0, 0, 0, 99, []), 47), (47, (21, 39, 3, 0, []), 50), (50, (4, 6, 0, 0, []), 52), (52, (3, 0, 2, 0, []), 53), (53, (24, 0, 1, 256, []), 56), (56, (24, 0, 1, 388, []), 59), (59, (4, 7, 0, 0, []), 61), (61, (3, 7, 0, 0, []), 63), (63, (16, 2, 133, 0, []), 66), (66, (3, 7, 0, 0, []), 68), (68, (0, 0, 0, 6, []), 70), (70, (15, 3, 133, 0, []), 73), (73, (3, 0, 2, 0, []), 74), (74, (24, 0, 1, 256, []), 77), (77, (24, 0, 1, 391, []), 80), (80, (3, 7, 0, 0, []), 82), (82, (3, 2, 0, 0, []), 83), (83, (24, 3, 3, 0, []), 84), (84, (3, 0, 2, 0, []), 85), (85, (24, 0, 1, 256, []), 88), (88, (24, 0, 1, 392, []), 91), (91, (3, 7, 0, 0, []), 93), (93, (3, 4, 0, 0, []), 95), (95, (24, 3, 3, 0, []), 96), (96, (3, 0, 2, 0, []), 97), (97, (24, 0, 1, 256, []), 100), (100, (24, 0, 1, 393, []), 103), (103, (3, 7, 0, 0, []), 105), (105, (3, 5, 0, 0, []), 107), (107, (24, 3, 3, 0, []), 108), (108, (3, 0, 2, 0, []), 109), (109, (24, 0, 1, 256, []), 112), (112, (24, 0, 1, 394, []), 115), (115, (3, 7, 0, 0, []), 117), (117, (3, 6, 0, 0, []), 119), (119, (24, 3, 3, 0, []), 120), (120, (3, 0, 2, 0, []), 121), (121, (24, 0, 1, 256, []), 124), (124, (12, 0, 0, 0, []), 125), (125, (24, 0, 1, 388, []), 128), (128, (0, 0, 0, 1, []), 129), (129, (6, 0, 0, 0, []), 130), (130, (24, 1, 2, 388, []), 133), (133, (23, 0, 0, 0, []), 134)]
/-- WashingLines$Text.place()I -/
def am_c43 : List (Nat × am_I × Nat) := [(0, (3, 0, 2, 0, []), 1), (1, (24, 0, 1, 134, []), 4), (4, (16, 2, 31, 0, []), 7), (7, (3, 0, 2, 0, []), 8), (8, (24, 0, 1, 134, []), 11), (11, (3, 0, 2, 0, []), 12), (12, (24, 0, 1, 131, []), 15), (15, (24, 4, 1, 0, []), 16), (16, (15, 3, 31, 0, []), 19), (19, (3, 0, 2, 0, []), 20), (20, (24, 0, 1, 131, []), 23), (23, (3, 0, 2, 0, []), 24), (24, (24, 0, 1, 134, []), 27), (27, (24, 2, 2, 0, []), 28), (28, (18, 0, 32, 0, []), 31), (31, (0, 0, 0, 0, []), 32), (32, (22, 0, 0, 0, []), 33)]
/-- WashingLines$Text.refuseAt(II)V -/
def am_c44 : List (Nat × am_I × Nat) := [(0, (3, 0, 2, 0, []), 1), (1, (24, 0, 1, 135, []), 4), (4, (16, 1, 19, 0, []), 7), (7, (3, 0, 2, 0, []), 8), (8, (0, 0, 0, 1, []), 9), (9, (0, 0, 0, 8, []), 11), (11, (3, 1, 0, 0, []), 12), (12, (6, 2, 0, 0, []), 13), (13, (6, 0, 0, 0, []), 14), (14, (3, 2, 0, 0, []), 15), (15, (6, 0, 0, 0, []), 16), (16, (24, 1, 2, 135, []), 19), (19, (23, 0, 0, 0, []), 20)]
/-- WashingLines$CourtReader.readLinen(LWashingLines$Text;)V -/
def am_c45 : List (Nat × am_I × Nat) := [(0, (3, 1, 2, 0, []), 1), (1, (0, 0, 0, 0, []), 2), (2, (3, 0, 2, 0, []), 3), (3, (24, 0, 1, 256, []), 6), (6, (24, 0, 1, 387, []), 9), (9, (0, 0, 0, 1, []), 10), (10, (6, 1, 0, 0, []), 11), (11, (21, 39, 3, 0, []), 14), (14, (4, 2, 0, 0, []), 15), (15, (3, 1, 2, 0, []), 16), (16, (0, 0, 0, 1, []), 17), (17, (0, 0, 0, 4, []), 18), (18, (21, 39, 3, 0, []), 21), (21, (4, 3, 0, 0, []), 22), (22, (3, 1, 2, 0, []), 23), (23, (0, 0, 0, 0, []), 24), (24, (0, 0, 0, 20, []), 26), (26, (21, 39, 3, 0, []), 29), (29, (4, 4, 0, 0, []), 31), (31, (3, 0, 2, 0, []), 32), (32, (24, 0, 1, 256, []), 35), (35, (24, 0, 1, 389, []), 38), (38, (4, 5, 0, 0, []), 40), (40, (3, 5, 0, 0, []), 42), (42, (16, 2, 114, 0, []), 45), (45, (3, 5, 0, 0, []), 47), (47, (0, 0, 0, 10, []), 49), (49, (15, 3, 114, 0, []), 52), (52, (3, 0, 2, 0, []), 53), (53, (24, 0, 1, 256, []), 56), (56, (24, 0, 1, 395, []), 59), (59, (3, 5, 0, 0, []), 61), (61, (3, 2, 0, 0, []), 62), (62, (24, 3, 3, 0, []), 63), (63, (3, 0, 2, 0, []), 64), (64, (24, 0, 1, 256, []), 67), (67, (24, 0, 1, 396, []), 70), (70, (3, 5, 0, 0, []), 72), (72, (3, 3, 0, 0, []), 73), (73, (24, 3, 3, 0, []), 74), (74, (3, 0, 2, 0, []), 75), (75, (24, 0, 1, 256, []), 78), (78, (24, 0, 1, 397, []), 81), (81, (3, 5, 0, 0, []), 83), (83, (3, 4, 0, 0, []), 85), (85, (24, 3, 3, 0, []), 86), (86, (3, 0, 2, 0, []), 87), (87, (24, 0, 1, 256, []), 90), (90, (24, 0, 1, 400, []), 93), (93, (24, 0, 1, 516, []), 96), (96, (3, 5, 0, 0, []), 98), (98, (3, 4, 0, 0, []), 100), (100, (24, 3, 3, 0, []), 101), (101, (3, 0, 2, 0, []), 102), (102, (24, 0, 1, 256, []), 105), (105, (12, 0, 0, 0, []), 106), (106, (24, 0, 1, 389, []), 109), (109, (0, 0, 0, 1, []), 110), (110, (6, 0, 0, 0, []), 111), (111, (24, 1, 2, 389, []), 114), (114, (23, 0, 0, 0, []), 115)]
/-- WashingLines$CourtReader.readRain(LWashingLines$Text;)V -/
def am_c46 : List (Nat × am_I × Nat) := [(0, (3, 1, 2, 0, []), 1), (1, (0, 0, 0, 0, []), 2), (2, (0, 0, 0, 99, []), 4), (4, (21, 39, 3, 0, []), 7), (7, (4, 2, 0, 0, []), 8), (8, (3, 1, 2, 0, []), 9), (9, (3, 2, 0, 0, []), 10), (10, (0, 0, 0, 99, []), 12), (12, (21, 39, 3, 0, []), 15), (15, (4, 3, 0, 0, []), 16), (16, (3, 0, 2, 0, []), 17), (17, (24, 0, 1, 256, []), 20), (20, (24, 0, 1, 390, []), 23), (23, (16, 2, 82, 0, []), 26), (26, (3, 0, 2, 0, []), 27), (27, (24, 0, 1, 256, []), 30), (30, (24, 0, 1, 390, []), 33), (33, (0, 0, 0, 3, []), 34), (34, (15, 3, 82, 0, []), 37), (37, (3, 0, 2, 0, []), 38), (38, (24, 0, 1, 256, []), 41), (41, (24, 0, 1, 398, []), 44), (44, (3, 0, 2, 0, []), 45), (45, (24, 0, 1, 256, []), 48), (48, (24, 0, 1, 390, []), 51), (51, (3, 2, 0, 0, []), 52), (52, (24, 3, 3, 0, []), 53), (53, (3, 0, 2, 0, []), 54), (54, (24, 0, 1, 256, []), 57), (57, (24, 0, 1, 399, []), 60), (60, (3, 0, 2, 0, []), 61), (61, (24, 0, 1, 256, []), 64), (64, (24, 0, 1, 390, []), 67), (67, (3, 3, 0, 0, []), 68), (68, (24, 3, 3, 0, []), 69), (69, (3, 0, 2, 0, []), 70), (70, (24, 0, 1, 256, []), 73), (73, (12, 0, 0, 0, []), 74), (74, (24, 0, 1, 390, []), 77), (77, (0, 0, 0, 1, []), 78), (78, (6, 0, 0, 0, []), 79), (79, (24, 1, 2, 390, []), 82), (82, (23, 0, 0, 0, []), 83)]
/-- WashingLines$CourtReader.readHung(LWashingLines$Text;)V -/
def am_c47 : List (Nat × am_I × Nat) := [(0, (3, 1, 2, 0, []), 1), (1, (0, 0, 0, 0, []), 2), (2, (3, 0, 2, 0, []), 3), (3, (24, 0, 1, 256, []), 6), (6, (24, 0, 1, 389, []), 9), (9, (0, 0, 0, 1, []), 10), (10, (6, 1, 0, 0, []), 11), (11, (21, 39, 3, 0, []), 14), (14, (4, 2, 0, 0, []), 15), (15, (3, 1, 2, 0, []), 16), (16, (21, 43, 1, 0, []), 19), (19, (4, 3, 0, 0, []), 20), (20, (3, 1, 2, 0, []), 21), (21, (0, 0, 0, 0, []), 22), (22, (3, 0, 2, 0, []), 23), (23, (24, 0, 1, 256, []), 26), (26, (24, 0, 1, 388, []), 29), (29, (0, 0, 0, 1, []), 30), (30, (6, 1, 0, 0, []), 31), (31, (21, 39, 3, 0, []), 34), (34, (4, 4, 0, 0, []), 36), (36, (3, 0, 2, 0, []), 37), (37, (24, 0, 1, 256, []), 40), (40, (24, 0, 1, 400, []), 43), (43, (3, 0, 2, 0, []), 44), (44, (24, 0, 1, 256, []), 47), (47, (3, 2, 0, 0, []), 48), (48, (3, 4, 0, 0, []), 50), (50, (21, 48, 4, 0, []), 53), (53, (16, 0, 76, 0, []), 56), (56, (3, 0, 2, 0, []), 57), (57, (24, 0, 1, 256, []), 60), (60, (24, 0, 1, 400, []), 63), (63, (3, 0, 2, 0, []), 64), (64, (24, 0, 1, 256, []), 67), (67, (3, 2, 0, 0, []), 68), (68, (3, 4, 0, 0, []), 70), (70, (21, 54, 4, 0, []), 73), (73, (18, 0, 82, 0, []), 76), (76, (3, 1, 2, 0, []), 77), (77, (3, 3, 0, 0, []), 78), (78, (0, 0, 0, 1, []), 79), (79, (21, 44, 3, 0, []), 82), (82, (23, 0, 0, 0, []), 83)]
/-- WashingLines$Yard.mayHang(LWashingLines$Court;II)Z -/
def am_c48 : List (Nat × am_I × Nat) := [(0, (3, 1, 2, 0, []), 1), (1, (3, 2, 0, 0, []), 2), (2, (21, 49, 2, 0, []), 5), (5, (16, 0, 35, 0, []), 8), (8, (3, 1, 2, 0, []), 9), (9, (3, 3, 0, 0, []), 10), (10, (21, 50, 2, 0, []), 13), (13, (16, 0, 35, 0, []), 16), (16, (3, 0, 2, 0, []), 17), (17, (24, 0, 1, 515, []), 20), (20, (3, 2, 0, 0, []), 21), (21, (24, 2, 2, 0, []), 22), (22, (0, 0, 0, -1, []), 23), (23, (15, 1, 35, 0, []), 26), (26, (3, 0, 2, 0, []), 27), (27, (24, 0, 1, 514, []), 30), (30, (3, 3, 0, 0, []), 31), (31, (24, 2, 2, 0, []), 32), (32, (16, 0, 37, 0, []), 35), (35, (0, 0, 0, 0, []), 36), (36, (22, 1, 0, 0, []), 37), (37, (3, 1, 2, 0, []), 38), (38, (24, 0, 1, 395, []), 41), (41, (3, 2, 0, 0, []), 42), (42, (24, 2, 2, 0, []), 43), (43, (4, 4, 0, 0, []), 45), (45, (3, 1, 2, 0, []), 46), (46, (3, 4, 0, 0, []), 48), (48, (21, 51, 2, 0, []), 51), (51, (16, 0, 84, 0, []), 54), (54, (3, 0, 2, 0, []), 55), (55, (24, 0, 1, 517, []), 58), (58, (3, 4, 0, 0, []), 60), (60, (24, 2, 2, 0, []), 61), (61, (0, 0, 0, 2, []), 62), (62, (15, 2, 84, 0, []), 65), (65, (3, 1, 2, 0, []), 66), (66, (24, 0, 1, 396, []), 69), (69, (3, 2, 0, 0, []), 70), (70, (24, 2, 2, 0, []), 71), (71, (3, 0, 2, 0, []), 72), (72, (3, 1, 2, 0, []), 73), (73, (3, 3, 0, 0, []), 74), (74, (21, 52, 3, 0, []), 77), (77, (15, 4, 84, 0, []), 80), (80, (0, 0, 0, 1, []), 81), (81, (18, 0, 85, 0, []), 84), (84, (0, 0, 0, 0, []), 85), (85, (22, 1, 0, 0, []), 86)]
/-- WashingLines$Court.isLinen(I)Z -/
def am_c49 : List (Nat × am_I × Nat) := [(0, (3, 1, 0, 0, []), 1), (1, (16, 2, 22, 0, []), 4), (4, (3, 1, 0, 0, []), 5), (5, (3, 0, 2, 0, []), 6), (6, (24, 0, 1, 389, []), 9), (9, (15, 3, 22, 0, []), 12), (12, (3, 1, 0, 0, []), 13), (13, (0, 0, 0, 10, []), 15), (15, (15, 3, 22, 0, []), 18), (18, (0, 0, 0, 1, []), 19), (19, (18, 0, 23, 0, []), 22), (22, (0, 0, 0, 0, []), 23), (23, (22, 1, 0, 0, []), 24)]
/-- WashingLines$Court.isLine(I)Z -/
def am_c50 : List (Nat × am_I × Nat) := [(0, (3, 1, 0, 0, []), 1), (1, (16, 2, 22, 0, []), 4), (4, (3, 1, 0, 0, []), 5), (5, (3, 0, 2, 0, []), 6), (6, (24, 0, 1, 388, []), 9), (9, (15, 3, 22, 0, []), 12), (12, (3, 1, 0, 0, []), 13), (13, (0, 0, 0, 6, []), 15), (15, (15, 3, 22, 0, []), 18), (18, (0, 0, 0, 1, []), 19), (19, (18, 0, 23, 0, []), 22), (22, (0, 0, 0, 0, []), 23), (23, (22, 1, 0, 0, []), 24)]
/-- WashingLines$Court.isFamily(I)Z -/
def am_c51 : List (Nat × am_I × Nat) := [(0, (3, 1, 0, 0, []), 1), (1, (16, 2, 21, 0, []), 4), (4, (3, 1, 0, 0, []), 5), (5, (3, 0, 2, 0, []), 6), (6, (24, 0, 1, 387, []), 9), (9, (15, 3, 21, 0, []), 12), (12, (3, 1, 0, 0, []), 13), (13, (0, 0, 0, 4, []), 14), (14, (15, 3, 21, 0, []), 17), (17, (0, 0, 0, 1, []), 18), (18, (18, 0, 22, 0, []), 21), (21, (0, 0, 0, 0, []), 22), (22, (22, 1, 0, 0, []), 23)]
/-- WashingLines$Yard.lengthLeft(LWashingLines$Court;I)I -/
def am_c52 : List (Nat × am_I × Nat) := [(0, (3, 1, 2, 0, []), 1), (1, (3, 2, 0, 0, []), 2), (2, (21, 50, 2, 0, []), 5), (5, (16, 0, 24, 0, []), 8), (8, (3, 1, 2, 0, []), 9), (9, (24, 0, 1, 393, []), 12), (12, (3, 2, 0, 0, []), 13), (13, (24, 2, 2, 0, []), 14), (14, (3, 0, 2, 0, []), 15), (15, (3, 1, 2, 0, []), 16), (16, (3, 2, 0, 0, []), 17), (17, (21, 53, 3, 0, []), 20), (20, (6, 1, 0, 0, []), 21), (21, (18, 0, 25, 0, []), 24), (24, (0, 0, 0, 0, []), 25), (25, (22, 0, 0, 0, []), 26)]
/-- WashingLines$Yard.cellsOn(LWashingLines$Court;I)I -/
def am_c53 : List (Nat × am_I × Nat) := [(0, (0, 0, 0, 0, []), 1), (1, (4, 3, 0, 0, []), 2), (2, (0, 0, 0, 0, []), 3), (3, (4, 4, 0, 0, []), 5), (5, (3, 4, 0, 0, []), 7), (7, (0, 0, 0, 10, []), 9), (9, (15, 3, 39, 0, []), 12), (12, (3, 0, 2, 0, []), 13), (13, (24, 0, 1, 515, []), 16), (16, (3, 4, 0, 0, []), 18), (18, (24, 2, 2, 0, []), 19), (19, (3, 2, 0, 0, []), 20), (20, (15, 1, 33, 0, []), 23), (23, (3, 3, 0, 0, []), 24), (24, (3, 1, 2, 0, []), 25), (25, (24, 0, 1, 396, []), 28), (28, (3, 4, 0, 0, []), 30), (30, (24, 2, 2, 0, []), 31), (31, (6, 0, 0, 0, []), 32), (32, (4, 3, 0, 0, []), 33), (33, (5, 4, 0, 1, []), 36), (36, (18, 0, 5, 0, []), 39), (39, (3, 3, 0, 0, []), 40), (40, (22, 0, 0, 0, []), 41)]
/-- WashingLines$Yard.putUp(LWashingLines$Court;II)V -/
def am_c54 : List (Nat × am_I × Nat) := [(0, (3, 0, 2, 0, []), 1), (1, (3, 1, 2, 0, []), 2), (2, (3, 2, 0, 0, []), 3), (3, (3, 3, 0, 0, []), 4), (4, (21, 48, 4, 0, []), 7), (7, (16, 0, 32, 0, []), 10), (10, (3, 0, 2, 0, []), 11), (11, (24, 0, 1, 515, []), 14), (14, (3, 2, 0, 0, []), 15), (15, (3, 3, 0, 0, []), 16), (16, (24, 3, 3, 0, []), 17), (17, (3, 0, 2, 0, []), 18), (18, (24, 0, 1, 517, []), 21), (21, (3, 1, 2, 0, []), 22), (22, (24, 0, 1, 395, []), 25), (25, (3, 2, 0, 0, []), 26), (26, (24, 2, 2, 0, []), 27), (27, (13, 0, 0, 0, []), 28), (28, (24, 2, 2, 0, []), 29), (29, (0, 0, 0, 2, []), 30), (30, (6, 1, 0, 0, []), 31), (31, (24, 3, 3, 0, []), 32), (32, (23, 0, 0, 0, []), 33)]
/-- WashingLines$Text.expect(I)V -/
def am_c55 : List (Nat × am_I × Nat) := [(0, (3, 0, 2, 0, []), 1), (1, (21, 32, 1, 0, []), 4), (4, (3, 1, 0, 0, []), 5), (5, (15, 1, 15, 0, []), 8), (8, (3, 0, 2, 0, []), 9), (9, (21, 36, 1, 0, []), 12), (12, (18, 0, 20, 0, []), 15), (15, (3, 0, 2, 0, []), 16), (16, (0, 0, 0, 0, []), 17), (17, (21, 34, 2, 0, []), 20), (20, (23, 0, 0, 0, []), 21)]
/-- WashingLines$World.settle(LWashingLines$Court;)V -/
def am_c56 : List (Nat × am_I × Nat) := [(0, (3, 0, 2, 0, []), 1), (1, (24, 0, 1, 1024, []), 4), (4, (3, 1, 2, 0, []), 5), (5, (21, 57, 2, 0, []), 8), (8, (3, 0, 2, 0, []), 9), (9, (24, 0, 1, 1025, []), 12), (12, (3, 1, 2, 0, []), 13), (13, (24, 0, 1, 400, []), 16), (16, (21, 58, 2, 0, []), 19), (19, (3, 0, 2, 0, []), 20), (20, (0, 0, 0, 0, []), 21), (21, (24, 1, 2, 1028, []), 24), (24, (3, 0, 2, 0, []), 25), (25, (0, 0, 0, 0, []), 26), (26, (24, 1, 2, 1032, []), 29), (29, (23, 0, 0, 0, []), 30)]
/-- WashingLines$Court.copyFrom(LWashingLines$Court;)V -/
def am_c57 : List (Nat × am_I × Nat) := [(0, (3, 0, 2, 0, []), 1), (1, (3, 1, 2, 0, []), 2), (2, (24, 0, 1, 384, []), 5), (5, (24, 1, 2, 384, []), 8), (8, (3, 0, 2, 0, []), 9), (9, (3, 1, 2, 0, []), 10), (10, (24, 0, 1, 385, []), 13), (13, (24, 1, 2, 385, []), 16), (16, (3, 0, 2, 0, []), 17), (17, (3, 1, 2, 0, []), 18), (18, (24, 0, 1, 386, []), 21), (21, (24, 1, 2, 386, []), 24), (24, (3, 0, 2, 0, []), 25), (25, (3, 1, 2, 0, []), 26), (26, (24, 0, 1, 387, []), 29), (29, (24, 1, 2, 387, []), 32), (32, (3, 0, 2, 0, []), 33), (33, (3, 1, 2, 0, []), 34), (34, (24, 0, 1, 388, []), 37), (37, (24, 1, 2, 388, []), 40), (40, (3, 0, 2, 0, []), 41), (41, (3, 1, 2, 0, []), 42), (42, (24, 0, 1, 389, []), 45), (45, (24, 1, 2, 389, []), 48), (48, (3, 0, 2, 0, []), 49), (49, (3, 1, 2, 0, []), 50), (50, (24, 0, 1, 390, []), 53), (53, (24, 1, 2, 390, []), 56), (56, (3, 1, 2, 0, []), 57), (57, (24, 0, 1, 391, []), 60), (60, (0, 0, 0, 0, []), 61), (61, (3, 0, 2, 0, []), 62), (62, (24, 0, 1, 391, []), 65), (65, (0, 0, 0, 0, []), 66), (66, (0, 0, 0, 6, []), 68), (68, (24, 10, 5, 0, []), 71), (71, (3, 1, 2, 0, []), 72), (72, (24, 0, 1, 392, []), 75), (75, (0, 0, 0, 0, []), 76), (76, (3, 0, 2, 0, []), 77), (77, (24, 0, 1, 392, []), 80), (80, (0, 0, 0, 0, []), 81), (81, (0, 0, 0, 6, []), 83), (83, (24, 10, 5, 0, []), 86), (86, (3, 1, 2, 0, []), 87), (87, (24, 0, 1, 393, []), 90), (90, (0, 0, 0, 0, []), 91), (91, (3, 0, 2, 0, []), 92), (92, (24, 0, 1, 393, []), 95), (95, (0, 0, 0, 0, []), 96), (96, (0, 0, 0, 6, []), 98), (98, (24, 10, 5, 0, []), 101), (101, (3, 1, 2, 0, []), 102), (102, (24, 0, 1, 394, []), 105), (105, (0, 0, 0, 0, []), 106), (106, (3, 0, 2, 0, []), 107), (107, (24, 0, 1, 394, []), 110), (110, (0, 0, 0, 0, []), 111), (111, (0, 0, 0, 6, []), 113), (113, (24, 10, 5, 0, []), 116), (116, (3, 1, 2, 0, []), 117), (117, (24, 0, 1, 395, []), 120), (120, (0, 0, 0, 0, []), 121), (121, (3, 0, 2, 0, []), 122), (122, (24, 0, 1, 395, []), 125), (125, (0, 0, 0, 0, []), 126), (126, (0, 0, 0, 10, []), 128), (128, (24, 10, 5, 0, []), 131), (131, (3, 1, 2, 0, []), 132), (132, (24, 0, 1, 396, []), 135), (135, (0, 0, 0, 0, []), 136), (136, (3, 0, 2, 0, []), 137), (137, (24, 0, 1, 396, []), 140), (140, (0, 0, 0, 0, []), 141), (141, (0, 0, 0, 10, []), 143), (143, (24, 10, 5, 0, []), 146), (146, (3, 1, 2, 0, []), 147), (147, (24, 0, 1, 397, []), 150), (150, (0, 0, 0, 0, []), 151), (151, (3, 0, 2, 0, []), 152), (152, (24, 0, 1, 397, []), 155), (155, (0, 0, 0, 0, []), 156), (156, (0, 0, 0, 10, []), 158), (158, (24, 10, 5, 0, []), 161), (161, (3, 1, 2, 0, []), 162), (162, (24, 0, 1, 398, []), 165), (165, (0, 0, 0, 0, []), 166), (166, (3, 0, 2, 0, []), 167), (167, (24, 0, 1, 398, []), 170), (170, (0, 0, 0, 0, []), 171), (171, (0, 0, 0, 3, []), 172), (172, (24, 10, 5, 0, []), 175), (175, (3, 1, 2, 0, []), 176), (176, (24, 0, 1, 399, []), 179), (179, (0, 0, 0, 0, []), 180), (180, (3, 0, 2, 0, []), 181), (181, (24, 0, 1, 399, []), 184), (184, (0, 0, 0, 0, []), 185), (185, (0, 0, 0, 3, []), 186), (186, (24, 10, 5, 0, []), 189), (189, (3, 0, 2, 0, []), 190), (190, (24, 0, 1, 400, []), 193), (193, (3, 1, 2, 0, []), 194), (194, (24, 0, 1, 400, []), 197), (197, (21, 58, 2, 0, []), 200), (200, (23, 0, 0, 0, []), 201)]
/-- WashingLines$Yard.copyFrom(LWashingLines$Yard;)V -/
def am_c58 : List (Nat × am_I × Nat) := [(0, (3, 0, 2, 0, []), 1), (1, (3, 1, 2, 0, []), 2), (2, (24, 0, 1, 512, []), 5), (5, (24, 1, 2, 512, []), 8), (8, (3, 1, 2, 0, []), 9), (9, (24, 0, 1, 513, []), 12), (12, (0, 0, 0, 0, []), 13), (13, (3, 0, 2, 0, []), 14), (14, (24, 0, 1, 513, []), 17), (17, (0, 0, 0, 0, []), 18), (18, (0, 0, 0, 6, []), 20), (20, (24, 10, 5, 0, []), 23), (23, (3, 1, 2, 0, []), 24), (24, (24, 0, 1, 514, []), 27), (27, (0, 0, 0, 0, []), 28), (28, (3, 0, 2, 0, []), 29), (29, (24, 0, 1, 514, []), 32), (32, (0, 0, 0, 0, []), 33), (33, (0, 0, 0, 6, []), 35), (35, (24, 10, 5, 0, []), 38), (38, (3, 1, 2, 0, []), 39), (39, (24, 0, 1, 515, []), 42), (42, (0, 0, 0, 0, []), 43), (43, (3, 0, 2, 0, []), 44), (44, (24, 0, 1, 515, []), 47), (47, (0, 0, 0, 0, []), 48), (48, (0, 0, 0, 10, []), 50), (50, (24, 10, 5, 0, []), 53), (53, (3, 1, 2, 0, []), 54), (54, (24, 0, 1, 516, []), 57), (57, (0, 0, 0, 0, []), 58), (58, (3, 0, 2, 0, []), 59), (59, (24, 0, 1, 516, []), 62), (62, (0, 0, 0, 0, []), 63), (63, (0, 0, 0, 10, []), 65), (65, (24, 10, 5, 0, []), 68), (68, (3, 1, 2, 0, []), 69), (69, (24, 0, 1, 517, []), 72), (72, (0, 0, 0, 0, []), 73), (73, (3, 0, 2, 0, []), 74), (74, (24, 0, 1, 517, []), 77), (77, (0, 0, 0, 0, []), 78), (78, (0, 0, 0, 4, []), 79), (79, (24, 10, 5, 0, []), 82), (82, (3, 1, 2, 0, []), 83), (83, (24, 0, 1, 518, []), 86), (86, (0, 0, 0, 0, []), 87), (87, (3, 0, 2, 0, []), 88), (88, (24, 0, 1, 518, []), 91), (91, (0, 0, 0, 0, []), 92), (92, (0, 0, 0, 4, []), 93), (93, (24, 10, 5, 0, []), 96), (96, (23, 0, 0, 0, []), 97)]
/-- WashingLines.rule()I -/
def am_c59 : List (Nat × am_I × Nat) := [(0, (3, 0, 2, 0, []), 1), (1, (24, 0, 1, 3, []), 4), (4, (21, 60, 1, 0, []), 7), (7, (16, 0, 12, 0, []), 10), (10, (0, 0, 0, -1, []), 11), (11, (22, 0, 0, 0, []), 12), (12, (3, 0, 2, 0, []), 13), (13, (24, 0, 1, 2, []), 16), (16, (3, 0, 2, 0, []), 17), (17, (24, 0, 1, 0, []), 20), (20, (21, 61, 2, 0, []), 23), (23, (4, 1, 0, 0, []), 24), (24, (3, 0, 2, 0, []), 25), (25, (24, 0, 1, 0, []), 28), (28, (0, 0, 0, 0, []), 29), (29, (24, 1, 2, 129, []), 32), (32, (3, 1, 0, 0, []), 33), (33, (16, 0, 43, 0, []), 36), (36, (0, 0, 0, -2, []), 38), (38, (3, 1, 0, 0, []), 39), (39, (6, 1, 0, 0, []), 40), (40, (18, 0, 57, 0, []), 43), (43, (3, 0, 2, 0, []), 44), (44, (24, 0, 1, 3, []), 47), (47, (3, 0, 2, 0, []), 48), (48, (24, 0, 1, 2, []), 51), (51, (24, 0, 1, 640, []), 54), (54, (21, 69, 2, 0, []), 57), (57, (22, 0, 0, 0, []), 58)]
/-- WashingLines$Book.isFull()Z -/
def am_c60 : List (Nat × am_I × Nat) := [(0, (3, 0, 2, 0, []), 1), (1, (24, 0, 1, 898, []), 4), (4, (0, 0, 0, 6, []), 6), (6, (15, 2, 13, 0, []), 9), (9, (0, 0, 0, 1, []), 10), (10, (18, 0, 14, 0, []), 13), (13, (0, 0, 0, 0, []), 14), (14, (22, 1, 0, 0, []), 15)]
/-- WashingLines$RuleReader.read(LWashingLines$Text;)I -/
def am_c61 : List (Nat × am_I × Nat) := [(0, (3, 0, 2, 0, []), 1), (1, (24, 0, 1, 640, []), 4), (4, (0, 0, 0, 0, []), 5), (5, (24, 1, 2, 769, []), 8), (8, (3, 0, 2, 0, []), 9), (9, (0, 0, 0, 0, []), 10), (10, (24, 1, 2, 641, []), 13), (13, (3, 1, 2, 0, []), 14), (14, (21, 21, 1, 0, []), 17), (17, (0, 0, 0, 0, []), 18), (18, (4, 2, 0, 0, []), 19), (19, (3, 2, 0, 0, []), 20), (20, (0, 0, 0, 12, []), 22), (22, (15, 4, 135, 0, []), 25), (25, (3, 1, 2, 0, []), 26), (26, (24, 0, 1, 135, []), 29), (29, (16, 1, 135, 0, []), 32), (32, (3, 2, 0, 0, []), 33), (33, (0, 0, 0, 12, []), 35), (35, (15, 1, 53, 0, []), 38), (38, (3, 1, 2, 0, []), 39), (39, (21, 32, 1, 0, []), 42), (42, (0, 0, 0, 269, []), 45), (45, (15, 1, 53, 0, []), 48), (48, (3, 1, 2, 0, []), 49), (49, (0, 0, 0, 4, []), 50), (50, (21, 34, 2, 0, []), 53), (53, (3, 1, 2, 0, []), 54), (54, (0, 0, 0, 269, []), 57), (57, (21, 55, 2, 0, []), 60), (60, (3, 0, 2, 0, []), 61), (61, (3, 1, 2, 0, []), 62), (62, (21, 62, 2, 0, []), 65), (65, (3, 1, 2, 0, []), 66), (66, (21, 32, 1, 0, []), 69), (69, (0, 0, 0, 270, []), 72), (72, (15, 1, 98, 0, []), 75), (75, (3, 1, 2, 0, []), 76), (76, (21, 36, 1, 0, []), 79), (79, (3, 0, 2, 0, []), 80), (80, (3, 1, 2, 0, []), 81), (81, (0, 0, 0, 0, []), 82), (82, (21, 65, 3, 0, []), 85), (85, (3, 0, 2, 0, []), 86), (86, (24, 0, 1, 640, []), 89), (89, (0, 0, 0, -270, []), 92), (92, (21, 9, 2, 0, []), 95), (95, (18, 0, 107, 0, []), 98), (98, (3, 0, 2, 0, []), 99), (99, (24, 0, 1, 640, []), 102), (102, (0, 0, 0, -59, []), 104), (104, (21, 9, 2, 0, []), 107), (107, (3, 1, 2, 0, []), 108), (108, (24, 0, 1, 135, []), 111), (111, (16, 1, 123, 0, []), 114), (114, (3, 1, 2, 0, []), 115), (115, (21, 32, 1, 0, []), 118), (118, (16, 1, 123, 0, []), 121), (121, (0, 0, 0, 0, []), 122), (122, (22, 0, 0, 0, []), 123), (123, (3, 1, 2, 0, []), 124), (124, (0, 0, 0, 59, []), 126), (126, (21, 55, 2, 0, []), 129), (129, (5, 2, 0, 1, []), 132), (132, (18, 0, 19, 0, []), 135), (135, (3, 1, 2, 0, []), 136), (136, (24, 0, 1, 135, []), 139), (139, (22, 0, 0, 0, []), 140)]
/-- WashingLines$RuleReader.readSum(LWashingLines$Text;)V -/
def am_c62 : List (Nat × am_I × Nat) := [(0, (3, 0, 2, 0, []), 1), (1, (3, 1, 2, 0, []), 2), (2, (21, 63, 2, 0, []), 5), (5, (0, 0, 0, 0, []), 6), (6, (4, 2, 0, 0, []), 7), (7, (3, 2, 0, 0, []), 8), (8, (0, 0, 0, 60, []), 10), (10, (15, 3, 60, 0, []), 13), (13, (3, 1, 2, 0, []), 14), (14, (21, 32, 1, 0, []), 17), (17, (0, 0, 0, 43, []), 19), (19, (15, 0, 31, 0, []), 22), (22, (3, 1, 2, 0, []), 23), (23, (21, 32, 1, 0, []), 26), (26, (0, 0, 0, 45, []), 28), (28, (15, 1, 60, 0, []), 31), (31, (3, 1, 2, 0, []), 32), (32, (21, 32, 1, 0, []), 35), (35, (4, 3, 0, 0, []), 36), (36, (3, 1, 2, 0, []), 37), (37, (21, 36, 1, 0, []), 40), (40, (3, 0, 2, 0, []), 41), (41, (3, 1, 2, 0, []), 42), (42, (21, 63, 2, 0, []), 45), (45, (3, 0, 2, 0, []), 46), (46, (24, 0, 1, 640, []), 49), (49, (3, 3, 0, 0, []), 50), (50, (7, 0, 0, 0, []), 51), (51, (21, 9, 2, 0, []), 54), (54, (5, 2, 0, 1, []), 57), (57, (18, 0, 7, 0, []), 60), (60, (23, 0, 0, 0, []), 61)]
/-- WashingLines$RuleReader.readTerm(LWashingLines$Text;)V -/
def am_c63 : List (Nat × am_I × Nat) := [(0, (0, 0, 0, 0, []), 1), (1, (4, 2, 0, 0, []), 2), (2, (0, 0, 0, 0, []), 3), (3, (4, 3, 0, 0, []), 4), (4, (3, 3, 0, 0, []), 5), (5, (0, 0, 0, 60, []), 7), (7, (15, 4, 155, 0, []), 10), (10, (3, 1, 2, 0, []), 11), (11, (21, 32, 1, 0, []), 14), (14, (4, 4, 0, 0, []), 16), (16, (3, 1, 2, 0, []), 17), (17, (21, 40, 1, 0, []), 20), (20, (4, 5, 0, 0, []), 22), (22, (3, 4, 0, 0, []), 24), (24, (21, 64, 1, 1, []), 27), (27, (16, 0, 45, 0, []), 30), (30, (3, 5, 0, 0, []), 32), (32, (0, 0, 0, -1, []), 33), (33, (15, 0, 45, 0, []), 36), (36, (3, 0, 2, 0, []), 37), (37, (24, 0, 1, 641, []), 40), (40, (0, 0, 0, 60, []), 42), (42, (15, 2, 73, 0, []), 45), (45, (3, 1, 2, 0, []), 46), (46, (3, 4, 0, 0, []), 48), (48, (21, 64, 1, 1, []), 51), (51, (16, 1, 58, 0, []), 54), (54, (0, 0, 0, 0, []), 55), (55, (18, 0, 69, 0, []), 58), (58, (3, 5, 0, 0, []), 60), (60, (0, 0, 0, -1, []), 61), (61, (15, 1, 68, 0, []), 64), (64, (0, 0, 0, 1, []), 65), (65, (18, 0, 69, 0, []), 68), (68, (0, 0, 0, 3, []), 69), (69, (21, 34, 2, 0, []), 72), (72, (23, 0, 0, 0, []), 73), (73, (3, 0, 2, 0, []), 74), (74, (12, 0, 0, 0, []), 75), (75, (24, 0, 1, 641, []), 78), (78, (0, 0, 0, 1, []), 79), (79, (6, 0, 0, 0, []), 80), (80, (24, 1, 2, 641, []), 83), (83, (3, 0, 2, 0, []), 84), (84, (24, 0, 1, 640, []), 87), (87, (3, 4, 0, 0, []), 89), (89, (0, 0, 0, 2, []), 90), (90, (15, 1, 98, 0, []), 93), (93, (3, 5, 0, 0, []), 95), (95, (18, 0, 101, 0, []), 98), (98, (3, 4, 0, 0, []), 100), (100, (7, 0, 0, 0, []), 101), (101, (21, 9, 2, 0, []), 104), (104, (3, 2, 0, 0, []), 105), (105, (16, 0, 117, 0, []), 108), (108, (3, 0, 2, 0, []), 109), (109, (24, 0, 1, 640, []), 112), (112, (3, 2, 0, 0, []), 113), (113, (7, 0, 0, 0, []), 114), (114, (21, 9, 2, 0, []), 117), (117, (3, 1, 2, 0, []), 118), (118, (21, 36, 1, 0, []), 121), (121, (3, 1, 2, 0, []), 122), (122, (21, 32, 1, 0, []), 125), (125, (4, 2, 0, 0, []), 126), (126, (3, 2, 0, 0, []), 127), (127, (0, 0, 0, 42, []), 129), (129, (15, 0, 145, 0, []), 132), (132, (3, 2, 0, 0, []), 133), (133, (0, 0, 0, 47, []), 135), (135, (15, 0, 145, 0, []), 138), (138, (3, 2, 0, 0, []), 139), (139, (0, 0, 0, 37, []), 141), (141, (15, 0, 145, 0, []), 144), (144, (23, 0, 0, 0, []), 145), (145, (3, 1, 2, 0, []), 146), (146, (21, 36, 1, 0, []), 149), (149, (5, 3, 0, 1, []), 152), (152, (18, 0, 4, 0, []), 155), (155, (23, 0, 0, 0, []), 156)]
/-- WashingLines$RuleReader.isValue(I)Z -/
def am_c64 : List (Nat × am_I × Nat) := [(0, (3, 0, 0, 0, []), 1), (1, (0, 0, 0, 2, []), 2), (2, (15, 0, 19, 0, []), 5), (5, (3, 0, 0, 0, []), 6), (6, (0, 0, 0, 256, []), 9), (9, (15, 2, 23, 0, []), 12), (12, (3, 0, 0, 0, []), 13), (13, (0, 0, 0, 268, []), 16), (16, (15, 4, 23, 0, []), 19), (19, (0, 0, 0, 1, []), 20), (20, (18, 0, 24, 0, []), 23), (23, (0, 0, 0, 0, []), 24), (24, (22, 1, 0, 0, []), 25)]
/-- WashingLines$RuleReader.readTest(LWashingLines$Text;I)V -/
def am_c65 : List (Nat × am_I × Nat) := [(0, (0, 0, 0, 0, []), 1), (1, (4, 3, 0, 0, []), 2), (2, (3, 0, 2, 0, []), 3), (3, (3, 1, 2, 0, []), 4), (4, (3, 2, 0, 0, []), 5), (5, (21, 66, 3, 0, []), 8), (8, (0, 0, 0, 0, []), 9), (9, (4, 4, 0, 0, []), 11), (11, (3, 4, 0, 0, []), 13), (13, (0, 0, 0, 60, []), 15), (15, (15, 3, 110, 0, []), 18), (18, (3, 1, 2, 0, []), 19), (19, (21, 32, 1, 0, []), 22), (22, (0, 0, 0, 271, []), 25), (25, (15, 0, 38, 0, []), 28), (28, (3, 1, 2, 0, []), 29), (29, (21, 32, 1, 0, []), 32), (32, (0, 0, 0, 272, []), 35), (35, (15, 1, 110, 0, []), 38), (38, (3, 1, 2, 0, []), 39), (39, (21, 32, 1, 0, []), 42), (42, (0, 0, 0, 271, []), 45), (45, (15, 1, 52, 0, []), 48), (48, (0, 0, 0, 1, []), 49), (49, (18, 0, 53, 0, []), 52), (52, (0, 0, 0, 0, []), 53), (53, (4, 5, 0, 0, []), 55), (55, (3, 5, 0, 0, []), 57), (57, (16, 1, 74, 0, []), 60), (60, (3, 3, 0, 0, []), 61), (61, (16, 0, 74, 0, []), 64), (64, (3, 0, 2, 0, []), 65), (65, (24, 0, 1, 640, []), 68), (68, (0, 0, 0, -272, []), 71), (71, (21, 9, 2, 0, []), 74), (74, (3, 1, 2, 0, []), 75), (75, (21, 36, 1, 0, []), 78), (78, (3, 0, 2, 0, []), 79), (79, (3, 1, 2, 0, []), 80), (80, (3, 2, 0, 0, []), 81), (81, (21, 66, 3, 0, []), 84), (84, (3, 5, 0, 0, []), 86), (86, (16, 0, 102, 0, []), 89), (89, (3, 0, 2, 0, []), 90), (90, (24, 0, 1, 640, []), 93), (93, (0, 0, 0, -271, []), 96), (96, (21, 9, 2, 0, []), 99), (99, (18, 0, 104, 0, []), 102), (102, (0, 0, 0, 1, []), 103), (103, (4, 3, 0, 0, []), 104), (104, (5, 4, 0, 1, []), 107), (107, (18, 0, 11, 0, []), 110), (110, (3, 3, 0, 0, []), 111), (111, (16, 0, 124, 0, []), 114), (114, (3, 0, 2, 0, []), 115), (115, (24, 0, 1, 640, []), 118), (118, (0, 0, 0, -272, []), 121), (121, (21, 9, 2, 0, []), 124), (124, (23, 0, 0, 0, []), 125)]
/-- WashingLines$RuleReader.readFact(LWashingLines$Text;I)V -/
def am_c66 : List (Nat × am_I × Nat) := [(0, (0, 0, 0, 0, []), 1), (1, (4, 3, 0, 0, []), 2), (2, (3, 1, 2, 0, []), 3), (3, (21, 32, 1, 0, []), 6), (6, (0, 0, 0, 273, []), 9), (9, (15, 1, 30, 0, []), 12), (12, (3, 2, 0, 0, []), 13), (13, (3, 3, 0, 0, []), 14), (14, (6, 0, 0, 0, []), 15), (15, (0, 0, 0, 10, []), 17), (17, (15, 3, 30, 0, []), 20), (20, (3, 1, 2, 0, []), 21), (21, (21, 36, 1, 0, []), 24), (24, (5, 3, 0, 1, []), 27), (27, (18, 0, 2, 0, []), 30), (30, (3, 1, 2, 0, []), 31), (31, (21, 32, 1, 0, []), 34), (34, (4, 4, 0, 0, []), 36), (36, (3, 4, 0, 0, []), 38), (38, (0, 0, 0, 273, []), 41), (41, (15, 0, 59, 0, []), 44), (44, (3, 4, 0, 0, []), 46), (46, (0, 0, 0, 91, []), 48), (48, (15, 1, 67, 0, []), 51), (51, (3, 2, 0, 0, []), 52), (52, (3, 3, 0, 0, []), 53), (53, (6, 0, 0, 0, []), 54), (54, (0, 0, 0, 10, []), 56), (56, (15, 2, 67, 0, []), 59), (59, (3, 1, 2, 0, []), 60), (60, (0, 0, 0, 2, []), 61), (61, (21, 34, 2, 0, []), 64), (64, (18, 0, 102, 0, []), 67), (67, (3, 4, 0, 0, []), 69), (69, (0, 0, 0, 91, []), 71), (71, (15, 1, 97, 0, []), 74), (74, (3, 1, 2, 0, []), 75), (75, (21, 36, 1, 0, []), 78), (78, (3, 0, 2, 0, []), 79), (79, (3, 1, 2, 0, []), 80), (80, (3, 2, 0, 0, []), 81), (81, (3, 3, 0, 0, []), 82), (82, (6, 0, 0, 0, []), 83), (83, (0, 0, 0, 1, []), 84), (84, (6, 0, 0, 0, []), 85), (85, (21, 65, 3, 0, []), 88), (88, (3, 1, 2, 0, []), 89), (89, (0, 0, 0, 93, []), 91), (91, (21, 55, 2, 0, []), 94), (94, (18, 0, 102, 0, []), 97), (97, (3, 0, 2, 0, []), 98), (98, (3, 1, 2, 0, []), 99), (99, (21, 67, 2, 0, []), 102), (102, (0, 0, 0, 0, []), 103), (103, (4, 5, 0, 0, []), 105), (105, (3, 5, 0, 0, []), 107), (107, (3, 3, 0, 0, []), 108), (108, (15, 3, 127, 0, []), 111), (111, (3, 0, 2, 0, []), 112), (112, (24, 0, 1, 640, []), 115), (115, (0, 0, 0, -273, []), 118), (118, (21, 9, 2, 0, []), 121), (121, (5, 5, 0, 1, []), 124), (124, (18, 0, 105, 0, []), 127), (127, (23, 0, 0, 0, []), 128)]
/-- WashingLines$RuleReader.readComparison(LWashingLines$Text;)V -/
def am_c67 : List (Nat × am_I × Nat) := [(0, (3, 0, 2, 0, []), 1), (1, (3, 1, 2, 0, []), 2), (2, (21, 62, 2, 0, []), 5), (5, (3, 1, 2, 0, []), 6), (6, (21, 32, 1, 0, []), 9), (9, (4, 2, 0, 0, []), 10), (10, (3, 2, 0, 0, []), 11), (11, (21, 68, 1, 1, []), 14), (14, (16, 1, 23, 0, []), 17), (17, (3, 1, 2, 0, []), 18), (18, (0, 0, 0, 0, []), 19), (19, (21, 34, 2, 0, []), 22), (22, (23, 0, 0, 0, []), 23), (23, (3, 0, 2, 0, []), 24), (24, (24, 0, 1, 641, []), 27), (27, (0, 0, 0, 60, []), 29), (29, (15, 2, 38, 0, []), 32), (32, (3, 1, 2, 0, []), 33), (33, (0, 0, 0, 3, []), 34), (34, (21, 34, 2, 0, []), 37), (37, (23, 0, 0, 0, []), 38), (38, (3, 0, 2, 0, []), 39), (39, (12, 0, 0, 0, []), 40), (40, (24, 0, 1, 641, []), 43), (43, (0, 0, 0, 1, []), 44), (44, (6, 0, 0, 0, []), 45), (45, (24, 1, 2, 641, []), 48), (48, (3, 1, 2, 0, []), 49), (49, (21, 36, 1, 0, []), 52), (52, (3, 0, 2, 0, []), 53), (53, (3, 1, 2, 0, []), 54), (54, (21, 62, 2, 0, []), 57), (57, (3, 0, 2, 0, []), 58), (58, (24, 0, 1, 640, []), 61), (61, (3, 2, 0, 0, []), 62), (62, (7, 0, 0, 0, []), 63), (63, (21, 9, 2, 0, []), 66), (66, (23, 0, 0, 0, []), 67)]
/-- WashingLines$RuleReader.isComparison(I)Z -/
def am_c68 : List (Nat × am_I × Nat) := [(0, (3, 0, 0, 0, []), 1), (1, (0, 0, 0, 60, []), 3), (3, (15, 0, 28, 0, []), 6), (6, (3, 0, 0, 0, []), 7), (7, (0, 0, 0, 3, []), 8), (8, (15, 0, 28, 0, []), 11), (11, (3, 0, 0, 0, []), 12), (12, (0, 0, 0, 61, []), 14), (14, (15, 0, 28, 0, []), 17), (17, (3, 0, 0, 0, []), 18), (18, (0, 0, 0, 4, []), 19), (19, (15, 0, 28, 0, []), 22), (22, (3, 0, 0, 0, []), 23), (23, (0, 0, 0, 62, []), 25), (25, (15, 1, 32, 0, []), 28), (28, (0, 0, 0, 1, []), 29), (29, (18, 0, 33, 0, []), 32), (32, (0, 0, 0, 0, []), 33), (33, (22, 1, 0, 0, []), 34)]
/-- WashingLines$Book.write(LWashingLines$Law;)I -/
def am_c69 : List (Nat × am_I × Nat) := [(0, (3, 0, 2, 0, []), 1), (1, (24, 0, 1, 898, []), 4), (4, (16, 2, 16, 0, []), 7), (7, (3, 0, 2, 0, []), 8), (8, (24, 0, 1, 898, []), 11), (11, (0, 0, 0, 6, []), 13), (13, (15, 2, 18, 0, []), 16), (16, (0, 0, 0, -1, []), 17), (17, (22, 0, 0, 0, []), 18), (18, (3, 0, 2, 0, []), 19), (19, (24, 0, 1, 896, []), 22), (22, (3, 0, 2, 0, []), 23), (23, (24, 0, 1, 898, []), 26), (26, (24, 2, 2, 4, []), 27), (27, (3, 1, 2, 0, []), 28), (28, (21, 70, 2, 0, []), 31), (31, (3, 0, 2, 0, []), 32), (32, (12, 0, 0, 0, []), 33), (33, (24, 0, 1, 898, []), 36), (36, (0, 0, 0, 1, []), 37), (37, (6, 0, 0, 0, []), 38), (38, (24, 1, 2, 898, []), 41), (41, (3, 0, 2, 0, []), 42), (42, (24, 0, 1, 898, []), 45), (45, (0, 0, 0, 1, []), 46), (46, (6, 1, 0, 0, []), 47), (47, (22, 0, 0, 0, []), 48)]
/-- WashingLines$Law.copyFrom(LWashingLines$Law;)V -/
def am_c70 : List (Nat × am_I × Nat) := [(0, (3, 0, 2, 0, []), 1), (1, (3, 1, 2, 0, []), 2), (2, (24, 0, 1, 769, []), 5), (5, (24, 1, 2, 769, []), 8), (8, (3, 1, 2, 0, []), 9), (9, (24, 0, 1, 768, []), 12), (12, (0, 0, 0, 0, []), 13), (13, (3, 0, 2, 0, []), 14), (14, (24, 0, 1, 768, []), 17), (17, (0, 0, 0, 0, []), 18), (18, (0, 0, 0, 400, []), 21), (21, (24, 10, 5, 0, []), 24), (24, (23, 0, 0, 0, []), 25)]
/-- WashingLines.force(I)I -/
def am_c71 : List (Nat × am_I × Nat) := [(0, (3, 1, 0, 0, []), 1), (1, (0, 0, 0, -1, []), 2), (2, (15, 0, 19, 0, []), 5), (5, (3, 0, 2, 0, []), 6), (6, (24, 0, 1, 3, []), 9), (9, (3, 1, 0, 0, []), 10), (10, (21, 72, 2, 0, []), 13), (13, (16, 1, 19, 0, []), 16), (16, (0, 0, 0, -2, []), 18), (18, (22, 0, 0, 0, []), 19), (19, (3, 0, 2, 0, []), 20), (20, (24, 0, 1, 4, []), 23), (23, (24, 0, 1, 1033, []), 26), (26, (4, 2, 0, 0, []), 27), (27, (3, 0, 2, 0, []), 28), (28, (24, 0, 1, 4, []), 31), (31, (3, 1, 0, 0, []), 32), (32, (24, 1, 2, 1033, []), 35), (35, (3, 2, 0, 0, []), 36), (36, (22, 0, 0, 0, []), 37)]
/-- WashingLines$Book.isRule(I)Z -/
def am_c72 : List (Nat × am_I × Nat) := [(0, (3, 1, 0, 0, []), 1), (1, (16, 2, 22, 0, []), 4), (4, (3, 1, 0, 0, []), 5), (5, (3, 0, 2, 0, []), 6), (6, (24, 0, 1, 898, []), 9), (9, (15, 3, 22, 0, []), 12), (12, (3, 1, 0, 0, []), 13), (13, (0, 0, 0, 6, []), 15), (15, (15, 3, 22, 0, []), 18), (18, (0, 0, 0, 1, []), 19), (19, (18, 0, 23, 0, []), 22), (22, (0, 0, 0, 0, []), 23), (23, (22, 1, 0, 0, []), 24)]
/-- WashingLines.family(II)I -/
def am_c73 : List (Nat × am_I × Nat) := [(0, (3, 0, 2, 0, []), 1), (1, (24, 0, 1, 4, []), 4), (4, (24, 0, 1, 1024, []), 7), (7, (3, 1, 0, 0, []), 8), (8, (21, 51, 2, 0, []), 11), (11, (16, 1, 16, 0, []), 14), (14, (0, 0, 0, -1, []), 15), (15, (22, 0, 0, 0, []), 16), (16, (3, 2, 0, 0, []), 17), (17, (19, 0, 92, 0, [(0, 48), (1, 61), (2, 74), (3, 80)]), 48), (48, (3, 0, 2, 0, []), 49), (49, (24, 0, 1, 4, []), 52), (52, (24, 0, 1, 1025, []), 55), (55, (24, 0, 1, 517, []), 58), (58, (3, 1, 0, 0, []), 59), (59, (24, 2, 2, 0, []), 60), (60, (22, 0, 0, 0, []), 61), (61, (3, 0, 2, 0, []), 62), (62, (24, 0, 1, 4, []), 65), (65, (24, 0, 1, 1025, []), 68), (68, (24, 0, 1, 518, []), 71), (71, (3, 1, 0, 0, []), 72), (72, (24, 2, 2, 0, []), 73), (73, (22, 0, 0, 0, []), 74), (74, (3, 0, 2, 0, []), 75), (75, (3, 1, 0, 0, []), 76), (76, (21, 74, 2, 0, []), 79), (79, (22, 0, 0, 0, []), 80), (80, (3, 0, 2, 0, []), 81), (81, (24, 0, 1, 4, []), 84), (84, (24, 0, 1, 1024, []), 87), (87, (3, 1, 0, 0, []), 88), (88, (21, 87, 2, 0, []), 91), (91, (22, 0, 0, 0, []), 92), (92, (0, 0, 0, -1, []), 93), (93, (22, 0, 0, 0, []), 94)]
/-- WashingLines.linesOf(I)I -/
def am_c74 : List (Nat × am_I × Nat) := [(0, (3, 0, 2, 0, []), 1), (1, (21, 75, 1, 0, []), 4), (4, (3, 0, 2, 0, []), 5), (5, (24, 0, 1, 6, []), 8), (8, (0, 0, 0, 0, []), 9), (9, (21, 78, 2, 0, []), 12), (12, (0, 0, 0, 0, []), 13), (13, (4, 2, 0, 0, []), 14), (14, (0, 0, 0, 0, []), 15), (15, (4, 3, 0, 0, []), 16), (16, (3, 3, 0, 0, []), 17), (17, (0, 0, 0, 6, []), 19), (19, (15, 3, 46, 0, []), 22), (22, (3, 0, 2, 0, []), 23), (23, (24, 0, 1, 6, []), 26), (26, (3, 3, 0, 0, []), 27), (27, (21, 81, 2, 0, []), 30), (30, (3, 1, 0, 0, []), 31), (31, (15, 1, 40, 0, []), 34), (34, (3, 2, 0, 0, []), 35), (35, (0, 0, 0, 1, []), 36), (36, (3, 3, 0, 0, []), 37), (37, (6, 6, 0, 0, []), 38), (38, (6, 4, 0, 0, []), 39), (39, (4, 2, 0, 0, []), 40), (40, (5, 3, 0, 1, []), 43), (43, (18, 0, 16, 0, []), 46), (46, (3, 2, 0, 0, []), 47), (47, (22, 0, 0, 0, []), 48)]
/-- WashingLines.startNow()V -/
def am_c75 : List (Nat × am_I × Nat) := [(0, (3, 0, 2, 0, []), 1), (1, (24, 0, 1, 6, []), 4), (4, (3, 0, 2, 0, []), 5), (5, (24, 0, 1, 4, []), 8), (8, (24, 0, 1, 1024, []), 11), (11, (3, 0, 2, 0, []), 12), (12, (24, 0, 1, 3, []), 15), (15, (3, 0, 2, 0, []), 16), (16, (24, 0, 1, 4, []), 19), (19, (24, 0, 1, 1033, []), 22), (22, (21, 76, 2, 0, []), 25), (25, (3, 0, 2, 0, []), 26), (26, (24, 0, 1, 4, []), 29), (29, (24, 0, 1, 1025, []), 32), (32, (21, 77, 4, 0, []), 35), (35, (23, 0, 0, 0, []), 36)]
/-- WashingLines$Book.lawOf(I)LWashingLines$Law; -/
def am_c76 : List (Nat × am_I × Nat) := [(0, (3, 0, 2, 0, []), 1), (1, (3, 1, 0, 0, []), 2), (2, (21, 72, 2, 0, []), 5), (5, (16, 0, 17, 0, []), 8), (8, (3, 0, 2, 0, []), 9), (9, (24, 0, 1, 896, []), 12), (12, (3, 1, 0, 0, []), 13), (13, (24, 2, 2, 4, []), 14), (14, (18, 0, 21, 0, []), 17), (17, (3, 0, 2, 0, []), 18), (18, (24, 0, 1, 897, []), 21), (21, (22, 3, 0, 0, []), 22)]
/-- WashingLines$Hours.start(LWashingLines$Court;LWashingLines$Law;LWashingLines$Yard;)V -/
def am_c77 : List (Nat × am_I × Nat) := [(0, (3, 0, 2, 0, []), 1), (1, (3, 1, 2, 0, []), 2), (2, (24, 1, 2, 1153, []), 5), (5, (3, 0, 2, 0, []), 6), (6, (3, 2, 2, 0, []), 7), (7, (24, 1, 2, 1154, []), 10), (10, (3, 0, 2, 0, []), 11), (11, (24, 0, 1, 1152, []), 14), (14, (3, 3, 2, 0, []), 15), (15, (21, 58, 2, 0, []), 18), (18, (23, 0, 0, 0, []), 19)]
/-- WashingLines$Hours.measure(Z)V -/
def am_c78 : List (Nat × am_I × Nat) := [(0, (3, 0, 2, 0, []), 1), (1, (3, 1, 0, 0, []), 2), (2, (16, 1, 22, 0, []), 5), (5, (3, 0, 2, 0, []), 6), (6, (24, 0, 1, 1153, []), 9), (9, (3, 0, 2, 0, []), 10), (10, (24, 0, 1, 1152, []), 13), (13, (24, 0, 1, 512, []), 16), (16, (21, 79, 2, 0, []), 19), (19, (16, 0, 26, 0, []), 22), (22, (0, 0, 0, 1, []), 23), (23, (18, 0, 27, 0, []), 26), (26, (0, 0, 0, 0, []), 27), (27, (24, 1, 2, 1155, []), 30), (30, (0, 0, 0, 0, []), 31), (31, (4, 2, 0, 0, []), 32), (32, (3, 2, 0, 0, []), 33), (33, (0, 0, 0, 24, []), 35), (35, (15, 3, 72, 0, []), 38), (38, (3, 0, 2, 0, []), 39), (39, (24, 0, 1, 1156, []), 42), (42, (3, 2, 0, 0, []), 43), (43, (0, 0, 0, 0, []), 44), (44, (24, 3, 3, 0, []), 45), (45, (3, 0, 2, 0, []), 46), (46, (24, 0, 1, 1157, []), 49), (49, (3, 2, 0, 0, []), 50), (50, (0, 0, 0, 0, []), 51), (51, (24, 3, 3, 0, []), 52), (52, (3, 0, 2, 0, []), 53), (53, (24, 0, 1, 1158, []), 56), (56, (3, 2, 0, 0, []), 57), (57, (0, 0, 0, 0, []), 58), (58, (24, 3, 3, 0, []), 59), (59, (3, 0, 2, 0, []), 60), (60, (24, 0, 1, 1159, []), 63), (63, (3, 2, 0, 0, []), 64), (64, (0, 0, 0, 0, []), 65), (65, (24, 3, 3, 0, []), 66), (66, (5, 2, 0, 1, []), 69), (69, (18, 0, 32, 0, []), 72), (72, (0, 0, 0, 0, []), 73), (73, (4, 2, 0, 0, []), 74), (74, (3, 2, 0, 0, []), 75), (75, (0, 0, 0, 6, []), 77), (77, (15, 3, 93, 0, []), 80), (80, (3, 0, 2, 0, []), 81), (81, (24, 0, 1, 1160, []), 84), (84, (3, 2, 0, 0, []), 85), (85, (0, 0, 0, 0, []), 86), (86, (24, 3, 3, 0, []), 87), (87, (5, 2, 0, 1, []), 90), (90, (18, 0, 74, 0, []), 93), (93, (0, 0, 0, 0, []), 94), (94, (4, 2, 0, 0, []), 95), (95, (3, 2, 0, 0, []), 96), (96, (0, 0, 0, 10, []), 98), (98, (15, 3, 198, 0, []), 101), (101, (3, 0, 2, 0, []), 102), (102, (24, 0, 1, 1152, []), 105), (105, (24, 0, 1, 515, []), 108), (108, (3, 2, 0, 0, []), 109), (109, (24, 2, 2, 0, []), 110), (110, (4, 3, 0, 0, []), 111), (111, (3, 0, 2, 0, []), 112), (112, (24, 0, 1, 1153, []), 115), (115, (24, 0, 1, 395, []), 118), (118, (3, 2, 0, 0, []), 119), (119, (24, 2, 2, 0, []), 120), (120, (4, 4, 0, 0, []), 122), (122, (3, 0, 2, 0, []), 123), (123, (24, 0, 1, 1153, []), 126), (126, (3, 3, 0, 0, []), 127), (127, (21, 50, 2, 0, []), 130), (130, (16, 0, 192, 0, []), 133), (133, (3, 0, 2, 0, []), 134), (134, (24, 0, 1, 1153, []), 137), (137, (3, 4, 0, 0, []), 139), (139, (21, 51, 2, 0, []), 142), (142, (16, 0, 192, 0, []), 145), (145, (3, 0, 2, 0, []), 146), (146, (3, 4, 0, 0, []), 148), (148, (0, 0, 0, 6, []), 150), (150, (6, 2, 0, 0, []), 151), (151, (3, 3, 0, 0, []), 152), (152, (6, 0, 0, 0, []), 153), (153, (3, 0, 2, 0, []), 154), (154, (24, 0, 1, 1153, []), 157), (157, (24, 0, 1, 396, []), 160), (160, (3, 2, 0, 0, []), 161), (161, (24, 2, 2, 0, []), 162), (162, (3, 0, 2, 0, []), 163), (163, (24, 0, 1, 1152, []), 166), (166, (24, 0, 1, 516, []), 169), (169, (3, 2, 0, 0, []), 170), (170, (24, 2, 2, 0, []), 171), (171, (21, 80, 4, 0, []), 174), (174, (3, 0, 2, 0, []), 175), (175, (24, 0, 1, 1160, []), 178), (178, (3, 3, 0, 0, []), 179), (179, (13, 0, 0, 0, []), 180), (180, (24, 2, 2, 0, []), 181), (181, (3, 0, 2, 0, []), 182), (182, (24, 0, 1, 1153, []), 185), (185, (24, 0, 1, 396, []), 188), (188, (3, 2, 0, 0, []), 189), (189, (24, 2, 2, 0, []), 190), (190, (6, 0, 0, 0, []), 191), (191, (24, 3, 3, 0, []), 192), (192, (5, 2, 0, 1, []), 195), (195, (18, 0, 95, 0, []), 198), (198, (23, 0, 0, 0, []), 199)]
/-- WashingLines$Court.isRainAt(I)Z -/
def am_c79 : List (Nat × am_I × Nat) := [(0, (0, 0, 0, 0, []), 1), (1, (4, 2, 0, 0, []), 2), (2, (3, 2, 0, 0, []), 3), (3, (0, 0, 0, 3, []), 4), (4, (15, 3, 43, 0, []), 7), (7, (3, 2, 0, 0, []), 8), (8, (3, 0, 2, 0, []), 9), (9, (24, 0, 1, 390, []), 12), (12, (15, 3, 37, 0, []), 15), (15, (3, 1, 0, 0, []), 16), (16, (3, 0, 2, 0, []), 17), (17, (24, 0, 1, 398, []), 20), (20, (3, 2, 0, 0, []), 21), (21, (24, 2, 2, 0, []), 22), (22, (15, 2, 37, 0, []), 25), (25, (3, 1, 0, 0, []), 26), (26, (3, 0, 2, 0, []), 27), (27, (24, 0, 1, 399, []), 30), (30, (3, 2, 0, 0, []), 31), (31, (24, 2, 2, 0, []), 32), (32, (15, 4, 37, 0, []), 35), (35, (0, 0, 0, 1, []), 36), (36, (22, 1, 0, 0, []), 37), (37, (5, 2, 0, 1, []), 40), (40, (18, 0, 2, 0, []), 43), (43, (0, 0, 0, 0, []), 44), (44, (22, 1, 0, 0, []), 45)]
/-- WashingLines$Hours.measureLinen(III)V -/
def am_c80 : List (Nat × am_I × Nat) := [(0, (3, 1, 0, 0, []), 1), (1, (16, 2, 64, 0, []), 4), (4, (3, 1, 0, 0, []), 5), (5, (0, 0, 0, 24, []), 7), (7, (15, 3, 64, 0, []), 10), (10, (3, 0, 2, 0, []), 11), (11, (24, 0, 1, 1156, []), 14), (14, (3, 1, 0, 0, []), 15), (15, (13, 0, 0, 0, []), 16), (16, (24, 2, 2, 0, []), 17), (17, (3, 2, 0, 0, []), 18), (18, (6, 0, 0, 0, []), 19), (19, (24, 3, 3, 0, []), 20), (20, (3, 0, 2, 0, []), 21), (21, (24, 0, 1, 1157, []), 24), (24, (3, 1, 0, 0, []), 25), (25, (13, 0, 0, 0, []), 26), (26, (24, 2, 2, 0, []), 27), (27, (3, 3, 0, 0, []), 28), (28, (16, 5, 35, 0, []), 31), (31, (3, 2, 0, 0, []), 32), (32, (18, 0, 36, 0, []), 35), (35, (0, 0, 0, 0, []), 36), (36, (6, 0, 0, 0, []), 37), (37, (24, 3, 3, 0, []), 38), (38, (3, 0, 2, 0, []), 39), (39, (24, 0, 1, 1158, []), 42), (42, (3, 1, 0, 0, []), 43), (43, (3, 0, 2, 0, []), 44), (44, (24, 0, 1, 1158, []), 47), (47, (3, 1, 0, 0, []), 48), (48, (24, 2, 2, 0, []), 49), (49, (3, 3, 0, 0, []), 50), (50, (24, 15, 2, 0, []), 53), (53, (24, 3, 3, 0, []), 54), (54, (3, 0, 2, 0, []), 55), (55, (24, 0, 1, 1159, []), 58), (58, (3, 1, 0, 0, []), 59), (59, (13, 0, 0, 0, []), 60), (60, (24, 2, 2, 0, []), 61), (61, (3, 3, 0, 0, []), 62), (62, (6, 0, 0, 0, []), 63), (63, (24, 3, 3, 0, []), 64), (64, (23, 0, 0, 0, []), 65)]
/-- WashingLines$Hours.ownerOf(I)I -/
def am_c81 : List (Nat × am_I × Nat) := [(0, (3, 0, 2, 0, []), 1), (1, (24, 0, 1, 1153, []), 4), (4, (3, 1, 0, 0, []), 5), (5, (21, 50, 2, 0, []), 8), (8, (16, 0, 23, 0, []), 11), (11, (3, 0, 2, 0, []), 12), (12, (24, 0, 1, 1152, []), 15), (15, (24, 0, 1, 514, []), 18), (18, (3, 1, 0, 0, []), 19), (19, (24, 2, 2, 0, []), 20), (20, (16, 0, 25, 0, []), 23), (23, (0, 0, 0, -1, []), 24), (24, (22, 0, 0, 0, []), 25), (25, (0, 0, 0, -1, []), 26), (26, (4, 2, 0, 0, []), 27), (27, (1, 0, 0, 0, []), 28), (28, (4, 3, 1, 0, []), 29), (29, (0, 0, 0, 0, []), 30), (30, (4, 5, 0, 0, []), 32), (32, (3, 5, 0, 0, []), 34), (34, (3, 0, 2, 0, []), 35), (35, (24, 0, 1, 1153, []), 38), (38, (24, 0, 1, 387, []), 41), (41, (15, 3, 88, 0, []), 44), (44, (3, 0, 2, 0, []), 45), (45, (24, 0, 1, 1154, []), 48), (48, (3, 0, 2, 0, []), 49), (49, (3, 5, 0, 0, []), 51), (51, (3, 1, 0, 0, []), 52), (52, (21, 82, 4, 0, []), 55), (55, (4, 6, 1, 0, []), 57), (57, (3, 6, 1, 0, []), 59), (59, (3, 3, 1, 0, []), 60), (60, (11, 0, 0, 0, []), 61), (61, (16, 5, 73, 0, []), 64), (64, (3, 6, 1, 0, []), 66), (66, (4, 3, 1, 0, []), 67), (67, (3, 5, 0, 0, []), 69), (69, (4, 2, 0, 0, []), 70), (70, (18, 0, 82, 0, []), 73), (73, (3, 6, 1, 0, []), 75), (75, (3, 3, 1, 0, []), 76), (76, (11, 0, 0, 0, []), 77), (77, (16, 1, 82, 0, []), 80), (80, (0, 0, 0, -1, []), 81), (81, (4, 2, 0, 0, []), 82), (82, (5, 5, 0, 1, []), 85), (85, (18, 0, 32, 0, []), 88), (88, (3, 2, 0, 0, []), 89), (89, (22, 0, 0, 0, []), 90)]
/-- WashingLines$Law.sumFor(LWashingLines$Hours;II)J -/
def am_c82 : List (Nat × am_I × Nat) := [(0, (3, 0, 2, 0, []), 1), (1, (0, 0, 0, 0, []), 2), (2, (24, 1, 2, 771, []), 5), (5, (0, 0, 0, 0, []), 6), (6, (4, 4, 0, 0, []), 8), (8, (3, 4, 0, 0, []), 10), (10, (3, 0, 2, 0, []), 11), (11, (24, 0, 1, 769, []), 14), (14, (15, 3, 220, 0, []), 17), (17, (3, 4, 0, 0, []), 19), (19, (3, 0, 2, 0, []), 20), (20, (24, 0, 1, 768, []), 23), (23, (24, 4, 1, 0, []), 24), (24, (15, 3, 220, 0, []), 27), (27, (3, 0, 2, 0, []), 28), (28, (24, 0, 1, 768, []), 31), (31, (3, 4, 0, 0, []), 33), (33, (24, 2, 2, 0, []), 34), (34, (4, 5, 0, 0, []), 36), (36, (3, 5, 0, 0, []), 38), (38, (16, 2, 51, 0, []), 41), (41, (3, 0, 2, 0, []), 42), (42, (3, 5, 0, 0, []), 44), (44, (8, 0, 0, 0, []), 45), (45, (21, 83, 2, 0, []), 48), (48, (18, 0, 214, 0, []), 51), (51, (3, 5, 0, 0, []), 53), (53, (0, 0, 0, -268, []), 56), (56, (15, 2, 83, 0, []), 59), (59, (3, 5, 0, 0, []), 61), (61, (0, 0, 0, -256, []), 64), (64, (15, 4, 83, 0, []), 67), (67, (3, 0, 2, 0, []), 68), (68, (3, 1, 2, 0, []), 69), (69, (3, 5, 0, 0, []), 71), (71, (7, 0, 0, 0, []), 72), (72, (3, 2, 0, 0, []), 73), (73, (3, 3, 0, 0, []), 74), (74, (21, 84, 4, 0, []), 77), (77, (21, 83, 2, 0, []), 80), (80, (18, 0, 214, 0, []), 83), (83, (3, 5, 0, 0, []), 85), (85, (0, 0, 0, -273, []), 88), (88, (15, 1, 98, 0, []), 91), (91, (3, 0, 2, 0, []), 92), (92, (21, 85, 1, 0, []), 95), (95, (18, 0, 214, 0, []), 98), (98, (3, 5, 0, 0, []), 100), (100, (0, 0, 0, -59, []), 102), (102, (15, 0, 124, 0, []), 105), (105, (3, 5, 0, 0, []), 107), (107, (0, 0, 0, -270, []), 110), (110, (15, 1, 131, 0, []), 113), (113, (3, 0, 2, 0, []), 114), (114, (24, 0, 1, 770, []), 117), (117, (0, 0, 0, 1, []), 118), (118, (24, 2, 2, 3, []), 119), (119, (1, 0, 0, 0, []), 120), (120, (11, 0, 0, 0, []), 121), (121, (16, 0, 131, 0, []), 124), (124, (3, 0, 2, 0, []), 125), (125, (24, 0, 1, 770, []), 128), (128, (0, 0, 0, 0, []), 129), (129, (24, 2, 2, 3, []), 130), (130, (22, 2, 0, 0, []), 131), (131, (3, 5, 0, 0, []), 133), (133, (0, 0, 0, -270, []), 136), (136, (15, 1, 147, 0, []), 139), (139, (3, 0, 2, 0, []), 140), (140, (0, 0, 0, 0, []), 141), (141, (24, 1, 2, 771, []), 144), (144, (18, 0, 214, 0, []), 147), (147, (3, 0, 2, 0, []), 148), (148, (24, 0, 1, 771, []), 151), (151, (0, 0, 0, 2, []), 152), (152, (15, 2, 214, 0, []), 155), (155, (3, 0, 2, 0, []), 156), (156, (24, 0, 1, 771, []), 159), (159, (3, 0, 2, 0, []), 160), (160, (24, 0, 1, 770, []), 163), (163, (24, 4, 1, 0, []), 164), (164, (15, 4, 214, 0, []), 167), (167, (3, 0, 2, 0, []), 168), (168, (12, 0, 0, 0, []), 169), (169, (24, 0, 1, 771, []), 172), (172, (0, 0, 0, 1, []), 173), (173, (6, 1, 0, 0, []), 174), (174, (24, 1, 2, 771, []), 177), (177, (3, 0, 2, 0, []), 178), (178, (24, 0, 1, 770, []), 181), (181, (3, 0, 2, 0, []), 182), (182, (24, 0, 1, 771, []), 185), (185, (0, 0, 0, 1, []), 186), (186, (6, 1, 0, 0, []), 187), (187, (3, 5, 0, 0, []), 189), (189, (7, 0, 0, 0, []), 190), (190, (3, 0, 2, 0, []), 191), (191, (24, 0, 1, 770, []), 194), (194, (3, 0, 2, 0, []), 195), (195, (24, 0, 1, 771, []), 198), (198, (0, 0, 0, 1, []), 199), (199, (6, 1, 0, 0, []), 200), (200, (24, 2, 2, 3, []), 201), (201, (3, 0, 2, 0, []), 202), (202, (24, 0, 1, 770, []), 205), (205, (3, 0, 2, 0, []), 206), (206, (24, 0, 1, 771, []), 209), (209, (24, 2, 2, 3, []), 210), (210, (21, 86, 3, 1, []), 213), (213, (24, 3, 3, 3, []), 214), (214, (5, 4, 0, 1, []), 217), (217, (18, 0, 8, 0, []), 220), (220, (1, 0, 0, 0, []), 221), (221, (22, 2, 0, 0, []), 222)]
/-- WashingLines$Law.push(J)V -/
def am_c83 : List (Nat × am_I × Nat) := [(0, (3, 0, 2, 0, []), 1), (1, (24, 0, 1, 771, []), 4), (4, (16, 2, 39, 0, []), 7), (7, (3, 0, 2, 0, []), 8), (8, (24, 0, 1, 771, []), 11), (11, (3, 0, 2, 0, []), 12), (12, (24, 0, 1, 770, []), 15), (15, (24, 4, 1, 0, []), 16), (16, (15, 3, 39, 0, []), 19), (19, (3, 0, 2, 0, []), 20), (20, (24, 0, 1, 770, []), 23), (23, (3, 0, 2, 0, []), 24), (24, (24, 0, 1, 771, []), 27), (27, (3, 1, 1, 0, []), 28), (28, (24, 3, 3, 3, []), 29), (29, (3, 0, 2, 0, []), 30), (30, (12, 0, 0, 0, []), 31), (31, (24, 0, 1, 771, []), 34), (34, (0, 0, 0, 1, []), 35), (35, (6, 0, 0, 0, []), 36), (36, (24, 1, 2, 771, []), 39), (39, (23, 0, 0, 0, []), 40)]
/-- WashingLines$Hours.valueOf(III)J -/
def am_c84 : List (Nat × am_I × Nat) := [(0, (3, 2, 0, 0, []), 1), (1, (16, 2, 19, 0, []), 4), (4, (3, 2, 0, 0, []), 5), (5, (0, 0, 0, 4, []), 6), (6, (15, 3, 19, 0, []), 9), (9, (3, 3, 0, 0, []), 10), (10, (16, 2, 19, 0, []), 13), (13, (3, 3, 0, 0, []), 14), (14, (0, 0, 0, 6, []), 16), (16, (15, 2, 21, 0, []), 19), (19, (1, 0, 0, 0, []), 20), (20, (22, 2, 0, 0, []), 21), (21, (3, 2, 0, 0, []), 22), (22, (0, 0, 0, 6, []), 24), (24, (6, 2, 0, 0, []), 25), (25, (3, 3, 0, 0, []), 26), (26, (6, 0, 0, 0, []), 27), (27, (4, 4, 0, 0, []), 29), (29, (3, 1, 0, 0, []), 30), (30, (19, 0, 228, 0, [(256, 96), (257, 99), (258, 102), (259, 113), (260, 122), (261, 131), (262, 140), (263, 149), (264, 165), (265, 184), (266, 195), (267, 206), (268, 215)]), 96), (96, (3, 2, 0, 0, []), 97), (97, (8, 0, 0, 0, []), 98), (98, (22, 2, 0, 0, []), 99), (99, (3, 3, 0, 0, []), 100), (100, (8, 0, 0, 0, []), 101), (101, (22, 2, 0, 0, []), 102), (102, (3, 0, 2, 0, []), 103), (103, (24, 0, 1, 1153, []), 106), (106, (24, 0, 1, 393, []), 109), (109, (3, 3, 0, 0, []), 110), (110, (24, 2, 2, 0, []), 111), (111, (8, 0, 0, 0, []), 112), (112, (22, 2, 0, 0, []), 113), (113, (3, 0, 2, 0, []), 114), (114, (24, 0, 1, 1156, []), 117), (117, (3, 4, 0, 0, []), 119), (119, (24, 2, 2, 0, []), 120), (120, (8, 0, 0, 0, []), 121), (121, (22, 2, 0, 0, []), 122), (122, (3, 0, 2, 0, []), 123), (123, (24, 0, 1, 1157, []), 126), (126, (3, 4, 0, 0, []), 128), (128, (24, 2, 2, 0, []), 129), (129, (8, 0, 0, 0, []), 130), (130, (22, 2, 0, 0, []), 131), (131, (3, 0, 2, 0, []), 132), (132, (24, 0, 1, 1158, []), 135), (135, (3, 4, 0, 0, []), 137), (137, (24, 2, 2, 0, []), 138), (138, (8, 0, 0, 0, []), 139), (139, (22, 2, 0, 0, []), 140), (140, (3, 0, 2, 0, []), 141), (141, (24, 0, 1, 1159, []), 144), (144, (3, 4, 0, 0, []), 146), (146, (24, 2, 2, 0, []), 147), (147, (8, 0, 0, 0, []), 148), (148, (22, 2, 0, 0, []), 149), (149, (3, 0, 2, 0, []), 150), (150, (24, 0, 1, 1160, []), 153), (153, (3, 3, 0, 0, []), 154), (154, (24, 2, 2, 0, []), 155), (155, (3, 0, 2, 0, []), 156), (156, (24, 0, 1, 1156, []), 159), (159, (3, 4, 0, 0, []), 161), (161, (24, 2, 2, 0, []), 162), (162, (6, 1, 0, 0, []), 163), (163, (8, 0, 0, 0, []), 164), (164, (22, 2, 0, 0, []), 165), (165, (3, 0, 2, 0, []), 166), (166, (24, 0, 1, 1152, []), 169), (169, (24, 0, 1, 513, []), 172), (172, (3, 3, 0, 0, []), 173), (173, (24, 2, 2, 0, []), 174), (174, (3, 2, 0, 0, []), 175), (175, (15, 1, 182, 0, []), 178), (178, (1, 0, 0, 1, []), 179), (179, (18, 0, 183, 0, []), 182), (182, (1, 0, 0, 0, []), 183), (183, (22, 2, 0, 0, []), 184), (184, (3, 0, 2, 0, []), 185), (185, (24, 0, 1, 1152, []), 188), (188, (24, 0, 1, 517, []), 191), (191, (3, 2, 0, 0, []), 192), (192, (24, 2, 2, 0, []), 193), (193, (8, 0, 0, 0, []), 194), (194, (22, 2, 0, 0, []), 195), (195, (3, 0, 2, 0, []), 196), (196, (24, 0, 1, 1152, []), 199), (199, (24, 0, 1, 518, []), 202), (202, (3, 2, 0, 0, []), 203), (203, (24, 2, 2, 0, []), 204), (204, (8, 0, 0, 0, []), 205), (205, (22, 2, 0, 0, []), 206), (206, (3, 0, 2, 0, []), 207), (207, (24, 0, 1, 1152, []), 210), (210, (24, 0, 1, 512, []), 213), (213, (8, 0, 0, 0, []), 214), (214, (22, 2, 0, 0, []), 215), (215, (3, 0, 2, 0, []), 216), (216, (24, 0, 1, 1155, []), 219), (219, (16, 0, 226, 0, []), 222), (222, (1, 0, 0, 1, []), 223), (223, (18, 0, 227, 0, []), 226), (226, (1, 0, 0, 0, []), 227), (227, (22, 2, 0, 0, []), 228), (228, (1, 0, 0, 0, []), 229), (229, (22, 2, 0, 0, []), 230)]
/-- WashingLines$Law.turnTop()V -/
def am_c85 : List (Nat × am_I × Nat) := [(0, (3, 0, 2, 0, []), 1), (1, (24, 0, 1, 771, []), 4), (4, (0, 0, 0, 1, []), 5), (5, (15, 2, 52, 0, []), 8), (8, (3, 0, 2, 0, []), 9), (9, (24, 0, 1, 771, []), 12), (12, (3, 0, 2, 0, []), 13), (13, (24, 0, 1, 770, []), 16), (16, (24, 4, 1, 0, []), 17), (17, (15, 4, 52, 0, []), 20), (20, (3, 0, 2, 0, []), 21), (21, (24, 0, 1, 770, []), 24), (24, (3, 0, 2, 0, []), 25), (25, (24, 0, 1, 771, []), 28), (28, (0, 0, 0, 1, []), 29), (29, (6, 1, 0, 0, []), 30), (30, (3, 0, 2, 0, []), 31), (31, (24, 0, 1, 770, []), 34), (34, (3, 0, 2, 0, []), 35), (35, (24, 0, 1, 771, []), 38), (38, (0, 0, 0, 1, []), 39), (39, (6, 1, 0, 0, []), 40), (40, (24, 2, 2, 3, []), 41), (41, (1, 0, 0, 0, []), 42), (42, (11, 0, 0, 0, []), 43), (43, (16, 1, 50, 0, []), 46), (46, (1, 0, 0, 1, []), 47), (47, (18, 0, 51, 0, []), 50), (50, (1, 0, 0, 0, []), 51), (51, (24, 3, 3, 3, []), 52), (52, (23, 0, 0, 0, []), 53)]
/-- WashingLines$Law.joined(IJJ)J -/
def am_c86 : List (Nat × am_I × Nat) := [(0, (3, 0, 0, 0, []), 1), (1, (19, 0, 204, 0, [(3, 152), (4, 176), (37, 126), (42, 108), (43, 100), (45, 104), (47, 112), (60, 140), (61, 164), (62, 188), (271, 200)]), 100), (100, (3, 1, 1, 0, []), 101), (101, (3, 3, 1, 0, []), 102), (102, (10, 0, 0, 0, []), 103), (103, (22, 2, 0, 0, []), 104), (104, (3, 1, 1, 0, []), 105), (105, (3, 3, 1, 0, []), 106), (106, (10, 1, 0, 0, []), 107), (107, (22, 2, 0, 0, []), 108), (108, (3, 1, 1, 0, []), 109), (109, (3, 3, 1, 0, []), 110), (110, (10, 2, 0, 0, []), 111), (111, (22, 2, 0, 0, []), 112), (112, (3, 3, 1, 0, []), 113), (113, (1, 0, 0, 0, []), 114), (114, (11, 0, 0, 0, []), 115), (115, (16, 1, 122, 0, []), 118), (118, (1, 0, 0, 0, []), 119), (119, (18, 0, 125, 0, []), 122), (122, (3, 1, 1, 0, []), 123), (123, (3, 3, 1, 0, []), 124), (124, (10, 5, 0, 0, []), 125), (125, (22, 2, 0, 0, []), 126), (126, (3, 3, 1, 0, []), 127), (127, (1, 0, 0, 0, []), 128), (128, (11, 0, 0, 0, []), 129), (129, (16, 1, 136, 0, []), 132), (132, (1, 0, 0, 0, []), 133), (133, (18, 0, 139, 0, []), 136), (136, (3, 1, 1, 0, []), 137), (137, (3, 3, 1, 0, []), 138), (138, (10, 6, 0, 0, []), 139), (139, (22, 2, 0, 0, []), 140), (140, (3, 1, 1, 0, []), 141), (141, (3, 3, 1, 0, []), 142), (142, (11, 0, 0, 0, []), 143), (143, (16, 3, 150, 0, []), 146), (146, (1, 0, 0, 1, []), 147), (147, (18, 0, 151, 0, []), 150), (150, (1, 0, 0, 0, []), 151), (151, (22, 2, 0, 0, []), 152), (152, (3, 1, 1, 0, []), 153), (153, (3, 3, 1, 0, []), 154), (154, (11, 0, 0, 0, []), 155), (155, (16, 4, 162, 0, []), 158), (158, (1, 0, 0, 1, []), 159), (159, (18, 0, 163, 0, []), 162), (162, (1, 0, 0, 0, []), 163), (163, (22, 2, 0, 0, []), 164), (164, (3, 1, 1, 0, []), 165), (165, (3, 3, 1, 0, []), 166), (166, (11, 0, 0, 0, []), 167), (167, (16, 1, 174, 0, []), 170), (170, (1, 0, 0, 1, []), 171), (171, (18, 0, 175, 0, []), 174), (174, (1, 0, 0, 0, []), 175), (175, (22, 2, 0, 0, []), 176), (176, (3, 1, 1, 0, []), 177), (177, (3, 3, 1, 0, []), 178), (178, (11, 0, 0, 0, []), 179), (179, (16, 2, 186, 0, []), 182), (182, (1, 0, 0, 1, []), 183), (183, (18, 0, 187, 0, []), 186), (186, (1, 0, 0, 0, []), 187), (187, (22, 2, 0, 0, []), 188), (188, (3, 1, 1, 0, []), 189), (189, (3, 3, 1, 0, []), 190), (190, (11, 0, 0, 0, []), 191), (191, (16, 5, 198, 0, []), 194), (194, (1, 0, 0, 1, []), 195), (195, (18, 0, 199, 0, []), 198), (198, (1, 0, 0, 0, []), 199), (199, (22, 2, 0, 0, []), 200), (200, (3, 1, 1, 0, []), 201), (201, (3, 3, 1, 0, []), 202), (202, (10, 3, 0, 0, []), 203), (203, (22, 2, 0, 0, []), 204), (204, (3, 1, 1, 0, []), 205), (205, (3, 3, 1, 0, []), 206), (206, (10, 4, 0, 0, []), 207), (207, (22, 2, 0, 0, []), 208)]
/-- WashingLines$Court.linenOf(I)I -/
def am_c87 : List (Nat × am_I × Nat) := [(0, (0, 0, 0, 0, []), 1), (1, (4, 2, 0, 0, []), 2), (2, (0, 0, 0, 0, []), 3), (3, (4, 3, 0, 0, []), 4), (4, (3, 3, 0, 0, []), 5), (5, (0, 0, 0, 10, []), 7), (7, (15, 3, 40, 0, []), 10), (10, (3, 3, 0, 0, []), 11), (11, (3, 0, 2, 0, []), 12), (12, (24, 0, 1, 389, []), 15), (15, (15, 3, 34, 0, []), 18), (18, (3, 0, 2, 0, []), 19), (19, (24, 0, 1, 395, []), 22), (22, (3, 3, 0, 0, []), 23), (23, (24, 2, 2, 0, []), 24), (24, (3, 1, 0, 0, []), 25), (25, (15, 1, 34, 0, []), 28), (28, (3, 2, 0, 0, []), 29), (29, (0, 0, 0, 1, []), 30), (30, (3, 3, 0, 0, []), 31), (31, (6, 6, 0, 0, []), 32), (32, (6, 4, 0, 0, []), 33), (33, (4, 2, 0, 0, []), 34), (34, (5, 3, 0, 1, []), 37), (37, (18, 0, 4, 0, []), 40), (40, (3, 2, 0, 0, []), 41), (41, (22, 0, 0, 0, []), 42)]
/-- WashingLines.line(II)I -/
def am_c88 : List (Nat × am_I × Nat) := [(0, (3, 0, 2, 0, []), 1), (1, (24, 0, 1, 4, []), 4), (4, (24, 0, 1, 1024, []), 7), (7, (4, 3, 2, 0, []), 8), (8, (3, 0, 2, 0, []), 9), (9, (24, 0, 1, 4, []), 12), (12, (24, 0, 1, 1025, []), 15), (15, (4, 4, 2, 0, []), 17), (17, (3, 3, 2, 0, []), 18), (18, (3, 1, 0, 0, []), 19), (19, (21, 50, 2, 0, []), 22), (22, (16, 1, 28, 0, []), 25), (25, (0, 0, 0, -2, []), 27), (27, (22, 0, 0, 0, []), 28), (28, (3, 2, 0, 0, []), 29), (29, (19, 0, 145, 0, [(0, 80), (1, 87), (2, 94), (3, 101), (4, 108), (5, 116), (6, 123), (7, 129), (8, 137)]), 80), (80, (3, 3, 2, 0, []), 81), (81, (24, 0, 1, 391, []), 84), (84, (3, 1, 0, 0, []), 85), (85, (24, 2, 2, 0, []), 86), (86, (22, 0, 0, 0, []), 87), (87, (3, 3, 2, 0, []), 88), (88, (24, 0, 1, 392, []), 91), (91, (3, 1, 0, 0, []), 92), (92, (24, 2, 2, 0, []), 93), (93, (22, 0, 0, 0, []), 94), (94, (3, 3, 2, 0, []), 95), (95, (24, 0, 1, 393, []), 98), (98, (3, 1, 0, 0, []), 99), (99, (24, 2, 2, 0, []), 100), (100, (22, 0, 0, 0, []), 101), (101, (3, 3, 2, 0, []), 102), (102, (24, 0, 1, 394, []), 105), (105, (3, 1, 0, 0, []), 106), (106, (24, 2, 2, 0, []), 107), (107, (22, 0, 0, 0, []), 108), (108, (3, 4, 2, 0, []), 110), (110, (3, 3, 2, 0, []), 111), (111, (3, 1, 0, 0, []), 112), (112, (21, 52, 3, 0, []), 115), (115, (22, 0, 0, 0, []), 116), (116, (3, 4, 2, 0, []), 118), (118, (3, 1, 0, 0, []), 119), (119, (21, 89, 2, 0, []), 122), (122, (22, 0, 0, 0, []), 123), (123, (3, 0, 2, 0, []), 124), (124, (3, 1, 0, 0, []), 125), (125, (21, 90, 2, 0, []), 128), (128, (22, 0, 0, 0, []), 129), (129, (3, 4, 2, 0, []), 131), (131, (24, 0, 1, 513, []), 134), (134, (3, 1, 0, 0, []), 135), (135, (24, 2, 2, 0, []), 136), (136, (22, 0, 0, 0, []), 137), (137, (3, 4, 2, 0, []), 139), (139, (24, 0, 1, 514, []), 142), (142, (3, 1, 0, 0, []), 143), (143, (24, 2, 2, 0, []), 144), (144, (22, 0, 0, 0, []), 145), (145, (0, 0, 0, -2, []), 147), (147, (22, 0, 0, 0, []), 148)]
/-- WashingLines$Yard.linenOn(I)I -/
def am_c89 : List (Nat × am_I × Nat) := [(0, (0, 0, 0, 0, []), 1), (1, (4, 2, 0, 0, []), 2), (2, (0, 0, 0, 0, []), 3), (3, (4, 3, 0, 0, []), 4), (4, (3, 3, 0, 0, []), 5), (5, (0, 0, 0, 10, []), 7), (7, (15, 3, 32, 0, []), 10), (10, (3, 0, 2, 0, []), 11), (11, (24, 0, 1, 515, []), 14), (14, (3, 3, 0, 0, []), 15), (15, (24, 2, 2, 0, []), 16), (16, (3, 1, 0, 0, []), 17), (17, (15, 1, 26, 0, []), 20), (20, (3, 2, 0, 0, []), 21), (21, (0, 0, 0, 1, []), 22), (22, (3, 3, 0, 0, []), 23), (23, (6, 6, 0, 0, []), 24), (24, (6, 4, 0, 0, []), 25), (25, (4, 2, 0, 0, []), 26), (26, (5, 3, 0, 1, []), 29), (29, (18, 0, 4, 0, []), 32), (32, (3, 2, 0, 0, []), 33), (33, (22, 0, 0, 0, []), 34)]
/-- WashingLines.ownerNow(I)I -/
def am_c90 : List (Nat × am_I × Nat) := [(0, (3, 0, 2, 0, []), 1), (1, (21, 75, 1, 0, []), 4), (4, (3, 0, 2, 0, []), 5), (5, (24, 0, 1, 6, []), 8), (8, (0, 0, 0, 0, []), 9), (9, (21, 78, 2, 0, []), 12), (12, (3, 0, 2, 0, []), 13), (13, (24, 0, 1, 6, []), 16), (16, (3, 1, 0, 0, []), 17), (17, (21, 81, 2, 0, []), 20), (20, (22, 0, 0, 0, []), 21)]
/-- WashingLines.linen(II)I -/
def am_c91 : List (Nat × am_I × Nat) := [(0, (3, 0, 2, 0, []), 1), (1, (24, 0, 1, 4, []), 4), (4, (24, 0, 1, 1024, []), 7), (7, (4, 3, 2, 0, []), 8), (8, (3, 3, 2, 0, []), 9), (9, (3, 1, 0, 0, []), 10), (10, (21, 49, 2, 0, []), 13), (13, (16, 1, 19, 0, []), 16), (16, (0, 0, 0, -2, []), 18), (18, (22, 0, 0, 0, []), 19), (19, (3, 2, 0, 0, []), 20), (20, (19, 0, 92, 0, [(0, 52), (1, 59), (2, 66), (3, 79)]), 52), (52, (3, 3, 2, 0, []), 53), (53, (24, 0, 1, 395, []), 56), (56, (3, 1, 0, 0, []), 57), (57, (24, 2, 2, 0, []), 58), (58, (22, 0, 0, 0, []), 59), (59, (3, 3, 2, 0, []), 60), (60, (24, 0, 1, 396, []), 63), (63, (3, 1, 0, 0, []), 64), (64, (24, 2, 2, 0, []), 65), (65, (22, 0, 0, 0, []), 66), (66, (3, 0, 2, 0, []), 67), (67, (24, 0, 1, 4, []), 70), (70, (24, 0, 1, 1025, []), 73), (73, (24, 0, 1, 516, []), 76), (76, (3, 1, 0, 0, []), 77), (77, (24, 2, 2, 0, []), 78), (78, (22, 0, 0, 0, []), 79), (79, (3, 0, 2, 0, []), 80), (80, (24, 0, 1, 4, []), 83), (83, (24, 0, 1, 1025, []), 86), (86, (24, 0, 1, 515, []), 89), (89, (3, 1, 0, 0, []), 90), (90, (24, 2, 2, 0, []), 91), (91, (22, 0, 0, 0, []), 92), (92, (0, 0, 0, -2, []), 94), (94, (22, 0, 0, 0, []), 95)]
/-- WashingLines.hour()I -/
def am_c92 : List (Nat × am_I × Nat) := [(0, (3, 0, 2, 0, []), 1), (1, (24, 0, 1, 4, []), 4), (4, (24, 0, 1, 1024, []), 7), (7, (24, 0, 1, 384, []), 10), (10, (16, 0, 29, 0, []), 13), (13, (3, 0, 2, 0, []), 14), (14, (24, 0, 1, 4, []), 17), (17, (24, 0, 1, 1025, []), 20), (20, (24, 0, 1, 512, []), 23), (23, (0, 0, 0, 999, []), 26), (26, (15, 2, 31, 0, []), 29), (29, (0, 0, 0, -1, []), 30), (30, (22, 0, 0, 0, []), 31), (31, (3, 0, 2, 0, []), 32), (32, (24, 0, 1, 4, []), 35), (35, (21, 93, 1, 0, []), 38), (38, (3, 0, 2, 0, []), 39), (39, (21, 75, 1, 0, []), 42), (42, (3, 0, 2, 0, []), 43), (43, (24, 0, 1, 6, []), 46), (46, (0, 0, 0, 0, []), 47), (47, (21, 94, 2, 0, []), 50), (50, (4, 1, 0, 0, []), 51), (51, (3, 0, 2, 0, []), 52), (52, (24, 0, 1, 4, []), 55), (55, (24, 0, 1, 1025, []), 58), (58, (3, 0, 2, 0, []), 59), (59, (24, 0, 1, 6, []), 62), (62, (24, 0, 1, 1152, []), 65), (65, (21, 58, 2, 0, []), 68), (68, (3, 1, 0, 0, []), 69), (69, (22, 0, 0, 0, []), 70)]
/-- WashingLines$World.keepPast()V -/
def am_c93 : List (Nat × am_I × Nat) := [(0, (3, 0, 2, 0, []), 1), (1, (24, 0, 1, 1027, []), 4), (4, (0, 0, 0, 20, []), 6), (6, (21, 272, 2, 1, []), 9), (9, (4, 1, 0, 0, []), 10), (10, (3, 0, 2, 0, []), 11), (11, (24, 0, 1, 1026, []), 14), (14, (3, 1, 0, 0, []), 15), (15, (24, 2, 2, 4, []), 16), (16, (3, 0, 2, 0, []), 17), (17, (24, 0, 1, 1025, []), 20), (20, (21, 58, 2, 0, []), 23), (23, (3, 0, 2, 0, []), 24), (24, (3, 1, 0, 0, []), 25), (25, (0, 0, 0, 1, []), 26), (26, (6, 0, 0, 0, []), 27), (27, (24, 1, 2, 1027, []), 30), (30, (3, 0, 2, 0, []), 31), (31, (0, 0, 0, 20, []), 33), (33, (3, 0, 2, 0, []), 34), (34, (24, 0, 1, 1028, []), 37), (37, (0, 0, 0, 1, []), 38), (38, (6, 0, 0, 0, []), 39), (39, (24, 16, 2, 0, []), 42), (42, (24, 1, 2, 1028, []), 45), (45, (23, 0, 0, 0, []), 46)]
/-- WashingLines$Hours.pass(Z)I -/
def am_c94 : List (Nat × am_I × Nat) := [(0, (3, 0, 2, 0, []), 1), (1, (3, 1, 0, 0, []), 2), (2, (21, 78, 2, 0, []), 5), (5, (0, 0, 0, 0, []), 6), (6, (4, 2, 0, 0, []), 7), (7, (3, 2, 0, 0, []), 8), (8, (0, 0, 0, 6, []), 10), (10, (15, 3, 30, 0, []), 13), (13, (3, 0, 2, 0, []), 14), (14, (24, 0, 1, 1161, []), 17), (17, (3, 2, 0, 0, []), 18), (18, (3, 0, 2, 0, []), 19), (19, (3, 2, 0, 0, []), 20), (20, (21, 81, 2, 0, []), 23), (23, (24, 3, 3, 0, []), 24), (24, (5, 2, 0, 1, []), 27), (27, (18, 0, 7, 0, []), 30), (30, (0, 0, 0, 0, []), 31), (31, (4, 2, 0, 0, []), 32), (32, (0, 0, 0, 0, []), 33), (33, (4, 3, 0, 0, []), 34), (34, (3, 3, 0, 0, []), 35), (35, (0, 0, 0, 6, []), 37), (37, (15, 3, 111, 0, []), 40), (40, (3, 0, 2, 0, []), 41), (41, (24, 0, 1, 1161, []), 44), (44, (3, 3, 0, 0, []), 45), (45, (24, 2, 2, 0, []), 46), (46, (4, 4, 0, 0, []), 48), (48, (3, 0, 2, 0, []), 49), (49, (24, 0, 1, 1152, []), 52), (52, (24, 0, 1, 513, []), 55), (55, (3, 3, 0, 0, []), 56), (56, (3, 4, 0, 0, []), 58), (58, (24, 3, 3, 0, []), 59), (59, (3, 0, 2, 0, []), 60), (60, (24, 0, 1, 1153, []), 63), (63, (3, 4, 0, 0, []), 65), (65, (21, 51, 2, 0, []), 68), (68, (16, 0, 105, 0, []), 71), (71, (3, 0, 2, 0, []), 72), (72, (24, 0, 1, 1152, []), 75), (75, (24, 0, 1, 518, []), 78), (78, (3, 4, 0, 0, []), 80), (80, (13, 0, 0, 0, []), 81), (81, (24, 2, 2, 0, []), 82), (82, (3, 0, 2, 0, []), 83), (83, (24, 0, 1, 1153, []), 86), (86, (24, 0, 1, 393, []), 89), (89, (3, 3, 0, 0, []), 90), (90, (24, 2, 2, 0, []), 91), (91, (6, 0, 0, 0, []), 92), (92, (24, 3, 3, 0, []), 93), (93, (3, 2, 0, 0, []), 94), (94, (3, 0, 2, 0, []), 95), (95, (24, 0, 1, 1153, []), 98), (98, (24, 0, 1, 393, []), 101), (101, (3, 3, 0, 0, []), 102), (102, (24, 2, 2, 0, []), 103), (103, (6, 0, 0, 0, []), 104), (104, (4, 2, 0, 0, []), 105), (105, (5, 3, 0, 1, []), 108), (108, (18, 0, 34, 0, []), 111), (111, (0, 0, 0, 0, []), 112), (112, (4, 3, 0, 0, []), 113), (113, (3, 3, 0, 0, []), 114), (114, (0, 0, 0, 10, []), 116), (116, (15, 3, 160, 0, []), 119), (119, (3, 0, 2, 0, []), 120), (120, (24, 0, 1, 1152, []), 123), (123, (24, 0, 1, 515, []), 126), (126, (3, 3, 0, 0, []), 127), (127, (24, 2, 2, 0, []), 128), (128, (0, 0, 0, -1, []), 129), (129, (15, 0, 154, 0, []), 132), (132, (3, 0, 2, 0, []), 133), (133, (24, 0, 1, 1152, []), 136), (136, (24, 0, 1, 516, []), 139), (139, (3, 3, 0, 0, []), 140), (140, (3, 0, 2, 0, []), 141), (141, (3, 0, 2, 0, []), 142), (142, (24, 0, 1, 1152, []), 145), (145, (24, 0, 1, 516, []), 148), (148, (3, 3, 0, 0, []), 149), (149, (24, 2, 2, 0, []), 150), (150, (21, 95, 2, 0, []), 153), (153, (24, 3, 3, 0, []), 154), (154, (5, 3, 0, 1, []), 157), (157, (18, 0, 113, 0, []), 160), (160, (3, 0, 2, 0, []), 161), (161, (24, 0, 1, 1152, []), 164), (164, (12, 0, 0, 0, []), 165), (165, (24, 0, 1, 512, []), 168), (168, (0, 0, 0, 1, []), 169), (169, (6, 0, 0, 0, []), 170), (170, (24, 1, 2, 512, []), 173), (173, (3, 2, 0, 0, []), 174), (174, (22, 0, 0, 0, []), 175)]
/-- WashingLines$Hours.wetBehind(I)I -/
def am_c95 : List (Nat × am_I × Nat) := [(0, (3, 0, 2, 0, []), 1), (1, (24, 0, 1, 1155, []), 4), (4, (16, 0, 21, 0, []), 7), (7, (3, 1, 0, 0, []), 8), (8, (3, 0, 2, 0, []), 9), (9, (24, 0, 1, 1153, []), 12), (12, (24, 0, 1, 386, []), 15), (15, (24, 15, 2, 0, []), 18), (18, (18, 0, 34, 0, []), 21), (21, (0, 0, 0, 0, []), 22), (22, (3, 1, 0, 0, []), 23), (23, (3, 0, 2, 0, []), 24), (24, (24, 0, 1, 1153, []), 27), (27, (24, 0, 1, 385, []), 30), (30, (6, 1, 0, 0, []), 31), (31, (24, 15, 2, 0, []), 34), (34, (22, 0, 0, 0, []), 35)]
/-- WashingLines.hang(II)I -/
def am_c96 : List (Nat × am_I × Nat) := [(0, (3, 0, 2, 0, []), 1), (1, (24, 0, 1, 4, []), 4), (4, (24, 0, 1, 1025, []), 7), (7, (3, 0, 2, 0, []), 8), (8, (24, 0, 1, 4, []), 11), (11, (24, 0, 1, 1024, []), 14), (14, (3, 1, 0, 0, []), 15), (15, (3, 2, 0, 0, []), 16), (16, (21, 48, 4, 0, []), 19), (19, (16, 1, 24, 0, []), 22), (22, (0, 0, 0, -1, []), 23), (23, (22, 0, 0, 0, []), 24), (24, (3, 0, 2, 0, []), 25), (25, (24, 0, 1, 4, []), 28), (28, (21, 93, 1, 0, []), 31), (31, (3, 0, 2, 0, []), 32), (32, (24, 0, 1, 4, []), 35), (35, (24, 0, 1, 1025, []), 38), (38, (3, 0, 2, 0, []), 39), (39, (24, 0, 1, 4, []), 42), (42, (24, 0, 1, 1024, []), 45), (45, (3, 1, 0, 0, []), 46), (46, (3, 2, 0, 0, []), 47), (47, (21, 54, 4, 0, []), 50), (50, (3, 0, 2, 0, []), 51), (51, (24, 0, 1, 4, []), 54), (54, (24, 0, 1, 1025, []), 57), (57, (3, 0, 2, 0, []), 58), (58, (24, 0, 1, 4, []), 61), (61, (24, 0, 1, 1024, []), 64), (64, (3, 2, 0, 0, []), 65), (65, (21, 52, 3, 0, []), 68), (68, (22, 0, 0, 0, []), 69)]
/-- WashingLines.take(I)I -/
def am_c97 : List (Nat × am_I × Nat) := [(0, (3, 0, 2, 0, []), 1), (1, (24, 0, 1, 4, []), 4), (4, (3, 1, 0, 0, []), 5), (5, (21, 98, 2, 0, []), 8), (8, (16, 1, 13, 0, []), 11), (11, (0, 0, 0, -1, []), 12), (12, (22, 0, 0, 0, []), 13), (13, (3, 0, 2, 0, []), 14), (14, (24, 0, 1, 4, []), 17), (17, (21, 93, 1, 0, []), 20), (20, (3, 0, 2, 0, []), 21), (21, (24, 0, 1, 4, []), 24), (24, (24, 0, 1, 1025, []), 27), (27, (24, 0, 1, 515, []), 30), (30, (3, 1, 0, 0, []), 31), (31, (24, 2, 2, 0, []), 32), (32, (4, 2, 0, 0, []), 33), (33, (3, 0, 2, 0, []), 34), (34, (24, 0, 1, 4, []), 37), (37, (24, 0, 1, 1025, []), 40), (40, (3, 0, 2, 0, []), 41), (41, (24, 0, 1, 4, []), 44), (44, (24, 0, 1, 1024, []), 47), (47, (3, 1, 0, 0, []), 48), (48, (21, 99, 3, 0, []), 51), (51, (3, 2, 0, 0, []), 52), (52, (22, 0, 0, 0, []), 53)]
/-- WashingLines$World.hangs(I)Z -/
def am_c98 : List (Nat × am_I × Nat) := [(0, (3, 0, 2, 0, []), 1), (1, (24, 0, 1, 1024, []), 4), (4, (3, 1, 0, 0, []), 5), (5, (21, 49, 2, 0, []), 8), (8, (16, 0, 28, 0, []), 11), (11, (3, 0, 2, 0, []), 12), (12, (24, 0, 1, 1025, []), 15), (15, (24, 0, 1, 515, []), 18), (18, (3, 1, 0, 0, []), 19), (19, (24, 2, 2, 0, []), 20), (20, (0, 0, 0, -1, []), 21), (21, (15, 0, 28, 0, []), 24), (24, (0, 0, 0, 1, []), 25), (25, (18, 0, 29, 0, []), 28), (28, (0, 0, 0, 0, []), 29), (29, (22, 1, 0, 0, []), 30)]
/-- WashingLines$Yard.takeDown(LWashingLines$Court;I)V -/
def am_c99 : List (Nat × am_I × Nat) := [(0, (3, 1, 2, 0, []), 1), (1, (3, 2, 0, 0, []), 2), (2, (21, 49, 2, 0, []), 5), (5, (16, 0, 53, 0, []), 8), (8, (3, 0, 2, 0, []), 9), (9, (24, 0, 1, 515, []), 12), (12, (3, 2, 0, 0, []), 13), (13, (24, 2, 2, 0, []), 14), (14, (0, 0, 0, -1, []), 15), (15, (15, 0, 53, 0, []), 18), (18, (3, 1, 2, 0, []), 19), (19, (3, 1, 2, 0, []), 20), (20, (24, 0, 1, 395, []), 23), (23, (3, 2, 0, 0, []), 24), (24, (24, 2, 2, 0, []), 25), (25, (21, 51, 2, 0, []), 28), (28, (16, 0, 53, 0, []), 31), (31, (3, 0, 2, 0, []), 32), (32, (24, 0, 1, 515, []), 35), (35, (3, 2, 0, 0, []), 36), (36, (0, 0, 0, -1, []), 37), (37, (24, 3, 3, 0, []), 38), (38, (3, 0, 2, 0, []), 39), (39, (24, 0, 1, 517, []), 42), (42, (3, 1, 2, 0, []), 43), (43, (24, 0, 1, 395, []), 46), (46, (3, 2, 0, 0, []), 47), (47, (24, 2, 2, 0, []), 48), (48, (13, 0, 0, 0, []), 49), (49, (24, 2, 2, 0, []), 50), (50, (0, 0, 0, 2, []), 51), (51, (6, 0, 0, 0, []), 52), (52, (24, 3, 3, 0, []), 53), (53, (23, 0, 0, 0, []), 54)]
/-- WashingLines.wash(I)I -/
def am_c100 : List (Nat × am_I × Nat) := [(0, (3, 0, 2, 0, []), 1), (1, (24, 0, 1, 4, []), 4), (4, (24, 0, 1, 1024, []), 7), (7, (3, 1, 0, 0, []), 8), (8, (21, 49, 2, 0, []), 11), (11, (16, 0, 25, 0, []), 14), (14, (3, 0, 2, 0, []), 15), (15, (24, 0, 1, 4, []), 18), (18, (3, 1, 0, 0, []), 19), (19, (21, 98, 2, 0, []), 22), (22, (16, 0, 27, 0, []), 25), (25, (0, 0, 0, -1, []), 26), (26, (22, 0, 0, 0, []), 27), (27, (3, 0, 2, 0, []), 28), (28, (24, 0, 1, 4, []), 31), (31, (24, 0, 1, 1024, []), 34), (34, (24, 0, 1, 397, []), 37), (37, (3, 1, 0, 0, []), 38), (38, (24, 2, 2, 0, []), 39), (39, (4, 2, 0, 0, []), 40), (40, (3, 0, 2, 0, []), 41), (41, (24, 0, 1, 4, []), 44), (44, (24, 0, 1, 1025, []), 47), (47, (24, 0, 1, 516, []), 50), (50, (3, 1, 0, 0, []), 51), (51, (24, 2, 2, 0, []), 52), (52, (3, 2, 0, 0, []), 53), (53, (15, 1, 58, 0, []), 56), (56, (0, 0, 0, -1, []), 57), (57, (22, 0, 0, 0, []), 58), (58, (3, 0, 2, 0, []), 59), (59, (24, 0, 1, 4, []), 62), (62, (21, 93, 1, 0, []), 65), (65, (3, 0, 2, 0, []), 66), (66, (24, 0, 1, 4, []), 69), (69, (24, 0, 1, 1025, []), 72), (72, (24, 0, 1, 516, []), 75), (75, (3, 1, 0, 0, []), 76), (76, (3, 2, 0, 0, []), 77), (77, (24, 3, 3, 0, []), 78), (78, (3, 2, 0, 0, []), 79), (79, (22, 0, 0, 0, []), 80)]
/-- WashingLines.cut(I)I -/
def am_c101 : List (Nat × am_I × Nat) := [(0, (3, 0, 2, 0, []), 1), (1, (24, 0, 1, 4, []), 4), (4, (24, 0, 1, 1024, []), 7), (7, (3, 1, 0, 0, []), 8), (8, (21, 50, 2, 0, []), 11), (11, (16, 0, 29, 0, []), 14), (14, (3, 0, 2, 0, []), 15), (15, (24, 0, 1, 4, []), 18), (18, (24, 0, 1, 1025, []), 21), (21, (24, 0, 1, 514, []), 24), (24, (3, 1, 0, 0, []), 25), (25, (24, 2, 2, 0, []), 26), (26, (16, 0, 31, 0, []), 29), (29, (0, 0, 0, -1, []), 30), (30, (22, 0, 0, 0, []), 31), (31, (3, 0, 2, 0, []), 32), (32, (24, 0, 1, 4, []), 35), (35, (21, 93, 1, 0, []), 38), (38, (3, 0, 2, 0, []), 39), (39, (24, 0, 1, 4, []), 42), (42, (24, 0, 1, 1025, []), 45), (45, (3, 0, 2, 0, []), 46), (46, (24, 0, 1, 4, []), 49), (49, (24, 0, 1, 1024, []), 52), (52, (3, 1, 0, 0, []), 53), (53, (21, 102, 3, 0, []), 56), (56, (22, 0, 0, 0, []), 57)]
/-- WashingLines$Yard.cutDown(LWashingLines$Court;I)I -/
def am_c102 : List (Nat × am_I × Nat) := [(0, (0, 0, 0, 0, []), 1), (1, (4, 3, 0, 0, []), 2), (2, (0, 0, 0, 0, []), 3), (3, (4, 4, 0, 0, []), 5), (5, (3, 4, 0, 0, []), 7), (7, (0, 0, 0, 10, []), 9), (9, (15, 3, 39, 0, []), 12), (12, (3, 0, 2, 0, []), 13), (13, (24, 0, 1, 515, []), 16), (16, (3, 4, 0, 0, []), 18), (18, (24, 2, 2, 0, []), 19), (19, (3, 2, 0, 0, []), 20), (20, (15, 1, 33, 0, []), 23), (23, (3, 0, 2, 0, []), 24), (24, (3, 1, 2, 0, []), 25), (25, (3, 4, 0, 0, []), 27), (27, (21, 99, 3, 0, []), 30), (30, (5, 3, 0, 1, []), 33), (33, (5, 4, 0, 1, []), 36), (36, (18, 0, 5, 0, []), 39), (39, (3, 1, 2, 0, []), 40), (40, (3, 2, 0, 0, []), 41), (41, (21, 50, 2, 0, []), 44), (44, (16, 0, 61, 0, []), 47), (47, (3, 0, 2, 0, []), 48), (48, (24, 0, 1, 514, []), 51), (51, (3, 2, 0, 0, []), 52), (52, (0, 0, 0, 1, []), 53), (53, (24, 3, 3, 0, []), 54), (54, (3, 0, 2, 0, []), 55), (55, (24, 0, 1, 513, []), 58), (58, (3, 2, 0, 0, []), 59), (59, (0, 0, 0, -1, []), 60), (60, (24, 3, 3, 0, []), 61), (61, (3, 3, 0, 0, []), 62), (62, (22, 0, 0, 0, []), 63)]
/-- WashingLines.mend(I)Z -/
def am_c103 : List (Nat × am_I × Nat) := [(0, (3, 0, 2, 0, []), 1), (1, (24, 0, 1, 4, []), 4), (4, (24, 0, 1, 1024, []), 7), (7, (3, 1, 0, 0, []), 8), (8, (21, 50, 2, 0, []), 11), (11, (16, 0, 29, 0, []), 14), (14, (3, 0, 2, 0, []), 15), (15, (24, 0, 1, 4, []), 18), (18, (24, 0, 1, 1025, []), 21), (21, (24, 0, 1, 514, []), 24), (24, (3, 1, 0, 0, []), 25), (25, (24, 2, 2, 0, []), 26), (26, (16, 1, 31, 0, []), 29), (29, (0, 0, 0, 0, []), 30), (30, (22, 1, 0, 0, []), 31), (31, (3, 0, 2, 0, []), 32), (32, (24, 0, 1, 4, []), 35), (35, (21, 93, 1, 0, []), 38), (38, (3, 0, 2, 0, []), 39), (39, (24, 0, 1, 4, []), 42), (42, (24, 0, 1, 1025, []), 45), (45, (24, 0, 1, 514, []), 48), (48, (3, 1, 0, 0, []), 49), (49, (0, 0, 0, 0, []), 50), (50, (24, 3, 3, 0, []), 51), (51, (0, 0, 0, 1, []), 52), (52, (22, 1, 0, 0, []), 53)]
/-- WashingLines.undo()I -/
def am_c104 : List (Nat × am_I × Nat) := [(0, (3, 0, 2, 0, []), 1), (1, (24, 0, 1, 4, []), 4), (4, (21, 105, 1, 0, []), 7), (7, (16, 0, 20, 0, []), 10), (10, (3, 0, 2, 0, []), 11), (11, (24, 0, 1, 4, []), 14), (14, (24, 0, 1, 1028, []), 17), (17, (18, 0, 22, 0, []), 20), (20, (0, 0, 0, -2, []), 22), (22, (22, 0, 0, 0, []), 23)]
/-- WashingLines$World.giveBackPast()Z -/
def am_c105 : List (Nat × am_I × Nat) := [(0, (3, 0, 2, 0, []), 1), (1, (24, 0, 1, 1028, []), 4), (4, (16, 1, 9, 0, []), 7), (7, (0, 0, 0, 0, []), 8), (8, (22, 1, 0, 0, []), 9), (9, (3, 0, 2, 0, []), 10), (10, (24, 0, 1, 1027, []), 13), (13, (0, 0, 0, 1, []), 14), (14, (6, 1, 0, 0, []), 15), (15, (0, 0, 0, 20, []), 17), (17, (21, 272, 2, 1, []), 20), (20, (4, 1, 0, 0, []), 21), (21, (3, 0, 2, 0, []), 22), (22, (24, 0, 1, 1025, []), 25), (25, (3, 0, 2, 0, []), 26), (26, (24, 0, 1, 1026, []), 29), (29, (3, 1, 0, 0, []), 30), (30, (24, 2, 2, 4, []), 31), (31, (21, 58, 2, 0, []), 34), (34, (3, 0, 2, 0, []), 35), (35, (3, 1, 0, 0, []), 36), (36, (24, 1, 2, 1027, []), 39), (39, (3, 0, 2, 0, []), 40), (40, (12, 0, 0, 0, []), 41), (41, (24, 0, 1, 1028, []), 44), (44, (0, 0, 0, 1, []), 45), (45, (6, 1, 0, 0, []), 46), (46, (24, 1, 2, 1028, []), 49), (49, (0, 0, 0, 1, []), 50), (50, (22, 1, 0, 0, []), 51)]
/-- WashingLines.ahead(III)I -/
def am_c106 : List (Nat × am_I × Nat) := [(0, (3, 0, 2, 0, []), 1), (1, (24, 0, 1, 4, []), 4), (4, (24, 0, 1, 1024, []), 7), (7, (4, 4, 2, 0, []), 9), (9, (3, 3, 0, 0, []), 10), (10, (16, 1, 22, 0, []), 13), (13, (3, 4, 2, 0, []), 15), (15, (3, 1, 0, 0, []), 16), (16, (21, 50, 2, 0, []), 19), (19, (16, 1, 50, 0, []), 22), (22, (3, 3, 0, 0, []), 23), (23, (0, 0, 0, 1, []), 24), (24, (15, 1, 36, 0, []), 27), (27, (3, 4, 2, 0, []), 29), (29, (3, 1, 0, 0, []), 30), (30, (21, 49, 2, 0, []), 33), (33, (16, 1, 50, 0, []), 36), (36, (3, 3, 0, 0, []), 37), (37, (0, 0, 0, 2, []), 38), (38, (15, 1, 54, 0, []), 41), (41, (3, 4, 2, 0, []), 43), (43, (3, 1, 0, 0, []), 44), (44, (21, 51, 2, 0, []), 47), (47, (16, 0, 54, 0, []), 50), (50, (0, 0, 0, 1, []), 51), (51, (18, 0, 55, 0, []), 54), (54, (0, 0, 0, 0, []), 55), (55, (4, 5, 0, 0, []), 57), (57, (3, 5, 0, 0, []), 59), (59, (16, 0, 72, 0, []), 62), (62, (3, 2, 0, 0, []), 63), (63, (16, 2, 72, 0, []), 66), (66, (3, 2, 0, 0, []), 67), (67, (0, 0, 0, 100, []), 69), (69, (15, 5, 75, 0, []), 72), (72, (0, 0, 0, -2, []), 74), (74, (22, 0, 0, 0, []), 75), (75, (3, 0, 2, 0, []), 76), (76, (21, 75, 1, 0, []), 79), (79, (3, 0, 2, 0, []), 80), (80, (24, 0, 1, 6, []), 83), (83, (3, 2, 0, 0, []), 84), (84, (21, 107, 2, 0, []), 87), (87, (3, 3, 0, 0, []), 88), (88, (16, 1, 104, 0, []), 91), (91, (3, 0, 2, 0, []), 92), (92, (24, 0, 1, 6, []), 95), (95, (24, 0, 1, 1152, []), 98), (98, (24, 0, 1, 513, []), 101), (101, (3, 1, 0, 0, []), 102), (102, (24, 2, 2, 0, []), 103), (103, (22, 0, 0, 0, []), 104), (104, (3, 3, 0, 0, []), 105), (105, (0, 0, 0, 1, []), 106), (106, (15, 1, 124, 0, []), 109), (109, (3, 0, 2, 0, []), 110), (110, (24, 0, 1, 6, []), 113), (113, (24, 0, 1, 1152, []), 116), (116, (24, 0, 1, 516, []), 119), (119, (3, 1, 0, 0, []), 120), (120, (24, 2, 2, 0, []), 121), (121, (18, 0, 136, 0, []), 124), (124, (3, 0, 2, 0, []), 125), (125, (24, 0, 1, 6, []), 128), (128, (24, 0, 1, 1152, []), 131), (131, (24, 0, 1, 518, []), 134), (134, (3, 1, 0, 0, []), 135), (135, (24, 2, 2, 0, []), 136), (136, (22, 0, 0, 0, []), 137)]
/-- WashingLines$Hours.passMany(I)V -/
def am_c107 : List (Nat × am_I × Nat) := [(0, (0, 0, 0, 0, []), 1), (1, (4, 2, 0, 0, []), 2), (2, (3, 2, 0, 0, []), 3), (3, (3, 1, 0, 0, []), 4), (4, (15, 3, 19, 0, []), 7), (7, (3, 0, 2, 0, []), 8), (8, (0, 0, 0, 0, []), 9), (9, (21, 94, 2, 0, []), 12), (12, (14, 0, 0, 0, []), 13), (13, (5, 2, 0, 1, []), 16), (16, (18, 0, 2, 0, []), 19), (19, (23, 0, 0, 0, []), 20)]
/-- WashingLines.dries(I)I -/
def am_c108 : List (Nat × am_I × Nat) := [(0, (3, 0, 2, 0, []), 1), (1, (24, 0, 1, 4, []), 4), (4, (24, 0, 1, 1024, []), 7), (7, (3, 1, 0, 0, []), 8), (8, (21, 49, 2, 0, []), 11), (11, (16, 1, 16, 0, []), 14), (14, (0, 0, 0, -1, []), 15), (15, (22, 0, 0, 0, []), 16), (16, (3, 0, 2, 0, []), 17), (17, (21, 75, 1, 0, []), 20), (20, (0, 0, 0, 0, []), 21), (21, (4, 2, 0, 0, []), 22), (22, (3, 2, 0, 0, []), 23), (23, (0, 0, 0, 200, []), 26), (26, (15, 3, 69, 0, []), 29), (29, (3, 0, 2, 0, []), 30), (30, (24, 0, 1, 6, []), 33), (33, (24, 0, 1, 1152, []), 36), (36, (3, 1, 0, 0, []), 37), (37, (21, 109, 2, 0, []), 40), (40, (16, 0, 54, 0, []), 43), (43, (3, 0, 2, 0, []), 44), (44, (24, 0, 1, 6, []), 47), (47, (24, 0, 1, 1152, []), 50), (50, (24, 0, 1, 512, []), 53), (53, (22, 0, 0, 0, []), 54), (54, (3, 0, 2, 0, []), 55), (55, (24, 0, 1, 6, []), 58), (58, (0, 0, 0, 0, []), 59), (59, (21, 94, 2, 0, []), 62), (62, (14, 0, 0, 0, []), 63), (63, (5, 2, 0, 1, []), 66), (66, (18, 0, 22, 0, []), 69), (69, (0, 0, 0, -2, []), 71), (71, (22, 0, 0, 0, []), 72)]
/-- WashingLines$Yard.isDryUp(I)Z -/
def am_c109 : List (Nat × am_I × Nat) := [(0, (3, 1, 0, 0, []), 1), (1, (16, 2, 33, 0, []), 4), (4, (3, 1, 0, 0, []), 5), (5, (0, 0, 0, 10, []), 7), (7, (15, 3, 33, 0, []), 10), (10, (3, 0, 2, 0, []), 11), (11, (24, 0, 1, 515, []), 14), (14, (3, 1, 0, 0, []), 15), (15, (24, 2, 2, 0, []), 16), (16, (0, 0, 0, -1, []), 17), (17, (15, 0, 33, 0, []), 20), (20, (3, 0, 2, 0, []), 21), (21, (24, 0, 1, 516, []), 24), (24, (3, 1, 0, 0, []), 25), (25, (24, 2, 2, 0, []), 26), (26, (16, 1, 33, 0, []), 29), (29, (0, 0, 0, 1, []), 30), (30, (18, 0, 34, 0, []), 33), (33, (0, 0, 0, 0, []), 34), (34, (22, 1, 0, 0, []), 35)]
/-- WashingLines.most(III)I -/
def am_c110 : List (Nat × am_I × Nat) := [(0, (3, 0, 2, 0, []), 1), (1, (24, 0, 1, 4, []), 4), (4, (24, 0, 1, 1024, []), 7), (7, (3, 1, 0, 0, []), 8), (8, (21, 51, 2, 0, []), 11), (11, (16, 0, 34, 0, []), 14), (14, (3, 2, 0, 0, []), 15), (15, (0, 0, 0, 1, []), 16), (16, (15, 2, 34, 0, []), 19), (19, (3, 2, 0, 0, []), 20), (20, (0, 0, 0, 12, []), 22), (22, (15, 4, 34, 0, []), 25), (25, (3, 3, 0, 0, []), 26), (26, (16, 2, 34, 0, []), 29), (29, (3, 3, 0, 0, []), 30), (30, (0, 0, 0, 4, []), 31), (31, (15, 5, 37, 0, []), 34), (34, (0, 0, 0, -3, []), 36), (36, (22, 0, 0, 0, []), 37), (37, (3, 0, 2, 0, []), 38), (38, (21, 75, 1, 0, []), 41), (41, (3, 0, 2, 0, []), 42), (42, (24, 0, 1, 7, []), 45), (45, (3, 0, 2, 0, []), 46), (46, (24, 0, 1, 6, []), 49), (49, (3, 0, 2, 0, []), 50), (50, (24, 0, 1, 4, []), 53), (53, (24, 0, 1, 1025, []), 56), (56, (3, 1, 0, 0, []), 57), (57, (3, 2, 0, 0, []), 58), (58, (21, 111, 5, 0, []), 61), (61, (3, 3, 0, 0, []), 62), (62, (16, 1, 75, 0, []), 65), (65, (3, 0, 2, 0, []), 66), (66, (24, 0, 1, 7, []), 69), (69, (24, 0, 1, 1280, []), 72), (72, (18, 0, 85, 0, []), 75), (75, (3, 0, 2, 0, []), 76), (76, (24, 0, 1, 7, []), 79), (79, (3, 3, 0, 0, []), 80), (80, (0, 0, 0, 1, []), 81), (81, (6, 1, 0, 0, []), 82), (82, (21, 116, 2, 0, []), 85), (85, (22, 0, 0, 0, []), 86)]
/-- WashingLines$Seeker.seekMost(LWashingLines$Hours;LWashingLines$Yard;II)V -/
def am_c111 : List (Nat × am_I × Nat) := [(0, (3, 0, 2, 0, []), 1), (1, (3, 1, 2, 0, []), 2), (2, (24, 0, 1, 1153, []), 5), (5, (3, 2, 2, 0, []), 6), (6, (3, 3, 0, 0, []), 7), (7, (21, 112, 4, 0, []), 10), (10, (0, 0, 0, 1, []), 11), (11, (4, 5, 0, 0, []), 13), (13, (0, 0, 0, 0, []), 14), (14, (4, 6, 0, 0, []), 16), (16, (3, 6, 0, 0, []), 18), (18, (3, 0, 2, 0, []), 19), (19, (24, 0, 1, 1286, []), 22), (22, (15, 3, 45, 0, []), 25), (25, (3, 5, 0, 0, []), 27), (27, (3, 1, 2, 0, []), 28), (28, (24, 0, 1, 1153, []), 31), (31, (24, 0, 1, 388, []), 34), (34, (0, 0, 0, 1, []), 35), (35, (6, 0, 0, 0, []), 36), (36, (6, 2, 0, 0, []), 37), (37, (4, 5, 0, 0, []), 39), (39, (5, 6, 0, 1, []), 42), (42, (18, 0, 16, 0, []), 45), (45, (3, 0, 2, 0, []), 46), (46, (0, 0, 0, -1, []), 47), (47, (24, 1, 2, 1280, []), 50), (50, (0, 0, 0, 0, []), 51), (51, (4, 6, 0, 0, []), 53), (53, (3, 6, 0, 0, []), 55), (55, (3, 5, 0, 0, []), 57), (57, (15, 3, 144, 0, []), 60), (60, (3, 1, 2, 0, []), 61), (61, (24, 0, 1, 1152, []), 64), (64, (3, 2, 2, 0, []), 65), (65, (21, 58, 2, 0, []), 68), (68, (3, 0, 2, 0, []), 69), (69, (3, 6, 0, 0, []), 71), (71, (3, 1, 2, 0, []), 72), (72, (24, 0, 1, 1153, []), 75), (75, (24, 0, 1, 388, []), 78), (78, (0, 0, 0, 1, []), 79), (79, (6, 0, 0, 0, []), 80), (80, (21, 113, 3, 0, []), 83), (83, (3, 0, 2, 0, []), 84), (84, (3, 1, 2, 0, []), 85), (85, (21, 114, 2, 0, []), 88), (88, (16, 0, 138, 0, []), 91), (91, (3, 1, 2, 0, []), 92), (92, (3, 4, 0, 0, []), 94), (94, (21, 107, 2, 0, []), 97), (97, (3, 1, 2, 0, []), 98), (98, (24, 0, 1, 1152, []), 101), (101, (3, 3, 0, 0, []), 102), (102, (21, 115, 2, 0, []), 105), (105, (3, 0, 2, 0, []), 106), (106, (24, 0, 1, 1280, []), 109), (109, (15, 5, 138, 0, []), 112), (112, (3, 0, 2, 0, []), 113), (113, (3, 1, 2, 0, []), 114), (114, (24, 0, 1, 1152, []), 117), (117, (3, 3, 0, 0, []), 118), (118, (21, 115, 2, 0, []), 121), (121, (24, 1, 2, 1280, []), 124), (124, (3, 0, 2, 0, []), 125), (125, (24, 0, 1, 1284, []), 128), (128, (0, 0, 0, 0, []), 129), (129, (3, 0, 2, 0, []), 130), (130, (24, 0, 1, 1285, []), 133), (133, (0, 0, 0, 0, []), 134), (134, (0, 0, 0, 4, []), 135), (135, (24, 10, 5, 0, []), 138), (138, (5, 6, 0, 1, []), 141), (141, (18, 0, 53, 0, []), 144), (144, (23, 0, 0, 0, []), 145)]
/-- WashingLines$Seeker.choosePieces(LWashingLines$Court;LWashingLines$Yard;I)V -/
def am_c112 : List (Nat × am_I × Nat) := [(0, (3, 0, 2, 0, []), 1), (1, (0, 0, 0, 0, []), 2), (2, (24, 1, 2, 1286, []), 5), (5, (0, 0, 0, 0, []), 6), (6, (4, 4, 0, 0, []), 8), (8, (3, 4, 0, 0, []), 10), (10, (0, 0, 0, 10, []), 12), (12, (15, 3, 100, 0, []), 15), (15, (3, 1, 2, 0, []), 16), (16, (3, 4, 0, 0, []), 18), (18, (21, 49, 2, 0, []), 21), (21, (16, 0, 39, 0, []), 24), (24, (3, 1, 2, 0, []), 25), (25, (24, 0, 1, 395, []), 28), (28, (3, 4, 0, 0, []), 30), (30, (24, 2, 2, 0, []), 31), (31, (3, 3, 0, 0, []), 32), (32, (15, 1, 39, 0, []), 35), (35, (0, 0, 0, 1, []), 36), (36, (18, 0, 40, 0, []), 39), (39, (0, 0, 0, 0, []), 40), (40, (4, 5, 0, 0, []), 42), (42, (3, 5, 0, 0, []), 44), (44, (16, 0, 94, 0, []), 47), (47, (3, 2, 2, 0, []), 48), (48, (24, 0, 1, 515, []), 51), (51, (3, 4, 0, 0, []), 53), (53, (24, 2, 2, 0, []), 54), (54, (0, 0, 0, -1, []), 55), (55, (15, 1, 94, 0, []), 58), (58, (3, 0, 2, 0, []), 59), (59, (24, 0, 1, 1286, []), 62), (62, (16, 2, 94, 0, []), 65), (65, (3, 0, 2, 0, []), 66), (66, (24, 0, 1, 1286, []), 69), (69, (0, 0, 0, 4, []), 70), (70, (15, 3, 94, 0, []), 73), (73, (3, 0, 2, 0, []), 74), (74, (24, 0, 1, 1283, []), 77), (77, (3, 0, 2, 0, []), 78), (78, (24, 0, 1, 1286, []), 81), (81, (3, 4, 0, 0, []), 83), (83, (24, 3, 3, 0, []), 84), (84, (3, 0, 2, 0, []), 85), (85, (12, 0, 0, 0, []), 86), (86, (24, 0, 1, 1286, []), 89), (89, (0, 0, 0, 1, []), 90), (90, (6, 0, 0, 0, []), 91), (91, (24, 1, 2, 1286, []), 94), (94, (5, 4, 0, 1, []), 97), (97, (18, 0, 8, 0, []), 100), (100, (23, 0, 0, 0, []), 101)]
/-- WashingLines$Seeker.layRow(II)V -/
def am_c113 : List (Nat × am_I × Nat) := [(0, (3, 1, 0, 0, []), 1), (1, (4, 3, 0, 0, []), 2), (2, (3, 0, 2, 0, []), 3), (3, (24, 0, 1, 1286, []), 6), (6, (0, 0, 0, 4, []), 7), (7, (24, 16, 2, 0, []), 10), (10, (0, 0, 0, 1, []), 11), (11, (6, 1, 0, 0, []), 12), (12, (4, 4, 0, 0, []), 14), (14, (3, 4, 0, 0, []), 16), (16, (16, 2, 45, 0, []), 19), (19, (3, 2, 0, 0, []), 20), (20, (16, 5, 45, 0, []), 23), (23, (3, 0, 2, 0, []), 24), (24, (24, 0, 1, 1284, []), 27), (27, (3, 4, 0, 0, []), 29), (29, (3, 3, 0, 0, []), 30), (30, (3, 2, 0, 0, []), 31), (31, (6, 10, 0, 0, []), 32), (32, (0, 0, 0, 1, []), 33), (33, (6, 1, 0, 0, []), 34), (34, (24, 3, 3, 0, []), 35), (35, (3, 3, 0, 0, []), 36), (36, (3, 2, 0, 0, []), 37), (37, (6, 9, 0, 0, []), 38), (38, (4, 3, 0, 0, []), 39), (39, (5, 4, 0, -1, []), 42), (42, (18, 0, 14, 0, []), 45), (45, (23, 0, 0, 0, []), 46)]
/-- WashingLines$Seeker.hangRow(LWashingLines$Hours;)Z -/
def am_c114 : List (Nat × am_I × Nat) := [(0, (0, 0, 0, 0, []), 1), (1, (4, 2, 0, 0, []), 2), (2, (3, 2, 0, 0, []), 3), (3, (3, 0, 2, 0, []), 4), (4, (24, 0, 1, 1286, []), 7), (7, (15, 3, 82, 0, []), 10), (10, (3, 2, 0, 0, []), 11), (11, (0, 0, 0, 4, []), 12), (12, (15, 3, 82, 0, []), 15), (15, (3, 0, 2, 0, []), 16), (16, (24, 0, 1, 1284, []), 19), (19, (3, 2, 0, 0, []), 20), (20, (24, 2, 2, 0, []), 21), (21, (0, 0, 0, -1, []), 22), (22, (15, 0, 76, 0, []), 25), (25, (3, 1, 2, 0, []), 26), (26, (24, 0, 1, 1152, []), 29), (29, (3, 1, 2, 0, []), 30), (30, (24, 0, 1, 1153, []), 33), (33, (3, 0, 2, 0, []), 34), (34, (24, 0, 1, 1283, []), 37), (37, (3, 2, 0, 0, []), 38), (38, (24, 2, 2, 0, []), 39), (39, (3, 0, 2, 0, []), 40), (40, (24, 0, 1, 1284, []), 43), (43, (3, 2, 0, 0, []), 44), (44, (24, 2, 2, 0, []), 45), (45, (21, 48, 4, 0, []), 48), (48, (16, 1, 53, 0, []), 51), (51, (0, 0, 0, 0, []), 52), (52, (22, 1, 0, 0, []), 53), (53, (3, 1, 2, 0, []), 54), (54, (24, 0, 1, 1152, []), 57), (57, (3, 1, 2, 0, []), 58), (58, (24, 0, 1, 1153, []), 61), (61, (3, 0, 2, 0, []), 62), (62, (24, 0, 1, 1283, []), 65), (65, (3, 2, 0, 0, []), 66), (66, (24, 2, 2, 0, []), 67), (67, (3, 0, 2, 0, []), 68), (68, (24, 0, 1, 1284, []), 71), (71, (3, 2, 0, 0, []), 72), (72, (24, 2, 2, 0, []), 73), (73, (21, 54, 4, 0, []), 76), (76, (5, 2, 0, 1, []), 79), (79, (18, 0, 2, 0, []), 82), (82, (0, 0, 0, 1, []), 83), (83, (22, 1, 0, 0, []), 84)]
/-- WashingLines$Yard.airOf(I)I -/
def am_c115 : List (Nat × am_I × Nat) := [(0, (3, 1, 0, 0, []), 1), (1, (16, 2, 18, 0, []), 4), (4, (3, 1, 0, 0, []), 5), (5, (0, 0, 0, 4, []), 6), (6, (15, 3, 18, 0, []), 9), (9, (3, 0, 2, 0, []), 10), (10, (24, 0, 1, 518, []), 13), (13, (3, 1, 0, 0, []), 14), (14, (24, 2, 2, 0, []), 15), (15, (18, 0, 19, 0, []), 18), (18, (0, 0, 0, 0, []), 19), (19, (22, 0, 0, 0, []), 20)]
/-- WashingLines$Seeker.placedAt(I)I -/
def am_c116 : List (Nat × am_I × Nat) := [(0, (3, 1, 0, 0, []), 1), (1, (16, 2, 26, 0, []), 4), (4, (3, 1, 0, 0, []), 5), (5, (3, 0, 2, 0, []), 6), (6, (24, 0, 1, 1286, []), 9), (9, (15, 3, 26, 0, []), 12), (12, (3, 1, 0, 0, []), 13), (13, (0, 0, 0, 4, []), 14), (14, (15, 3, 26, 0, []), 17), (17, (3, 0, 2, 0, []), 18), (18, (24, 0, 1, 1285, []), 21), (21, (3, 1, 0, 0, []), 22), (22, (24, 2, 2, 0, []), 23), (23, (18, 0, 28, 0, []), 26), (26, (0, 0, 0, -2, []), 28), (28, (22, 0, 0, 0, []), 29)]
/-- WashingLines.game(IIII)I -/
def am_c117 : List (Nat × am_I × Nat) := [(0, (3, 0, 2, 0, []), 1), (1, (24, 0, 1, 4, []), 4), (4, (24, 0, 1, 1024, []), 7), (7, (3, 1, 0, 0, []), 8), (8, (21, 51, 2, 0, []), 11), (11, (16, 0, 37, 0, []), 14), (14, (3, 0, 2, 0, []), 15), (15, (24, 0, 1, 4, []), 18), (18, (24, 0, 1, 1024, []), 21), (21, (3, 2, 0, 0, []), 22), (22, (21, 51, 2, 0, []), 25), (25, (16, 0, 37, 0, []), 28), (28, (3, 1, 0, 0, []), 29), (29, (3, 2, 0, 0, []), 30), (30, (15, 0, 37, 0, []), 33), (33, (0, 0, 0, 1, []), 34), (34, (18, 0, 38, 0, []), 37), (37, (0, 0, 0, 0, []), 38), (38, (4, 5, 0, 0, []), 40), (40, (3, 5, 0, 0, []), 42), (42, (16, 0, 66, 0, []), 45), (45, (3, 3, 0, 0, []), 46), (46, (0, 0, 0, 1, []), 47), (47, (15, 2, 66, 0, []), 50), (50, (3, 3, 0, 0, []), 51), (51, (0, 0, 0, 3, []), 52), (52, (15, 4, 66, 0, []), 55), (55, (3, 4, 0, 0, []), 57), (57, (16, 2, 66, 0, []), 60), (60, (3, 4, 0, 0, []), 62), (62, (0, 0, 0, 1, []), 63), (63, (15, 5, 69, 0, []), 66), (66, (0, 0, 0, -100000, []), 68), (68, (22, 0, 0, 0, []), 69), (69, (3, 0, 2, 0, []), 70), (70, (21, 75, 1, 0, []), 73), (73, (3, 0, 2, 0, []), 74), (74, (24, 0, 1, 7, []), 77), (77, (3, 0, 2, 0, []), 78), (78, (24, 0, 1, 6, []), 81), (81, (3, 1, 0, 0, []), 82), (82, (3, 2, 0, 0, []), 83), (83, (3, 3, 0, 0, []), 84), (84, (21, 118, 5, 0, []), 87), (87, (3, 4, 0, 0, []), 89), (89, (16, 1, 102, 0, []), 92), (92, (3, 0, 2, 0, []), 93), (93, (24, 0, 1, 7, []), 96), (96, (24, 0, 1, 1280, []), 99), (99, (18, 0, 109, 0, []), 102), (102, (3, 0, 2, 0, []), 103), (103, (24, 0, 1, 7, []), 106), (106, (24, 0, 1, 1281, []), 109), (109, (22, 0, 0, 0, []), 110)]
/-- WashingLines$Seeker.seekAct(LWashingLines$Hours;III)V -/
def am_c118 : List (Nat × am_I × Nat) := [(0, (3, 0, 2, 0, []), 1), (1, (3, 2, 0, 0, []), 2), (2, (24, 1, 2, 1288, []), 5), (5, (3, 0, 2, 0, []), 6), (6, (3, 3, 0, 0, []), 7), (7, (24, 1, 2, 1289, []), 10), (10, (3, 0, 2, 0, []), 11), (11, (3, 4, 0, 0, []), 13), (13, (0, 0, 0, 3, []), 14), (14, (24, 16, 2, 0, []), 17), (17, (24, 1, 2, 1290, []), 20), (20, (3, 0, 2, 0, []), 21), (21, (0, 0, 0, -1, []), 22), (22, (24, 1, 2, 1281, []), 25), (25, (3, 0, 2, 0, []), 26), (26, (3, 0, 2, 0, []), 27), (27, (3, 1, 2, 0, []), 28), (28, (0, 0, 0, 0, []), 29), (29, (0, 0, 0, -1000000, []), 31), (31, (0, 0, 0, 1000000, []), 33), (33, (21, 119, 5, 0, []), 36), (36, (24, 1, 2, 1280, []), 39), (39, (23, 0, 0, 0, []), 40)]
/-- WashingLines$Seeker.bestFrom(LWashingLines$Hours;III)I -/
def am_c119 : List (Nat × am_I × Nat) := [(0, (3, 2, 0, 0, []), 1), (1, (16, 2, 17, 0, []), 4), (4, (3, 2, 0, 0, []), 5), (5, (3, 0, 2, 0, []), 6), (6, (24, 0, 1, 1290, []), 9), (9, (15, 3, 17, 0, []), 12), (12, (3, 2, 0, 0, []), 13), (13, (0, 0, 0, 3, []), 14), (14, (15, 2, 41, 0, []), 17), (17, (3, 1, 2, 0, []), 18), (18, (24, 0, 1, 1152, []), 21), (21, (3, 0, 2, 0, []), 22), (22, (24, 0, 1, 1288, []), 25), (25, (21, 115, 2, 0, []), 28), (28, (3, 1, 2, 0, []), 29), (29, (24, 0, 1, 1152, []), 32), (32, (3, 0, 2, 0, []), 33), (33, (24, 0, 1, 1289, []), 36), (36, (21, 115, 2, 0, []), 39), (39, (6, 1, 0, 0, []), 40), (40, (22, 0, 0, 0, []), 41), (41, (3, 0, 2, 0, []), 42), (42, (24, 0, 1, 1287, []), 45), (45, (3, 2, 0, 0, []), 46), (46, (24, 2, 2, 4, []), 47), (47, (3, 1, 2, 0, []), 48), (48, (24, 0, 1, 1152, []), 51), (51, (21, 58, 2, 0, []), 54), (54, (3, 2, 0, 0, []), 55), (55, (0, 0, 0, 2, []), 56), (56, (6, 10, 0, 0, []), 57), (57, (16, 1, 64, 0, []), 60), (60, (0, 0, 0, 1, []), 61), (61, (18, 0, 65, 0, []), 64), (64, (0, 0, 0, 0, []), 65), (65, (4, 5, 0, 0, []), 67), (67, (3, 5, 0, 0, []), 69), (69, (16, 0, 79, 0, []), 72), (72, (3, 0, 2, 0, []), 73), (73, (24, 0, 1, 1288, []), 76), (76, (18, 0, 83, 0, []), 79), (79, (3, 0, 2, 0, []), 80), (80, (24, 0, 1, 1289, []), 83), (83, (4, 6, 0, 0, []), 85), (85, (3, 5, 0, 0, []), 87), (87, (16, 0, 94, 0, []), 90), (90, (3, 3, 0, 0, []), 91), (91, (18, 0, 96, 0, []), 94), (94, (3, 4, 0, 0, []), 96), (96, (4, 7, 0, 0, []), 98), (98, (0, 0, 0, -1, []), 99), (99, (4, 8, 0, 0, []), 101), (101, (3, 8, 0, 0, []), 103), (103, (0, 0, 0, 60, []), 105), (105, (15, 3, 231, 0, []), 108), (108, (3, 5, 0, 0, []), 110), (110, (16, 0, 123, 0, []), 113), (113, (3, 7, 0, 0, []), 115), (115, (3, 4, 0, 0, []), 117), (117, (15, 3, 231, 0, []), 120), (120, (18, 0, 129, 0, []), 123), (123, (3, 7, 0, 0, []), 125), (125, (3, 3, 0, 0, []), 126), (126, (15, 5, 231, 0, []), 129), (129, (3, 1, 2, 0, []), 130), (130, (24, 0, 1, 1153, []), 133), (133, (3, 0, 2, 0, []), 134), (134, (24, 0, 1, 1287, []), 137), (137, (3, 2, 0, 0, []), 138), (138, (24, 2, 2, 4, []), 139), (139, (3, 6, 0, 0, []), 141), (141, (3, 8, 0, 0, []), 143), (143, (21, 120, 4, 1, []), 146), (146, (16, 0, 225, 0, []), 149), (149, (3, 0, 2, 0, []), 150), (150, (3, 1, 2, 0, []), 151), (151, (3, 2, 0, 0, []), 152), (152, (3, 8, 0, 0, []), 154), (154, (3, 5, 0, 0, []), 156), (156, (16, 0, 164, 0, []), 159), (159, (3, 7, 0, 0, []), 161), (161, (18, 0, 165, 0, []), 164), (164, (3, 3, 0, 0, []), 165), (165, (3, 5, 0, 0, []), 167), (167, (16, 0, 175, 0, []), 170), (170, (3, 4, 0, 0, []), 172), (172, (18, 0, 177, 0, []), 175), (175, (3, 7, 0, 0, []), 177), (177, (21, 121, 6, 0, []), 180), (180, (4, 9, 0, 0, []), 182), (182, (3, 5, 0, 0, []), 184), (184, (16, 0, 197, 0, []), 187), (187, (3, 9, 0, 0, []), 189), (189, (3, 7, 0, 0, []), 191), (191, (15, 5, 225, 0, []), 194), (194, (18, 0, 204, 0, []), 197), (197, (3, 9, 0, 0, []), 199), (199, (3, 7, 0, 0, []), 201), (201, (15, 3, 225, 0, []), 204), (204, (3, 9, 0, 0, []), 206), (206, (4, 7, 0, 0, []), 208), (208, (3, 0, 2, 0, []), 209), (209, (3, 2, 0, 0, []), 210), (210, (16, 1, 218, 0, []), 213), (213, (3, 8, 0, 0, []), 215), (215, (18, 0, 222, 0, []), 218), (218, (3, 0, 2, 0, []), 219), (219, (24, 0, 1, 1281, []), 222), (222, (24, 1, 2, 1281, []), 225), (225, (5, 8, 0, 1, []), 228), (228, (18, 0, 101, 0, []), 231), (231, (3, 7, 0, 0, []), 233), (233, (22, 0, 0, 0, []), 234)]
/-- WashingLines$Seeker.mayAct(LWashingLines$Court;LWashingLines$Yard;II)Z -/
def am_c120 : List (Nat × am_I × Nat) := [(0, (3, 3, 0, 0, []), 1), (1, (0, 0, 0, -1, []), 2), (2, (15, 1, 7, 0, []), 5), (5, (0, 0, 0, 1, []), 6), (6, (22, 1, 0, 0, []), 7), (7, (3, 3, 0, 0, []), 8), (8, (0, 0, 0, 10, []), 10), (10, (6, 10, 0, 0, []), 11), (11, (4, 4, 0, 0, []), 13), (13, (3, 0, 2, 0, []), 14), (14, (3, 4, 0, 0, []), 16), (16, (21, 49, 2, 0, []), 19), (19, (16, 0, 51, 0, []), 22), (22, (3, 0, 2, 0, []), 23), (23, (24, 0, 1, 395, []), 26), (26, (3, 4, 0, 0, []), 28), (28, (24, 2, 2, 0, []), 29), (29, (3, 2, 0, 0, []), 30), (30, (15, 1, 51, 0, []), 33), (33, (3, 1, 2, 0, []), 34), (34, (3, 0, 2, 0, []), 35), (35, (3, 4, 0, 0, []), 37), (37, (3, 3, 0, 0, []), 38), (38, (0, 0, 0, 10, []), 40), (40, (6, 9, 0, 0, []), 41), (41, (21, 48, 4, 0, []), 44), (44, (16, 0, 51, 0, []), 47), (47, (0, 0, 0, 1, []), 48), (48, (18, 0, 52, 0, []), 51), (51, (0, 0, 0, 0, []), 52), (52, (22, 1, 0, 0, []), 53)]
/-- WashingLines$Seeker.bestBehind(LWashingLines$Hours;IIII)I -/
def am_c121 : List (Nat × am_I × Nat) := [(0, (3, 1, 2, 0, []), 1), (1, (24, 0, 1, 1152, []), 4), (4, (3, 0, 2, 0, []), 5), (5, (24, 0, 1, 1287, []), 8), (8, (3, 2, 0, 0, []), 9), (9, (24, 2, 2, 4, []), 10), (10, (21, 58, 2, 0, []), 13), (13, (3, 3, 0, 0, []), 14), (14, (0, 0, 0, -1, []), 15), (15, (15, 0, 37, 0, []), 18), (18, (3, 1, 2, 0, []), 19), (19, (24, 0, 1, 1152, []), 22), (22, (3, 1, 2, 0, []), 23), (23, (24, 0, 1, 1153, []), 26), (26, (3, 3, 0, 0, []), 27), (27, (0, 0, 0, 10, []), 29), (29, (6, 10, 0, 0, []), 30), (30, (3, 3, 0, 0, []), 31), (31, (0, 0, 0, 10, []), 33), (33, (6, 9, 0, 0, []), 34), (34, (21, 54, 4, 0, []), 37), (37, (3, 1, 2, 0, []), 38), (38, (0, 0, 0, 0, []), 39), (39, (21, 94, 2, 0, []), 42), (42, (14, 0, 0, 0, []), 43), (43, (3, 0, 2, 0, []), 44), (44, (3, 1, 2, 0, []), 45), (45, (3, 2, 0, 0, []), 46), (46, (0, 0, 0, 1, []), 47), (47, (6, 0, 0, 0, []), 48), (48, (3, 4, 0, 0, []), 50), (50, (3, 5, 0, 0, []), 52), (52, (21, 119, 5, 0, []), 55), (55, (22, 0, 0, 0, []), 56)]
/-- WashingLines.free(II)I -/
def am_c122 : List (Nat × am_I × Nat) := [(0, (3, 0, 2, 0, []), 1), (1, (24, 0, 1, 4, []), 4), (4, (24, 0, 1, 1024, []), 7), (7, (3, 1, 0, 0, []), 8), (8, (21, 50, 2, 0, []), 11), (11, (16, 0, 23, 0, []), 14), (14, (3, 2, 0, 0, []), 15), (15, (16, 2, 23, 0, []), 18), (18, (3, 2, 0, 0, []), 19), (19, (0, 0, 0, 1, []), 20), (20, (15, 5, 25, 0, []), 23), (23, (0, 0, 0, -1, []), 24), (24, (22, 0, 0, 0, []), 25), (25, (3, 0, 2, 0, []), 26), (26, (21, 75, 1, 0, []), 29), (29, (3, 0, 2, 0, []), 30), (30, (24, 0, 1, 7, []), 33), (33, (3, 0, 2, 0, []), 34), (34, (24, 0, 1, 6, []), 37), (37, (3, 0, 2, 0, []), 38), (38, (24, 0, 1, 4, []), 41), (41, (24, 0, 1, 1025, []), 44), (44, (3, 1, 0, 0, []), 45), (45, (0, 0, 0, -1, []), 46), (46, (21, 123, 5, 0, []), 49), (49, (3, 2, 0, 0, []), 50), (50, (21, 126, 2, 1, []), 53), (53, (22, 0, 0, 0, []), 54)]
/-- WashingLines$Seeker.leastSet(LWashingLines$Hours;LWashingLines$Yard;II)I -/
def am_c123 : List (Nat × am_I × Nat) := [(0, (3, 1, 2, 0, []), 1), (1, (24, 0, 1, 1153, []), 4), (4, (4, 5, 2, 0, []), 6), (6, (3, 4, 0, 0, []), 8), (8, (0, 0, 0, -1, []), 9), (9, (15, 1, 20, 0, []), 12), (12, (3, 2, 2, 0, []), 13), (13, (3, 3, 0, 0, []), 14), (14, (21, 89, 2, 0, []), 17), (17, (18, 0, 34, 0, []), 20), (20, (3, 5, 2, 0, []), 22), (22, (3, 4, 0, 0, []), 24), (24, (21, 87, 2, 0, []), 27), (27, (3, 2, 2, 0, []), 28), (28, (21, 124, 1, 0, []), 31), (31, (0, 0, 0, -1, []), 32), (32, (6, 5, 0, 0, []), 33), (33, (6, 3, 0, 0, []), 34), (34, (4, 6, 0, 0, []), 36), (36, (0, 0, 0, -1, []), 37), (37, (4, 7, 0, 0, []), 39), (39, (0, 0, 0, 0, []), 40), (40, (4, 8, 0, 0, []), 42), (42, (3, 8, 0, 0, []), 44), (44, (0, 0, 0, 1024, []), 47), (47, (15, 3, 150, 0, []), 50), (50, (3, 7, 0, 0, []), 52), (52, (0, 0, 0, -1, []), 53), (53, (15, 0, 69, 0, []), 56), (56, (3, 8, 0, 0, []), 58), (58, (21, 273, 1, 1, []), 61), (61, (3, 7, 0, 0, []), 63), (63, (21, 273, 1, 1, []), 66), (66, (15, 3, 73, 0, []), 69), (69, (0, 0, 0, 1, []), 70), (70, (18, 0, 74, 0, []), 73), (73, (0, 0, 0, 0, []), 74), (74, (4, 9, 0, 0, []), 76), (76, (3, 8, 0, 0, []), 78), (78, (3, 6, 0, 0, []), 80), (80, (0, 0, 0, -1, []), 81), (81, (6, 5, 0, 0, []), 82), (82, (6, 3, 0, 0, []), 83), (83, (16, 1, 144, 0, []), 86), (86, (3, 9, 0, 0, []), 88), (88, (16, 0, 144, 0, []), 91), (91, (3, 1, 2, 0, []), 92), (92, (24, 0, 1, 1152, []), 95), (95, (3, 2, 2, 0, []), 96), (96, (21, 58, 2, 0, []), 99), (99, (3, 1, 2, 0, []), 100), (100, (3, 8, 0, 0, []), 102), (102, (3, 3, 0, 0, []), 103), (103, (3, 4, 0, 0, []), 105), (105, (0, 0, 0, -1, []), 106), (106, (15, 0, 113, 0, []), 109), (109, (0, 0, 0, 1, []), 110), (110, (18, 0, 114, 0, []), 113), (113, (0, 0, 0, 0, []), 114), (114, (21, 125, 4, 1, []), 117), (117, (16, 0, 144, 0, []), 120), (120, (3, 1, 2, 0, []), 121), (121, (0, 0, 0, 0, []), 122), (122, (21, 78, 2, 0, []), 125), (125, (3, 1, 2, 0, []), 126), (126, (3, 3, 0, 0, []), 127), (127, (21, 81, 2, 0, []), 130), (130, (3, 4, 0, 0, []), 132), (132, (15, 1, 140, 0, []), 135), (135, (3, 8, 0, 0, []), 137), (137, (18, 0, 142, 0, []), 140), (140, (3, 7, 0, 0, []), 142), (142, (4, 7, 0, 0, []), 144), (144, (5, 8, 0, 1, []), 147), (147, (18, 0, 42, 0, []), 150), (150, (3, 7, 0, 0, []), 152), (152, (22, 0, 0, 0, []), 153)]
/-- WashingLines$Yard.linenUp()I -/
def am_c124 : List (Nat × am_I × Nat) := [(0, (0, 0, 0, 0, []), 1), (1, (4, 1, 0, 0, []), 2), (2, (0, 0, 0, 0, []), 3), (3, (4, 2, 0, 0, []), 4), (4, (3, 2, 0, 0, []), 5), (5, (0, 0, 0, 10, []), 7), (7, (15, 3, 32, 0, []), 10), (10, (3, 0, 2, 0, []), 11), (11, (24, 0, 1, 515, []), 14), (14, (3, 2, 0, 0, []), 15), (15, (24, 2, 2, 0, []), 16), (16, (0, 0, 0, -1, []), 17), (17, (15, 0, 26, 0, []), 20), (20, (3, 1, 0, 0, []), 21), (21, (0, 0, 0, 1, []), 22), (22, (3, 2, 0, 0, []), 23), (23, (6, 6, 0, 0, []), 24), (24, (6, 4, 0, 0, []), 25), (25, (4, 1, 0, 0, []), 26), (26, (5, 2, 0, 1, []), 29), (29, (18, 0, 4, 0, []), 32), (32, (3, 1, 0, 0, []), 33), (33, (22, 0, 0, 0, []), 34)]
/-- WashingLines$Seeker.moveAll(LWashingLines$Hours;IIZ)Z -/
def am_c125 : List (Nat × am_I × Nat) := [(0, (0, 0, 0, 0, []), 1), (1, (4, 4, 0, 0, []), 3), (3, (3, 4, 0, 0, []), 5), (5, (0, 0, 0, 10, []), 7), (7, (15, 3, 82, 0, []), 10), (10, (3, 1, 0, 0, []), 11), (11, (3, 4, 0, 0, []), 13), (13, (6, 7, 0, 0, []), 14), (14, (0, 0, 0, 1, []), 15), (15, (6, 3, 0, 0, []), 16), (16, (16, 0, 76, 0, []), 19), (19, (3, 3, 0, 0, []), 20), (20, (16, 0, 42, 0, []), 23), (23, (3, 0, 2, 0, []), 24), (24, (24, 0, 1, 1152, []), 27), (27, (3, 0, 2, 0, []), 28), (28, (24, 0, 1, 1153, []), 31), (31, (3, 4, 0, 0, []), 33), (33, (3, 2, 0, 0, []), 34), (34, (21, 48, 4, 0, []), 37), (37, (16, 1, 42, 0, []), 40), (40, (0, 0, 0, 0, []), 41), (41, (22, 1, 0, 0, []), 42), (42, (3, 3, 0, 0, []), 43), (43, (16, 0, 63, 0, []), 46), (46, (3, 0, 2, 0, []), 47), (47, (24, 0, 1, 1152, []), 50), (50, (3, 0, 2, 0, []), 51), (51, (24, 0, 1, 1153, []), 54), (54, (3, 4, 0, 0, []), 56), (56, (3, 2, 0, 0, []), 57), (57, (21, 54, 4, 0, []), 60), (60, (18, 0, 76, 0, []), 63), (63, (3, 0, 2, 0, []), 64), (64, (24, 0, 1, 1152, []), 67), (67, (3, 0, 2, 0, []), 68), (68, (24, 0, 1, 1153, []), 71), (71, (3, 4, 0, 0, []), 73), (73, (21, 99, 3, 0, []), 76), (76, (5, 4, 0, 1, []), 79), (79, (18, 0, 3, 0, []), 82), (82, (0, 0, 0, 1, []), 83), (83, (22, 1, 0, 0, []), 84)]
/-- WashingLines.sizeOrSet(II)I -/
def am_c126 : List (Nat × am_I × Nat) := [(0, (3, 0, 0, 0, []), 1), (1, (0, 0, 0, -1, []), 2), (2, (15, 1, 8, 0, []), 5), (5, (0, 0, 0, -2, []), 7), (7, (22, 0, 0, 0, []), 8), (8, (3, 1, 0, 0, []), 9), (9, (16, 1, 19, 0, []), 12), (12, (3, 0, 0, 0, []), 13), (13, (21, 273, 1, 1, []), 16), (16, (18, 0, 20, 0, []), 19), (19, (3, 0, 0, 0, []), 20), (20, (22, 0, 0, 0, []), 21)]
/-- WashingLines.few(III)I -/
def am_c127 : List (Nat × am_I × Nat) := [(0, (3, 0, 2, 0, []), 1), (1, (24, 0, 1, 4, []), 4), (4, (24, 0, 1, 1024, []), 7), (7, (3, 1, 0, 0, []), 8), (8, (21, 51, 2, 0, []), 11), (11, (16, 0, 37, 0, []), 14), (14, (3, 0, 2, 0, []), 15), (15, (24, 0, 1, 4, []), 18), (18, (24, 0, 1, 1024, []), 21), (21, (3, 2, 0, 0, []), 22), (22, (21, 50, 2, 0, []), 25), (25, (16, 0, 37, 0, []), 28), (28, (3, 3, 0, 0, []), 29), (29, (16, 2, 37, 0, []), 32), (32, (3, 3, 0, 0, []), 33), (33, (0, 0, 0, 1, []), 34), (34, (15, 5, 39, 0, []), 37), (37, (0, 0, 0, -1, []), 38), (38, (22, 0, 0, 0, []), 39), (39, (3, 0, 2, 0, []), 40), (40, (21, 75, 1, 0, []), 43), (43, (3, 0, 2, 0, []), 44), (44, (24, 0, 1, 7, []), 47), (47, (3, 0, 2, 0, []), 48), (48, (24, 0, 1, 6, []), 51), (51, (3, 0, 2, 0, []), 52), (52, (24, 0, 1, 4, []), 55), (55, (24, 0, 1, 1025, []), 58), (58, (3, 2, 0, 0, []), 59), (59, (3, 1, 0, 0, []), 60), (60, (21, 123, 5, 0, []), 63), (63, (3, 3, 0, 0, []), 64), (64, (21, 126, 2, 1, []), 67), (67, (22, 0, 0, 0, []), 68)]
/-- WashingLines.way(III)I -/
def am_c128 : List (Nat × am_I × Nat) := [(0, (3, 1, 0, 0, []), 1), (1, (16, 2, 24, 0, []), 4), (4, (3, 1, 0, 0, []), 5), (5, (0, 0, 0, 8, []), 7), (7, (15, 3, 24, 0, []), 10), (10, (3, 2, 0, 0, []), 11), (11, (16, 2, 24, 0, []), 14), (14, (3, 2, 0, 0, []), 15), (15, (0, 0, 0, 8, []), 17), (17, (15, 3, 24, 0, []), 20), (20, (0, 0, 0, 1, []), 21), (21, (18, 0, 25, 0, []), 24), (24, (0, 0, 0, 0, []), 25), (25, (4, 4, 0, 0, []), 27), (27, (3, 0, 2, 0, []), 28), (28, (24, 0, 1, 4, []), 31), (31, (24, 0, 1, 1024, []), 34), (34, (24, 0, 1, 384, []), 37), (37, (16, 0, 54, 0, []), 40), (40, (3, 4, 0, 0, []), 42), (42, (16, 0, 54, 0, []), 45), (45, (3, 3, 0, 0, []), 46), (46, (16, 2, 54, 0, []), 49), (49, (3, 3, 0, 0, []), 50), (50, (0, 0, 0, 1, []), 51), (51, (15, 5, 57, 0, []), 54), (54, (0, 0, 0, -3, []), 56), (56, (22, 0, 0, 0, []), 57), (57, (3, 0, 2, 0, []), 58), (58, (24, 0, 1, 7, []), 61), (61, (3, 0, 2, 0, []), 62), (62, (24, 0, 1, 4, []), 65), (65, (24, 0, 1, 1024, []), 68), (68, (3, 0, 2, 0, []), 69), (69, (24, 0, 1, 4, []), 72), (72, (24, 0, 1, 1025, []), 75), (75, (3, 1, 0, 0, []), 76), (76, (3, 2, 0, 0, []), 77), (77, (21, 129, 5, 0, []), 80), (80, (16, 0, 107, 0, []), 83), (83, (3, 3, 0, 0, []), 84), (84, (16, 1, 97, 0, []), 87), (87, (3, 0, 2, 0, []), 88), (88, (24, 0, 1, 7, []), 91), (91, (24, 0, 1, 1280, []), 94), (94, (18, 0, 109, 0, []), 97), (97, (3, 0, 2, 0, []), 98), (98, (24, 0, 1, 7, []), 101), (101, (24, 0, 1, 1282, []), 104), (104, (18, 0, 109, 0, []), 107), (107, (0, 0, 0, -2, []), 109), (109, (22, 0, 0, 0, []), 110)]
/-- WashingLines$Seeker.seekWay(LWashingLines$Court;LWashingLines$Yard;II)Z -/
def am_c129 : List (Nat × am_I × Nat) := [(0, (0, 0, 0, 0, []), 1), (1, (4, 5, 0, 0, []), 3), (3, (3, 5, 0, 0, []), 5), (5, (0, 0, 0, 8, []), 7), (7, (15, 3, 36, 0, []), 10), (10, (3, 0, 2, 0, []), 11), (11, (24, 0, 1, 1291, []), 14), (14, (3, 5, 0, 0, []), 16), (16, (3, 5, 0, 0, []), 18), (18, (3, 4, 0, 0, []), 20), (20, (15, 1, 27, 0, []), 23), (23, (0, 0, 0, 0, []), 24), (24, (18, 0, 29, 0, []), 27), (27, (0, 0, 0, 1000000, []), 29), (29, (24, 3, 3, 0, []), 30), (30, (5, 5, 0, 1, []), 33), (33, (18, 0, 3, 0, []), 36), (36, (0, 0, 0, 1, []), 37), (37, (4, 5, 0, 0, []), 39), (39, (3, 5, 0, 0, []), 41), (41, (0, 0, 0, 8, []), 43), (43, (15, 3, 94, 0, []), 46), (46, (0, 0, 0, 0, []), 47), (47, (4, 6, 0, 0, []), 49), (49, (3, 6, 0, 0, []), 51), (51, (0, 0, 0, 6, []), 53), (53, (15, 3, 88, 0, []), 56), (56, (3, 1, 2, 0, []), 57), (57, (3, 6, 0, 0, []), 59), (59, (21, 50, 2, 0, []), 62), (62, (16, 0, 82, 0, []), 65), (65, (3, 2, 2, 0, []), 66), (66, (24, 0, 1, 514, []), 69), (69, (3, 6, 0, 0, []), 71), (71, (24, 2, 2, 0, []), 72), (72, (16, 1, 82, 0, []), 75), (75, (3, 0, 2, 0, []), 76), (76, (3, 1, 2, 0, []), 77), (77, (3, 6, 0, 0, []), 79), (79, (21, 130, 3, 0, []), 82), (82, (5, 6, 0, 1, []), 85), (85, (18, 0, 49, 0, []), 88), (88, (5, 5, 0, 1, []), 91), (91, (18, 0, 39, 0, []), 94), (94, (3, 0, 2, 0, []), 95), (95, (3, 3, 0, 0, []), 96), (96, (21, 131, 2, 0, []), 99), (99, (4, 5, 0, 0, []), 101), (101, (3, 0, 2, 0, []), 102), (102, (3, 5, 0, 0, []), 104), (104, (0, 0, 0, 16, []), 106), (106, (6, 9, 0, 0, []), 107), (107, (24, 1, 2, 1280, []), 110), (110, (3, 0, 2, 0, []), 111), (111, (0, 0, 0, -1, []), 112), (112, (24, 1, 2, 1282, []), 115), (115, (0, 0, 0, 5, []), 116), (116, (4, 6, 0, 0, []), 118), (118, (3, 6, 0, 0, []), 120), (120, (16, 2, 173, 0, []), 123), (123, (3, 3, 0, 0, []), 124), (124, (3, 4, 0, 0, []), 126), (126, (15, 0, 173, 0, []), 129), (129, (3, 1, 2, 0, []), 130), (130, (3, 6, 0, 0, []), 132), (132, (21, 50, 2, 0, []), 135), (135, (16, 0, 167, 0, []), 138), (138, (3, 2, 2, 0, []), 139), (139, (24, 0, 1, 514, []), 142), (142, (3, 6, 0, 0, []), 144), (144, (24, 2, 2, 0, []), 145), (145, (16, 1, 167, 0, []), 148), (148, (3, 0, 2, 0, []), 149), (149, (3, 1, 2, 0, []), 150), (150, (3, 6, 0, 0, []), 152), (152, (3, 3, 0, 0, []), 153), (153, (3, 5, 0, 0, []), 155), (155, (21, 132, 5, 0, []), 158), (158, (16, 0, 167, 0, []), 161), (161, (3, 0, 2, 0, []), 162), (162, (3, 6, 0, 0, []), 164), (164, (24, 1, 2, 1282, []), 167), (167, (5, 6, 0, -1, []), 170), (170, (18, 0, 118, 0, []), 173), (173, (3, 5, 0, 0, []), 175), (175, (0, 0, 0, 1000000, []), 177), (177, (15, 3, 184, 0, []), 180), (180, (0, 0, 0, 1, []), 181), (181, (18, 0, 185, 0, []), 184), (184, (0, 0, 0, 0, []), 185), (185, (22, 1, 0, 0, []), 186)]
/-- WashingLines$Seeker.relax(LWashingLines$Court;I)V -/
def am_c130 : List (Nat × am_I × Nat) := [(0, (3, 1, 2, 0, []), 1), (1, (24, 0, 1, 391, []), 4), (4, (3, 2, 0, 0, []), 5), (5, (24, 2, 2, 0, []), 6), (6, (4, 3, 0, 0, []), 7), (7, (3, 1, 2, 0, []), 8), (8, (24, 0, 1, 392, []), 11), (11, (3, 2, 0, 0, []), 12), (12, (24, 2, 2, 0, []), 13), (13, (4, 4, 0, 0, []), 15), (15, (3, 3, 0, 0, []), 16), (16, (16, 2, 101, 0, []), 19), (19, (3, 3, 0, 0, []), 20), (20, (0, 0, 0, 8, []), 22), (22, (15, 3, 101, 0, []), 25), (25, (3, 4, 0, 0, []), 27), (27, (16, 2, 101, 0, []), 30), (30, (3, 4, 0, 0, []), 32), (32, (0, 0, 0, 8, []), 34), (34, (15, 3, 101, 0, []), 37), (37, (0, 0, 0, 16, []), 39), (39, (3, 1, 2, 0, []), 40), (40, (24, 0, 1, 393, []), 43), (43, (3, 2, 0, 0, []), 44), (44, (24, 2, 2, 0, []), 45), (45, (6, 2, 0, 0, []), 46), (46, (0, 0, 0, 1, []), 47), (47, (6, 0, 0, 0, []), 48), (48, (4, 5, 0, 0, []), 50), (50, (3, 0, 2, 0, []), 51), (51, (24, 0, 1, 1291, []), 54), (54, (3, 3, 0, 0, []), 55), (55, (3, 0, 2, 0, []), 56), (56, (24, 0, 1, 1291, []), 59), (59, (3, 3, 0, 0, []), 60), (60, (24, 2, 2, 0, []), 61), (61, (3, 0, 2, 0, []), 62), (62, (24, 0, 1, 1291, []), 65), (65, (3, 4, 0, 0, []), 67), (67, (24, 2, 2, 0, []), 68), (68, (3, 5, 0, 0, []), 70), (70, (6, 0, 0, 0, []), 71), (71, (24, 16, 2, 0, []), 74), (74, (24, 3, 3, 0, []), 75), (75, (3, 0, 2, 0, []), 76), (76, (24, 0, 1, 1291, []), 79), (79, (3, 4, 0, 0, []), 81), (81, (3, 0, 2, 0, []), 82), (82, (24, 0, 1, 1291, []), 85), (85, (3, 4, 0, 0, []), 87), (87, (24, 2, 2, 0, []), 88), (88, (3, 0, 2, 0, []), 89), (89, (24, 0, 1, 1291, []), 92), (92, (3, 3, 0, 0, []), 93), (93, (24, 2, 2, 0, []), 94), (94, (3, 5, 0, 0, []), 96), (96, (6, 0, 0, 0, []), 97), (97, (24, 16, 2, 0, []), 100), (100, (24, 3, 3, 0, []), 101), (101, (23, 0, 0, 0, []), 102)]
/-- WashingLines$Seeker.distanceFrom(I)I -/
def am_c131 : List (Nat × am_I × Nat) := [(0, (3, 1, 0, 0, []), 1), (1, (16, 2, 19, 0, []), 4), (4, (3, 1, 0, 0, []), 5), (5, (0, 0, 0, 8, []), 7), (7, (15, 3, 19, 0, []), 10), (10, (3, 0, 2, 0, []), 11), (11, (24, 0, 1, 1291, []), 14), (14, (3, 1, 0, 0, []), 15), (15, (24, 2, 2, 0, []), 16), (16, (18, 0, 21, 0, []), 19), (19, (0, 0, 0, 1000000, []), 21), (21, (22, 0, 0, 0, []), 22)]
/-- WashingLines$Seeker.leadsOn(LWashingLines$Court;III)Z -/
def am_c132 : List (Nat × am_I × Nat) := [(0, (0, 0, 0, 16, []), 2), (2, (3, 1, 2, 0, []), 3), (3, (24, 0, 1, 393, []), 6), (6, (3, 2, 0, 0, []), 7), (7, (24, 2, 2, 0, []), 8), (8, (6, 2, 0, 0, []), 9), (9, (0, 0, 0, 1, []), 10), (10, (6, 0, 0, 0, []), 11), (11, (4, 5, 0, 0, []), 13), (13, (3, 1, 2, 0, []), 14), (14, (24, 0, 1, 391, []), 17), (17, (3, 2, 0, 0, []), 18), (18, (24, 2, 2, 0, []), 19), (19, (3, 3, 0, 0, []), 20), (20, (15, 1, 41, 0, []), 23), (23, (3, 0, 2, 0, []), 24), (24, (3, 1, 2, 0, []), 25), (25, (24, 0, 1, 392, []), 28), (28, (3, 2, 0, 0, []), 29), (29, (24, 2, 2, 0, []), 30), (30, (21, 131, 2, 0, []), 33), (33, (3, 5, 0, 0, []), 35), (35, (6, 0, 0, 0, []), 36), (36, (3, 4, 0, 0, []), 38), (38, (15, 0, 69, 0, []), 41), (41, (3, 1, 2, 0, []), 42), (42, (24, 0, 1, 392, []), 45), (45, (3, 2, 0, 0, []), 46), (46, (24, 2, 2, 0, []), 47), (47, (3, 3, 0, 0, []), 48), (48, (15, 1, 73, 0, []), 51), (51, (3, 0, 2, 0, []), 52), (52, (3, 1, 2, 0, []), 53), (53, (24, 0, 1, 391, []), 56), (56, (3, 2, 0, 0, []), 57), (57, (24, 2, 2, 0, []), 58), (58, (21, 131, 2, 0, []), 61), (61, (3, 5, 0, 0, []), 63), (63, (6, 0, 0, 0, []), 64), (64, (3, 4, 0, 0, []), 66), (66, (15, 1, 73, 0, []), 69), (69, (0, 0, 0, 1, []), 70), (70, (18, 0, 74, 0, []), 73), (73, (0, 0, 0, 0, []), 74), (74, (22, 1, 0, 0, []), 75)]
/-- WashingLines.bears(I)I -/
def am_c133 : List (Nat × am_I × Nat) := [(0, (3, 0, 2, 0, []), 1), (1, (24, 0, 1, 4, []), 4), (4, (24, 0, 1, 1024, []), 7), (7, (3, 1, 0, 0, []), 8), (8, (21, 50, 2, 0, []), 11), (11, (16, 1, 17, 0, []), 14), (14, (0, 0, 0, -2, []), 16), (16, (22, 0, 0, 0, []), 17), (17, (0, 0, 0, -1, []), 18), (18, (4, 2, 0, 0, []), 19), (19, (0, 0, 0, 0, []), 20), (20, (4, 3, 0, 0, []), 21), (21, (3, 3, 0, 0, []), 22), (22, (0, 0, 0, 99, []), 24), (24, (15, 4, 57, 0, []), 27), (27, (3, 0, 2, 0, []), 28), (28, (24, 0, 1, 4, []), 31), (31, (24, 0, 1, 1025, []), 34), (34, (3, 0, 2, 0, []), 35), (35, (24, 0, 1, 4, []), 38), (38, (24, 0, 1, 1024, []), 41), (41, (3, 1, 0, 0, []), 42), (42, (3, 3, 0, 0, []), 43), (43, (21, 134, 4, 0, []), 46), (46, (16, 0, 57, 0, []), 49), (49, (3, 3, 0, 0, []), 50), (50, (4, 2, 0, 0, []), 51), (51, (5, 3, 0, 1, []), 54), (54, (18, 0, 21, 0, []), 57), (57, (3, 2, 0, 0, []), 58), (58, (22, 0, 0, 0, []), 59)]
/-- WashingLines$Yard.bearsForce(LWashingLines$Court;II)Z -/
def am_c134 : List (Nat × am_I × Nat) := [(0, (3, 0, 2, 0, []), 1), (1, (3, 1, 2, 0, []), 2), (2, (3, 2, 0, 0, []), 3), (3, (21, 53, 3, 0, []), 6), (6, (3, 3, 0, 0, []), 7), (7, (6, 2, 0, 0, []), 8), (8, (4, 4, 0, 0, []), 10), (10, (0, 0, 0, 0, []), 11), (11, (4, 5, 0, 0, []), 13), (13, (3, 5, 0, 0, []), 15), (15, (0, 0, 0, 10, []), 17), (17, (15, 3, 49, 0, []), 20), (20, (3, 0, 2, 0, []), 21), (21, (24, 0, 1, 515, []), 24), (24, (3, 5, 0, 0, []), 26), (26, (24, 2, 2, 0, []), 27), (27, (3, 2, 0, 0, []), 28), (28, (15, 1, 43, 0, []), 31), (31, (3, 4, 0, 0, []), 33), (33, (3, 0, 2, 0, []), 34), (34, (24, 0, 1, 516, []), 37), (37, (3, 5, 0, 0, []), 39), (39, (24, 2, 2, 0, []), 40), (40, (6, 0, 0, 0, []), 41), (41, (4, 4, 0, 0, []), 43), (43, (5, 5, 0, 1, []), 46), (46, (18, 0, 13, 0, []), 49), (49, (3, 1, 2, 0, []), 50), (50, (3, 2, 0, 0, []), 51), (51, (21, 50, 2, 0, []), 54), (54, (16, 0, 72, 0, []), 57), (57, (3, 4, 0, 0, []), 59), (59, (3, 1, 2, 0, []), 60), (60, (24, 0, 1, 394, []), 63), (63, (3, 2, 0, 0, []), 64), (64, (24, 2, 2, 0, []), 65), (65, (15, 4, 72, 0, []), 68), (68, (0, 0, 0, 1, []), 69), (69, (18, 0, 73, 0, []), 72), (72, (0, 0, 0, 0, []), 73), (73, (22, 1, 0, 0, []), 74)]
/-- WashingLines.storm(I)I -/
def am_c135 : List (Nat × am_I × Nat) := [(0, (3, 0, 2, 0, []), 1), (1, (24, 0, 1, 4, []), 4), (4, (24, 0, 1, 1024, []), 7), (7, (24, 0, 1, 384, []), 10), (10, (16, 0, 23, 0, []), 13), (13, (3, 1, 0, 0, []), 14), (14, (16, 2, 23, 0, []), 17), (17, (3, 1, 0, 0, []), 18), (18, (0, 0, 0, 99, []), 20), (20, (15, 5, 25, 0, []), 23), (23, (0, 0, 0, -1, []), 24), (24, (22, 0, 0, 0, []), 25), (25, (0, 0, 0, 0, []), 26), (26, (4, 2, 0, 0, []), 27), (27, (0, 0, 0, 0, []), 28), (28, (4, 3, 0, 0, []), 29), (29, (3, 3, 0, 0, []), 30), (30, (0, 0, 0, 6, []), 32), (32, (15, 3, 98, 0, []), 35), (35, (3, 0, 2, 0, []), 36), (36, (24, 0, 1, 4, []), 39), (39, (24, 0, 1, 1024, []), 42), (42, (3, 3, 0, 0, []), 43), (43, (21, 50, 2, 0, []), 46), (46, (16, 0, 92, 0, []), 49), (49, (3, 0, 2, 0, []), 50), (50, (24, 0, 1, 4, []), 53), (53, (24, 0, 1, 1025, []), 56), (56, (24, 0, 1, 514, []), 59), (59, (3, 3, 0, 0, []), 60), (60, (24, 2, 2, 0, []), 61), (61, (16, 1, 92, 0, []), 64), (64, (3, 0, 2, 0, []), 65), (65, (24, 0, 1, 4, []), 68), (68, (24, 0, 1, 1025, []), 71), (71, (3, 0, 2, 0, []), 72), (72, (24, 0, 1, 4, []), 75), (75, (24, 0, 1, 1024, []), 78), (78, (3, 3, 0, 0, []), 79), (79, (3, 1, 0, 0, []), 80), (80, (21, 134, 4, 0, []), 83), (83, (16, 1, 92, 0, []), 86), (86, (3, 2, 0, 0, []), 87), (87, (0, 0, 0, 1, []), 88), (88, (3, 3, 0, 0, []), 89), (89, (6, 6, 0, 0, []), 90), (90, (6, 4, 0, 0, []), 91), (91, (4, 2, 0, 0, []), 92), (92, (5, 3, 0, 1, []), 95), (95, (18, 0, 29, 0, []), 98), (98, (3, 2, 0, 0, []), 99), (99, (22, 0, 0, 0, []), 100)]
/-- WashingLines.worth(II)I -/
def am_c136 : List (Nat × am_I × Nat) := [(0, (3, 0, 2, 0, []), 1), (1, (24, 0, 1, 4, []), 4), (4, (3, 1, 0, 0, []), 5), (5, (21, 98, 2, 0, []), 8), (8, (16, 0, 22, 0, []), 11), (11, (3, 2, 0, 0, []), 12), (12, (0, 0, 0, 1, []), 13), (13, (15, 2, 22, 0, []), 16), (16, (3, 2, 0, 0, []), 17), (17, (0, 0, 0, 60, []), 19), (19, (15, 5, 25, 0, []), 22), (22, (0, 0, 0, -100000, []), 24), (24, (22, 0, 0, 0, []), 25), (25, (3, 0, 2, 0, []), 26), (26, (24, 0, 1, 4, []), 29), (29, (24, 0, 1, 1024, []), 32), (32, (24, 0, 1, 395, []), 35), (35, (3, 1, 0, 0, []), 36), (36, (24, 2, 2, 0, []), 37), (37, (4, 3, 0, 0, []), 38), (38, (3, 0, 2, 0, []), 39), (39, (21, 75, 1, 0, []), 42), (42, (3, 0, 2, 0, []), 43), (43, (24, 0, 1, 6, []), 46), (46, (3, 2, 0, 0, []), 47), (47, (21, 107, 2, 0, []), 50), (50, (3, 0, 2, 0, []), 51), (51, (24, 0, 1, 6, []), 54), (54, (24, 0, 1, 1152, []), 57), (57, (3, 3, 0, 0, []), 58), (58, (21, 115, 2, 0, []), 61), (61, (4, 4, 0, 0, []), 63), (63, (3, 0, 2, 0, []), 64), (64, (21, 75, 1, 0, []), 67), (67, (3, 0, 2, 0, []), 68), (68, (24, 0, 1, 6, []), 71), (71, (24, 0, 1, 1152, []), 74), (74, (3, 0, 2, 0, []), 75), (75, (24, 0, 1, 4, []), 78), (78, (24, 0, 1, 1024, []), 81), (81, (3, 1, 0, 0, []), 82), (82, (21, 99, 3, 0, []), 85), (85, (3, 0, 2, 0, []), 86), (86, (24, 0, 1, 6, []), 89), (89, (3, 2, 0, 0, []), 90), (90, (21, 107, 2, 0, []), 93), (93, (3, 4, 0, 0, []), 95), (95, (3, 0, 2, 0, []), 96), (96, (24, 0, 1, 6, []), 99), (99, (24, 0, 1, 1152, []), 102), (102, (3, 3, 0, 0, []), 103), (103, (21, 115, 2, 0, []), 106), (106, (6, 1, 0, 0, []), 107), (107, (22, 0, 0, 0, []), 108)]
/-- WashingLines.log(III)I -/
def am_c137 : List (Nat × am_I × Nat) := [(0, (3, 1, 0, 0, []), 1), (1, (0, 0, 0, -1, []), 2), (2, (15, 1, 15, 0, []), 5), (5, (3, 0, 2, 0, []), 6), (6, (24, 0, 1, 4, []), 9), (9, (0, 0, 0, 0, []), 10), (10, (24, 1, 2, 1032, []), 13), (13, (0, 0, 0, 0, []), 14), (14, (22, 0, 0, 0, []), 15), (15, (3, 3, 0, 0, []), 16), (16, (0, 0, 0, -1, []), 17), (17, (15, 0, 34, 0, []), 20), (20, (3, 0, 2, 0, []), 21), (21, (24, 0, 1, 4, []), 24), (24, (24, 0, 1, 1024, []), 27), (27, (3, 3, 0, 0, []), 28), (28, (21, 51, 2, 0, []), 31), (31, (16, 0, 38, 0, []), 34), (34, (0, 0, 0, 1, []), 35), (35, (18, 0, 39, 0, []), 38), (38, (0, 0, 0, 0, []), 39), (39, (4, 4, 0, 0, []), 41), (41, (3, 1, 0, 0, []), 42), (42, (16, 2, 82, 0, []), 45), (45, (3, 1, 0, 0, []), 46), (46, (0, 0, 0, 60, []), 48), (48, (15, 4, 82, 0, []), 51), (51, (3, 0, 2, 0, []), 52), (52, (24, 0, 1, 4, []), 55), (55, (24, 0, 1, 1024, []), 58), (58, (3, 2, 0, 0, []), 59), (59, (21, 50, 2, 0, []), 62), (62, (16, 0, 82, 0, []), 65), (65, (3, 4, 0, 0, []), 67), (67, (16, 0, 82, 0, []), 70), (70, (3, 0, 2, 0, []), 71), (71, (24, 0, 1, 4, []), 74), (74, (24, 0, 1, 1032, []), 77), (77, (0, 0, 0, 10, []), 79), (79, (15, 2, 85, 0, []), 82), (82, (0, 0, 0, -2, []), 84), (84, (22, 0, 0, 0, []), 85), (85, (3, 0, 2, 0, []), 86), (86, (24, 0, 1, 4, []), 89), (89, (3, 1, 0, 0, []), 90), (90, (3, 2, 0, 0, []), 91), (91, (3, 3, 0, 0, []), 92), (92, (21, 138, 4, 0, []), 95), (95, (3, 0, 2, 0, []), 96), (96, (24, 0, 1, 4, []), 99), (99, (24, 0, 1, 1032, []), 102), (102, (22, 0, 0, 0, []), 103)]
/-- WashingLines$World.addLog(III)V -/
def am_c138 : List (Nat × am_I × Nat) := [(0, (3, 0, 2, 0, []), 1), (1, (24, 0, 1, 1032, []), 4), (4, (16, 2, 56, 0, []), 7), (7, (3, 0, 2, 0, []), 8), (8, (24, 0, 1, 1032, []), 11), (11, (0, 0, 0, 10, []), 13), (13, (15, 3, 56, 0, []), 16), (16, (3, 0, 2, 0, []), 17), (17, (24, 0, 1, 1029, []), 20), (20, (3, 0, 2, 0, []), 21), (21, (24, 0, 1, 1032, []), 24), (24, (3, 1, 0, 0, []), 25), (25, (24, 3, 3, 0, []), 26), (26, (3, 0, 2, 0, []), 27), (27, (24, 0, 1, 1030, []), 30), (30, (3, 0, 2, 0, []), 31), (31, (24, 0, 1, 1032, []), 34), (34, (3, 2, 0, 0, []), 35), (35, (24, 3, 3, 0, []), 36), (36, (3, 0, 2, 0, []), 37), (37, (24, 0, 1, 1031, []), 40), (40, (3, 0, 2, 0, []), 41), (41, (24, 0, 1, 1032, []), 44), (44, (3, 3, 0, 0, []), 45), (45, (24, 3, 3, 0, []), 46), (46, (3, 0, 2, 0, []), 47), (47, (12, 0, 0, 0, []), 48), (48, (24, 0, 1, 1032, []), 51), (51, (0, 0, 0, 1, []), 52), (52, (6, 0, 0, 0, []), 53), (53, (24, 1, 2, 1032, []), 56), (56, (23, 0, 0, 0, []), 57)]
/-- WashingLines.ruled(I)I -/
def am_c139 : List (Nat × am_I × Nat) := [(0, (3, 0, 2, 0, []), 1), (1, (24, 0, 1, 4, []), 4), (4, (24, 0, 1, 1024, []), 7), (7, (24, 0, 1, 384, []), 10), (10, (16, 0, 22, 0, []), 13), (13, (3, 1, 0, 0, []), 14), (14, (16, 2, 22, 0, []), 17), (17, (3, 1, 0, 0, []), 18), (18, (0, 0, 0, 1, []), 19), (19, (15, 5, 25, 0, []), 22), (22, (0, 0, 0, -3, []), 24), (24, (22, 0, 0, 0, []), 25), (25, (3, 0, 2, 0, []), 26), (26, (24, 0, 1, 8, []), 29), (29, (3, 0, 2, 0, []), 30), (30, (24, 0, 1, 6, []), 33), (33, (3, 0, 2, 0, []), 34), (34, (24, 0, 1, 4, []), 37), (37, (3, 0, 2, 0, []), 38), (38, (24, 0, 1, 3, []), 41), (41, (0, 0, 0, 0, []), 42), (42, (21, 140, 5, 0, []), 45), (45, (3, 1, 0, 0, []), 46), (46, (16, 1, 57, 0, []), 49), (49, (3, 0, 2, 0, []), 50), (50, (24, 0, 1, 8, []), 53), (53, (24, 0, 1, 1408, []), 56), (56, (22, 0, 0, 0, []), 57), (57, (3, 0, 2, 0, []), 58), (58, (24, 0, 1, 8, []), 61), (61, (24, 0, 1, 1408, []), 64), (64, (16, 1, 72, 0, []), 67), (67, (0, 0, 0, -2, []), 69), (69, (18, 0, 79, 0, []), 72), (72, (3, 0, 2, 0, []), 73), (73, (24, 0, 1, 8, []), 76), (76, (24, 0, 1, 1409, []), 79), (79, (22, 0, 0, 0, []), 80)]
/-- WashingLines$Trials.tryAll(LWashingLines$Hours;LWashingLines$World;LWashingLines$Book;I)V -/
def am_c140 : List (Nat × am_I × Nat) := [(0, (3, 0, 2, 0, []), 1), (1, (0, 0, 0, 0, []), 2), (2, (24, 1, 2, 1408, []), 5), (5, (3, 0, 2, 0, []), 6), (6, (0, 0, 0, -1, []), 7), (7, (24, 1, 2, 1409, []), 10), (10, (0, 0, 0, -1, []), 11), (11, (4, 5, 0, 0, []), 13), (13, (3, 5, 0, 0, []), 15), (15, (3, 3, 2, 0, []), 16), (16, (24, 0, 1, 898, []), 19), (19, (15, 3, 90, 0, []), 22), (22, (3, 1, 2, 0, []), 23), (23, (3, 2, 2, 0, []), 24), (24, (24, 0, 1, 1024, []), 27), (27, (3, 3, 2, 0, []), 28), (28, (3, 5, 0, 0, []), 30), (30, (21, 76, 2, 0, []), 33), (33, (3, 2, 2, 0, []), 34), (34, (24, 0, 1, 1024, []), 37), (37, (24, 0, 1, 400, []), 40), (40, (21, 77, 4, 0, []), 43), (43, (3, 0, 2, 0, []), 44), (44, (3, 1, 2, 0, []), 45), (45, (3, 2, 2, 0, []), 46), (46, (3, 4, 0, 0, []), 48), (48, (21, 141, 4, 0, []), 51), (51, (16, 0, 84, 0, []), 54), (54, (3, 0, 2, 0, []), 55), (55, (3, 0, 2, 0, []), 56), (56, (24, 0, 1, 1408, []), 59), (59, (16, 1, 67, 0, []), 62), (62, (3, 5, 0, 0, []), 64), (64, (18, 0, 71, 0, []), 67), (67, (3, 0, 2, 0, []), 68), (68, (24, 0, 1, 1409, []), 71), (71, (24, 1, 2, 1409, []), 74), (74, (3, 0, 2, 0, []), 75), (75, (12, 0, 0, 0, []), 76), (76, (24, 0, 1, 1408, []), 79), (79, (0, 0, 0, 1, []), 80), (80, (6, 0, 0, 0, []), 81), (81, (24, 1, 2, 1408, []), 84), (84, (5, 5, 0, 1, []), 87), (87, (18, 0, 13, 0, []), 90), (90, (23, 0, 0, 0, []), 91)]
/-- WashingLines$Trials.fits(LWashingLines$Hours;LWashingLines$World;I)Z -/
def am_c141 : List (Nat × am_I × Nat) := [(0, (0, 0, 0, 0, []), 1), (1, (4, 4, 0, 0, []), 3), (3, (3, 4, 0, 0, []), 5), (5, (0, 0, 0, 60, []), 7), (7, (15, 4, 82, 0, []), 10), (10, (3, 1, 2, 0, []), 11), (11, (0, 0, 0, 0, []), 12), (12, (21, 94, 2, 0, []), 15), (15, (14, 0, 0, 0, []), 16), (16, (3, 2, 2, 0, []), 17), (17, (3, 4, 0, 0, []), 19), (19, (3, 1, 2, 0, []), 20), (20, (24, 0, 1, 1152, []), 23), (23, (21, 142, 3, 0, []), 26), (26, (16, 1, 31, 0, []), 29), (29, (0, 0, 0, 0, []), 30), (30, (22, 1, 0, 0, []), 31), (31, (3, 4, 0, 0, []), 33), (33, (3, 3, 0, 0, []), 34), (34, (15, 1, 76, 0, []), 37), (37, (3, 0, 2, 0, []), 38), (38, (24, 0, 1, 1408, []), 41), (41, (16, 2, 76, 0, []), 44), (44, (3, 0, 2, 0, []), 45), (45, (24, 0, 1, 1408, []), 48), (48, (0, 0, 0, 6, []), 50), (50, (15, 4, 76, 0, []), 53), (53, (3, 1, 2, 0, []), 54), (54, (24, 0, 1, 1152, []), 57), (57, (24, 0, 1, 513, []), 60), (60, (0, 0, 0, 0, []), 61), (61, (3, 0, 2, 0, []), 62), (62, (24, 0, 1, 1410, []), 65), (65, (3, 0, 2, 0, []), 66), (66, (24, 0, 1, 1408, []), 69), (69, (24, 2, 2, 4, []), 70), (70, (0, 0, 0, 0, []), 71), (71, (0, 0, 0, 6, []), 73), (73, (24, 10, 5, 0, []), 76), (76, (5, 4, 0, 1, []), 79), (79, (18, 0, 3, 0, []), 82), (82, (0, 0, 0, 1, []), 83), (83, (22, 1, 0, 0, []), 84)]
/-- WashingLines$World.isAsLogged(ILWashingLines$Yard;)Z -/
def am_c142 : List (Nat × am_I × Nat) := [(0, (0, 0, 0, 0, []), 1), (1, (4, 3, 0, 0, []), 2), (2, (3, 3, 0, 0, []), 3), (3, (3, 0, 2, 0, []), 4), (4, (24, 0, 1, 1032, []), 7), (7, (15, 3, 70, 0, []), 10), (10, (3, 3, 0, 0, []), 11), (11, (0, 0, 0, 10, []), 13), (13, (15, 3, 70, 0, []), 16), (16, (3, 0, 2, 0, []), 17), (17, (24, 0, 1, 1030, []), 20), (20, (3, 3, 0, 0, []), 21), (21, (24, 2, 2, 0, []), 22), (22, (4, 4, 0, 0, []), 24), (24, (3, 0, 2, 0, []), 25), (25, (24, 0, 1, 1029, []), 28), (28, (3, 3, 0, 0, []), 29), (29, (24, 2, 2, 0, []), 30), (30, (3, 1, 0, 0, []), 31), (31, (15, 1, 64, 0, []), 34), (34, (3, 0, 2, 0, []), 35), (35, (24, 0, 1, 1024, []), 38), (38, (3, 4, 0, 0, []), 40), (40, (21, 50, 2, 0, []), 43), (43, (16, 0, 64, 0, []), 46), (46, (3, 2, 2, 0, []), 47), (47, (24, 0, 1, 513, []), 50), (50, (3, 4, 0, 0, []), 52), (52, (24, 2, 2, 0, []), 53), (53, (3, 0, 2, 0, []), 54), (54, (24, 0, 1, 1031, []), 57), (57, (3, 3, 0, 0, []), 58), (58, (24, 2, 2, 0, []), 59), (59, (15, 0, 64, 0, []), 62), (62, (0, 0, 0, 0, []), 63), (63, (22, 1, 0, 0, []), 64), (64, (5, 3, 0, 1, []), 67), (67, (18, 0, 2, 0, []), 70), (70, (0, 0, 0, 1, []), 71), (71, (22, 1, 0, 0, []), 72)]
/-- WashingLines.look(II)I -/
def am_c143 : List (Nat × am_I × Nat) := [(0, (3, 0, 2, 0, []), 1), (1, (24, 0, 1, 4, []), 4), (4, (24, 0, 1, 1024, []), 7), (7, (24, 0, 1, 384, []), 10), (10, (16, 0, 32, 0, []), 13), (13, (3, 1, 0, 0, []), 14), (14, (16, 2, 32, 0, []), 17), (17, (3, 1, 0, 0, []), 18), (18, (0, 0, 0, 60, []), 20), (20, (15, 4, 32, 0, []), 23), (23, (3, 2, 0, 0, []), 24), (24, (16, 2, 32, 0, []), 27), (27, (3, 2, 0, 0, []), 28), (28, (0, 0, 0, 1, []), 29), (29, (15, 5, 34, 0, []), 32), (32, (0, 0, 0, -1, []), 33), (33, (22, 0, 0, 0, []), 34), (34, (3, 0, 2, 0, []), 35), (35, (24, 0, 1, 8, []), 38), (38, (3, 0, 2, 0, []), 39), (39, (24, 0, 1, 6, []), 42), (42, (3, 0, 2, 0, []), 43), (43, (24, 0, 1, 4, []), 46), (46, (3, 0, 2, 0, []), 47), (47, (24, 0, 1, 3, []), 50), (50, (3, 1, 0, 0, []), 51), (51, (21, 140, 5, 0, []), 54), (54, (3, 0, 2, 0, []), 55), (55, (24, 0, 1, 8, []), 58), (58, (24, 0, 1, 1408, []), 61), (61, (16, 0, 77, 0, []), 64), (64, (3, 0, 2, 0, []), 65), (65, (24, 0, 1, 4, []), 68), (68, (24, 0, 1, 1024, []), 71), (71, (24, 0, 1, 388, []), 74), (74, (16, 1, 80, 0, []), 77), (77, (0, 0, 0, -2, []), 79), (79, (22, 0, 0, 0, []), 80), (80, (3, 0, 2, 0, []), 81), (81, (24, 0, 1, 8, []), 84), (84, (3, 0, 2, 0, []), 85), (85, (24, 0, 1, 4, []), 88), (88, (24, 0, 1, 1024, []), 91), (91, (21, 144, 2, 0, []), 94), (94, (4, 3, 0, 0, []), 95), (95, (3, 2, 0, 0, []), 96), (96, (16, 1, 103, 0, []), 99), (99, (3, 3, 0, 0, []), 100), (100, (18, 0, 111, 0, []), 103), (103, (3, 0, 2, 0, []), 104), (104, (24, 0, 1, 8, []), 107), (107, (3, 3, 0, 0, []), 108), (108, (21, 145, 2, 0, []), 111), (111, (22, 0, 0, 0, []), 112)]
/-- WashingLines$Trials.bestLook(LWashingLines$Court;)I -/
def am_c144 : List (Nat × am_I × Nat) := [(0, (0, 0, 0, 0, []), 1), (1, (4, 2, 0, 0, []), 2), (2, (0, 0, 0, 1, []), 3), (3, (4, 3, 0, 0, []), 4), (4, (3, 3, 0, 0, []), 5), (5, (3, 1, 2, 0, []), 6), (6, (24, 0, 1, 388, []), 9), (9, (15, 3, 33, 0, []), 12), (12, (3, 0, 2, 0, []), 13), (13, (3, 3, 0, 0, []), 14), (14, (21, 145, 2, 0, []), 17), (17, (3, 0, 2, 0, []), 18), (18, (3, 2, 0, 0, []), 19), (19, (21, 145, 2, 0, []), 22), (22, (15, 3, 27, 0, []), 25), (25, (3, 3, 0, 0, []), 26), (26, (4, 2, 0, 0, []), 27), (27, (5, 3, 0, 1, []), 30), (30, (18, 0, 4, 0, []), 33), (33, (3, 2, 0, 0, []), 34), (34, (22, 0, 0, 0, []), 35)]
/-- WashingLines$Trials.mostAlike(I)I -/
def am_c145 : List (Nat × am_I × Nat) := [(0, (0, 0, 0, 0, []), 1), (1, (4, 2, 0, 0, []), 2), (2, (0, 0, 0, -1, []), 3), (3, (4, 3, 0, 0, []), 4), (4, (3, 3, 0, 0, []), 5), (5, (0, 0, 0, 4, []), 6), (6, (15, 3, 76, 0, []), 9), (9, (0, 0, 0, 0, []), 10), (10, (4, 4, 0, 0, []), 12), (12, (0, 0, 0, 0, []), 13), (13, (4, 5, 0, 0, []), 15), (15, (3, 5, 0, 0, []), 17), (17, (3, 0, 2, 0, []), 18), (18, (24, 0, 1, 1408, []), 21), (21, (15, 3, 63, 0, []), 24), (24, (3, 5, 0, 0, []), 26), (26, (0, 0, 0, 6, []), 28), (28, (15, 4, 63, 0, []), 31), (31, (3, 1, 0, 0, []), 32), (32, (16, 2, 57, 0, []), 35), (35, (3, 1, 0, 0, []), 36), (36, (0, 0, 0, 6, []), 38), (38, (15, 3, 57, 0, []), 41), (41, (3, 0, 2, 0, []), 42), (42, (24, 0, 1, 1410, []), 45), (45, (3, 5, 0, 0, []), 47), (47, (24, 2, 2, 4, []), 48), (48, (3, 1, 0, 0, []), 49), (49, (24, 2, 2, 0, []), 50), (50, (3, 3, 0, 0, []), 51), (51, (15, 1, 57, 0, []), 54), (54, (5, 4, 0, 1, []), 57), (57, (5, 5, 0, 1, []), 60), (60, (18, 0, 15, 0, []), 63), (63, (3, 2, 0, 0, []), 64), (64, (3, 4, 0, 0, []), 66), (66, (24, 15, 2, 0, []), 69), (69, (4, 2, 0, 0, []), 70), (70, (5, 3, 0, 1, []), 73), (73, (18, 0, 4, 0, []), 76), (76, (3, 2, 0, 0, []), 77), (77, (22, 0, 0, 0, []), 78)]
/-- WashingLines.laws(III)I -/
def am_c146 : List (Nat × am_I × Nat) := [(0, (3, 0, 2, 0, []), 1), (1, (24, 0, 1, 4, []), 4), (4, (24, 0, 1, 1024, []), 7), (7, (3, 1, 0, 0, []), 8), (8, (21, 51, 2, 0, []), 11), (11, (16, 0, 34, 0, []), 14), (14, (3, 2, 0, 0, []), 15), (15, (0, 0, 0, 1, []), 16), (16, (15, 2, 34, 0, []), 19), (19, (3, 2, 0, 0, []), 20), (20, (0, 0, 0, 60, []), 22), (22, (15, 4, 34, 0, []), 25), (25, (3, 3, 0, 0, []), 26), (26, (16, 2, 34, 0, []), 29), (29, (3, 3, 0, 0, []), 30), (30, (0, 0, 0, 1, []), 31), (31, (15, 5, 37, 0, []), 34), (34, (0, 0, 0, -2, []), 36), (36, (22, 0, 0, 0, []), 37), (37, (0, 0, 0, -1, []), 38), (38, (4, 4, 0, 0, []), 40), (40, (0, 0, 0, -1, []), 41), (41, (4, 5, 0, 0, []), 43), (43, (0, 0, 0, -1, []), 44), (44, (4, 6, 0, 0, []), 46), (46, (3, 6, 0, 0, []), 48), (48, (3, 0, 2, 0, []), 49), (49, (24, 0, 1, 3, []), 52), (52, (24, 0, 1, 898, []), 55), (55, (15, 3, 135, 0, []), 58), (58, (3, 0, 2, 0, []), 59), (59, (24, 0, 1, 6, []), 62), (62, (3, 0, 2, 0, []), 63), (63, (24, 0, 1, 4, []), 66), (66, (24, 0, 1, 1024, []), 69), (69, (3, 0, 2, 0, []), 70), (70, (24, 0, 1, 3, []), 73), (73, (3, 6, 0, 0, []), 75), (75, (21, 76, 2, 0, []), 78), (78, (3, 0, 2, 0, []), 79), (79, (24, 0, 1, 4, []), 82), (82, (24, 0, 1, 1025, []), 85), (85, (21, 77, 4, 0, []), 88), (88, (3, 0, 2, 0, []), 89), (89, (24, 0, 1, 6, []), 92), (92, (3, 2, 0, 0, []), 93), (93, (21, 107, 2, 0, []), 96), (96, (3, 0, 2, 0, []), 97), (97, (24, 0, 1, 6, []), 100), (100, (24, 0, 1, 1152, []), 103), (103, (3, 1, 0, 0, []), 104), (104, (21, 115, 2, 0, []), 107), (107, (3, 5, 0, 0, []), 109), (109, (15, 5, 129, 0, []), 112), (112, (3, 0, 2, 0, []), 113), (113, (24, 0, 1, 6, []), 116), (116, (24, 0, 1, 1152, []), 119), (119, (3, 1, 0, 0, []), 120), (120, (21, 115, 2, 0, []), 123), (123, (4, 5, 0, 0, []), 125), (125, (3, 6, 0, 0, []), 127), (127, (4, 4, 0, 0, []), 129), (129, (5, 6, 0, 1, []), 132), (132, (18, 0, 46, 0, []), 135), (135, (3, 3, 0, 0, []), 136), (136, (16, 1, 144, 0, []), 139), (139, (3, 4, 0, 0, []), 141), (141, (18, 0, 158, 0, []), 144), (144, (3, 5, 0, 0, []), 146), (146, (3, 0, 2, 0, []), 147), (147, (24, 0, 1, 4, []), 150), (150, (24, 0, 1, 1025, []), 153), (153, (3, 1, 0, 0, []), 154), (154, (21, 115, 2, 0, []), 157), (157, (6, 1, 0, 0, []), 158), (158, (22, 0, 0, 0, []), 159)]
/-- WashingLines.seed(I)I -/
def am_c147 : List (Nat × am_I × Nat) := [(0, (3, 1, 0, 0, []), 1), (1, (16, 3, 6, 0, []), 4), (4, (0, 0, 0, -1, []), 5), (5, (22, 0, 0, 0, []), 6), (6, (3, 0, 2, 0, []), 7), (7, (24, 0, 1, 4, []), 10), (10, (24, 0, 1, 1034, []), 13), (13, (4, 2, 0, 0, []), 14), (14, (3, 0, 2, 0, []), 15), (15, (24, 0, 1, 4, []), 18), (18, (3, 1, 0, 0, []), 19), (19, (24, 1, 2, 1034, []), 22), (22, (3, 2, 0, 0, []), 23), (23, (22, 0, 0, 0, []), 24)]
/-- WashingLines.years(IIII)I -/
def am_c148 : List (Nat × am_I × Nat) := [(0, (3, 1, 0, 0, []), 1), (1, (0, 0, 0, 1, []), 2), (2, (15, 2, 47, 0, []), 5), (5, (3, 1, 0, 0, []), 6), (6, (0, 0, 0, 10, []), 8), (8, (15, 4, 47, 0, []), 11), (11, (3, 2, 0, 0, []), 12), (12, (0, 0, 0, 1, []), 13), (13, (15, 2, 47, 0, []), 16), (16, (3, 2, 0, 0, []), 17), (17, (0, 0, 0, 60, []), 19), (19, (15, 4, 47, 0, []), 22), (22, (3, 3, 0, 0, []), 23), (23, (16, 2, 47, 0, []), 26), (26, (3, 3, 0, 0, []), 27), (27, (0, 0, 0, 100, []), 29), (29, (15, 4, 47, 0, []), 32), (32, (3, 4, 0, 0, []), 34), (34, (16, 2, 47, 0, []), 37), (37, (3, 4, 0, 0, []), 39), (39, (0, 0, 0, 1, []), 40), (40, (15, 4, 47, 0, []), 43), (43, (0, 0, 0, 1, []), 44), (44, (18, 0, 48, 0, []), 47), (47, (0, 0, 0, 0, []), 48), (48, (4, 5, 0, 0, []), 50), (50, (3, 0, 2, 0, []), 51), (51, (24, 0, 1, 4, []), 54), (54, (24, 0, 1, 1024, []), 57), (57, (24, 0, 1, 384, []), 60), (60, (16, 0, 68, 0, []), 63), (63, (3, 5, 0, 0, []), 65), (65, (16, 1, 70, 0, []), 68), (68, (0, 0, 0, -1, []), 69), (69, (22, 0, 0, 0, []), 70), (70, (3, 0, 2, 0, []), 71), (71, (24, 0, 1, 4, []), 74), (74, (24, 0, 1, 1034, []), 77), (77, (8, 0, 0, 0, []), 78), (78, (4, 6, 1, 0, []), 80), (80, (0, 0, 0, 0, []), 81), (81, (4, 8, 0, 0, []), 83), (83, (0, 0, 0, 0, []), 84), (84, (4, 9, 0, 0, []), 86), (86, (0, 0, 0, 0, []), 87), (87, (4, 10, 0, 0, []), 89), (89, (3, 10, 0, 0, []), 91), (91, (3, 1, 0, 0, []), 92), (92, (15, 3, 181, 0, []), 95), (95, (3, 0, 2, 0, []), 96), (96, (21, 75, 1, 0, []), 99), (99, (0, 0, 0, 0, []), 100), (100, (4, 11, 0, 0, []), 102), (102, (3, 11, 0, 0, []), 104), (104, (3, 2, 0, 0, []), 105), (105, (15, 3, 163, 0, []), 108), (108, (3, 6, 1, 0, []), 110), (110, (1, 0, 0, 1103515245, []), 113), (113, (10, 2, 0, 0, []), 114), (114, (1, 0, 0, 12345, []), 117), (117, (10, 0, 0, 0, []), 118), (118, (1, 0, 0, 2147483648, []), 121), (121, (10, 6, 0, 0, []), 122), (122, (4, 6, 1, 0, []), 124), (124, (3, 8, 0, 0, []), 126), (126, (3, 0, 2, 0, []), 127), (127, (24, 0, 1, 6, []), 130), (130, (3, 6, 1, 0, []), 132), (132, (1, 0, 0, 65536, []), 135), (135, (10, 5, 0, 0, []), 136), (136, (1, 0, 0, 100, []), 139), (139, (10, 6, 0, 0, []), 140), (140, (3, 3, 0, 0, []), 141), (141, (8, 0, 0, 0, []), 142), (142, (11, 0, 0, 0, []), 143), (143, (16, 3, 150, 0, []), 146), (146, (0, 0, 0, 1, []), 147), (147, (18, 0, 151, 0, []), 150), (150, (0, 0, 0, 0, []), 151), (151, (21, 94, 2, 0, []), 154), (154, (6, 0, 0, 0, []), 155), (155, (4, 8, 0, 0, []), 157), (157, (5, 11, 0, 1, []), 160), (160, (18, 0, 102, 0, []), 163), (163, (3, 9, 0, 0, []), 165), (165, (3, 0, 2, 0, []), 166), (166, (24, 0, 1, 6, []), 169), (169, (21, 149, 1, 0, []), 172), (172, (6, 0, 0, 0, []), 173), (173, (4, 9, 0, 0, []), 175), (175, (5, 10, 0, 1, []), 178), (178, (18, 0, 89, 0, []), 181), (181, (3, 4, 0, 0, []), 183), (183, (16, 1, 191, 0, []), 186), (186, (3, 8, 0, 0, []), 188), (188, (18, 0, 193, 0, []), 191), (191, (3, 9, 0, 0, []), 193), (193, (22, 0, 0, 0, []), 194)]
/-- WashingLines$Hours.dryUp()I -/
def am_c149 : List (Nat × am_I × Nat) := [(0, (0, 0, 0, 0, []), 1), (1, (4, 1, 0, 0, []), 2), (2, (0, 0, 0, 0, []), 3), (3, (4, 2, 0, 0, []), 4), (4, (3, 2, 0, 0, []), 5), (5, (0, 0, 0, 10, []), 7), (7, (15, 3, 30, 0, []), 10), (10, (3, 0, 2, 0, []), 11), (11, (24, 0, 1, 1152, []), 14), (14, (3, 2, 0, 0, []), 15), (15, (21, 109, 2, 0, []), 18), (18, (16, 0, 24, 0, []), 21), (21, (5, 1, 0, 1, []), 24), (24, (5, 2, 0, 1, []), 27), (27, (18, 0, 4, 0, []), 30), (30, (3, 1, 0, 0, []), 31), (31, (22, 0, 0, 0, []), 32)]
/-- WashingLines.count(I)I -/
def am_c150 : List (Nat × am_I × Nat) := [(0, (3, 0, 2, 0, []), 1), (1, (24, 0, 1, 4, []), 4), (4, (24, 0, 1, 1024, []), 7), (7, (4, 2, 2, 0, []), 8), (8, (3, 1, 0, 0, []), 9), (9, (19, 0, 213, 0, [(0, 84), (1, 89), (2, 94), (3, 99), (4, 104), (5, 109), (6, 117), (7, 125), (8, 136), (9, 147), (10, 158), (11, 181), (12, 189), (13, 197), (14, 205)]), 84), (84, (3, 2, 2, 0, []), 85), (85, (24, 0, 1, 385, []), 88), (88, (22, 0, 0, 0, []), 89), (89, (3, 2, 2, 0, []), 90), (90, (24, 0, 1, 386, []), 93), (93, (22, 0, 0, 0, []), 94), (94, (3, 2, 2, 0, []), 95), (95, (24, 0, 1, 387, []), 98), (98, (22, 0, 0, 0, []), 99), (99, (3, 2, 2, 0, []), 100), (100, (24, 0, 1, 388, []), 103), (103, (22, 0, 0, 0, []), 104), (104, (3, 2, 2, 0, []), 105), (105, (24, 0, 1, 389, []), 108), (108, (22, 0, 0, 0, []), 109), (109, (3, 0, 2, 0, []), 110), (110, (24, 0, 1, 3, []), 113), (113, (24, 0, 1, 898, []), 116), (116, (22, 0, 0, 0, []), 117), (117, (3, 0, 2, 0, []), 118), (118, (24, 0, 1, 4, []), 121), (121, (24, 0, 1, 1033, []), 124), (124, (22, 0, 0, 0, []), 125), (125, (3, 0, 2, 0, []), 126), (126, (24, 0, 1, 4, []), 129), (129, (24, 0, 1, 1025, []), 132), (132, (24, 0, 1, 512, []), 135), (135, (22, 0, 0, 0, []), 136), (136, (3, 0, 2, 0, []), 137), (137, (24, 0, 1, 4, []), 140), (140, (24, 0, 1, 1025, []), 143), (143, (21, 124, 1, 0, []), 146), (146, (22, 0, 0, 0, []), 147), (147, (3, 0, 2, 0, []), 148), (148, (24, 0, 1, 4, []), 151), (151, (24, 0, 1, 1025, []), 154), (154, (21, 151, 1, 0, []), 157), (157, (22, 0, 0, 0, []), 158), (158, (3, 2, 2, 0, []), 159), (159, (3, 0, 2, 0, []), 160), (160, (24, 0, 1, 4, []), 163), (163, (24, 0, 1, 1025, []), 166), (166, (24, 0, 1, 512, []), 169), (169, (21, 79, 2, 0, []), 172), (172, (16, 0, 179, 0, []), 175), (175, (0, 0, 0, 1, []), 176), (176, (18, 0, 180, 0, []), 179), (179, (0, 0, 0, 0, []), 180), (180, (22, 0, 0, 0, []), 181), (181, (3, 0, 2, 0, []), 182), (182, (24, 0, 1, 4, []), 185), (185, (24, 0, 1, 1032, []), 188), (188, (22, 0, 0, 0, []), 189), (189, (3, 0, 2, 0, []), 190), (190, (24, 0, 1, 4, []), 193), (193, (24, 0, 1, 1028, []), 196), (196, (22, 0, 0, 0, []), 197), (197, (3, 0, 2, 0, []), 198), (198, (24, 0, 1, 4, []), 201), (201, (24, 0, 1, 1034, []), 204), (204, (22, 0, 0, 0, []), 205), (205, (3, 0, 2, 0, []), 206), (206, (24, 0, 1, 0, []), 209), (209, (24, 0, 1, 129, []), 212), (212, (22, 0, 0, 0, []), 213), (213, (0, 0, 0, -1, []), 214), (214, (22, 0, 0, 0, []), 215)]
/-- WashingLines$Yard.linesCut()I -/
def am_c151 : List (Nat × am_I × Nat) := [(0, (0, 0, 0, 0, []), 1), (1, (4, 1, 0, 0, []), 2), (2, (0, 0, 0, 0, []), 3), (3, (4, 2, 0, 0, []), 4), (4, (3, 2, 0, 0, []), 5), (5, (0, 0, 0, 6, []), 7), (7, (15, 3, 27, 0, []), 10), (10, (3, 1, 0, 0, []), 11), (11, (3, 0, 2, 0, []), 12), (12, (24, 0, 1, 514, []), 15), (15, (3, 2, 0, 0, []), 16), (16, (24, 2, 2, 0, []), 17), (17, (3, 2, 0, 0, []), 18), (18, (6, 6, 0, 0, []), 19), (19, (6, 4, 0, 0, []), 20), (20, (4, 1, 0, 0, []), 21), (21, (5, 2, 0, 1, []), 24), (24, (18, 0, 4, 0, []), 27), (27, (3, 1, 0, 0, []), 28), (28, (22, 0, 0, 0, []), 29)]
/-- WashingLines.image(I)I -/
def am_c152 : List (Nat × am_I × Nat) := [(0, (3, 1, 0, 0, []), 1), (1, (16, 2, 9, 0, []), 4), (4, (3, 1, 0, 0, []), 5), (5, (0, 0, 0, 4, []), 6), (6, (15, 2, 11, 0, []), 9), (9, (0, 0, 0, -1, []), 10), (10, (22, 0, 0, 0, []), 11), (11, (3, 0, 2, 0, []), 12), (12, (24, 0, 1, 5, []), 15), (15, (3, 1, 0, 0, []), 16), (16, (24, 2, 2, 4, []), 17), (17, (4, 2, 2, 0, []), 18), (18, (3, 2, 2, 0, []), 19), (19, (17, 1, 37, 0, []), 22), (22, (24, 5, 0, 8, []), 25), (25, (12, 0, 0, 0, []), 26), (26, (21, 10, 1, 2, []), 29), (29, (4, 2, 2, 0, []), 30), (30, (3, 0, 2, 0, []), 31), (31, (24, 0, 1, 5, []), 34), (34, (3, 1, 0, 0, []), 35), (35, (3, 2, 2, 0, []), 36), (36, (24, 3, 3, 4, []), 37), (37, (3, 2, 2, 0, []), 38), (38, (3, 0, 2, 0, []), 39), (39, (24, 0, 1, 4, []), 42), (42, (21, 153, 2, 0, []), 45), (45, (3, 0, 2, 0, []), 46), (46, (24, 0, 1, 4, []), 49), (49, (24, 0, 1, 1025, []), 52), (52, (24, 0, 1, 512, []), 55), (55, (22, 0, 0, 0, []), 56)]
/-- WashingLines$World.copyFrom(LWashingLines$World;)V -/
def am_c153 : List (Nat × am_I × Nat) := [(0, (3, 0, 2, 0, []), 1), (1, (24, 0, 1, 1024, []), 4), (4, (3, 1, 2, 0, []), 5), (5, (24, 0, 1, 1024, []), 8), (8, (21, 57, 2, 0, []), 11), (11, (3, 0, 2, 0, []), 12), (12, (24, 0, 1, 1025, []), 15), (15, (3, 1, 2, 0, []), 16), (16, (24, 0, 1, 1025, []), 19), (19, (21, 58, 2, 0, []), 22), (22, (0, 0, 0, 0, []), 23), (23, (4, 2, 0, 0, []), 24), (24, (3, 2, 0, 0, []), 25), (25, (0, 0, 0, 20, []), 27), (27, (15, 3, 51, 0, []), 30), (30, (3, 0, 2, 0, []), 31), (31, (24, 0, 1, 1026, []), 34), (34, (3, 2, 0, 0, []), 35), (35, (24, 2, 2, 4, []), 36), (36, (3, 1, 2, 0, []), 37), (37, (24, 0, 1, 1026, []), 40), (40, (3, 2, 0, 0, []), 41), (41, (24, 2, 2, 4, []), 42), (42, (21, 58, 2, 0, []), 45), (45, (5, 2, 0, 1, []), 48), (48, (18, 0, 24, 0, []), 51), (51, (3, 0, 2, 0, []), 52), (52, (3, 1, 2, 0, []), 53), (53, (24, 0, 1, 1027, []), 56), (56, (24, 1, 2, 1027, []), 59), (59, (3, 0, 2, 0, []), 60), (60, (3, 1, 2, 0, []), 61), (61, (24, 0, 1, 1028, []), 64), (64, (24, 1, 2, 1028, []), 67), (67, (3, 1, 2, 0, []), 68), (68, (24, 0, 1, 1029, []), 71), (71, (0, 0, 0, 0, []), 72), (72, (3, 0, 2, 0, []), 73), (73, (24, 0, 1, 1029, []), 76), (76, (0, 0, 0, 0, []), 77), (77, (0, 0, 0, 10, []), 79), (79, (24, 10, 5, 0, []), 82), (82, (3, 1, 2, 0, []), 83), (83, (24, 0, 1, 1030, []), 86), (86, (0, 0, 0, 0, []), 87), (87, (3, 0, 2, 0, []), 88), (88, (24, 0, 1, 1030, []), 91), (91, (0, 0, 0, 0, []), 92), (92, (0, 0, 0, 10, []), 94), (94, (24, 10, 5, 0, []), 97), (97, (3, 1, 2, 0, []), 98), (98, (24, 0, 1, 1031, []), 101), (101, (0, 0, 0, 0, []), 102), (102, (3, 0, 2, 0, []), 103), (103, (24, 0, 1, 1031, []), 106), (106, (0, 0, 0, 0, []), 107), (107, (0, 0, 0, 10, []), 109), (109, (24, 10, 5, 0, []), 112), (112, (3, 0, 2, 0, []), 113), (113, (3, 1, 2, 0, []), 114), (114, (24, 0, 1, 1032, []), 117), (117, (24, 1, 2, 1032, []), 120), (120, (3, 0, 2, 0, []), 121), (121, (3, 1, 2, 0, []), 122), (122, (24, 0, 1, 1033, []), 125), (125, (24, 1, 2, 1033, []), 128), (128, (3, 0, 2, 0, []), 129), (129, (3, 1, 2, 0, []), 130), (130, (24, 0, 1, 1034, []), 133), (133, (24, 1, 2, 1034, []), 136), (136, (23, 0, 0, 0, []), 137)]
/-- WashingLines.back(I)I -/
def am_c154 : List (Nat × am_I × Nat) := [(0, (3, 1, 0, 0, []), 1), (1, (16, 2, 18, 0, []), 4), (4, (3, 1, 0, 0, []), 5), (5, (0, 0, 0, 4, []), 6), (6, (15, 3, 18, 0, []), 9), (9, (3, 0, 2, 0, []), 10), (10, (24, 0, 1, 5, []), 13), (13, (3, 1, 0, 0, []), 14), (14, (24, 2, 2, 4, []), 15), (15, (18, 0, 19, 0, []), 18), (18, (2, 0, 0, 0, []), 19), (19, (4, 2, 2, 0, []), 20), (20, (3, 2, 2, 0, []), 21), (21, (17, 1, 26, 0, []), 24), (24, (0, 0, 0, -1, []), 25), (25, (22, 0, 0, 0, []), 26), (26, (3, 0, 2, 0, []), 27), (27, (24, 0, 1, 4, []), 30), (30, (3, 2, 2, 0, []), 31), (31, (21, 153, 2, 0, []), 34), (34, (3, 0, 2, 0, []), 35), (35, (24, 0, 1, 4, []), 38), (38, (24, 0, 1, 1025, []), 41), (41, (24, 0, 1, 512, []), 44), (44, (22, 0, 0, 0, []), 45)]
/-- WashingLinesModel.<init>()V -/
def am_c155 : List (Nat × am_I × Nat) := [(0, (3, 0, 2, 0, []), 1), (1, (24, 14, 1, 0, []), 4), (4, (3, 0, 2, 0, []), 5), (5, (0, 0, 0, 11, []), 7), (7, (24, 6, 1, 0, []), 9), (9, (12, 0, 0, 0, []), 10), (10, (0, 0, 0, 0, []), 11), (11, (0, 0, 0, 0, []), 12), (12, (24, 3, 3, 0, []), 13), (13, (12, 0, 0, 0, []), 14), (14, (0, 0, 0, 1, []), 15), (15, (0, 0, 0, 0, []), 16), (16, (24, 3, 3, 0, []), 17), (17, (12, 0, 0, 0, []), 18), (18, (0, 0, 0, 2, []), 19), (19, (0, 0, 0, 0, []), 20), (20, (24, 3, 3, 0, []), 21), (21, (12, 0, 0, 0, []), 22), (22, (0, 0, 0, 3, []), 23), (23, (0, 0, 0, 0, []), 24), (24, (24, 3, 3, 0, []), 25), (25, (12, 0, 0, 0, []), 26), (26, (0, 0, 0, 4, []), 27), (27, (0, 0, 0, 0, []), 28), (28, (24, 3, 3, 0, []), 29), (29, (12, 0, 0, 0, []), 30), (30, (0, 0, 0, 5, []), 31), (31, (0, 0, 0, 0, []), 32), (32, (24, 3, 3, 0, []), 33), (33, (12, 0, 0, 0, []), 34), (34, (0, 0, 0, 6, []), 36), (36, (0, 0, 0, 0, []), 37), (37, (24, 3, 3, 0, []), 38), (38, (12, 0, 0, 0, []), 39), (39, (0, 0, 0, 7, []), 41), (41, (0, 0, 0, 0, []), 42), (42, (24, 3, 3, 0, []), 43), (43, (12, 0, 0, 0, []), 44), (44, (0, 0, 0, 8, []), 46), (46, (0, 0, 0, 0, []), 47), (47, (24, 3, 3, 0, []), 48), (48, (12, 0, 0, 0, []), 49), (49, (0, 0, 0, 9, []), 51), (51, (0, 0, 0, 0, []), 52), (52, (24, 3, 3, 0, []), 53), (53, (12, 0, 0, 0, []), 54), (54, (0, 0, 0, 10, []), 56), (56, (0, 0, 0, -1, []), 57), (57, (24, 3, 3, 0, []), 58), (58, (24, 1, 2, 1537, []), 61), (61, (3, 0, 2, 0, []), 62), (62, (0, 0, 0, 4, []), 63), (63, (24, 6, 1, 0, []), 65), (65, (24, 1, 2, 1538, []), 68), (68, (3, 0, 2, 0, []), 69), (69, (0, 0, 0, 4, []), 70), (70, (24, 6, 1, 0, []), 72), (72, (24, 1, 2, 1539, []), 75), (75, (3, 0, 2, 0, []), 76), (76, (0, 0, 0, 6, []), 78), (78, (24, 6, 1, 0, []), 80), (80, (24, 1, 2, 1540, []), 83), (83, (3, 0, 2, 0, []), 84), (84, (0, 0, 0, 6, []), 86), (86, (24, 6, 1, 0, []), 88), (88, (24, 1, 2, 1541, []), 91), (91, (3, 0, 2, 0, []), 92), (92, (0, 0, 0, 6, []), 94), (94, (24, 6, 1, 0, []), 96), (96, (24, 1, 2, 1542, []), 99), (99, (3, 0, 2, 0, []), 100), (100, (0, 0, 0, 6, []), 102), (102, (24, 6, 1, 0, []), 104), (104, (24, 1, 2, 1543, []), 107), (107, (3, 0, 2, 0, []), 108), (108, (0, 0, 0, 6, []), 110), (110, (24, 6, 1, 0, []), 112), (112, (24, 1, 2, 1544, []), 115), (115, (3, 0, 2, 0, []), 116), (116, (0, 0, 0, 10, []), 118), (118, (24, 6, 1, 0, []), 120), (120, (24, 1, 2, 1545, []), 123), (123, (3, 0, 2, 0, []), 124), (124, (0, 0, 0, 10, []), 126), (126, (24, 6, 1, 0, []), 128), (128, (24, 1, 2, 1546, []), 131), (131, (3, 0, 2, 0, []), 132), (132, (0, 0, 0, 10, []), 134), (134, (24, 6, 1, 0, []), 136), (136, (24, 1, 2, 1547, []), 139), (139, (3, 0, 2, 0, []), 140), (140, (0, 0, 0, 10, []), 142), (142, (24, 6, 1, 0, []), 144), (144, (24, 1, 2, 1548, []), 147), (147, (3, 0, 2, 0, []), 148), (148, (0, 0, 0, 3, []), 149), (149, (24, 6, 1, 0, []), 151), (151, (24, 1, 2, 1549, []), 154), (154, (3, 0, 2, 0, []), 155), (155, (0, 0, 0, 3, []), 156), (156, (24, 6, 1, 0, []), 158), (158, (24, 1, 2, 1550, []), 161), (161, (3, 0, 2, 0, []), 162), (162, (0, 0, 0, 10, []), 164), (164, (24, 6, 1, 0, []), 166), (166, (24, 1, 2, 1551, []), 169), (169, (3, 0, 2, 0, []), 170), (170, (0, 0, 0, 10, []), 172), (172, (24, 6, 1, 0, []), 174), (174, (24, 1, 2, 1552, []), 177), (177, (3, 0, 2, 0, []), 178), (178, (0, 0, 0, 10, []), 180), (180, (24, 6, 1, 0, []), 182), (182, (24, 1, 2, 1553, []), 185), (185, (3, 0, 2, 0, []), 186), (186, (0, 0, 0, 4, []), 187), (187, (24, 6, 1, 0, []), 189), (189, (24, 1, 2, 1554, []), 192), (192, (3, 0, 2, 0, []), 193), (193, (0, 0, 0, 10, []), 195), (195, (24, 6, 1, 0, []), 197), (197, (24, 1, 2, 1555, []), 200), (200, (3, 0, 2, 0, []), 201), (201, (0, 0, 0, 10, []), 203), (203, (24, 6, 1, 0, []), 205), (205, (24, 1, 2, 1556, []), 208), (208, (3, 0, 2, 0, []), 209), (209, (0, 0, 0, 7, []), 211), (211, (24, 6, 1, 0, []), 213), (213, (24, 1, 2, 1557, []), 216), (216, (3, 0, 2, 0, []), 217), (217, (0, 0, 0, 4, []), 218), (218, (24, 6, 1, 0, []), 220), (220, (24, 1, 2, 1558, []), 223), (223, (3, 0, 2, 0, []), 224), (224, (0, 0, 0, 6, []), 226), (226, (24, 6, 1, 0, []), 228), (228, (24, 1, 2, 1559, []), 231), (231, (3, 0, 2, 0, []), 232), (232, (0, 0, 0, 6, []), 234), (234, (24, 6, 1, 0, []), 236), (236, (24, 1, 2, 1560, []), 239), (239, (3, 0, 2, 0, []), 240), (240, (0, 0, 0, 6, []), 242), (242, (24, 6, 1, 0, []), 244), (244, (24, 1, 2, 1561, []), 247), (247, (3, 0, 2, 0, []), 248), (248, (0, 0, 0, 6, []), 250), (250, (24, 6, 1, 0, []), 252), (252, (24, 1, 2, 1562, []), 255), (255, (3, 0, 2, 0, []), 256), (256, (0, 0, 0, 10, []), 258), (258, (24, 6, 1, 0, []), 260), (260, (24, 1, 2, 1563, []), 263), (263, (3, 0, 2, 0, []), 264), (264, (0, 0, 0, 10, []), 266), (266, (24, 6, 1, 0, []), 268), (268, (24, 1, 2, 1564, []), 271), (271, (3, 0, 2, 0, []), 272), (272, (0, 0, 0, 10, []), 274), (274, (24, 6, 1, 0, []), 276), (276, (24, 1, 2, 1565, []), 279), (279, (3, 0, 2, 0, []), 280), (280, (0, 0, 0, 10, []), 282), (282, (24, 6, 1, 0, []), 284), (284, (24, 1, 2, 1566, []), 287), (287, (3, 0, 2, 0, []), 288), (288, (0, 0, 0, 3, []), 289), (289, (24, 6, 1, 0, []), 291), (291, (24, 1, 2, 1567, []), 294), (294, (3, 0, 2, 0, []), 295), (295, (0, 0, 0, 3, []), 296), (296, (24, 6, 1, 0, []), 298), (298, (24, 1, 2, 1568, []), 301), (301, (3, 0, 2, 0, []), 302), (302, (0, 0, 0, 13, []), 304), (304, (24, 1, 2, 1578, []), 307), (307, (3, 0, 2, 0, []), 308), (308, (0, 0, 0, 400, []), 311), (311, (24, 6, 1, 1, []), 313), (313, (24, 1, 2, 1579, []), 316), (316, (3, 0, 2, 0, []), 317), (317, (0, 0, 0, 1800, []), 320), (320, (24, 6, 1, 0, []), 322), (322, (24, 1, 2, 1580, []), 325), (325, (3, 0, 2, 0, []), 326), (326, (0, 0, 0, 1800, []), 329), (329, (24, 6, 1, 0, []), 331), (331, (24, 1, 2, 1581, []), 334), (334, (3, 0, 2, 0, []), 335), (335, (0, 0, 0, 6, []), 337), (337, (24, 6, 1, 0, []), 339), (339, (24, 1, 2, 1582, []), 342), (342, (3, 0, 2, 0, []), 343), (343, (0, 0, 0, 72, []), 345), (345, (24, 6, 1, 0, []), 347), (347, (24, 1, 2, 1583, []), 350), (350, (3, 0, 2, 0, []), 351), (351, (0, 0, 0, 72, []), 353), (353, (24, 6, 1, 0, []), 355), (355, (24, 1, 2, 1584, []), 358), (358, (3, 0, 2, 0, []), 359), (359, (0, 0, 0, 72, []), 361), (361, (24, 6, 1, 0, []), 363), (363, (24, 1, 2, 1585, []), 366), (366, (3, 0, 2, 0, []), 367), (367, (0, 0, 0, 402, []), 370), (370, (24, 6, 1, 0, []), 372), (372, (24, 1, 2, 1586, []), 375), (375, (3, 0, 2, 0, []), 376), (376, (0, 0, 0, 13, []), 378), (378, (24, 6, 1, 3, []), 380), (380, (24, 1, 2, 1587, []), 383), (383, (3, 0, 2, 0, []), 384), (384, (0, 0, 0, 300, []), 387), (387, (24, 6, 1, 3, []), 389), (389, (24, 1, 2, 1588, []), 392), (392, (3, 0, 2, 0, []), 393), (393, (0, 0, 0, 6, []), 395), (395, (24, 6, 1, 0, []), 397), (397, (24, 1, 2, 1590, []), 400), (400, (3, 0, 2, 0, []), 401), (401, (0, 0, 0, 720, []), 404), (404, (24, 6, 1, 0, []), 406), (406, (24, 1, 2, 1591, []), 409), (409, (3, 0, 2, 0, []), 410), (410, (0, 0, 0, 1, []), 411), (411, (24, 6, 1, 0, []), 413), (413, (24, 1, 2, 1592, []), 416), (416, (3, 0, 2, 0, []), 417), (417, (0, 0, 0, 4, []), 418), (418, (24, 6, 1, 0, []), 420), (420, (24, 1, 2, 1596, []), 423), (423, (3, 0, 2, 0, []), 424), (424, (0, 0, 0, 4, []), 425), (425, (24, 6, 1, 0, []), 427), (427, (24, 1, 2, 1597, []), 430), (430, (3, 0, 2, 0, []), 431), (431, (0, 0, 0, 4, []), 432), (432, (24, 6, 1, 0, []), 434), (434, (24, 1, 2, 1598, []), 437), (437, (3, 0, 2, 0, []), 438), (438, (0, 0, 0, 4, []), 439), (439, (24, 6, 1, 0, []), 441), (441, (24, 1, 2, 1600, []), 444), (444, (3, 0, 2, 0, []), 445), (445, (0, 0, 0, 4, []), 446), (446, (24, 6, 1, 0, []), 448), (448, (24, 1, 2, 1601, []), 451), (451, (3, 0, 2, 0, []), 452), (452, (0, 0, 0, 8, []), 454), (454, (24, 6, 1, 0, []), 456), (456, (24, 1, 2, 1603, []), 459), (459, (3, 0, 2, 0, []), 460), (460, (0, 0, 0, 6, []), 462), (462, (24, 6, 1, 0, []), 464), (464, (24, 1, 2, 1604, []), 467), (467, (3, 0, 2, 0, []), 468), (468, (0, 0, 0, 30, []), 470), (470, (24, 6, 1, 0, []), 472), (472, (24, 1, 2, 1605, []), 475), (475, (3, 0, 2, 0, []), 476), (476, (0, 0, 0, 5500, []), 479), (479, (24, 6, 1, 0, []), 481), (481, (24, 1, 2, 1606, []), 484), (484, (3, 0, 2, 0, []), 485), (485, (0, 0, 0, 4, []), 486), (486, (24, 6, 1, 2, []), 488), (488, (24, 1, 2, 1607, []), 491), (491, (23, 0, 0, 0, []), 492)]
/-- WashingLinesModel.feed(IIIII)I -/
def am_c156 : List (Nat × am_I × Nat) := [(0, (3, 0, 2, 0, []), 1), (1, (24, 0, 1, 1569, []), 4), (4, (0, 0, 0, 20, []), 6), (6, (6, 0, 0, 0, []), 7), (7, (0, 0, 0, 400, []), 10), (10, (15, 5, 15, 0, []), 13), (13, (0, 0, 0, -1, []), 14), (14, (22, 0, 0, 0, []), 15), (15, (3, 0, 2, 0, []), 16), (16, (3, 1, 0, 0, []), 17), (17, (21, 157, 2, 0, []), 20), (20, (3, 0, 2, 0, []), 21), (21, (3, 2, 0, 0, []), 22), (22, (21, 157, 2, 0, []), 25), (25, (3, 0, 2, 0, []), 26), (26, (3, 3, 0, 0, []), 27), (27, (21, 157, 2, 0, []), 30), (30, (3, 0, 2, 0, []), 31), (31, (3, 4, 0, 0, []), 33), (33, (21, 157, 2, 0, []), 36), (36, (3, 0, 2, 0, []), 37), (37, (3, 5, 0, 0, []), 39), (39, (21, 157, 2, 0, []), 42), (42, (3, 0, 2, 0, []), 43), (43, (24, 0, 1, 1569, []), 46), (46, (22, 0, 0, 0, []), 47)]
/-- WashingLinesModel.put(I)V -/
def am_c157 : List (Nat × am_I × Nat) := [(0, (0, 0, 0, 24, []), 2), (2, (4, 2, 0, 0, []), 3), (3, (3, 2, 0, 0, []), 4), (4, (16, 2, 36, 0, []), 7), (7, (3, 0, 2, 0, []), 8), (8, (24, 0, 1, 1579, []), 11), (11, (3, 0, 2, 0, []), 12), (12, (24, 0, 1, 1569, []), 15), (15, (3, 1, 0, 0, []), 16), (16, (3, 2, 0, 0, []), 17), (17, (6, 7, 0, 0, []), 18), (18, (7, 1, 0, 0, []), 19), (19, (24, 3, 3, 1, []), 20), (20, (3, 0, 2, 0, []), 21), (21, (12, 0, 0, 0, []), 22), (22, (24, 0, 1, 1569, []), 25), (25, (0, 0, 0, 1, []), 26), (26, (6, 0, 0, 0, []), 27), (27, (24, 1, 2, 1569, []), 30), (30, (5, 2, 0, -8, []), 33), (33, (18, 0, 3, 0, []), 36), (36, (23, 0, 0, 0, []), 37)]
/-- WashingLinesModel.end(I)I -/
def am_c158 : List (Nat × am_I × Nat) := [(0, (3, 1, 0, 0, []), 1), (1, (16, 2, 12, 0, []), 4), (4, (3, 1, 0, 0, []), 5), (5, (3, 0, 2, 0, []), 6), (6, (24, 0, 1, 1569, []), 9), (9, (15, 5, 14, 0, []), 12), (12, (0, 0, 0, -1, []), 13), (13, (22, 0, 0, 0, []), 14), (14, (3, 0, 2, 0, []), 15), (15, (3, 1, 0, 0, []), 16), (16, (24, 1, 2, 1569, []), 19), (19, (3, 1, 0, 0, []), 20), (20, (22, 0, 0, 0, []), 21)]
/-- WashingLinesModel.court()I -/
def am_c159 : List (Nat × am_I × Nat) := [(0, (3, 0, 2, 0, []), 1), (1, (21, 160, 1, 0, []), 4), (4, (3, 0, 2, 0, []), 5), (5, (24, 0, 1, 1571, []), 8), (8, (16, 5, 19, 0, []), 11), (11, (0, 0, 0, -2, []), 13), (13, (3, 0, 2, 0, []), 14), (14, (24, 0, 1, 1571, []), 17), (17, (6, 1, 0, 0, []), 18), (18, (22, 0, 0, 0, []), 19), (19, (0, 0, 0, 0, []), 20), (20, (4, 1, 0, 0, []), 21), (21, (3, 1, 0, 0, []), 22), (22, (0, 0, 0, 9, []), 24), (24, (15, 3, 55, 0, []), 27), (27, (3, 0, 2, 0, []), 28), (28, (24, 0, 1, 1537, []), 31), (31, (3, 1, 0, 0, []), 32), (32, (3, 1, 0, 0, []), 33), (33, (0, 0, 0, 7, []), 35), (35, (15, 3, 47, 0, []), 38), (38, (3, 0, 2, 0, []), 39), (39, (24, 0, 1, 1557, []), 42), (42, (3, 1, 0, 0, []), 43), (43, (24, 2, 2, 0, []), 44), (44, (18, 0, 48, 0, []), 47), (47, (0, 0, 0, 0, []), 48), (48, (24, 3, 3, 0, []), 49), (49, (5, 1, 0, 1, []), 52), (52, (18, 0, 21, 0, []), 55), (55, (3, 0, 2, 0, []), 56), (56, (24, 0, 1, 1558, []), 59), (59, (3, 0, 2, 0, []), 60), (60, (24, 0, 1, 1554, []), 63), (63, (21, 179, 2, 1, []), 66), (66, (3, 0, 2, 0, []), 67), (67, (24, 0, 1, 1559, []), 70), (70, (3, 0, 2, 0, []), 71), (71, (24, 0, 1, 1540, []), 74), (74, (21, 179, 2, 1, []), 77), (77, (3, 0, 2, 0, []), 78), (78, (24, 0, 1, 1560, []), 81), (81, (3, 0, 2, 0, []), 82), (82, (24, 0, 1, 1541, []), 85), (85, (21, 179, 2, 1, []), 88), (88, (3, 0, 2, 0, []), 89), (89, (24, 0, 1, 1561, []), 92), (92, (3, 0, 2, 0, []), 93), (93, (24, 0, 1, 1542, []), 96), (96, (21, 179, 2, 1, []), 99), (99, (3, 0, 2, 0, []), 100), (100, (24, 0, 1, 1562, []), 103), (103, (3, 0, 2, 0, []), 104), (104, (24, 0, 1, 1543, []), 107), (107, (21, 179, 2, 1, []), 110), (110, (3, 0, 2, 0, []), 111), (111, (24, 0, 1, 1563, []), 114), (114, (3, 0, 2, 0, []), 115), (115, (24, 0, 1, 1545, []), 118), (118, (21, 179, 2, 1, []), 121), (121, (3, 0, 2, 0, []), 122), (122, (24, 0, 1, 1564, []), 125), (125, (3, 0, 2, 0, []), 126), (126, (24, 0, 1, 1546, []), 129), (129, (21, 179, 2, 1, []), 132), (132, (3, 0, 2, 0, []), 133), (133, (24, 0, 1, 1565, []), 136), (136, (3, 0, 2, 0, []), 137), (137, (24, 0, 1, 1555, []), 140), (140, (21, 179, 2, 1, []), 143), (143, (3, 0, 2, 0, []), 144), (144, (24, 0, 1, 1566, []), 147), (147, (3, 0, 2, 0, []), 148), (148, (24, 0, 1, 1556, []), 151), (151, (21, 179, 2, 1, []), 154), (154, (3, 0, 2, 0, []), 155), (155, (24, 0, 1, 1567, []), 158), (158, (3, 0, 2, 0, []), 159), (159, (24, 0, 1, 1549, []), 162), (162, (21, 179, 2, 1, []), 165), (165, (3, 0, 2, 0, []), 166), (166, (24, 0, 1, 1568, []), 169), (169, (3, 0, 2, 0, []), 170), (170, (24, 0, 1, 1550, []), 173), (173, (21, 179, 2, 1, []), 176), (176, (3, 0, 2, 0, []), 177), (177, (21, 180, 1, 0, []), 180), (180, (3, 0, 2, 0, []), 181), (181, (0, 0, 0, 0, []), 182), (182, (24, 1, 2, 1593, []), 185), (185, (3, 0, 2, 0, []), 186), (186, (24, 0, 1, 1537, []), 189), (189, (0, 0, 0, 3, []), 190), (190, (24, 2, 2, 0, []), 191), (191, (22, 0, 0, 0, []), 192)]
/-- WashingLinesModel.readsAll()V -/
def am_c160 : List (Nat × am_I × Nat) := [(0, (3, 0, 2, 0, []), 1), (1, (21, 161, 1, 0, []), 4), (4, (0, 0, 0, 0, []), 5), (5, (4, 1, 0, 0, []), 6), (6, (3, 1, 0, 0, []), 7), (7, (0, 0, 0, 7, []), 9), (9, (15, 3, 25, 0, []), 12), (12, (3, 0, 2, 0, []), 13), (13, (24, 0, 1, 1557, []), 16), (16, (3, 1, 0, 0, []), 17), (17, (0, 0, 0, 0, []), 18), (18, (24, 3, 3, 0, []), 19), (19, (5, 1, 0, 1, []), 22), (22, (18, 0, 6, 0, []), 25), (25, (0, 0, 0, 0, []), 26), (26, (4, 1, 0, 0, []), 27), (27, (0, 0, 0, 1, []), 28), (28, (4, 2, 0, 0, []), 29), (29, (3, 2, 0, 0, []), 30), (30, (16, 0, 49, 0, []), 33), (33, (3, 0, 2, 0, []), 34), (34, (3, 1, 0, 0, []), 35), (35, (21, 162, 2, 0, []), 38), (38, (5, 1, 0, 1, []), 41), (41, (3, 0, 2, 0, []), 42), (42, (21, 178, 1, 0, []), 45), (45, (4, 2, 0, 0, []), 46), (46, (18, 0, 29, 0, []), 49), (49, (3, 0, 2, 0, []), 50), (50, (0, 0, 0, 0, []), 51), (51, (24, 1, 2, 1569, []), 54), (54, (23, 0, 0, 0, []), 55)]
/-- WashingLinesModel.starts()V -/
def am_c161 : List (Nat × am_I × Nat) := [(0, (3, 0, 2, 0, []), 1), (1, (0, 0, 0, 0, []), 2), (2, (24, 1, 2, 1570, []), 5), (5, (3, 0, 2, 0, []), 6), (6, (0, 0, 0, 0, []), 7), (7, (24, 1, 2, 1571, []), 10), (10, (3, 0, 2, 0, []), 11), (11, (0, 0, 0, 0, []), 12), (12, (24, 1, 2, 1574, []), 15), (15, (3, 0, 2, 0, []), 16), (16, (0, 0, 0, 0, []), 17), (17, (24, 1, 2, 1575, []), 20), (20, (3, 0, 2, 0, []), 21), (21, (0, 0, 0, 0, []), 22), (22, (24, 1, 2, 1576, []), 25), (25, (23, 0, 0, 0, []), 26)]
/-- WashingLinesModel.courtClause(I)V -/
def am_c162 : List (Nat × am_I × Nat) := [(0, (3, 0, 2, 0, []), 1), (1, (21, 163, 1, 0, []), 4), (4, (3, 0, 2, 0, []), 5), (5, (24, 0, 1, 1570, []), 8), (8, (4, 2, 0, 0, []), 9), (9, (0, 0, 0, 0, []), 10), (10, (4, 3, 0, 0, []), 11), (11, (3, 3, 0, 0, []), 12), (12, (0, 0, 0, 6, []), 14), (14, (15, 3, 34, 0, []), 17), (17, (3, 0, 2, 0, []), 18), (18, (3, 3, 0, 0, []), 19), (19, (21, 165, 1, 1, []), 22), (22, (21, 166, 2, 0, []), 25), (25, (16, 1, 34, 0, []), 28), (28, (5, 3, 0, 1, []), 31), (31, (18, 0, 11, 0, []), 34), (34, (3, 3, 0, 0, []), 35), (35, (0, 0, 0, 6, []), 37), (37, (15, 1, 47, 0, []), 40), (40, (3, 0, 2, 0, []), 41), (41, (0, 0, 0, 0, []), 42), (42, (3, 2, 0, 0, []), 43), (43, (21, 167, 3, 0, []), 46), (46, (23, 0, 0, 0, []), 47), (47, (3, 0, 2, 0, []), 48), (48, (3, 3, 0, 0, []), 49), (49, (3, 1, 0, 0, []), 50), (50, (21, 168, 3, 0, []), 53), (53, (16, 0, 63, 0, []), 56), (56, (3, 0, 2, 0, []), 57), (57, (0, 0, 0, 4, []), 58), (58, (3, 2, 0, 0, []), 59), (59, (21, 167, 3, 0, []), 62), (62, (23, 0, 0, 0, []), 63), (63, (3, 0, 2, 0, []), 64), (64, (12, 0, 0, 0, []), 65), (65, (24, 0, 1, 1570, []), 68), (68, (3, 3, 0, 0, []), 69), (69, (21, 165, 1, 1, []), 72), (72, (21, 274, 1, 0, []), 75), (75, (6, 0, 0, 0, []), 76), (76, (24, 1, 2, 1570, []), 79), (79, (3, 0, 2, 0, []), 80), (80, (3, 3, 0, 0, []), 81), (81, (21, 169, 2, 0, []), 84), (84, (23, 0, 0, 0, []), 85)]
/-- WashingLinesModel.blanks()V -/
def am_c163 : List (Nat × am_I × Nat) := [(0, (3, 0, 2, 0, []), 1), (1, (21, 164, 1, 0, []), 4), (4, (0, 0, 0, 32, []), 6), (6, (15, 1, 22, 0, []), 9), (9, (3, 0, 2, 0, []), 10), (10, (12, 0, 0, 0, []), 11), (11, (24, 0, 1, 1570, []), 14), (14, (0, 0, 0, 1, []), 15), (15, (6, 0, 0, 0, []), 16), (16, (24, 1, 2, 1570, []), 19), (19, (18, 0, 0, 0, []), 22), (22, (23, 0, 0, 0, []), 23)]
/-- WashingLinesModel.sign()I -/
def am_c164 : List (Nat × am_I × Nat) := [(0, (3, 0, 2, 0, []), 1), (1, (24, 0, 1, 1570, []), 4), (4, (3, 0, 2, 0, []), 5), (5, (24, 0, 1, 1569, []), 8), (8, (15, 3, 27, 0, []), 11), (11, (3, 0, 2, 0, []), 12), (12, (24, 0, 1, 1579, []), 15), (15, (3, 0, 2, 0, []), 16), (16, (24, 0, 1, 1570, []), 19), (19, (24, 2, 2, 1, []), 20), (20, (0, 0, 0, 255, []), 23), (23, (6, 3, 0, 0, []), 24), (24, (18, 0, 28, 0, []), 27), (27, (0, 0, 0, -1, []), 28), (28, (22, 0, 0, 0, []), 29)]
/-- WashingLinesModel.courtWord(I)Ljava/lang/String; -/
def am_c165 : List (Nat × am_I × Nat) := [(0, (3, 0, 0, 0, []), 1), (1, (19, 0, 54, 0, [(0, 36), (1, 40), (2, 43), (3, 47), (4, 50)]), 36), (36, (24, 9, 0, 2, []), 39), (39, (22, 3, 0, 0, []), 40), (40, (24, 9, 0, 3, []), 42), (42, (22, 3, 0, 0, []), 43), (43, (24, 9, 0, 4, []), 46), (46, (22, 3, 0, 0, []), 47), (47, (24, 9, 0, 5, []), 49), (49, (22, 3, 0, 0, []), 50), (50, (24, 9, 0, 6, []), 53), (53, (22, 3, 0, 0, []), 54), (54, (24, 9, 0, 7, []), 56), (56, (22, 3, 0, 0, []), 57)]
/-- WashingLinesModel.stood(Ljava/lang/String;)Z -/
def am_c166 : List (Nat × am_I × Nat) := [(0, (3, 0, 2, 0, []), 1), (1, (24, 0, 1, 1570, []), 4), (4, (4, 2, 0, 0, []), 5), (5, (3, 2, 0, 0, []), 6), (6, (3, 0, 2, 0, []), 7), (7, (24, 0, 1, 1569, []), 10), (10, (15, 3, 41, 0, []), 13), (13, (3, 0, 2, 0, []), 14), (14, (24, 0, 1, 1579, []), 17), (17, (3, 2, 0, 0, []), 18), (18, (24, 2, 2, 1, []), 19), (19, (0, 0, 0, 97, []), 21), (21, (15, 2, 41, 0, []), 24), (24, (3, 0, 2, 0, []), 25), (25, (24, 0, 1, 1579, []), 28), (28, (3, 2, 0, 0, []), 29), (29, (24, 2, 2, 1, []), 30), (30, (0, 0, 0, 122, []), 32), (32, (15, 4, 41, 0, []), 35), (35, (5, 2, 0, 1, []), 38), (38, (18, 0, 5, 0, []), 41), (41, (3, 2, 0, 0, []), 42), (42, (3, 0, 2, 0, []), 43), (43, (24, 0, 1, 1570, []), 46), (46, (6, 1, 0, 0, []), 47), (47, (3, 1, 2, 0, []), 48), (48, (21, 274, 1, 0, []), 51), (51, (15, 1, 58, 0, []), 54), (54, (0, 0, 0, 1, []), 55), (55, (18, 0, 59, 0, []), 58), (58, (0, 0, 0, 0, []), 59), (59, (4, 3, 0, 0, []), 60), (60, (0, 0, 0, 0, []), 61), (61, (4, 4, 0, 0, []), 63), (63, (3, 4, 0, 0, []), 65), (65, (3, 1, 2, 0, []), 66), (66, (21, 274, 1, 0, []), 69), (69, (15, 3, 109, 0, []), 72), (72, (3, 3, 0, 0, []), 73), (73, (16, 0, 109, 0, []), 76), (76, (3, 0, 2, 0, []), 77), (77, (24, 0, 1, 1579, []), 80), (80, (3, 0, 2, 0, []), 81), (81, (24, 0, 1, 1570, []), 84), (84, (3, 4, 0, 0, []), 86), (86, (6, 0, 0, 0, []), 87), (87, (24, 2, 2, 1, []), 88), (88, (3, 1, 2, 0, []), 89), (89, (3, 4, 0, 0, []), 91), (91, (21, 276, 2, 0, []), 94), (94, (15, 1, 101, 0, []), 97), (97, (0, 0, 0, 1, []), 98), (98, (18, 0, 102, 0, []), 101), (101, (0, 0, 0, 0, []), 102), (102, (4, 3, 0, 0, []), 103), (103, (5, 4, 0, 1, []), 106), (106, (18, 0, 63, 0, []), 109), (109, (3, 3, 0, 0, []), 110), (110, (22, 1, 0, 0, []), 111)]
/-- WashingLinesModel.fails(II)V -/
def am_c167 : List (Nat × am_I × Nat) := [(0, (3, 0, 2, 0, []), 1), (1, (3, 0, 2, 0, []), 2), (2, (24, 0, 1, 1571, []), 5), (5, (16, 1, 19, 0, []), 8), (8, (0, 0, 0, 1, []), 9), (9, (0, 0, 0, 8, []), 11), (11, (3, 2, 0, 0, []), 12), (12, (6, 2, 0, 0, []), 13), (13, (6, 0, 0, 0, []), 14), (14, (3, 1, 0, 0, []), 15), (15, (6, 0, 0, 0, []), 16), (16, (18, 0, 23, 0, []), 19), (19, (3, 0, 2, 0, []), 20), (20, (24, 0, 1, 1571, []), 23), (23, (24, 1, 2, 1571, []), 26), (26, (23, 0, 0, 0, []), 27)]
/-- WashingLinesModel.isFull(II)Z -/
def am_c168 : List (Nat × am_I × Nat) := [(0, (3, 2, 0, 0, []), 1), (1, (0, 0, 0, 40, []), 3), (3, (15, 0, 27, 0, []), 6), (6, (3, 1, 0, 0, []), 7), (7, (16, 1, 14, 0, []), 10), (10, (0, 0, 0, 1, []), 11), (11, (18, 0, 15, 0, []), 14), (14, (0, 0, 0, 0, []), 15), (15, (3, 2, 0, 0, []), 16), (16, (16, 1, 23, 0, []), 19), (19, (0, 0, 0, 1, []), 20), (20, (18, 0, 24, 0, []), 23), (23, (0, 0, 0, 0, []), 24), (24, (15, 0, 29, 0, []), 27), (27, (0, 0, 0, 1, []), 28), (28, (22, 1, 0, 0, []), 29), (29, (3, 1, 0, 0, []), 30), (30, (19, 0, 130, 0, [(1, 64), (2, 80), (3, 97), (4, 130), (5, 114)]), 64), (64, (3, 0, 2, 0, []), 65), (65, (24, 0, 1, 1557, []), 68), (68, (0, 0, 0, 2, []), 69), (69, (24, 2, 2, 0, []), 70), (70, (0, 0, 0, 4, []), 71), (71, (15, 1, 78, 0, []), 74), (74, (0, 0, 0, 1, []), 75), (75, (18, 0, 79, 0, []), 78), (78, (0, 0, 0, 0, []), 79), (79, (22, 1, 0, 0, []), 80), (80, (3, 0, 2, 0, []), 81), (81, (24, 0, 1, 1557, []), 84), (84, (0, 0, 0, 4, []), 85), (85, (24, 2, 2, 0, []), 86), (86, (0, 0, 0, 10, []), 88), (88, (15, 1, 95, 0, []), 91), (91, (0, 0, 0, 1, []), 92), (92, (18, 0, 96, 0, []), 95), (95, (0, 0, 0, 0, []), 96), (96, (22, 1, 0, 0, []), 97), (97, (3, 0, 2, 0, []), 98), (98, (24, 0, 1, 1557, []), 101), (101, (0, 0, 0, 3, []), 102), (102, (24, 2, 2, 0, []), 103), (103, (0, 0, 0, 6, []), 105), (105, (15, 1, 112, 0, []), 108), (108, (0, 0, 0, 1, []), 109), (109, (18, 0, 113, 0, []), 112), (112, (0, 0, 0, 0, []), 113), (113, (22, 1, 0, 0, []), 114), (114, (3, 0, 2, 0, []), 115), (115, (24, 0, 1, 1557, []), 118), (118, (0, 0, 0, 5, []), 119), (119, (24, 2, 2, 0, []), 120), (120, (0, 0, 0, 3, []), 121), (121, (15, 1, 128, 0, []), 124), (124, (0, 0, 0, 1, []), 125), (125, (18, 0, 129, 0, []), 128), (128, (0, 0, 0, 0, []), 129), (129, (22, 1, 0, 0, []), 130), (130, (0, 0, 0, 0, []), 131), (131, (22, 1, 0, 0, []), 132)]
/-- WashingLinesModel.courtPart(I)V -/
def am_c169 : List (Nat × am_I × Nat) := [(0, (3, 1, 0, 0, []), 1), (1, (19, 0, 116, 0, [(0, 36), (1, 64), (2, 95), (3, 102), (4, 109)]), 36), (36, (3, 0, 2, 0, []), 37), (37, (24, 0, 1, 1557, []), 40), (40, (0, 0, 0, 0, []), 41), (41, (3, 0, 2, 0, []), 42), (42, (0, 0, 0, 1, []), 43), (43, (0, 0, 0, 5, []), 44), (44, (21, 170, 3, 0, []), 47), (47, (24, 3, 3, 0, []), 48), (48, (3, 0, 2, 0, []), 49), (49, (24, 0, 1, 1557, []), 52), (52, (0, 0, 0, 1, []), 53), (53, (3, 0, 2, 0, []), 54), (54, (0, 0, 0, 1, []), 55), (55, (0, 0, 0, 20, []), 57), (57, (21, 170, 3, 0, []), 60), (60, (24, 3, 3, 0, []), 61), (61, (18, 0, 164, 0, []), 64), (64, (3, 0, 2, 0, []), 65), (65, (24, 0, 1, 1558, []), 68), (68, (3, 0, 2, 0, []), 69), (69, (24, 0, 1, 1557, []), 72), (72, (0, 0, 0, 2, []), 73), (73, (24, 2, 2, 0, []), 74), (74, (3, 0, 2, 0, []), 75), (75, (0, 0, 0, 0, []), 76), (76, (0, 0, 0, 20, []), 78), (78, (21, 170, 3, 0, []), 81), (81, (24, 3, 3, 0, []), 82), (82, (3, 0, 2, 0, []), 83), (83, (24, 0, 1, 1557, []), 86), (86, (0, 0, 0, 2, []), 87), (87, (13, 0, 0, 0, []), 88), (88, (24, 2, 2, 0, []), 89), (89, (0, 0, 0, 1, []), 90), (90, (6, 0, 0, 0, []), 91), (91, (24, 3, 3, 0, []), 92), (92, (18, 0, 164, 0, []), 95), (95, (3, 0, 2, 0, []), 96), (96, (21, 174, 1, 0, []), 99), (99, (18, 0, 164, 0, []), 102), (102, (3, 0, 2, 0, []), 103), (103, (21, 175, 1, 0, []), 106), (106, (18, 0, 164, 0, []), 109), (109, (3, 0, 2, 0, []), 110), (110, (21, 176, 1, 0, []), 113), (113, (18, 0, 164, 0, []), 116), (116, (3, 0, 2, 0, []), 117), (117, (24, 0, 1, 1557, []), 120), (120, (0, 0, 0, 5, []), 121), (121, (24, 2, 2, 0, []), 122), (122, (4, 2, 0, 0, []), 123), (123, (3, 0, 2, 0, []), 124), (124, (24, 0, 1, 1567, []), 127), (127, (3, 2, 0, 0, []), 128), (128, (3, 0, 2, 0, []), 129), (129, (0, 0, 0, 0, []), 130), (130, (0, 0, 0, 99, []), 132), (132, (21, 170, 3, 0, []), 135), (135, (24, 3, 3, 0, []), 136), (136, (3, 0, 2, 0, []), 137), (137, (24, 0, 1, 1568, []), 140), (140, (3, 2, 0, 0, []), 141), (141, (3, 0, 2, 0, []), 142), (142, (3, 0, 2, 0, []), 143), (143, (24, 0, 1, 1567, []), 146), (146, (3, 2, 0, 0, []), 147), (147, (24, 2, 2, 0, []), 148), (148, (0, 0, 0, 99, []), 150), (150, (21, 170, 3, 0, []), 153), (153, (24, 3, 3, 0, []), 154), (154, (3, 0, 2, 0, []), 155), (155, (24, 0, 1, 1557, []), 158), (158, (0, 0, 0, 5, []), 159), (159, (13, 0, 0, 0, []), 160), (160, (24, 2, 2, 0, []), 161), (161, (0, 0, 0, 1, []), 162), (162, (6, 0, 0, 0, []), 163), (163, (24, 3, 3, 0, []), 164), (164, (23, 0, 0, 0, []), 165)]
/-- WashingLinesModel.amount(II)I -/
def am_c170 : List (Nat × am_I × Nat) := [(0, (3, 0, 2, 0, []), 1), (1, (21, 163, 1, 0, []), 4), (4, (3, 0, 2, 0, []), 5), (5, (24, 0, 1, 1570, []), 8), (8, (4, 3, 0, 0, []), 9), (9, (3, 0, 2, 0, []), 10), (10, (24, 0, 1, 1571, []), 13), (13, (16, 1, 26, 0, []), 16), (16, (3, 0, 2, 0, []), 17), (17, (0, 0, 0, 99999, []), 20), (20, (21, 171, 2, 0, []), 23), (23, (18, 0, 27, 0, []), 26), (26, (0, 0, 0, 0, []), 27), (27, (4, 4, 0, 0, []), 29), (29, (3, 0, 2, 0, []), 30), (30, (24, 0, 1, 1571, []), 33), (33, (16, 1, 55, 0, []), 36), (36, (3, 4, 0, 0, []), 38), (38, (8, 0, 0, 0, []), 39), (39, (3, 1, 0, 0, []), 40), (40, (8, 0, 0, 0, []), 41), (41, (3, 2, 0, 0, []), 42), (42, (8, 0, 0, 0, []), 43), (43, (21, 173, 3, 1, []), 46), (46, (16, 1, 55, 0, []), 49), (49, (3, 0, 2, 0, []), 50), (50, (0, 0, 0, 1, []), 51), (51, (3, 3, 0, 0, []), 52), (52, (21, 167, 3, 0, []), 55), (55, (3, 4, 0, 0, []), 57), (57, (22, 0, 0, 0, []), 58)]
/-- WashingLinesModel.digits(I)I -/
def am_c171 : List (Nat × am_I × Nat) := [(0, (3, 0, 2, 0, []), 1), (1, (21, 172, 1, 0, []), 4), (4, (16, 1, 18, 0, []), 7), (7, (3, 0, 2, 0, []), 8), (8, (0, 0, 0, 0, []), 9), (9, (3, 0, 2, 0, []), 10), (10, (24, 0, 1, 1570, []), 13), (13, (21, 167, 3, 0, []), 16), (16, (0, 0, 0, 0, []), 17), (17, (22, 0, 0, 0, []), 18), (18, (3, 0, 2, 0, []), 19), (19, (24, 0, 1, 1570, []), 22), (22, (4, 2, 0, 0, []), 23), (23, (0, 0, 0, 0, []), 24), (24, (4, 3, 0, 0, []), 25), (25, (3, 0, 2, 0, []), 26), (26, (21, 172, 1, 0, []), 29), (29, (16, 0, 72, 0, []), 32), (32, (3, 0, 2, 0, []), 33), (33, (24, 0, 1, 1570, []), 36), (36, (3, 2, 0, 0, []), 37), (37, (6, 1, 0, 0, []), 38), (38, (0, 0, 0, 5, []), 39), (39, (15, 3, 57, 0, []), 42), (42, (0, 0, 0, 10, []), 44), (44, (3, 3, 0, 0, []), 45), (45, (6, 2, 0, 0, []), 46), (46, (3, 0, 2, 0, []), 47), (47, (21, 164, 1, 0, []), 50), (50, (6, 0, 0, 0, []), 51), (51, (0, 0, 0, 48, []), 53), (53, (6, 1, 0, 0, []), 54), (54, (18, 0, 58, 0, []), 57), (57, (3, 3, 0, 0, []), 58), (58, (4, 3, 0, 0, []), 59), (59, (3, 0, 2, 0, []), 60), (60, (12, 0, 0, 0, []), 61), (61, (24, 0, 1, 1570, []), 64), (64, (0, 0, 0, 1, []), 65), (65, (6, 0, 0, 0, []), 66), (66, (24, 1, 2, 1570, []), 69), (69, (18, 0, 25, 0, []), 72), (72, (3, 0, 2, 0, []), 73), (73, (24, 0, 1, 1570, []), 76), (76, (3, 2, 0, 0, []), 77), (77, (6, 1, 0, 0, []), 78), (78, (0, 0, 0, 5, []), 79), (79, (15, 4, 87, 0, []), 82), (82, (3, 3, 0, 0, []), 83), (83, (3, 1, 0, 0, []), 84), (84, (15, 5, 93, 0, []), 87), (87, (3, 0, 2, 0, []), 88), (88, (0, 0, 0, 1, []), 89), (89, (3, 2, 0, 0, []), 90), (90, (21, 167, 3, 0, []), 93), (93, (3, 3, 0, 0, []), 94), (94, (22, 0, 0, 0, []), 95)]
/-- WashingLinesModel.isDigit()Z -/
def am_c172 : List (Nat × am_I × Nat) := [(0, (3, 0, 2, 0, []), 1), (1, (21, 164, 1, 0, []), 4), (4, (8, 0, 0, 0, []), 5), (5, (1, 0, 0, 48, []), 8), (8, (1, 0, 0, 57, []), 11), (11, (21, 173, 3, 1, []), 14), (14, (22, 1, 0, 0, []), 15)]
/-- WashingLinesModel.in(JJJ)Z -/
def am_c173 : List (Nat × am_I × Nat) := [(0, (3, 0, 1, 0, []), 1), (1, (3, 2, 1, 0, []), 2), (2, (11, 0, 0, 0, []), 3), (3, (16, 2, 17, 0, []), 6), (6, (3, 0, 1, 0, []), 7), (7, (3, 4, 1, 0, []), 9), (9, (11, 0, 0, 0, []), 10), (10, (16, 4, 17, 0, []), 13), (13, (0, 0, 0, 1, []), 14), (14, (18, 0, 18, 0, []), 17), (17, (0, 0, 0, 0, []), 18), (18, (22, 1, 0, 0, []), 19)]
/-- WashingLinesModel.readsLinen()V -/
def am_c174 : List (Nat × am_I × Nat) := [(0, (3, 0, 2, 0, []), 1), (1, (24, 0, 1, 1557, []), 4), (4, (0, 0, 0, 4, []), 5), (5, (24, 2, 2, 0, []), 6), (6, (4, 1, 0, 0, []), 7), (7, (3, 0, 2, 0, []), 8), (8, (24, 0, 1, 1563, []), 11), (11, (3, 1, 0, 0, []), 12), (12, (3, 0, 2, 0, []), 13), (13, (0, 0, 0, 0, []), 14), (14, (3, 0, 2, 0, []), 15), (15, (24, 0, 1, 1557, []), 18), (18, (0, 0, 0, 2, []), 19), (19, (24, 2, 2, 0, []), 20), (20, (0, 0, 0, 1, []), 21), (21, (6, 1, 0, 0, []), 22), (22, (21, 170, 3, 0, []), 25), (25, (24, 3, 3, 0, []), 26), (26, (3, 0, 2, 0, []), 27), (27, (24, 0, 1, 1564, []), 30), (30, (3, 1, 0, 0, []), 31), (31, (3, 0, 2, 0, []), 32), (32, (0, 0, 0, 1, []), 33), (33, (0, 0, 0, 4, []), 34), (34, (21, 170, 3, 0, []), 37), (37, (24, 3, 3, 0, []), 38), (38, (3, 0, 2, 0, []), 39), (39, (24, 0, 1, 1565, []), 42), (42, (3, 1, 0, 0, []), 43), (43, (3, 0, 2, 0, []), 44), (44, (0, 0, 0, 0, []), 45), (45, (0, 0, 0, 20, []), 47), (47, (21, 170, 3, 0, []), 50), (50, (24, 3, 3, 0, []), 51), (51, (3, 0, 2, 0, []), 52), (52, (24, 0, 1, 1566, []), 55), (55, (3, 1, 0, 0, []), 56), (56, (0, 0, 0, -1, []), 57), (57, (24, 3, 3, 0, []), 58), (58, (3, 0, 2, 0, []), 59), (59, (24, 0, 1, 1557, []), 62), (62, (0, 0, 0, 4, []), 63), (63, (13, 0, 0, 0, []), 64), (64, (24, 2, 2, 0, []), 65), (65, (0, 0, 0, 1, []), 66), (66, (6, 0, 0, 0, []), 67), (67, (24, 3, 3, 0, []), 68), (68, (23, 0, 0, 0, []), 69)]
/-- WashingLinesModel.readsLine()V -/
def am_c175 : List (Nat × am_I × Nat) := [(0, (3, 0, 2, 0, []), 1), (1, (24, 0, 1, 1557, []), 4), (4, (0, 0, 0, 3, []), 5), (5, (24, 2, 2, 0, []), 6), (6, (4, 1, 0, 0, []), 7), (7, (3, 0, 2, 0, []), 8), (8, (24, 0, 1, 1559, []), 11), (11, (3, 1, 0, 0, []), 12), (12, (3, 0, 2, 0, []), 13), (13, (0, 0, 0, 0, []), 14), (14, (0, 0, 0, 7, []), 16), (16, (21, 170, 3, 0, []), 19), (19, (24, 3, 3, 0, []), 20), (20, (3, 0, 2, 0, []), 21), (21, (21, 163, 1, 0, []), 24), (24, (3, 0, 2, 0, []), 25), (25, (24, 0, 1, 1570, []), 28), (28, (4, 2, 0, 0, []), 29), (29, (3, 0, 2, 0, []), 30), (30, (24, 0, 1, 1560, []), 33), (33, (3, 1, 0, 0, []), 34), (34, (3, 0, 2, 0, []), 35), (35, (0, 0, 0, 0, []), 36), (36, (0, 0, 0, 7, []), 38), (38, (21, 170, 3, 0, []), 41), (41, (24, 3, 3, 0, []), 42), (42, (3, 0, 2, 0, []), 43), (43, (24, 0, 1, 1571, []), 46), (46, (16, 1, 70, 0, []), 49), (49, (3, 0, 2, 0, []), 50), (50, (24, 0, 1, 1559, []), 53), (53, (3, 1, 0, 0, []), 54), (54, (24, 2, 2, 0, []), 55), (55, (3, 0, 2, 0, []), 56), (56, (24, 0, 1, 1560, []), 59), (59, (3, 1, 0, 0, []), 60), (60, (24, 2, 2, 0, []), 61), (61, (15, 1, 70, 0, []), 64), (64, (3, 0, 2, 0, []), 65), (65, (0, 0, 0, 1, []), 66), (66, (3, 2, 0, 0, []), 67), (67, (21, 167, 3, 0, []), 70), (70, (3, 0, 2, 0, []), 71), (71, (24, 0, 1, 1561, []), 74), (74, (3, 1, 0, 0, []), 75), (75, (3, 0, 2, 0, []), 76), (76, (0, 0, 0, 1, []), 77), (77, (0, 0, 0, 9, []), 79), (79, (21, 170, 3, 0, []), 82), (82, (24, 3, 3, 0, []), 83), (83, (3, 0, 2, 0, []), 84), (84, (24, 0, 1, 1562, []), 87), (87, (3, 1, 0, 0, []), 88), (88, (3, 0, 2, 0, []), 89), (89, (0, 0, 0, 1, []), 90), (90, (0, 0, 0, 99, []), 92), (92, (21, 170, 3, 0, []), 95), (95, (24, 3, 3, 0, []), 96), (96, (3, 0, 2, 0, []), 97), (97, (24, 0, 1, 1557, []), 100), (100, (0, 0, 0, 3, []), 101), (101, (13, 0, 0, 0, []), 102), (102, (24, 2, 2, 0, []), 103), (103, (0, 0, 0, 1, []), 104), (104, (6, 0, 0, 0, []), 105), (105, (24, 3, 3, 0, []), 106), (106, (23, 0, 0, 0, []), 107)]
/-- WashingLinesModel.readsHung()V -/
def am_c176 : List (Nat × am_I × Nat) := [(0, (3, 0, 2, 0, []), 1), (1, (0, 0, 0, 0, []), 2), (2, (3, 0, 2, 0, []), 3), (3, (24, 0, 1, 1557, []), 6), (6, (0, 0, 0, 4, []), 7), (7, (24, 2, 2, 0, []), 8), (8, (0, 0, 0, 1, []), 9), (9, (6, 1, 0, 0, []), 10), (10, (21, 170, 3, 0, []), 13), (13, (4, 1, 0, 0, []), 14), (14, (3, 0, 2, 0, []), 15), (15, (21, 163, 1, 0, []), 18), (18, (3, 0, 2, 0, []), 19), (19, (24, 0, 1, 1570, []), 22), (22, (4, 2, 0, 0, []), 23), (23, (3, 0, 2, 0, []), 24), (24, (0, 0, 0, 0, []), 25), (25, (3, 0, 2, 0, []), 26), (26, (24, 0, 1, 1557, []), 29), (29, (0, 0, 0, 3, []), 30), (30, (24, 2, 2, 0, []), 31), (31, (0, 0, 0, 1, []), 32), (32, (6, 1, 0, 0, []), 33), (33, (21, 170, 3, 0, []), 36), (36, (4, 3, 0, 0, []), 37), (37, (3, 0, 2, 0, []), 38), (38, (24, 0, 1, 1571, []), 41), (41, (16, 5, 45, 0, []), 44), (44, (23, 0, 0, 0, []), 45), (45, (3, 0, 2, 0, []), 46), (46, (3, 1, 0, 0, []), 47), (47, (3, 3, 0, 0, []), 48), (48, (21, 177, 3, 0, []), 51), (51, (16, 1, 61, 0, []), 54), (54, (3, 0, 2, 0, []), 55), (55, (0, 0, 0, 1, []), 56), (56, (3, 2, 0, 0, []), 57), (57, (21, 167, 3, 0, []), 60), (60, (23, 0, 0, 0, []), 61), (61, (3, 0, 2, 0, []), 62), (62, (24, 0, 1, 1566, []), 65), (65, (3, 1, 0, 0, []), 66), (66, (3, 3, 0, 0, []), 67), (67, (24, 3, 3, 0, []), 68), (68, (3, 0, 2, 0, []), 69), (69, (24, 0, 1, 1558, []), 72), (72, (3, 0, 2, 0, []), 73), (73, (24, 0, 1, 1563, []), 76), (76, (3, 1, 0, 0, []), 77), (77, (24, 2, 2, 0, []), 78), (78, (13, 0, 0, 0, []), 79), (79, (24, 2, 2, 0, []), 80), (80, (0, 0, 0, 2, []), 81), (81, (6, 1, 0, 0, []), 82), (82, (24, 3, 3, 0, []), 83), (83, (23, 0, 0, 0, []), 84)]
/-- WashingLinesModel.couldHang(II)Z -/
def am_c177 : List (Nat × am_I × Nat) := [(0, (3, 0, 2, 0, []), 1), (1, (24, 0, 1, 1561, []), 4), (4, (3, 2, 0, 0, []), 5), (5, (24, 2, 2, 0, []), 6), (6, (4, 3, 0, 0, []), 7), (7, (0, 0, 0, 0, []), 8), (8, (4, 4, 0, 0, []), 10), (10, (3, 4, 0, 0, []), 12), (12, (3, 0, 2, 0, []), 13), (13, (24, 0, 1, 1557, []), 16), (16, (0, 0, 0, 4, []), 17), (17, (24, 2, 2, 0, []), 18), (18, (15, 3, 52, 0, []), 21), (21, (3, 3, 0, 0, []), 22), (22, (3, 0, 2, 0, []), 23), (23, (24, 0, 1, 1566, []), 26), (26, (3, 4, 0, 0, []), 28), (28, (24, 2, 2, 0, []), 29), (29, (3, 2, 0, 0, []), 30), (30, (15, 1, 43, 0, []), 33), (33, (3, 0, 2, 0, []), 34), (34, (24, 0, 1, 1564, []), 37), (37, (3, 4, 0, 0, []), 39), (39, (24, 2, 2, 0, []), 40), (40, (18, 0, 44, 0, []), 43), (43, (0, 0, 0, 0, []), 44), (44, (6, 1, 0, 0, []), 45), (45, (4, 3, 0, 0, []), 46), (46, (5, 4, 0, 1, []), 49), (49, (18, 0, 10, 0, []), 52), (52, (3, 0, 2, 0, []), 53), (53, (24, 0, 1, 1566, []), 56), (56, (3, 1, 0, 0, []), 57), (57, (24, 2, 2, 0, []), 58), (58, (0, 0, 0, -1, []), 59), (59, (15, 1, 91, 0, []), 62), (62, (3, 3, 0, 0, []), 63), (63, (3, 0, 2, 0, []), 64), (64, (24, 0, 1, 1564, []), 67), (67, (3, 1, 0, 0, []), 68), (68, (24, 2, 2, 0, []), 69), (69, (15, 2, 91, 0, []), 72), (72, (3, 0, 2, 0, []), 73), (73, (24, 0, 1, 1558, []), 76), (76, (3, 0, 2, 0, []), 77), (77, (24, 0, 1, 1563, []), 80), (80, (3, 1, 0, 0, []), 81), (81, (24, 2, 2, 0, []), 82), (82, (24, 2, 2, 0, []), 83), (83, (0, 0, 0, 2, []), 84), (84, (15, 2, 91, 0, []), 87), (87, (0, 0, 0, 1, []), 88), (88, (18, 0, 92, 0, []), 91), (91, (0, 0, 0, 0, []), 92), (92, (22, 1, 0, 0, []), 93)]
/-- WashingLinesModel.goesOn()Z -/
def am_c178 : List (Nat × am_I × Nat) := [(0, (3, 0, 2, 0, []), 1), (1, (21, 163, 1, 0, []), 4), (4, (3, 0, 2, 0, []), 5), (5, (24, 0, 1, 1571, []), 8), (8, (16, 1, 40, 0, []), 11), (11, (3, 0, 2, 0, []), 12), (12, (24, 0, 1, 1570, []), 15), (15, (3, 0, 2, 0, []), 16), (16, (24, 0, 1, 1569, []), 19), (19, (15, 3, 40, 0, []), 22), (22, (3, 0, 2, 0, []), 23), (23, (21, 164, 1, 0, []), 26), (26, (0, 0, 0, 59, []), 28), (28, (15, 0, 40, 0, []), 31), (31, (3, 0, 2, 0, []), 32), (32, (0, 0, 0, 0, []), 33), (33, (3, 0, 2, 0, []), 34), (34, (24, 0, 1, 1570, []), 37), (37, (21, 167, 3, 0, []), 40), (40, (3, 0, 2, 0, []), 41), (41, (24, 0, 1, 1571, []), 44), (44, (16, 1, 62, 0, []), 47), (47, (3, 0, 2, 0, []), 48), (48, (24, 0, 1, 1570, []), 51), (51, (3, 0, 2, 0, []), 52), (52, (24, 0, 1, 1569, []), 55), (55, (15, 3, 62, 0, []), 58), (58, (0, 0, 0, 1, []), 59), (59, (18, 0, 63, 0, []), 62), (62, (0, 0, 0, 0, []), 63), (63, (4, 1, 0, 0, []), 64), (64, (3, 0, 2, 0, []), 65), (65, (12, 0, 0, 0, []), 66), (66, (24, 0, 1, 1570, []), 69), (69, (0, 0, 0, 1, []), 70), (70, (6, 0, 0, 0, []), 71), (71, (24, 1, 2, 1570, []), 74), (74, (3, 1, 0, 0, []), 75), (75, (22, 1, 0, 0, []), 76)]
/-- WashingLinesModel.copies([I[I)V -/
def am_c179 : List (Nat × am_I × Nat) := [(0, (0, 0, 0, 0, []), 1), (1, (4, 2, 0, 0, []), 2), (2, (3, 2, 0, 0, []), 3), (3, (3, 0, 2, 0, []), 4), (4, (24, 4, 1, 0, []), 5), (5, (15, 3, 20, 0, []), 8), (8, (3, 1, 2, 0, []), 9), (9, (3, 2, 0, 0, []), 10), (10, (3, 0, 2, 0, []), 11), (11, (3, 2, 0, 0, []), 12), (12, (24, 2, 2, 0, []), 13), (13, (24, 3, 3, 0, []), 14), (14, (5, 2, 0, 1, []), 17), (17, (18, 0, 2, 0, []), 20), (20, (23, 0, 0, 0, []), 21)]
/-- WashingLinesModel.begins()V -/
def am_c180 : List (Nat × am_I × Nat) := [(0, (3, 0, 2, 0, []), 1), (1, (24, 0, 1, 1554, []), 4), (4, (3, 0, 2, 0, []), 5), (5, (24, 0, 1, 1538, []), 8), (8, (21, 179, 2, 1, []), 11), (11, (3, 0, 2, 0, []), 12), (12, (24, 0, 1, 1555, []), 15), (15, (3, 0, 2, 0, []), 16), (16, (24, 0, 1, 1547, []), 19), (19, (21, 179, 2, 1, []), 22), (22, (3, 0, 2, 0, []), 23), (23, (24, 0, 1, 1556, []), 26), (26, (3, 0, 2, 0, []), 27), (27, (24, 0, 1, 1548, []), 30), (30, (21, 179, 2, 1, []), 33), (33, (3, 0, 2, 0, []), 34), (34, (24, 0, 1, 1537, []), 37), (37, (0, 0, 0, 6, []), 39), (39, (0, 0, 0, 0, []), 40), (40, (24, 3, 3, 0, []), 41), (41, (3, 0, 2, 0, []), 42), (42, (24, 0, 1, 1537, []), 45), (45, (0, 0, 0, 7, []), 47), (47, (0, 0, 0, 0, []), 48), (48, (24, 3, 3, 0, []), 49), (49, (0, 0, 0, 0, []), 50), (50, (4, 1, 0, 0, []), 51), (51, (3, 1, 0, 0, []), 52), (52, (0, 0, 0, 4, []), 53), (53, (15, 3, 69, 0, []), 56), (56, (3, 0, 2, 0, []), 57), (57, (24, 0, 1, 1539, []), 60), (60, (3, 1, 0, 0, []), 61), (61, (0, 0, 0, 0, []), 62), (62, (24, 3, 3, 0, []), 63), (63, (5, 1, 0, 1, []), 66), (66, (18, 0, 51, 0, []), 69), (69, (0, 0, 0, 0, []), 70), (70, (4, 1, 0, 0, []), 71), (71, (3, 1, 0, 0, []), 72), (72, (0, 0, 0, 6, []), 74), (74, (15, 3, 90, 0, []), 77), (77, (3, 0, 2, 0, []), 78), (78, (24, 0, 1, 1544, []), 81), (81, (3, 1, 0, 0, []), 82), (82, (0, 0, 0, -1, []), 83), (83, (24, 3, 3, 0, []), 84), (84, (5, 1, 0, 1, []), 87), (87, (18, 0, 71, 0, []), 90), (90, (23, 0, 0, 0, []), 91)]
/-- WashingLinesModel.rule()I -/
def am_c181 : List (Nat × am_I × Nat) := [(0, (3, 0, 2, 0, []), 1), (1, (24, 0, 1, 1573, []), 4), (4, (0, 0, 0, 6, []), 6), (6, (15, 1, 11, 0, []), 9), (9, (0, 0, 0, -1, []), 10), (10, (22, 0, 0, 0, []), 11), (11, (3, 0, 2, 0, []), 12), (12, (3, 0, 2, 0, []), 13), (13, (24, 0, 1, 1573, []), 16), (16, (24, 1, 2, 1572, []), 19), (19, (3, 0, 2, 0, []), 20), (20, (21, 161, 1, 0, []), 23), (23, (0, 0, 0, 0, []), 24), (24, (4, 1, 0, 0, []), 25), (25, (0, 0, 0, 1, []), 26), (26, (4, 2, 0, 0, []), 27), (27, (3, 2, 0, 0, []), 28), (28, (16, 0, 47, 0, []), 31), (31, (3, 0, 2, 0, []), 32), (32, (3, 1, 0, 0, []), 33), (33, (21, 182, 2, 0, []), 36), (36, (5, 1, 0, 1, []), 39), (39, (3, 0, 2, 0, []), 40), (40, (21, 178, 1, 0, []), 43), (43, (4, 2, 0, 0, []), 44), (44, (18, 0, 27, 0, []), 47), (47, (3, 0, 2, 0, []), 48), (48, (0, 0, 0, 0, []), 49), (49, (24, 1, 2, 1569, []), 52), (52, (3, 0, 2, 0, []), 53), (53, (24, 0, 1, 1582, []), 56), (56, (3, 0, 2, 0, []), 57), (57, (24, 0, 1, 1572, []), 60), (60, (3, 1, 0, 0, []), 61), (61, (24, 3, 3, 0, []), 62), (62, (3, 0, 2, 0, []), 63), (63, (12, 0, 0, 0, []), 64), (64, (24, 0, 1, 1573, []), 67), (67, (3, 0, 2, 0, []), 68), (68, (24, 0, 1, 1571, []), 71), (71, (16, 1, 78, 0, []), 74), (74, (0, 0, 0, 1, []), 75), (75, (18, 0, 79, 0, []), 78), (78, (0, 0, 0, 0, []), 79), (79, (6, 0, 0, 0, []), 80), (80, (24, 1, 2, 1573, []), 83), (83, (3, 0, 2, 0, []), 84), (84, (24, 0, 1, 1571, []), 87), (87, (16, 5, 100, 0, []), 90), (90, (0, 0, 0, -2, []), 92), (92, (3, 0, 2, 0, []), 93), (93, (24, 0, 1, 1571, []), 96), (96, (6, 1, 0, 0, []), 97), (97, (18, 0, 106, 0, []), 100), (100, (3, 0, 2, 0, []), 101), (101, (24, 0, 1, 1573, []), 104), (104, (0, 0, 0, 1, []), 105), (105, (6, 1, 0, 0, []), 106), (106, (22, 0, 0, 0, []), 107)]
/-- WashingLinesModel.ruleClause(I)V -/
def am_c182 : List (Nat × am_I × Nat) := [(0, (3, 0, 2, 0, []), 1), (1, (21, 163, 1, 0, []), 4), (4, (3, 0, 2, 0, []), 5), (5, (24, 0, 1, 1570, []), 8), (8, (4, 2, 0, 0, []), 9), (9, (3, 0, 2, 0, []), 10), (10, (24, 9, 0, 8, []), 13), (13, (21, 166, 2, 0, []), 16), (16, (16, 1, 26, 0, []), 19), (19, (3, 0, 2, 0, []), 20), (20, (0, 0, 0, 0, []), 21), (21, (3, 2, 0, 0, []), 22), (22, (21, 167, 3, 0, []), 25), (25, (23, 0, 0, 0, []), 26), (26, (3, 1, 0, 0, []), 27), (27, (0, 0, 0, 12, []), 29), (29, (15, 1, 39, 0, []), 32), (32, (3, 0, 2, 0, []), 33), (33, (0, 0, 0, 4, []), 34), (34, (3, 2, 0, 0, []), 35), (35, (21, 167, 3, 0, []), 38), (38, (23, 0, 0, 0, []), 39), (39, (3, 0, 2, 0, []), 40), (40, (12, 0, 0, 0, []), 41), (41, (24, 0, 1, 1570, []), 44), (44, (0, 0, 0, 5, []), 45), (45, (6, 0, 0, 0, []), 46), (46, (24, 1, 2, 1570, []), 49), (49, (0, 0, 0, 12, []), 51), (51, (3, 0, 2, 0, []), 52), (52, (24, 0, 1, 1572, []), 55), (55, (6, 2, 0, 0, []), 56), (56, (3, 1, 0, 0, []), 57), (57, (6, 0, 0, 0, []), 58), (58, (4, 3, 0, 0, []), 59), (59, (3, 0, 2, 0, []), 60), (60, (24, 0, 1, 1583, []), 63), (63, (3, 3, 0, 0, []), 64), (64, (3, 0, 2, 0, []), 65), (65, (24, 0, 1, 1574, []), 68), (68, (24, 3, 3, 0, []), 69), (69, (3, 0, 2, 0, []), 70), (70, (21, 183, 1, 0, []), 73), (73, (3, 0, 2, 0, []), 74), (74, (24, 0, 1, 1584, []), 77), (77, (3, 3, 0, 0, []), 78), (78, (3, 0, 2, 0, []), 79), (79, (24, 0, 1, 1574, []), 82), (82, (24, 3, 3, 0, []), 83), (83, (3, 0, 2, 0, []), 84), (84, (24, 0, 1, 1571, []), 87), (87, (16, 1, 104, 0, []), 90), (90, (3, 0, 2, 0, []), 91), (91, (24, 9, 0, 19, []), 94), (94, (21, 189, 2, 0, []), 97), (97, (16, 0, 104, 0, []), 100), (100, (3, 0, 2, 0, []), 101), (101, (21, 190, 1, 0, []), 104), (104, (3, 0, 2, 0, []), 105), (105, (24, 0, 1, 1585, []), 108), (108, (3, 3, 0, 0, []), 109), (109, (3, 0, 2, 0, []), 110), (110, (24, 0, 1, 1574, []), 113), (113, (24, 3, 3, 0, []), 114), (114, (23, 0, 0, 0, []), 115)]
/-- WashingLinesModel.sum()V -/
def am_c183 : List (Nat × am_I × Nat) := [(0, (3, 0, 2, 0, []), 1), (1, (21, 184, 1, 0, []), 4), (4, (3, 0, 2, 0, []), 5), (5, (24, 0, 1, 1571, []), 8), (8, (16, 1, 67, 0, []), 11), (11, (3, 0, 2, 0, []), 12), (12, (21, 164, 1, 0, []), 15), (15, (0, 0, 0, 43, []), 17), (17, (15, 0, 29, 0, []), 20), (20, (3, 0, 2, 0, []), 21), (21, (21, 164, 1, 0, []), 24), (24, (0, 0, 0, 45, []), 26), (26, (15, 1, 67, 0, []), 29), (29, (3, 0, 2, 0, []), 30), (30, (21, 164, 1, 0, []), 33), (33, (0, 0, 0, 43, []), 35), (35, (15, 1, 42, 0, []), 38), (38, (0, 0, 0, 2, []), 39), (39, (18, 0, 43, 0, []), 42), (42, (0, 0, 0, 3, []), 43), (43, (4, 1, 0, 0, []), 44), (44, (3, 0, 2, 0, []), 45), (45, (12, 0, 0, 0, []), 46), (46, (24, 0, 1, 1570, []), 49), (49, (0, 0, 0, 1, []), 50), (50, (6, 0, 0, 0, []), 51), (51, (24, 1, 2, 1570, []), 54), (54, (3, 0, 2, 0, []), 55), (55, (21, 184, 1, 0, []), 58), (58, (3, 0, 2, 0, []), 59), (59, (3, 1, 0, 0, []), 60), (60, (0, 0, 0, 0, []), 61), (61, (21, 187, 3, 0, []), 64), (64, (18, 0, 4, 0, []), 67), (67, (23, 0, 0, 0, []), 68)]
/-- WashingLinesModel.term()V -/
def am_c184 : List (Nat × am_I × Nat) := [(0, (3, 0, 2, 0, []), 1), (1, (21, 185, 1, 0, []), 4), (4, (3, 0, 2, 0, []), 5), (5, (21, 163, 1, 0, []), 8), (8, (3, 0, 2, 0, []), 9), (9, (24, 0, 1, 1571, []), 12), (12, (16, 1, 100, 0, []), 15), (15, (3, 0, 2, 0, []), 16), (16, (21, 164, 1, 0, []), 19), (19, (0, 0, 0, 42, []), 21), (21, (15, 0, 42, 0, []), 24), (24, (3, 0, 2, 0, []), 25), (25, (21, 164, 1, 0, []), 28), (28, (0, 0, 0, 47, []), 30), (30, (15, 0, 42, 0, []), 33), (33, (3, 0, 2, 0, []), 34), (34, (21, 164, 1, 0, []), 37), (37, (0, 0, 0, 37, []), 39), (39, (15, 1, 100, 0, []), 42), (42, (3, 0, 2, 0, []), 43), (43, (21, 164, 1, 0, []), 46), (46, (0, 0, 0, 42, []), 48), (48, (15, 1, 56, 0, []), 51), (51, (0, 0, 0, 13, []), 53), (53, (18, 0, 72, 0, []), 56), (56, (3, 0, 2, 0, []), 57), (57, (21, 164, 1, 0, []), 60), (60, (0, 0, 0, 47, []), 62), (62, (15, 1, 70, 0, []), 65), (65, (0, 0, 0, 14, []), 67), (67, (18, 0, 72, 0, []), 70), (70, (0, 0, 0, 15, []), 72), (72, (4, 1, 0, 0, []), 73), (73, (3, 0, 2, 0, []), 74), (74, (12, 0, 0, 0, []), 75), (75, (24, 0, 1, 1570, []), 78), (78, (0, 0, 0, 1, []), 79), (79, (6, 0, 0, 0, []), 80), (80, (24, 1, 2, 1570, []), 83), (83, (3, 0, 2, 0, []), 84), (84, (21, 185, 1, 0, []), 87), (87, (3, 0, 2, 0, []), 88), (88, (3, 1, 0, 0, []), 89), (89, (0, 0, 0, 0, []), 90), (90, (21, 187, 3, 0, []), 93), (93, (3, 0, 2, 0, []), 94), (94, (21, 163, 1, 0, []), 97), (97, (18, 0, 8, 0, []), 100), (100, (23, 0, 0, 0, []), 101)]
/-- WashingLinesModel.value()V -/
def am_c185 : List (Nat × am_I × Nat) := [(0, (3, 0, 2, 0, []), 1), (1, (21, 163, 1, 0, []), 4), (4, (3, 0, 2, 0, []), 5), (5, (24, 0, 1, 1570, []), 8), (8, (4, 1, 0, 0, []), 9), (9, (3, 0, 2, 0, []), 10), (10, (21, 172, 1, 0, []), 13), (13, (16, 0, 36, 0, []), 16), (16, (3, 0, 2, 0, []), 17), (17, (0, 0, 0, 99999, []), 20), (20, (21, 171, 2, 0, []), 23), (23, (4, 2, 0, 0, []), 24), (24, (3, 0, 2, 0, []), 25), (25, (3, 1, 0, 0, []), 26), (26, (21, 186, 2, 0, []), 29), (29, (3, 0, 2, 0, []), 30), (30, (0, 0, 0, 0, []), 31), (31, (3, 2, 0, 0, []), 32), (32, (21, 187, 3, 0, []), 35), (35, (23, 0, 0, 0, []), 36), (36, (0, 0, 0, 0, []), 37), (37, (4, 2, 0, 0, []), 38), (38, (3, 2, 0, 0, []), 39), (39, (3, 0, 2, 0, []), 40), (40, (24, 0, 1, 1578, []), 43), (43, (15, 3, 63, 0, []), 46), (46, (3, 0, 2, 0, []), 47), (47, (3, 2, 0, 0, []), 48), (48, (21, 188, 1, 1, []), 51), (51, (21, 166, 2, 0, []), 54), (54, (16, 1, 63, 0, []), 57), (57, (5, 2, 0, 1, []), 60), (60, (18, 0, 38, 0, []), 63), (63, (3, 2, 0, 0, []), 64), (64, (3, 0, 2, 0, []), 65), (65, (24, 0, 1, 1578, []), 68), (68, (15, 1, 78, 0, []), 71), (71, (3, 0, 2, 0, []), 72), (72, (0, 0, 0, 0, []), 73), (73, (3, 1, 0, 0, []), 74), (74, (21, 167, 3, 0, []), 77), (77, (23, 0, 0, 0, []), 78), (78, (3, 0, 2, 0, []), 79), (79, (3, 1, 0, 0, []), 80), (80, (21, 186, 2, 0, []), 83), (83, (3, 0, 2, 0, []), 84), (84, (12, 0, 0, 0, []), 85), (85, (24, 0, 1, 1570, []), 88), (88, (3, 2, 0, 0, []), 89), (89, (21, 188, 1, 1, []), 92), (92, (21, 274, 1, 0, []), 95), (95, (6, 0, 0, 0, []), 96), (96, (24, 1, 2, 1570, []), 99), (99, (3, 0, 2, 0, []), 100), (100, (0, 0, 0, 1, []), 101), (101, (3, 2, 0, 0, []), 102), (102, (21, 187, 3, 0, []), 105), (105, (23, 0, 0, 0, []), 106)]
/-- WashingLinesModel.isCounted(I)V -/
def am_c186 : List (Nat × am_I × Nat) := [(0, (3, 0, 2, 0, []), 1), (1, (24, 0, 1, 1576, []), 4), (4, (0, 0, 0, 60, []), 6), (6, (15, 1, 15, 0, []), 9), (9, (3, 0, 2, 0, []), 10), (10, (0, 0, 0, 3, []), 11), (11, (3, 1, 0, 0, []), 12), (12, (21, 167, 3, 0, []), 15), (15, (3, 0, 2, 0, []), 16), (16, (12, 0, 0, 0, []), 17), (17, (24, 0, 1, 1576, []), 20), (20, (0, 0, 0, 1, []), 21), (21, (6, 0, 0, 0, []), 22), (22, (24, 1, 2, 1576, []), 25), (25, (23, 0, 0, 0, []), 26)]
/-- WashingLinesModel.entry(II)V -/
def am_c187 : List (Nat × am_I × Nat) := [(0, (3, 0, 2, 0, []), 1), (1, (24, 0, 1, 1571, []), 4), (4, (16, 1, 55, 0, []), 7), (7, (3, 0, 2, 0, []), 8), (8, (24, 0, 1, 1580, []), 11), (11, (0, 0, 0, 300, []), 14), (14, (3, 0, 2, 0, []), 15), (15, (24, 0, 1, 1572, []), 18), (18, (6, 2, 0, 0, []), 19), (19, (3, 0, 2, 0, []), 20), (20, (24, 0, 1, 1574, []), 23), (23, (6, 0, 0, 0, []), 24), (24, (3, 1, 0, 0, []), 25), (25, (24, 3, 3, 0, []), 26), (26, (3, 0, 2, 0, []), 27), (27, (24, 0, 1, 1581, []), 30), (30, (0, 0, 0, 300, []), 33), (33, (3, 0, 2, 0, []), 34), (34, (24, 0, 1, 1572, []), 37), (37, (6, 2, 0, 0, []), 38), (38, (3, 0, 2, 0, []), 39), (39, (24, 0, 1, 1574, []), 42), (42, (6, 0, 0, 0, []), 43), (43, (3, 2, 0, 0, []), 44), (44, (24, 3, 3, 0, []), 45), (45, (3, 0, 2, 0, []), 46), (46, (12, 0, 0, 0, []), 47), (47, (24, 0, 1, 1574, []), 50), (50, (0, 0, 0, 1, []), 51), (51, (6, 0, 0, 0, []), 52), (52, (24, 1, 2, 1574, []), 55), (55, (23, 0, 0, 0, []), 56)]
/-- WashingLinesModel.wordOf(I)Ljava/lang/String; -/
def am_c188 : List (Nat × am_I × Nat) := [(0, (3, 0, 0, 0, []), 1), (1, (19, 0, 100, 0, [(0, 64), (1, 67), (2, 70), (3, 73), (4, 76), (5, 79), (6, 82), (7, 85), (8, 88), (9, 91), (10, 94), (11, 97)]), 64), (64, (24, 9, 0, 3, []), 66), (66, (22, 3, 0, 0, []), 67), (67, (24, 9, 0, 5, []), 69), (69, (22, 3, 0, 0, []), 70), (70, (24, 9, 0, 9, []), 72), (72, (22, 3, 0, 0, []), 73), (73, (24, 9, 0, 10, []), 75), (75, (22, 3, 0, 0, []), 76), (76, (24, 9, 0, 11, []), 78), (78, (22, 3, 0, 0, []), 79), (79, (24, 9, 0, 12, []), 81), (81, (22, 3, 0, 0, []), 82), (82, (24, 9, 0, 13, []), 84), (84, (22, 3, 0, 0, []), 85), (85, (24, 9, 0, 14, []), 87), (87, (22, 3, 0, 0, []), 88), (88, (24, 9, 0, 15, []), 90), (90, (22, 3, 0, 0, []), 91), (91, (24, 9, 0, 16, []), 93), (93, (22, 3, 0, 0, []), 94), (94, (24, 9, 0, 17, []), 96), (96, (22, 3, 0, 0, []), 97), (97, (24, 9, 0, 18, []), 99), (99, (22, 3, 0, 0, []), 100), (100, (24, 9, 0, 7, []), 102), (102, (22, 3, 0, 0, []), 103)]
/-- WashingLinesModel.takes(Ljava/lang/String;)Z -/
def am_c189 : List (Nat × am_I × Nat) := [(0, (3, 0, 2, 0, []), 1), (1, (21, 163, 1, 0, []), 4), (4, (3, 0, 2, 0, []), 5), (5, (3, 1, 2, 0, []), 6), (6, (21, 166, 2, 0, []), 9), (9, (4, 2, 0, 0, []), 10), (10, (3, 0, 2, 0, []), 11), (11, (12, 0, 0, 0, []), 12), (12, (24, 0, 1, 1570, []), 15), (15, (3, 2, 0, 0, []), 16), (16, (16, 0, 26, 0, []), 19), (19, (3, 1, 2, 0, []), 20), (20, (21, 274, 1, 0, []), 23), (23, (18, 0, 27, 0, []), 26), (26, (0, 0, 0, 0, []), 27), (27, (6, 0, 0, 0, []), 28), (28, (24, 1, 2, 1570, []), 31), (31, (3, 2, 0, 0, []), 32), (32, (22, 1, 0, 0, []), 33)]
/-- WashingLinesModel.test()V -/
def am_c190 : List (Nat × am_I × Nat) := [(0, (3, 0, 2, 0, []), 1), (1, (0, 0, 0, 0, []), 2), (2, (24, 1, 2, 1577, []), 5), (5, (0, 0, 0, 1, []), 6), (6, (4, 1, 0, 0, []), 7), (7, (0, 0, 0, 1, []), 8), (8, (4, 2, 0, 0, []), 9), (9, (3, 2, 0, 0, []), 10), (10, (16, 0, 202, 0, []), 13), (13, (3, 0, 2, 0, []), 14), (14, (24, 0, 1, 1571, []), 17), (17, (16, 1, 202, 0, []), 20), (20, (3, 1, 0, 0, []), 21), (21, (16, 0, 40, 0, []), 24), (24, (3, 0, 2, 0, []), 25), (25, (21, 191, 1, 0, []), 28), (28, (16, 1, 35, 0, []), 31), (31, (0, 0, 0, 1, []), 32), (32, (18, 0, 36, 0, []), 35), (35, (0, 0, 0, 0, []), 36), (36, (4, 1, 0, 0, []), 37), (37, (18, 0, 9, 0, []), 40), (40, (3, 0, 2, 0, []), 41), (41, (0, 0, 0, 9, []), 43), (43, (21, 194, 2, 0, []), 46), (46, (3, 0, 2, 0, []), 47), (47, (21, 163, 1, 0, []), 50), (50, (3, 0, 2, 0, []), 51), (51, (24, 9, 0, 21, []), 54), (54, (21, 166, 2, 0, []), 57), (57, (4, 3, 0, 0, []), 58), (58, (3, 0, 2, 0, []), 59), (59, (24, 9, 0, 22, []), 62), (62, (21, 166, 2, 0, []), 65), (65, (4, 4, 0, 0, []), 67), (67, (3, 0, 2, 0, []), 68), (68, (0, 0, 0, 10, []), 70), (70, (21, 194, 2, 0, []), 73), (73, (3, 3, 0, 0, []), 74), (74, (16, 1, 82, 0, []), 77), (77, (3, 4, 0, 0, []), 79), (79, (16, 0, 131, 0, []), 82), (82, (3, 4, 0, 0, []), 84), (84, (16, 0, 93, 0, []), 87), (87, (3, 0, 2, 0, []), 88), (88, (0, 0, 0, 11, []), 90), (90, (21, 194, 2, 0, []), 93), (93, (3, 0, 2, 0, []), 94), (94, (3, 3, 0, 0, []), 95), (95, (16, 0, 103, 0, []), 98), (98, (0, 0, 0, 10, []), 100), (100, (18, 0, 105, 0, []), 103), (103, (0, 0, 0, 11, []), 105), (105, (21, 192, 2, 0, []), 108), (108, (3, 0, 2, 0, []), 109), (109, (12, 0, 0, 0, []), 110), (110, (24, 0, 1, 1570, []), 113), (113, (3, 3, 0, 0, []), 114), (114, (16, 0, 121, 0, []), 117), (117, (0, 0, 0, 3, []), 118), (118, (18, 0, 122, 0, []), 121), (121, (0, 0, 0, 2, []), 122), (122, (6, 0, 0, 0, []), 123), (123, (24, 1, 2, 1570, []), 126), (126, (0, 0, 0, 1, []), 127), (127, (4, 1, 0, 0, []), 128), (128, (18, 0, 199, 0, []), 131), (131, (3, 0, 2, 0, []), 132), (132, (0, 0, 0, 11, []), 134), (134, (21, 194, 2, 0, []), 137), (137, (3, 0, 2, 0, []), 138), (138, (21, 195, 1, 0, []), 141), (141, (0, 0, 0, 12, []), 143), (143, (15, 1, 197, 0, []), 146), (146, (3, 0, 2, 0, []), 147), (147, (21, 164, 1, 0, []), 150), (150, (0, 0, 0, 93, []), 152), (152, (15, 0, 164, 0, []), 155), (155, (3, 0, 2, 0, []), 156), (156, (0, 0, 0, 0, []), 157), (157, (3, 0, 2, 0, []), 158), (158, (24, 0, 1, 1570, []), 161), (161, (21, 167, 3, 0, []), 164), (164, (3, 0, 2, 0, []), 165), (165, (12, 0, 0, 0, []), 166), (166, (24, 0, 1, 1570, []), 169), (169, (0, 0, 0, 1, []), 170), (170, (6, 0, 0, 0, []), 171), (171, (24, 1, 2, 1570, []), 174), (174, (3, 0, 2, 0, []), 175), (175, (12, 0, 0, 0, []), 176), (176, (24, 0, 1, 1577, []), 179), (179, (0, 0, 0, 1, []), 180), (180, (6, 1, 0, 0, []), 181), (181, (24, 1, 2, 1577, []), 184), (184, (3, 0, 2, 0, []), 185), (185, (12, 0, 0, 0, []), 186), (186, (24, 0, 1, 1575, []), 189), (189, (0, 0, 0, 1, []), 190), (190, (6, 1, 0, 0, []), 191), (191, (24, 1, 2, 1575, []), 194), (194, (18, 0, 199, 0, []), 197), (197, (0, 0, 0, 0, []), 198), (198, (4, 2, 0, 0, []), 199), (199, (18, 0, 9, 0, []), 202), (202, (23, 0, 0, 0, []), 203)]
/-- WashingLinesModel.fact()Z -/
def am_c191 : List (Nat × am_I × Nat) := [(0, (3, 0, 2, 0, []), 1), (1, (21, 163, 1, 0, []), 4), (4, (3, 0, 2, 0, []), 5), (5, (24, 9, 0, 20, []), 8), (8, (21, 166, 2, 0, []), 11), (11, (16, 0, 32, 0, []), 14), (14, (3, 0, 2, 0, []), 15), (15, (0, 0, 0, 9, []), 17), (17, (21, 192, 2, 0, []), 20), (20, (3, 0, 2, 0, []), 21), (21, (12, 0, 0, 0, []), 22), (22, (24, 0, 1, 1570, []), 25), (25, (0, 0, 0, 3, []), 26), (26, (6, 0, 0, 0, []), 27), (27, (24, 1, 2, 1570, []), 30), (30, (0, 0, 0, 0, []), 31), (31, (22, 1, 0, 0, []), 32), (32, (3, 0, 2, 0, []), 33), (33, (21, 164, 1, 0, []), 36), (36, (0, 0, 0, 91, []), 38), (38, (15, 1, 59, 0, []), 41), (41, (3, 0, 2, 0, []), 42), (42, (0, 0, 0, 12, []), 44), (44, (21, 192, 2, 0, []), 47), (47, (3, 0, 2, 0, []), 48), (48, (12, 0, 0, 0, []), 49), (49, (24, 0, 1, 1570, []), 52), (52, (0, 0, 0, 1, []), 53), (53, (6, 0, 0, 0, []), 54), (54, (24, 1, 2, 1570, []), 57), (57, (0, 0, 0, 0, []), 58), (58, (22, 1, 0, 0, []), 59), (59, (3, 0, 2, 0, []), 60), (60, (21, 193, 1, 0, []), 63), (63, (0, 0, 0, 1, []), 64), (64, (22, 1, 0, 0, []), 65)]
/-- WashingLinesModel.opens(I)V -/
def am_c192 : List (Nat × am_I × Nat) := [(0, (3, 1, 0, 0, []), 1), (1, (0, 0, 0, 9, []), 3), (3, (15, 0, 12, 0, []), 6), (6, (3, 1, 0, 0, []), 7), (7, (0, 0, 0, 12, []), 9), (9, (15, 1, 40, 0, []), 12), (12, (3, 0, 2, 0, []), 13), (13, (24, 0, 1, 1575, []), 16), (16, (0, 0, 0, 10, []), 18), (18, (15, 1, 30, 0, []), 21), (21, (3, 0, 2, 0, []), 22), (22, (0, 0, 0, 2, []), 23), (23, (3, 0, 2, 0, []), 24), (24, (24, 0, 1, 1570, []), 27), (27, (21, 167, 3, 0, []), 30), (30, (3, 0, 2, 0, []), 31), (31, (12, 0, 0, 0, []), 32), (32, (24, 0, 1, 1575, []), 35), (35, (0, 0, 0, 1, []), 36), (36, (6, 0, 0, 0, []), 37), (37, (24, 1, 2, 1575, []), 40), (40, (3, 0, 2, 0, []), 41), (41, (24, 0, 1, 1586, []), 44), (44, (3, 0, 2, 0, []), 45), (45, (24, 0, 1, 1577, []), 48), (48, (3, 1, 0, 0, []), 49), (49, (24, 3, 3, 0, []), 50), (50, (3, 0, 2, 0, []), 51), (51, (12, 0, 0, 0, []), 52), (52, (24, 0, 1, 1577, []), 55), (55, (0, 0, 0, 1, []), 56), (56, (6, 0, 0, 0, []), 57), (57, (24, 1, 2, 1577, []), 60), (60, (23, 0, 0, 0, []), 61)]
/-- WashingLinesModel.compared()V -/
def am_c193 : List (Nat × am_I × Nat) := [(0, (3, 0, 2, 0, []), 1), (1, (21, 183, 1, 0, []), 4), (4, (3, 0, 2, 0, []), 5), (5, (21, 164, 1, 0, []), 8), (8, (4, 1, 0, 0, []), 9), (9, (3, 1, 0, 0, []), 10), (10, (0, 0, 0, 60, []), 12), (12, (15, 0, 37, 0, []), 15), (15, (3, 1, 0, 0, []), 16), (16, (0, 0, 0, 61, []), 18), (18, (15, 0, 37, 0, []), 21), (21, (3, 1, 0, 0, []), 22), (22, (0, 0, 0, 62, []), 24), (24, (15, 0, 37, 0, []), 27), (27, (3, 0, 2, 0, []), 28), (28, (0, 0, 0, 0, []), 29), (29, (3, 0, 2, 0, []), 30), (30, (24, 0, 1, 1570, []), 33), (33, (21, 167, 3, 0, []), 36), (36, (23, 0, 0, 0, []), 37), (37, (3, 0, 2, 0, []), 38), (38, (3, 0, 2, 0, []), 39), (39, (24, 0, 1, 1570, []), 42), (42, (21, 186, 2, 0, []), 45), (45, (3, 0, 2, 0, []), 46), (46, (12, 0, 0, 0, []), 47), (47, (24, 0, 1, 1570, []), 50), (50, (0, 0, 0, 1, []), 51), (51, (6, 0, 0, 0, []), 52), (52, (24, 1, 2, 1570, []), 55), (55, (3, 1, 0, 0, []), 56), (56, (0, 0, 0, 61, []), 58), (58, (15, 0, 74, 0, []), 61), (61, (3, 0, 2, 0, []), 62), (62, (21, 164, 1, 0, []), 65), (65, (0, 0, 0, 61, []), 67), (67, (15, 1, 74, 0, []), 70), (70, (0, 0, 0, 1, []), 71), (71, (18, 0, 75, 0, []), 74), (74, (0, 0, 0, 0, []), 75), (75, (4, 2, 0, 0, []), 76), (76, (3, 0, 2, 0, []), 77), (77, (12, 0, 0, 0, []), 78), (78, (24, 0, 1, 1570, []), 81), (81, (3, 2, 0, 0, []), 82), (82, (16, 0, 89, 0, []), 85), (85, (0, 0, 0, 1, []), 86), (86, (18, 0, 90, 0, []), 89), (89, (0, 0, 0, 0, []), 90), (90, (6, 0, 0, 0, []), 91), (91, (24, 1, 2, 1570, []), 94), (94, (3, 0, 2, 0, []), 95), (95, (21, 183, 1, 0, []), 98), (98, (3, 0, 2, 0, []), 99), (99, (3, 1, 0, 0, []), 100), (100, (0, 0, 0, 61, []), 102), (102, (15, 1, 110, 0, []), 105), (105, (0, 0, 0, 6, []), 107), (107, (18, 0, 139, 0, []), 110), (110, (3, 1, 0, 0, []), 111), (111, (0, 0, 0, 60, []), 113), (113, (15, 1, 128, 0, []), 116), (116, (3, 2, 0, 0, []), 117), (117, (16, 0, 124, 0, []), 120), (120, (0, 0, 0, 5, []), 121), (121, (18, 0, 139, 0, []), 124), (124, (0, 0, 0, 4, []), 125), (125, (18, 0, 139, 0, []), 128), (128, (3, 2, 0, 0, []), 129), (129, (16, 0, 137, 0, []), 132), (132, (0, 0, 0, 7, []), 134), (134, (18, 0, 139, 0, []), 137), (137, (0, 0, 0, 8, []), 139), (139, (0, 0, 0, 0, []), 140), (140, (21, 187, 3, 0, []), 143), (143, (23, 0, 0, 0, []), 144)]
/-- WashingLinesModel.answers(I)V -/
def am_c194 : List (Nat × am_I × Nat) := [(0, (3, 0, 2, 0, []), 1), (1, (21, 195, 1, 0, []), 4), (4, (3, 1, 0, 0, []), 5), (5, (15, 1, 54, 0, []), 8), (8, (3, 0, 2, 0, []), 9), (9, (24, 0, 1, 1571, []), 12), (12, (16, 1, 54, 0, []), 15), (15, (3, 0, 2, 0, []), 16), (16, (3, 1, 0, 0, []), 17), (17, (0, 0, 0, 0, []), 18), (18, (21, 187, 3, 0, []), 21), (21, (3, 0, 2, 0, []), 22), (22, (12, 0, 0, 0, []), 23), (23, (24, 0, 1, 1577, []), 26), (26, (0, 0, 0, 1, []), 27), (27, (6, 1, 0, 0, []), 28), (28, (24, 1, 2, 1577, []), 31), (31, (3, 0, 2, 0, []), 32), (32, (12, 0, 0, 0, []), 33), (33, (24, 0, 1, 1575, []), 36), (36, (3, 1, 0, 0, []), 37), (37, (0, 0, 0, 9, []), 39), (39, (15, 1, 46, 0, []), 42), (42, (0, 0, 0, 1, []), 43), (43, (18, 0, 47, 0, []), 46), (46, (0, 0, 0, 0, []), 47), (47, (6, 1, 0, 0, []), 48), (48, (24, 1, 2, 1575, []), 51), (51, (18, 0, 0, 0, []), 54), (54, (23, 0, 0, 0, []), 55)]
/-- WashingLinesModel.top()I -/
def am_c195 : List (Nat × am_I × Nat) := [(0, (3, 0, 2, 0, []), 1), (1, (24, 0, 1, 1577, []), 4), (4, (16, 1, 11, 0, []), 7), (7, (0, 0, 0, -1, []), 8), (8, (18, 0, 22, 0, []), 11), (11, (3, 0, 2, 0, []), 12), (12, (24, 0, 1, 1586, []), 15), (15, (3, 0, 2, 0, []), 16), (16, (24, 0, 1, 1577, []), 19), (19, (0, 0, 0, 1, []), 20), (20, (6, 1, 0, 0, []), 21), (21, (24, 2, 2, 0, []), 22), (22, (22, 0, 0, 0, []), 23)]
/-- WashingLinesModel.force(I)I -/
def am_c196 : List (Nat × am_I × Nat) := [(0, (3, 1, 0, 0, []), 1), (1, (8, 0, 0, 0, []), 2), (2, (1, 0, 0, -1, []), 5), (5, (3, 0, 2, 0, []), 6), (6, (24, 0, 1, 1573, []), 9), (9, (0, 0, 0, 1, []), 10), (10, (6, 1, 0, 0, []), 11), (11, (8, 0, 0, 0, []), 12), (12, (21, 173, 3, 1, []), 15), (15, (16, 1, 21, 0, []), 18), (18, (0, 0, 0, -2, []), 20), (20, (22, 0, 0, 0, []), 21), (21, (3, 0, 2, 0, []), 22), (22, (24, 0, 1, 1537, []), 25), (25, (0, 0, 0, 10, []), 27), (27, (24, 2, 2, 0, []), 28), (28, (4, 2, 0, 0, []), 29), (29, (3, 0, 2, 0, []), 30), (30, (24, 0, 1, 1537, []), 33), (33, (0, 0, 0, 10, []), 35), (35, (3, 1, 0, 0, []), 36), (36, (24, 3, 3, 0, []), 37), (37, (3, 2, 0, 0, []), 38), (38, (22, 0, 0, 0, []), 39)]
/-- WashingLinesModel.family(II)I -/
def am_c197 : List (Nat × am_I × Nat) := [(0, (3, 0, 2, 0, []), 1), (1, (3, 1, 0, 0, []), 2), (2, (21, 198, 2, 0, []), 5), (5, (16, 1, 10, 0, []), 8), (8, (0, 0, 0, -1, []), 9), (9, (22, 0, 0, 0, []), 10), (10, (3, 2, 0, 0, []), 11), (11, (19, 0, 106, 0, [(0, 40), (1, 47), (2, 54), (3, 60)]), 40), (40, (3, 0, 2, 0, []), 41), (41, (24, 0, 1, 1538, []), 44), (44, (3, 1, 0, 0, []), 45), (45, (24, 2, 2, 0, []), 46), (46, (22, 0, 0, 0, []), 47), (47, (3, 0, 2, 0, []), 48), (48, (24, 0, 1, 1539, []), 51), (51, (3, 1, 0, 0, []), 52), (52, (24, 2, 2, 0, []), 53), (53, (22, 0, 0, 0, []), 54), (54, (3, 0, 2, 0, []), 55), (55, (3, 1, 0, 0, []), 56), (56, (21, 199, 2, 0, []), 59), (59, (22, 0, 0, 0, []), 60), (60, (0, 0, 0, 0, []), 61), (61, (4, 3, 0, 0, []), 62), (62, (0, 0, 0, 0, []), 63), (63, (4, 4, 0, 0, []), 65), (65, (3, 4, 0, 0, []), 67), (67, (3, 0, 2, 0, []), 68), (68, (24, 0, 1, 1537, []), 71), (71, (0, 0, 0, 4, []), 72), (72, (24, 2, 2, 0, []), 73), (73, (15, 3, 104, 0, []), 76), (76, (3, 3, 0, 0, []), 77), (77, (3, 0, 2, 0, []), 78), (78, (24, 0, 1, 1545, []), 81), (81, (3, 4, 0, 0, []), 83), (83, (24, 2, 2, 0, []), 84), (84, (3, 1, 0, 0, []), 85), (85, (15, 1, 95, 0, []), 88), (88, (0, 0, 0, 1, []), 89), (89, (3, 4, 0, 0, []), 91), (91, (6, 6, 0, 0, []), 92), (92, (18, 0, 96, 0, []), 95), (95, (0, 0, 0, 0, []), 96), (96, (6, 4, 0, 0, []), 97), (97, (4, 3, 0, 0, []), 98), (98, (5, 4, 0, 1, []), 101), (101, (18, 0, 65, 0, []), 104), (104, (3, 3, 0, 0, []), 105), (105, (22, 0, 0, 0, []), 106), (106, (0, 0, 0, -1, []), 107), (107, (22, 0, 0, 0, []), 108)]
/-- WashingLinesModel.isFamily(I)Z -/
def am_c198 : List (Nat × am_I × Nat) := [(0, (3, 1, 0, 0, []), 1), (1, (8, 0, 0, 0, []), 2), (2, (1, 0, 0, 0, []), 3), (3, (3, 0, 2, 0, []), 4), (4, (24, 0, 1, 1537, []), 7), (7, (0, 0, 0, 2, []), 8), (8, (24, 2, 2, 0, []), 9), (9, (0, 0, 0, 1, []), 10), (10, (6, 1, 0, 0, []), 11), (11, (8, 0, 0, 0, []), 12), (12, (21, 173, 3, 1, []), 15), (15, (22, 1, 0, 0, []), 16)]
/-- WashingLinesModel.linesOf(I)I -/
def am_c199 : List (Nat × am_I × Nat) := [(0, (0, 0, 0, 0, []), 1), (1, (4, 2, 0, 0, []), 2), (2, (0, 0, 0, 0, []), 3), (3, (4, 3, 0, 0, []), 4), (4, (3, 3, 0, 0, []), 5), (5, (3, 0, 2, 0, []), 6), (6, (24, 0, 1, 1537, []), 9), (9, (0, 0, 0, 3, []), 10), (10, (24, 2, 2, 0, []), 11), (11, (15, 3, 39, 0, []), 14), (14, (3, 2, 0, 0, []), 15), (15, (3, 0, 2, 0, []), 16), (16, (3, 3, 0, 0, []), 17), (17, (21, 200, 2, 0, []), 20), (20, (3, 1, 0, 0, []), 21), (21, (15, 1, 30, 0, []), 24), (24, (0, 0, 0, 1, []), 25), (25, (3, 3, 0, 0, []), 26), (26, (6, 6, 0, 0, []), 27), (27, (18, 0, 31, 0, []), 30), (30, (0, 0, 0, 0, []), 31), (31, (6, 4, 0, 0, []), 32), (32, (4, 2, 0, 0, []), 33), (33, (5, 3, 0, 1, []), 36), (36, (18, 0, 4, 0, []), 39), (39, (3, 2, 0, 0, []), 40), (40, (22, 0, 0, 0, []), 41)]
/-- WashingLinesModel.ownerOf(I)I -/
def am_c200 : List (Nat × am_I × Nat) := [(0, (0, 0, 0, -1, []), 1), (1, (4, 2, 0, 0, []), 2), (2, (1, 0, 0, 0, []), 3), (3, (4, 3, 1, 0, []), 4), (4, (0, 0, 0, 0, []), 5), (5, (4, 5, 0, 0, []), 7), (7, (3, 5, 0, 0, []), 9), (9, (3, 0, 2, 0, []), 10), (10, (24, 0, 1, 1537, []), 13), (13, (0, 0, 0, 2, []), 14), (14, (24, 2, 2, 0, []), 15), (15, (15, 3, 90, 0, []), 18), (18, (3, 0, 2, 0, []), 19), (19, (3, 1, 0, 0, []), 20), (20, (21, 201, 2, 0, []), 23), (23, (16, 1, 90, 0, []), 26), (26, (3, 0, 2, 0, []), 27), (27, (3, 5, 0, 0, []), 29), (29, (3, 1, 0, 0, []), 30), (30, (21, 203, 3, 0, []), 33), (33, (3, 0, 2, 0, []), 34), (34, (24, 0, 1, 1537, []), 37), (37, (0, 0, 0, 10, []), 39), (39, (24, 2, 2, 0, []), 40), (40, (0, 0, 0, -1, []), 41), (41, (15, 1, 53, 0, []), 44), (44, (3, 0, 2, 0, []), 45), (45, (24, 0, 1, 1587, []), 48), (48, (0, 0, 0, 4, []), 49), (49, (24, 2, 2, 3, []), 50), (50, (18, 0, 57, 0, []), 53), (53, (3, 0, 2, 0, []), 54), (54, (21, 205, 1, 0, []), 57), (57, (4, 6, 1, 0, []), 59), (59, (3, 6, 1, 0, []), 61), (61, (3, 3, 1, 0, []), 62), (62, (11, 0, 0, 0, []), 63), (63, (16, 5, 75, 0, []), 66), (66, (3, 5, 0, 0, []), 68), (68, (4, 2, 0, 0, []), 69), (69, (3, 6, 1, 0, []), 71), (71, (4, 3, 1, 0, []), 72), (72, (18, 0, 84, 0, []), 75), (75, (3, 6, 1, 0, []), 77), (77, (3, 3, 1, 0, []), 78), (78, (11, 0, 0, 0, []), 79), (79, (16, 1, 84, 0, []), 82), (82, (0, 0, 0, -1, []), 83), (83, (4, 2, 0, 0, []), 84), (84, (5, 5, 0, 1, []), 87), (87, (18, 0, 7, 0, []), 90), (90, (3, 2, 0, 0, []), 91), (91, (22, 0, 0, 0, []), 92)]
/-- WashingLinesModel.isCut(I)Z -/
def am_c201 : List (Nat × am_I × Nat) := [(0, (3, 0, 2, 0, []), 1), (1, (24, 0, 1, 1537, []), 4), (4, (0, 0, 0, 6, []), 6), (6, (24, 2, 2, 0, []), 7), (7, (3, 1, 0, 0, []), 8), (8, (21, 202, 2, 1, []), 11), (11, (22, 1, 0, 0, []), 12)]
/-- WashingLinesModel.has(II)Z -/
def am_c202 : List (Nat × am_I × Nat) := [(0, (3, 0, 0, 0, []), 1), (1, (3, 1, 0, 0, []), 2), (2, (6, 7, 0, 0, []), 3), (3, (0, 0, 0, 1, []), 4), (4, (6, 3, 0, 0, []), 5), (5, (0, 0, 0, 1, []), 6), (6, (15, 1, 13, 0, []), 9), (9, (0, 0, 0, 1, []), 10), (10, (18, 0, 14, 0, []), 13), (13, (0, 0, 0, 0, []), 14), (14, (22, 1, 0, 0, []), 15)]
/-- WashingLinesModel.asks(II)V -/
def am_c203 : List (Nat × am_I × Nat) := [(0, (0, 0, 0, 0, []), 1), (1, (4, 3, 0, 0, []), 2), (2, (0, 0, 0, 0, []), 3), (3, (4, 4, 0, 0, []), 5), (5, (0, 0, 0, 0, []), 6), (6, (4, 5, 0, 0, []), 8), (8, (0, 0, 0, 0, []), 9), (9, (4, 6, 0, 0, []), 11), (11, (0, 0, 0, 0, []), 12), (12, (4, 7, 0, 0, []), 14), (14, (0, 0, 0, 0, []), 15), (15, (4, 8, 0, 0, []), 17), (17, (3, 8, 0, 0, []), 19), (19, (3, 0, 2, 0, []), 20), (20, (24, 0, 1, 1537, []), 23), (23, (0, 0, 0, 4, []), 24), (24, (24, 2, 2, 0, []), 25), (25, (15, 3, 156, 0, []), 28), (28, (3, 0, 2, 0, []), 29), (29, (24, 0, 1, 1548, []), 32), (32, (3, 8, 0, 0, []), 34), (34, (24, 2, 2, 0, []), 35), (35, (3, 2, 0, 0, []), 36), (36, (15, 1, 127, 0, []), 39), (39, (3, 0, 2, 0, []), 40), (40, (24, 0, 1, 1545, []), 43), (43, (3, 8, 0, 0, []), 45), (45, (24, 2, 2, 0, []), 46), (46, (3, 1, 0, 0, []), 47), (47, (15, 1, 127, 0, []), 50), (50, (3, 3, 0, 0, []), 51), (51, (3, 0, 2, 0, []), 52), (52, (24, 0, 1, 1546, []), 55), (55, (3, 8, 0, 0, []), 57), (57, (24, 2, 2, 0, []), 58), (58, (6, 0, 0, 0, []), 59), (59, (4, 3, 0, 0, []), 60), (60, (3, 4, 0, 0, []), 62), (62, (3, 0, 2, 0, []), 63), (63, (24, 0, 1, 1547, []), 66), (66, (3, 8, 0, 0, []), 68), (68, (24, 2, 2, 0, []), 69), (69, (16, 5, 82, 0, []), 72), (72, (3, 0, 2, 0, []), 73), (73, (24, 0, 1, 1546, []), 76), (76, (3, 8, 0, 0, []), 78), (78, (24, 2, 2, 0, []), 79), (79, (18, 0, 83, 0, []), 82), (82, (0, 0, 0, 0, []), 83), (83, (6, 0, 0, 0, []), 84), (84, (4, 4, 0, 0, []), 86), (86, (3, 0, 2, 0, []), 87), (87, (24, 0, 1, 1547, []), 90), (90, (3, 8, 0, 0, []), 92), (92, (24, 2, 2, 0, []), 93), (93, (3, 5, 0, 0, []), 95), (95, (15, 5, 108, 0, []), 98), (98, (3, 0, 2, 0, []), 99), (99, (24, 0, 1, 1547, []), 102), (102, (3, 8, 0, 0, []), 104), (104, (24, 2, 2, 0, []), 105), (105, (18, 0, 110, 0, []), 108), (108, (3, 5, 0, 0, []), 110), (110, (4, 5, 0, 0, []), 112), (112, (3, 6, 0, 0, []), 114), (114, (3, 0, 2, 0, []), 115), (115, (24, 0, 1, 1547, []), 118), (118, (3, 8, 0, 0, []), 120), (120, (24, 2, 2, 0, []), 121), (121, (6, 0, 0, 0, []), 122), (122, (4, 6, 0, 0, []), 124), (124, (18, 0, 150, 0, []), 127), (127, (3, 0, 2, 0, []), 128), (128, (24, 0, 1, 1548, []), 131), (131, (3, 8, 0, 0, []), 133), (133, (24, 2, 2, 0, []), 134), (134, (3, 2, 0, 0, []), 135), (135, (15, 1, 150, 0, []), 138), (138, (3, 7, 0, 0, []), 140), (140, (3, 0, 2, 0, []), 141), (141, (24, 0, 1, 1546, []), 144), (144, (3, 8, 0, 0, []), 146), (146, (24, 2, 2, 0, []), 147), (147, (6, 0, 0, 0, []), 148), (148, (4, 7, 0, 0, []), 150), (150, (5, 8, 0, 1, []), 153), (153, (18, 0, 17, 0, []), 156), (156, (3, 0, 2, 0, []), 157), (157, (24, 0, 1, 1587, []), 160), (160, (0, 0, 0, 0, []), 161), (161, (3, 1, 0, 0, []), 162), (162, (8, 0, 0, 0, []), 163), (163, (24, 3, 3, 3, []), 164), (164, (3, 0, 2, 0, []), 165), (165, (24, 0, 1, 1587, []), 168), (168, (0, 0, 0, 1, []), 169), (169, (3, 2, 0, 0, []), 170), (170, (8, 0, 0, 0, []), 171), (171, (24, 3, 3, 3, []), 172), (172, (3, 0, 2, 0, []), 173), (173, (24, 0, 1, 1587, []), 176), (176, (0, 0, 0, 2, []), 177), (177, (3, 0, 2, 0, []), 178), (178, (24, 0, 1, 1542, []), 181), (181, (3, 2, 0, 0, []), 182), (182, (24, 2, 2, 0, []), 183), (183, (8, 0, 0, 0, []), 184), (184, (24, 3, 3, 3, []), 185), (185, (3, 0, 2, 0, []), 186), (186, (24, 0, 1, 1587, []), 189), (189, (0, 0, 0, 3, []), 190), (190, (3, 3, 0, 0, []), 191), (191, (8, 0, 0, 0, []), 192), (192, (24, 3, 3, 3, []), 193), (193, (3, 0, 2, 0, []), 194), (194, (24, 0, 1, 1587, []), 197), (197, (0, 0, 0, 4, []), 198), (198, (3, 4, 0, 0, []), 200), (200, (8, 0, 0, 0, []), 201), (201, (24, 3, 3, 3, []), 202), (202, (3, 0, 2, 0, []), 203), (203, (24, 0, 1, 1587, []), 206), (206, (0, 0, 0, 5, []), 207), (207, (3, 5, 0, 0, []), 209), (209, (8, 0, 0, 0, []), 210), (210, (24, 3, 3, 3, []), 211), (211, (3, 0, 2, 0, []), 212), (212, (24, 0, 1, 1587, []), 215), (215, (0, 0, 0, 6, []), 217), (217, (3, 6, 0, 0, []), 219), (219, (8, 0, 0, 0, []), 220), (220, (24, 3, 3, 3, []), 221), (221, (3, 0, 2, 0, []), 222), (222, (24, 0, 1, 1587, []), 225), (225, (0, 0, 0, 7, []), 227), (227, (3, 7, 0, 0, []), 229), (229, (8, 0, 0, 0, []), 230), (230, (24, 3, 3, 3, []), 231), (231, (3, 0, 2, 0, []), 232), (232, (24, 0, 1, 1587, []), 235), (235, (0, 0, 0, 8, []), 237), (237, (3, 0, 2, 0, []), 238), (238, (24, 0, 1, 1544, []), 241), (241, (3, 2, 0, 0, []), 242), (242, (24, 2, 2, 0, []), 243), (243, (3, 1, 0, 0, []), 244), (244, (15, 1, 251, 0, []), 247), (247, (1, 0, 0, 1, []), 248), (248, (18, 0, 252, 0, []), 251), (251, (1, 0, 0, 0, []), 252), (252, (24, 3, 3, 3, []), 253), (253, (3, 0, 2, 0, []), 254), (254, (24, 0, 1, 1587, []), 257), (257, (0, 0, 0, 9, []), 259), (259, (3, 0, 2, 0, []), 260), (260, (24, 0, 1, 1538, []), 263), (263, (3, 1, 0, 0, []), 264), (264, (24, 2, 2, 0, []), 265), (265, (8, 0, 0, 0, []), 266), (266, (24, 3, 3, 3, []), 267), (267, (3, 0, 2, 0, []), 268), (268, (24, 0, 1, 1587, []), 271), (271, (0, 0, 0, 10, []), 273), (273, (3, 0, 2, 0, []), 274), (274, (24, 0, 1, 1539, []), 277), (277, (3, 1, 0, 0, []), 278), (278, (24, 2, 2, 0, []), 279), (279, (8, 0, 0, 0, []), 280), (280, (24, 3, 3, 3, []), 281), (281, (3, 0, 2, 0, []), 282), (282, (24, 0, 1, 1587, []), 285), (285, (0, 0, 0, 11, []), 287), (287, (3, 0, 2, 0, []), 288), (288, (24, 0, 1, 1537, []), 291), (291, (0, 0, 0, 7, []), 293), (293, (24, 2, 2, 0, []), 294), (294, (8, 0, 0, 0, []), 295), (295, (24, 3, 3, 3, []), 296), (296, (3, 0, 2, 0, []), 297), (297, (24, 0, 1, 1587, []), 300), (300, (0, 0, 0, 12, []), 302), (302, (3, 0, 2, 0, []), 303), (303, (3, 0, 2, 0, []), 304), (304, (24, 0, 1, 1537, []), 307), (307, (0, 0, 0, 7, []), 309), (309, (24, 2, 2, 0, []), 310), (310, (21, 204, 2, 0, []), 313), (313, (16, 0, 320, 0, []), 316), (316, (1, 0, 0, 1, []), 317), (317, (18, 0, 321, 0, []), 320), (320, (1, 0, 0, 0, []), 321), (321, (24, 3, 3, 3, []), 322), (322, (23, 0, 0, 0, []), 323)]
/-- WashingLinesModel.rains(I)Z -/
def am_c204 : List (Nat × am_I × Nat) := [(0, (0, 0, 0, 0, []), 1), (1, (4, 2, 0, 0, []), 2), (2, (3, 2, 0, 0, []), 3), (3, (3, 0, 2, 0, []), 4), (4, (24, 0, 1, 1537, []), 7), (7, (0, 0, 0, 5, []), 8), (8, (24, 2, 2, 0, []), 9), (9, (15, 3, 42, 0, []), 12), (12, (3, 1, 0, 0, []), 13), (13, (8, 0, 0, 0, []), 14), (14, (3, 0, 2, 0, []), 15), (15, (24, 0, 1, 1549, []), 18), (18, (3, 2, 0, 0, []), 19), (19, (24, 2, 2, 0, []), 20), (20, (8, 0, 0, 0, []), 21), (21, (3, 0, 2, 0, []), 22), (22, (24, 0, 1, 1550, []), 25), (25, (3, 2, 0, 0, []), 26), (26, (24, 2, 2, 0, []), 27), (27, (8, 0, 0, 0, []), 28), (28, (21, 173, 3, 1, []), 31), (31, (16, 0, 36, 0, []), 34), (34, (0, 0, 0, 1, []), 35), (35, (22, 1, 0, 0, []), 36), (36, (5, 2, 0, 1, []), 39), (39, (18, 0, 2, 0, []), 42), (42, (3, 0, 2, 0, []), 43), (43, (24, 0, 1, 1589, []), 46), (46, (22, 1, 0, 0, []), 47)]
/-- WashingLinesModel.claimed()J -/
def am_c205 : List (Nat × am_I × Nat) := [(0, (3, 0, 2, 0, []), 1), (1, (24, 0, 1, 1537, []), 4), (4, (0, 0, 0, 10, []), 6), (6, (24, 2, 2, 0, []), 7), (7, (4, 1, 0, 0, []), 8), (8, (0, 0, 0, 12, []), 10), (10, (3, 1, 0, 0, []), 11), (11, (6, 2, 0, 0, []), 12), (12, (4, 2, 0, 0, []), 13), (13, (3, 2, 0, 0, []), 14), (14, (0, 0, 0, 12, []), 16), (16, (3, 1, 0, 0, []), 17), (17, (6, 2, 0, 0, []), 18), (18, (3, 0, 2, 0, []), 19), (19, (24, 0, 1, 1582, []), 22), (22, (3, 1, 0, 0, []), 23), (23, (24, 2, 2, 0, []), 24), (24, (6, 0, 0, 0, []), 25), (25, (15, 3, 89, 0, []), 28), (28, (3, 0, 2, 0, []), 29), (29, (24, 0, 1, 1584, []), 32), (32, (3, 2, 0, 0, []), 33), (33, (24, 2, 2, 0, []), 34), (34, (3, 0, 2, 0, []), 35), (35, (24, 0, 1, 1585, []), 38), (38, (3, 2, 0, 0, []), 39), (39, (24, 2, 2, 0, []), 40), (40, (15, 0, 65, 0, []), 43), (43, (3, 0, 2, 0, []), 44), (44, (3, 1, 0, 0, []), 45), (45, (3, 0, 2, 0, []), 46), (46, (24, 0, 1, 1584, []), 49), (49, (3, 2, 0, 0, []), 50), (50, (24, 2, 2, 0, []), 51), (51, (3, 0, 2, 0, []), 52), (52, (24, 0, 1, 1585, []), 55), (55, (3, 2, 0, 0, []), 56), (56, (24, 2, 2, 0, []), 57), (57, (21, 206, 4, 0, []), 60), (60, (1, 0, 0, 1, []), 61), (61, (11, 0, 0, 0, []), 62), (62, (16, 1, 83, 0, []), 65), (65, (3, 0, 2, 0, []), 66), (66, (3, 1, 0, 0, []), 67), (67, (3, 0, 2, 0, []), 68), (68, (24, 0, 1, 1583, []), 71), (71, (3, 2, 0, 0, []), 72), (72, (24, 2, 2, 0, []), 73), (73, (3, 0, 2, 0, []), 74), (74, (24, 0, 1, 1584, []), 77), (77, (3, 2, 0, 0, []), 78), (78, (24, 2, 2, 0, []), 79), (79, (21, 206, 4, 0, []), 82), (82, (22, 2, 0, 0, []), 83), (83, (5, 2, 0, 1, []), 86), (86, (18, 0, 13, 0, []), 89), (89, (1, 0, 0, 0, []), 90), (90, (22, 2, 0, 0, []), 91)]
/-- WashingLinesModel.answer(III)J -/
def am_c206 : List (Nat × am_I × Nat) := [(0, (0, 0, 0, 0, []), 1), (1, (4, 4, 0, 0, []), 3), (3, (3, 2, 0, 0, []), 4), (4, (4, 5, 0, 0, []), 6), (6, (3, 5, 0, 0, []), 8), (8, (3, 3, 0, 0, []), 9), (9, (15, 3, 153, 0, []), 12), (12, (3, 0, 2, 0, []), 13), (13, (24, 0, 1, 1580, []), 16), (16, (0, 0, 0, 300, []), 19), (19, (3, 1, 0, 0, []), 20), (20, (6, 2, 0, 0, []), 21), (21, (3, 5, 0, 0, []), 23), (23, (6, 0, 0, 0, []), 24), (24, (24, 2, 2, 0, []), 25), (25, (4, 6, 0, 0, []), 27), (27, (3, 0, 2, 0, []), 28), (28, (24, 0, 1, 1581, []), 31), (31, (0, 0, 0, 300, []), 34), (34, (3, 1, 0, 0, []), 35), (35, (6, 2, 0, 0, []), 36), (36, (3, 5, 0, 0, []), 38), (38, (6, 0, 0, 0, []), 39), (39, (24, 2, 2, 0, []), 40), (40, (4, 7, 0, 0, []), 42), (42, (3, 6, 0, 0, []), 44), (44, (16, 0, 53, 0, []), 47), (47, (3, 6, 0, 0, []), 49), (49, (0, 0, 0, 1, []), 50), (50, (15, 1, 84, 0, []), 53), (53, (3, 0, 2, 0, []), 54), (54, (24, 0, 1, 1588, []), 57), (57, (3, 4, 0, 0, []), 59), (59, (3, 6, 0, 0, []), 61), (61, (16, 1, 70, 0, []), 64), (64, (3, 7, 0, 0, []), 66), (66, (8, 0, 0, 0, []), 67), (67, (18, 0, 77, 0, []), 70), (70, (3, 0, 2, 0, []), 71), (71, (24, 0, 1, 1587, []), 74), (74, (3, 7, 0, 0, []), 76), (76, (24, 2, 2, 3, []), 77), (77, (24, 3, 3, 3, []), 78), (78, (5, 4, 0, 1, []), 81), (81, (18, 0, 147, 0, []), 84), (84, (3, 6, 0, 0, []), 86), (86, (0, 0, 0, 9, []), 88), (88, (15, 1, 114, 0, []), 91), (91, (3, 0, 2, 0, []), 92), (92, (24, 0, 1, 1588, []), 95), (95, (3, 4, 0, 0, []), 97), (97, (0, 0, 0, 1, []), 98), (98, (6, 1, 0, 0, []), 99), (99, (1, 0, 0, 1, []), 100), (100, (3, 0, 2, 0, []), 101), (101, (24, 0, 1, 1588, []), 104), (104, (3, 4, 0, 0, []), 106), (106, (0, 0, 0, 1, []), 107), (107, (6, 1, 0, 0, []), 108), (108, (24, 2, 2, 3, []), 109), (109, (10, 1, 0, 0, []), 110), (110, (24, 3, 3, 3, []), 111), (111, (18, 0, 147, 0, []), 114), (114, (5, 4, 0, -1, []), 117), (117, (3, 0, 2, 0, []), 118), (118, (24, 0, 1, 1588, []), 121), (121, (3, 4, 0, 0, []), 123), (123, (0, 0, 0, 1, []), 124), (124, (6, 1, 0, 0, []), 125), (125, (3, 6, 0, 0, []), 127), (127, (3, 0, 2, 0, []), 128), (128, (24, 0, 1, 1588, []), 131), (131, (3, 4, 0, 0, []), 133), (133, (0, 0, 0, 1, []), 134), (134, (6, 1, 0, 0, []), 135), (135, (24, 2, 2, 3, []), 136), (136, (3, 0, 2, 0, []), 137), (137, (24, 0, 1, 1588, []), 140), (140, (3, 4, 0, 0, []), 142), (142, (24, 2, 2, 3, []), 143), (143, (21, 207, 3, 1, []), 146), (146, (24, 3, 3, 3, []), 147), (147, (5, 5, 0, 1, []), 150), (150, (18, 0, 6, 0, []), 153), (153, (3, 0, 2, 0, []), 154), (154, (24, 0, 1, 1588, []), 157), (157, (0, 0, 0, 0, []), 158), (158, (24, 2, 2, 3, []), 159), (159, (22, 2, 0, 0, []), 160)]
/-- WashingLinesModel.both(IJJ)J -/
def am_c207 : List (Nat × am_I × Nat) := [(0, (3, 0, 0, 0, []), 1), (1, (19, 0, 191, 0, [(2, 72), (3, 76), (4, 112), (5, 127), (6, 142), (7, 157), (8, 172), (9, 191), (10, 187), (11, 191), (12, 191), (13, 80), (14, 84), (15, 98)]), 72), (72, (3, 1, 1, 0, []), 73), (73, (3, 3, 1, 0, []), 74), (74, (10, 0, 0, 0, []), 75), (75, (22, 2, 0, 0, []), 76), (76, (3, 1, 1, 0, []), 77), (77, (3, 3, 1, 0, []), 78), (78, (10, 1, 0, 0, []), 79), (79, (22, 2, 0, 0, []), 80), (80, (3, 1, 1, 0, []), 81), (81, (3, 3, 1, 0, []), 82), (82, (10, 2, 0, 0, []), 83), (83, (22, 2, 0, 0, []), 84), (84, (3, 3, 1, 0, []), 85), (85, (1, 0, 0, 0, []), 86), (86, (11, 0, 0, 0, []), 87), (87, (16, 1, 94, 0, []), 90), (90, (1, 0, 0, 0, []), 91), (91, (18, 0, 97, 0, []), 94), (94, (3, 1, 1, 0, []), 95), (95, (3, 3, 1, 0, []), 96), (96, (10, 5, 0, 0, []), 97), (97, (22, 2, 0, 0, []), 98), (98, (3, 3, 1, 0, []), 99), (99, (1, 0, 0, 0, []), 100), (100, (11, 0, 0, 0, []), 101), (101, (16, 1, 108, 0, []), 104), (104, (1, 0, 0, 0, []), 105), (105, (18, 0, 111, 0, []), 108), (108, (3, 1, 1, 0, []), 109), (109, (3, 3, 1, 0, []), 110), (110, (10, 6, 0, 0, []), 111), (111, (22, 2, 0, 0, []), 112), (112, (3, 1, 1, 0, []), 113), (113, (3, 3, 1, 0, []), 114), (114, (11, 0, 0, 0, []), 115), (115, (16, 3, 122, 0, []), 118), (118, (0, 0, 0, 1, []), 119), (119, (18, 0, 123, 0, []), 122), (122, (0, 0, 0, 0, []), 123), (123, (21, 208, 1, 1, []), 126), (126, (22, 2, 0, 0, []), 127), (127, (3, 1, 1, 0, []), 128), (128, (3, 3, 1, 0, []), 129), (129, (11, 0, 0, 0, []), 130), (130, (16, 4, 137, 0, []), 133), (133, (0, 0, 0, 1, []), 134), (134, (18, 0, 138, 0, []), 137), (137, (0, 0, 0, 0, []), 138), (138, (21, 208, 1, 1, []), 141), (141, (22, 2, 0, 0, []), 142), (142, (3, 1, 1, 0, []), 143), (143, (3, 3, 1, 0, []), 144), (144, (11, 0, 0, 0, []), 145), (145, (16, 1, 152, 0, []), 148), (148, (0, 0, 0, 1, []), 149), (149, (18, 0, 153, 0, []), 152), (152, (0, 0, 0, 0, []), 153), (153, (21, 208, 1, 1, []), 156), (156, (22, 2, 0, 0, []), 157), (157, (3, 1, 1, 0, []), 158), (158, (3, 3, 1, 0, []), 159), (159, (11, 0, 0, 0, []), 160), (160, (16, 2, 167, 0, []), 163), (163, (0, 0, 0, 1, []), 164), (164, (18, 0, 168, 0, []), 167), (167, (0, 0, 0, 0, []), 168), (168, (21, 208, 1, 1, []), 171), (171, (22, 2, 0, 0, []), 172), (172, (3, 1, 1, 0, []), 173), (173, (3, 3, 1, 0, []), 174), (174, (11, 0, 0, 0, []), 175), (175, (16, 5, 182, 0, []), 178), (178, (0, 0, 0, 1, []), 179), (179, (18, 0, 183, 0, []), 182), (182, (0, 0, 0, 0, []), 183), (183, (21, 208, 1, 1, []), 186), (186, (22, 2, 0, 0, []), 187), (187, (3, 1, 1, 0, []), 188), (188, (3, 3, 1, 0, []), 189), (189, (10, 3, 0, 0, []), 190), (190, (22, 2, 0, 0, []), 191), (191, (3, 1, 1, 0, []), 192), (192, (3, 3, 1, 0, []), 193), (193, (10, 4, 0, 0, []), 194), (194, (22, 2, 0, 0, []), 195)]
/-- WashingLinesModel.truth(Z)J -/
def am_c208 : List (Nat × am_I × Nat) := [(0, (3, 0, 0, 0, []), 1), (1, (16, 0, 8, 0, []), 4), (4, (1, 0, 0, 1, []), 5), (5, (18, 0, 9, 0, []), 8), (8, (1, 0, 0, 0, []), 9), (9, (22, 2, 0, 0, []), 10)]
/-- WashingLinesModel.line(II)I -/
def am_c209 : List (Nat × am_I × Nat) := [(0, (3, 0, 2, 0, []), 1), (1, (3, 1, 0, 0, []), 2), (2, (21, 210, 2, 0, []), 5), (5, (16, 1, 11, 0, []), 8), (8, (0, 0, 0, -2, []), 10), (10, (22, 0, 0, 0, []), 11), (11, (3, 2, 0, 0, []), 12), (12, (19, 0, 131, 0, [(0, 64), (1, 71), (2, 78), (3, 85), (4, 92), (5, 98), (6, 104), (7, 110), (8, 117)]), 64), (64, (3, 0, 2, 0, []), 65), (65, (24, 0, 1, 1540, []), 68), (68, (3, 1, 0, 0, []), 69), (69, (24, 2, 2, 0, []), 70), (70, (22, 0, 0, 0, []), 71), (71, (3, 0, 2, 0, []), 72), (72, (24, 0, 1, 1541, []), 75), (75, (3, 1, 0, 0, []), 76), (76, (24, 2, 2, 0, []), 77), (77, (22, 0, 0, 0, []), 78), (78, (3, 0, 2, 0, []), 79), (79, (24, 0, 1, 1542, []), 82), (82, (3, 1, 0, 0, []), 83), (83, (24, 2, 2, 0, []), 84), (84, (22, 0, 0, 0, []), 85), (85, (3, 0, 2, 0, []), 86), (86, (24, 0, 1, 1543, []), 89), (89, (3, 1, 0, 0, []), 90), (90, (24, 2, 2, 0, []), 91), (91, (22, 0, 0, 0, []), 92), (92, (3, 0, 2, 0, []), 93), (93, (3, 1, 0, 0, []), 94), (94, (21, 211, 2, 0, []), 97), (97, (22, 0, 0, 0, []), 98), (98, (3, 0, 2, 0, []), 99), (99, (3, 1, 0, 0, []), 100), (100, (21, 212, 2, 0, []), 103), (103, (22, 0, 0, 0, []), 104), (104, (3, 0, 2, 0, []), 105), (105, (3, 1, 0, 0, []), 106), (106, (21, 200, 2, 0, []), 109), (109, (22, 0, 0, 0, []), 110), (110, (3, 0, 2, 0, []), 111), (111, (24, 0, 1, 1544, []), 114), (114, (3, 1, 0, 0, []), 115), (115, (24, 2, 2, 0, []), 116), (116, (22, 0, 0, 0, []), 117), (117, (3, 0, 2, 0, []), 118), (118, (3, 1, 0, 0, []), 119), (119, (21, 201, 2, 0, []), 122), (122, (16, 0, 129, 0, []), 125), (125, (0, 0, 0, 1, []), 126), (126, (18, 0, 130, 0, []), 129), (129, (0, 0, 0, 0, []), 130), (130, (22, 0, 0, 0, []), 131), (131, (0, 0, 0, -2, []), 133), (133, (22, 0, 0, 0, []), 134)]
/-- WashingLinesModel.isLine(I)Z -/
def am_c210 : List (Nat × am_I × Nat) := [(0, (3, 1, 0, 0, []), 1), (1, (8, 0, 0, 0, []), 2), (2, (1, 0, 0, 0, []), 3), (3, (3, 0, 2, 0, []), 4), (4, (24, 0, 1, 1537, []), 7), (7, (0, 0, 0, 3, []), 8), (8, (24, 2, 2, 0, []), 9), (9, (0, 0, 0, 1, []), 10), (10, (6, 1, 0, 0, []), 11), (11, (8, 0, 0, 0, []), 12), (12, (21, 173, 3, 1, []), 15), (15, (22, 1, 0, 0, []), 16)]
/-- WashingLinesModel.lengthLeft(I)I -/
def am_c211 : List (Nat × am_I × Nat) := [(0, (3, 0, 2, 0, []), 1), (1, (24, 0, 1, 1542, []), 4), (4, (3, 1, 0, 0, []), 5), (5, (24, 2, 2, 0, []), 6), (6, (4, 2, 0, 0, []), 7), (7, (0, 0, 0, 0, []), 8), (8, (4, 3, 0, 0, []), 9), (9, (3, 3, 0, 0, []), 10), (10, (3, 0, 2, 0, []), 11), (11, (24, 0, 1, 1537, []), 14), (14, (0, 0, 0, 4, []), 15), (15, (24, 2, 2, 0, []), 16), (16, (15, 3, 48, 0, []), 19), (19, (3, 2, 0, 0, []), 20), (20, (3, 0, 2, 0, []), 21), (21, (24, 0, 1, 1548, []), 24), (24, (3, 3, 0, 0, []), 25), (25, (24, 2, 2, 0, []), 26), (26, (3, 1, 0, 0, []), 27), (27, (15, 1, 39, 0, []), 30), (30, (3, 0, 2, 0, []), 31), (31, (24, 0, 1, 1546, []), 34), (34, (3, 3, 0, 0, []), 35), (35, (24, 2, 2, 0, []), 36), (36, (18, 0, 40, 0, []), 39), (39, (0, 0, 0, 0, []), 40), (40, (6, 1, 0, 0, []), 41), (41, (4, 2, 0, 0, []), 42), (42, (5, 3, 0, 1, []), 45), (45, (18, 0, 9, 0, []), 48), (48, (3, 2, 0, 0, []), 49), (49, (22, 0, 0, 0, []), 50)]
/-- WashingLinesModel.linenOn(I)I -/
def am_c212 : List (Nat × am_I × Nat) := [(0, (0, 0, 0, 0, []), 1), (1, (4, 2, 0, 0, []), 2), (2, (0, 0, 0, 0, []), 3), (3, (4, 3, 0, 0, []), 4), (4, (3, 3, 0, 0, []), 5), (5, (3, 0, 2, 0, []), 6), (6, (24, 0, 1, 1537, []), 9), (9, (0, 0, 0, 4, []), 10), (10, (24, 2, 2, 0, []), 11), (11, (15, 3, 40, 0, []), 14), (14, (3, 2, 0, 0, []), 15), (15, (3, 0, 2, 0, []), 16), (16, (24, 0, 1, 1548, []), 19), (19, (3, 3, 0, 0, []), 20), (20, (24, 2, 2, 0, []), 21), (21, (3, 1, 0, 0, []), 22), (22, (15, 1, 31, 0, []), 25), (25, (0, 0, 0, 1, []), 26), (26, (3, 3, 0, 0, []), 27), (27, (6, 6, 0, 0, []), 28), (28, (18, 0, 32, 0, []), 31), (31, (0, 0, 0, 0, []), 32), (32, (6, 4, 0, 0, []), 33), (33, (4, 2, 0, 0, []), 34), (34, (5, 3, 0, 1, []), 37), (37, (18, 0, 4, 0, []), 40), (40, (3, 2, 0, 0, []), 41), (41, (22, 0, 0, 0, []), 42)]
/-- WashingLinesModel.linen(II)I -/
def am_c213 : List (Nat × am_I × Nat) := [(0, (3, 0, 2, 0, []), 1), (1, (3, 1, 0, 0, []), 2), (2, (21, 214, 2, 0, []), 5), (5, (16, 1, 11, 0, []), 8), (8, (0, 0, 0, -2, []), 10), (10, (22, 0, 0, 0, []), 11), (11, (3, 2, 0, 0, []), 12), (12, (19, 0, 72, 0, [(0, 44), (1, 51), (2, 58), (3, 65)]), 44), (44, (3, 0, 2, 0, []), 45), (45, (24, 0, 1, 1545, []), 48), (48, (3, 1, 0, 0, []), 49), (49, (24, 2, 2, 0, []), 50), (50, (22, 0, 0, 0, []), 51), (51, (3, 0, 2, 0, []), 52), (52, (24, 0, 1, 1546, []), 55), (55, (3, 1, 0, 0, []), 56), (56, (24, 2, 2, 0, []), 57), (57, (22, 0, 0, 0, []), 58), (58, (3, 0, 2, 0, []), 59), (59, (24, 0, 1, 1547, []), 62), (62, (3, 1, 0, 0, []), 63), (63, (24, 2, 2, 0, []), 64), (64, (22, 0, 0, 0, []), 65), (65, (3, 0, 2, 0, []), 66), (66, (24, 0, 1, 1548, []), 69), (69, (3, 1, 0, 0, []), 70), (70, (24, 2, 2, 0, []), 71), (71, (22, 0, 0, 0, []), 72), (72, (0, 0, 0, -2, []), 74), (74, (22, 0, 0, 0, []), 75)]
/-- WashingLinesModel.isLinen(I)Z -/
def am_c214 : List (Nat × am_I × Nat) := [(0, (3, 1, 0, 0, []), 1), (1, (8, 0, 0, 0, []), 2), (2, (1, 0, 0, 0, []), 3), (3, (3, 0, 2, 0, []), 4), (4, (24, 0, 1, 1537, []), 7), (7, (0, 0, 0, 4, []), 8), (8, (24, 2, 2, 0, []), 9), (9, (0, 0, 0, 1, []), 10), (10, (6, 1, 0, 0, []), 11), (11, (8, 0, 0, 0, []), 12), (12, (21, 173, 3, 1, []), 15), (15, (22, 1, 0, 0, []), 16)]
/-- WashingLinesModel.undo()I -/
def am_c215 : List (Nat × am_I × Nat) := [(0, (3, 0, 2, 0, []), 1), (1, (24, 0, 1, 1593, []), 4), (4, (16, 1, 10, 0, []), 7), (7, (0, 0, 0, -2, []), 9), (9, (22, 0, 0, 0, []), 10), (10, (3, 0, 2, 0, []), 11), (11, (12, 0, 0, 0, []), 12), (12, (24, 0, 1, 1593, []), 15), (15, (0, 0, 0, 1, []), 16), (16, (6, 1, 0, 0, []), 17), (17, (24, 1, 2, 1593, []), 20), (20, (3, 0, 2, 0, []), 21), (21, (3, 0, 2, 0, []), 22), (22, (24, 0, 1, 1593, []), 25), (25, (0, 0, 0, 1, []), 26), (26, (21, 216, 3, 0, []), 29), (29, (3, 0, 2, 0, []), 30), (30, (24, 0, 1, 1593, []), 33), (33, (22, 0, 0, 0, []), 34)]
/-- WashingLinesModel.movesAll(IZ)V -/
def am_c216 : List (Nat × am_I × Nat) := [(0, (3, 0, 2, 0, []), 1), (1, (0, 0, 0, 36, []), 3), (3, (3, 1, 0, 0, []), 4), (4, (6, 2, 0, 0, []), 5), (5, (24, 1, 2, 1594, []), 8), (8, (3, 0, 2, 0, []), 9), (9, (3, 2, 0, 0, []), 10), (10, (24, 1, 2, 1595, []), 13), (13, (3, 0, 2, 0, []), 14), (14, (24, 0, 1, 1537, []), 17), (17, (0, 0, 0, 6, []), 19), (19, (3, 0, 2, 0, []), 20), (20, (3, 0, 2, 0, []), 21), (21, (24, 0, 1, 1537, []), 24), (24, (0, 0, 0, 6, []), 26), (26, (24, 2, 2, 0, []), 27), (27, (21, 217, 2, 0, []), 30), (30, (24, 3, 3, 0, []), 31), (31, (3, 0, 2, 0, []), 32), (32, (24, 0, 1, 1537, []), 35), (35, (0, 0, 0, 7, []), 37), (37, (3, 0, 2, 0, []), 38), (38, (3, 0, 2, 0, []), 39), (39, (24, 0, 1, 1537, []), 42), (42, (0, 0, 0, 7, []), 44), (44, (24, 2, 2, 0, []), 45), (45, (21, 217, 2, 0, []), 48), (48, (24, 3, 3, 0, []), 49), (49, (3, 0, 2, 0, []), 50), (50, (3, 0, 2, 0, []), 51), (51, (24, 0, 1, 1538, []), 54), (54, (21, 218, 2, 0, []), 57), (57, (3, 0, 2, 0, []), 58), (58, (3, 0, 2, 0, []), 59), (59, (24, 0, 1, 1539, []), 62), (62, (21, 218, 2, 0, []), 65), (65, (3, 0, 2, 0, []), 66), (66, (3, 0, 2, 0, []), 67), (67, (24, 0, 1, 1544, []), 70), (70, (21, 218, 2, 0, []), 73), (73, (3, 0, 2, 0, []), 74), (74, (3, 0, 2, 0, []), 75), (75, (24, 0, 1, 1547, []), 78), (78, (21, 218, 2, 0, []), 81), (81, (3, 0, 2, 0, []), 82), (82, (3, 0, 2, 0, []), 83), (83, (24, 0, 1, 1548, []), 86), (86, (21, 218, 2, 0, []), 89), (89, (23, 0, 0, 0, []), 90)]
/-- WashingLinesModel.moves(I)I -/
def am_c217 : List (Nat × am_I × Nat) := [(0, (3, 0, 2, 0, []), 1), (1, (24, 0, 1, 1595, []), 4), (4, (16, 0, 19, 0, []), 7), (7, (3, 0, 2, 0, []), 8), (8, (24, 0, 1, 1591, []), 11), (11, (3, 0, 2, 0, []), 12), (12, (24, 0, 1, 1594, []), 15), (15, (24, 2, 2, 0, []), 16), (16, (18, 0, 20, 0, []), 19), (19, (3, 1, 0, 0, []), 20), (20, (4, 2, 0, 0, []), 21), (21, (3, 0, 2, 0, []), 22), (22, (24, 0, 1, 1591, []), 25), (25, (3, 0, 2, 0, []), 26), (26, (24, 0, 1, 1594, []), 29), (29, (3, 2, 0, 0, []), 30), (30, (24, 3, 3, 0, []), 31), (31, (3, 0, 2, 0, []), 32), (32, (12, 0, 0, 0, []), 33), (33, (24, 0, 1, 1594, []), 36), (36, (0, 0, 0, 1, []), 37), (37, (6, 0, 0, 0, []), 38), (38, (24, 1, 2, 1594, []), 41), (41, (3, 2, 0, 0, []), 42), (42, (22, 0, 0, 0, []), 43)]
/-- WashingLinesModel.movesRow([I)V -/
def am_c218 : List (Nat × am_I × Nat) := [(0, (0, 0, 0, 0, []), 1), (1, (4, 2, 0, 0, []), 2), (2, (3, 2, 0, 0, []), 3), (3, (3, 1, 2, 0, []), 4), (4, (24, 4, 1, 0, []), 5), (5, (15, 3, 24, 0, []), 8), (8, (3, 1, 2, 0, []), 9), (9, (3, 2, 0, 0, []), 10), (10, (3, 0, 2, 0, []), 11), (11, (3, 1, 2, 0, []), 12), (12, (3, 2, 0, 0, []), 13), (13, (24, 2, 2, 0, []), 14), (14, (21, 217, 2, 0, []), 17), (17, (24, 3, 3, 0, []), 18), (18, (5, 2, 0, 1, []), 21), (21, (18, 0, 2, 0, []), 24), (24, (23, 0, 0, 0, []), 25)]
/-- WashingLinesModel.hour()I -/
def am_c219 : List (Nat × am_I × Nat) := [(0, (3, 0, 2, 0, []), 1), (1, (21, 220, 1, 0, []), 4), (4, (16, 0, 20, 0, []), 7), (7, (3, 0, 2, 0, []), 8), (8, (24, 0, 1, 1537, []), 11), (11, (0, 0, 0, 7, []), 13), (13, (24, 2, 2, 0, []), 14), (14, (0, 0, 0, 999, []), 17), (17, (15, 1, 22, 0, []), 20), (20, (0, 0, 0, -1, []), 21), (21, (22, 0, 0, 0, []), 22), (22, (3, 0, 2, 0, []), 23), (23, (21, 221, 1, 0, []), 26), (26, (3, 0, 2, 0, []), 27), (27, (21, 222, 1, 0, []), 30), (30, (22, 0, 0, 0, []), 31)]
/-- WashingLinesModel.isCourt()Z -/
def am_c220 : List (Nat × am_I × Nat) := [(0, (3, 0, 2, 0, []), 1), (1, (24, 0, 1, 1537, []), 4), (4, (0, 0, 0, 0, []), 5), (5, (24, 2, 2, 0, []), 6), (6, (16, 5, 13, 0, []), 9), (9, (0, 0, 0, 1, []), 10), (10, (18, 0, 14, 0, []), 13), (13, (0, 0, 0, 0, []), 14), (14, (22, 1, 0, 0, []), 15)]
/-- WashingLinesModel.keepsAct()V -/
def am_c221 : List (Nat × am_I × Nat) := [(0, (3, 0, 2, 0, []), 1), (1, (24, 0, 1, 1593, []), 4), (4, (0, 0, 0, 20, []), 6), (6, (15, 1, 50, 0, []), 9), (9, (0, 0, 0, 36, []), 11), (11, (4, 1, 0, 0, []), 12), (12, (3, 1, 0, 0, []), 13), (13, (0, 0, 0, 720, []), 16), (16, (15, 3, 40, 0, []), 19), (19, (3, 0, 2, 0, []), 20), (20, (24, 0, 1, 1591, []), 23), (23, (3, 1, 0, 0, []), 24), (24, (0, 0, 0, 36, []), 26), (26, (6, 1, 0, 0, []), 27), (27, (3, 0, 2, 0, []), 28), (28, (24, 0, 1, 1591, []), 31), (31, (3, 1, 0, 0, []), 32), (32, (24, 2, 2, 0, []), 33), (33, (24, 3, 3, 0, []), 34), (34, (5, 1, 0, 1, []), 37), (37, (18, 0, 12, 0, []), 40), (40, (3, 0, 2, 0, []), 41), (41, (12, 0, 0, 0, []), 42), (42, (24, 0, 1, 1593, []), 45), (45, (0, 0, 0, 1, []), 46), (46, (6, 1, 0, 0, []), 47), (47, (24, 1, 2, 1593, []), 50), (50, (3, 0, 2, 0, []), 51), (51, (3, 0, 2, 0, []), 52), (52, (24, 0, 1, 1593, []), 55), (55, (0, 0, 0, 0, []), 56), (56, (21, 216, 3, 0, []), 59), (59, (3, 0, 2, 0, []), 60), (60, (12, 0, 0, 0, []), 61), (61, (24, 0, 1, 1593, []), 64), (64, (0, 0, 0, 1, []), 65), (65, (6, 0, 0, 0, []), 66), (66, (24, 1, 2, 1593, []), 69), (69, (23, 0, 0, 0, []), 70)]
/-- WashingLinesModel.goes()I -/
def am_c222 : List (Nat × am_I × Nat) := [(0, (0, 0, 0, 0, []), 1), (1, (4, 1, 0, 0, []), 2), (2, (0, 0, 0, 0, []), 3), (3, (4, 2, 0, 0, []), 4), (4, (3, 2, 0, 0, []), 5), (5, (3, 0, 2, 0, []), 6), (6, (24, 0, 1, 1537, []), 9), (9, (0, 0, 0, 3, []), 10), (10, (24, 2, 2, 0, []), 11), (11, (15, 3, 31, 0, []), 14), (14, (3, 0, 2, 0, []), 15), (15, (24, 0, 1, 1590, []), 18), (18, (3, 2, 0, 0, []), 19), (19, (3, 0, 2, 0, []), 20), (20, (3, 2, 0, 0, []), 21), (21, (21, 200, 2, 0, []), 24), (24, (24, 3, 3, 0, []), 25), (25, (5, 2, 0, 1, []), 28), (28, (18, 0, 4, 0, []), 31), (31, (0, 0, 0, 0, []), 32), (32, (4, 2, 0, 0, []), 33), (33, (3, 2, 0, 0, []), 34), (34, (3, 0, 2, 0, []), 35), (35, (24, 0, 1, 1537, []), 38), (38, (0, 0, 0, 3, []), 39), (39, (24, 2, 2, 0, []), 40), (40, (15, 3, 100, 0, []), 43), (43, (3, 0, 2, 0, []), 44), (44, (24, 0, 1, 1544, []), 47), (47, (3, 2, 0, 0, []), 48), (48, (3, 0, 2, 0, []), 49), (49, (24, 0, 1, 1590, []), 52), (52, (3, 2, 0, 0, []), 53), (53, (24, 2, 2, 0, []), 54), (54, (24, 3, 3, 0, []), 55), (55, (3, 0, 2, 0, []), 56), (56, (24, 0, 1, 1590, []), 59), (59, (3, 2, 0, 0, []), 60), (60, (24, 2, 2, 0, []), 61), (61, (0, 0, 0, -1, []), 62), (62, (15, 0, 94, 0, []), 65), (65, (3, 0, 2, 0, []), 66), (66, (24, 0, 1, 1539, []), 69), (69, (3, 0, 2, 0, []), 70), (70, (24, 0, 1, 1590, []), 73), (73, (3, 2, 0, 0, []), 74), (74, (24, 2, 2, 0, []), 75), (75, (13, 0, 0, 0, []), 76), (76, (24, 2, 2, 0, []), 77), (77, (3, 0, 2, 0, []), 78), (78, (24, 0, 1, 1542, []), 81), (81, (3, 2, 0, 0, []), 82), (82, (24, 2, 2, 0, []), 83), (83, (6, 0, 0, 0, []), 84), (84, (24, 3, 3, 0, []), 85), (85, (3, 1, 0, 0, []), 86), (86, (3, 0, 2, 0, []), 87), (87, (24, 0, 1, 1542, []), 90), (90, (3, 2, 0, 0, []), 91), (91, (24, 2, 2, 0, []), 92), (92, (6, 0, 0, 0, []), 93), (93, (4, 1, 0, 0, []), 94), (94, (5, 2, 0, 1, []), 97), (97, (18, 0, 33, 0, []), 100), (100, (3, 0, 2, 0, []), 101), (101, (3, 0, 2, 0, []), 102), (102, (24, 0, 1, 1537, []), 105), (105, (0, 0, 0, 7, []), 107), (107, (24, 2, 2, 0, []), 108), (108, (21, 204, 2, 0, []), 111), (111, (4, 2, 0, 0, []), 112), (112, (0, 0, 0, 0, []), 113), (113, (4, 3, 0, 0, []), 114), (114, (3, 3, 0, 0, []), 115), (115, (3, 0, 2, 0, []), 116), (116, (24, 0, 1, 1537, []), 119), (119, (0, 0, 0, 4, []), 120), (120, (24, 2, 2, 0, []), 121), (121, (15, 3, 231, 0, []), 124), (124, (3, 0, 2, 0, []), 125), (125, (24, 0, 1, 1548, []), 128), (128, (3, 3, 0, 0, []), 129), (129, (24, 2, 2, 0, []), 130), (130, (0, 0, 0, -1, []), 131), (131, (15, 0, 177, 0, []), 134), (134, (3, 2, 0, 0, []), 135), (135, (16, 0, 177, 0, []), 138), (138, (3, 0, 2, 0, []), 139), (139, (24, 0, 1, 1547, []), 142), (142, (3, 3, 0, 0, []), 143), (143, (3, 0, 2, 0, []), 144), (144, (24, 0, 1, 1547, []), 147), (147, (3, 3, 0, 0, []), 148), (148, (24, 2, 2, 0, []), 149), (149, (3, 0, 2, 0, []), 150), (150, (24, 0, 1, 1537, []), 153), (153, (0, 0, 0, 1, []), 154), (154, (24, 2, 2, 0, []), 155), (155, (15, 3, 167, 0, []), 158), (158, (3, 0, 2, 0, []), 159), (159, (24, 0, 1, 1537, []), 162), (162, (0, 0, 0, 1, []), 163), (163, (24, 2, 2, 0, []), 164), (164, (18, 0, 173, 0, []), 167), (167, (3, 0, 2, 0, []), 168), (168, (24, 0, 1, 1547, []), 171), (171, (3, 3, 0, 0, []), 172), (172, (24, 2, 2, 0, []), 173), (173, (24, 3, 3, 0, []), 174), (174, (18, 0, 225, 0, []), 177), (177, (3, 0, 2, 0, []), 178), (178, (24, 0, 1, 1548, []), 181), (181, (3, 3, 0, 0, []), 182), (182, (24, 2, 2, 0, []), 183), (183, (0, 0, 0, -1, []), 184), (184, (15, 0, 225, 0, []), 187), (187, (3, 0, 2, 0, []), 188), (188, (24, 0, 1, 1547, []), 191), (191, (3, 3, 0, 0, []), 192), (192, (3, 0, 2, 0, []), 193), (193, (24, 0, 1, 1547, []), 196), (196, (3, 3, 0, 0, []), 197), (197, (24, 2, 2, 0, []), 198), (198, (3, 0, 2, 0, []), 199), (199, (24, 0, 1, 1537, []), 202), (202, (0, 0, 0, 0, []), 203), (203, (24, 2, 2, 0, []), 204), (204, (15, 5, 223, 0, []), 207), (207, (3, 0, 2, 0, []), 208), (208, (24, 0, 1, 1547, []), 211), (211, (3, 3, 0, 0, []), 212), (212, (24, 2, 2, 0, []), 213), (213, (3, 0, 2, 0, []), 214), (214, (24, 0, 1, 1537, []), 217), (217, (0, 0, 0, 0, []), 218), (218, (24, 2, 2, 0, []), 219), (219, (6, 1, 0, 0, []), 220), (220, (18, 0, 224, 0, []), 223), (223, (0, 0, 0, 0, []), 224), (224, (24, 3, 3, 0, []), 225), (225, (5, 3, 0, 1, []), 228), (228, (18, 0, 114, 0, []), 231), (231, (3, 0, 2, 0, []), 232), (232, (24, 0, 1, 1537, []), 235), (235, (0, 0, 0, 7, []), 237), (237, (13, 0, 0, 0, []), 238), (238, (24, 2, 2, 0, []), 239), (239, (0, 0, 0, 1, []), 240), (240, (6, 0, 0, 0, []), 241), (241, (24, 3, 3, 0, []), 242), (242, (3, 1, 0, 0, []), 243), (243, (22, 0, 0, 0, []), 244)]
/-- WashingLinesModel.hang(II)I -/
def am_c223 : List (Nat × am_I × Nat) := [(0, (3, 0, 2, 0, []), 1), (1, (3, 1, 0, 0, []), 2), (2, (21, 214, 2, 0, []), 5), (5, (16, 0, 25, 0, []), 8), (8, (3, 0, 2, 0, []), 9), (9, (3, 2, 0, 0, []), 10), (10, (21, 210, 2, 0, []), 13), (13, (16, 0, 25, 0, []), 16), (16, (3, 0, 2, 0, []), 17), (17, (3, 1, 0, 0, []), 18), (18, (3, 2, 0, 0, []), 19), (19, (21, 224, 3, 0, []), 22), (22, (16, 1, 27, 0, []), 25), (25, (0, 0, 0, -1, []), 26), (26, (22, 0, 0, 0, []), 27), (27, (3, 0, 2, 0, []), 28), (28, (21, 221, 1, 0, []), 31), (31, (3, 0, 2, 0, []), 32), (32, (3, 1, 0, 0, []), 33), (33, (3, 2, 0, 0, []), 34), (34, (21, 225, 3, 0, []), 37), (37, (3, 0, 2, 0, []), 38), (38, (3, 2, 0, 0, []), 39), (39, (21, 211, 2, 0, []), 42), (42, (22, 0, 0, 0, []), 43)]
/-- WashingLinesModel.canHang(II)Z -/
def am_c224 : List (Nat × am_I × Nat) := [(0, (3, 0, 2, 0, []), 1), (1, (24, 0, 1, 1548, []), 4), (4, (3, 1, 0, 0, []), 5), (5, (24, 2, 2, 0, []), 6), (6, (0, 0, 0, -1, []), 7), (7, (15, 1, 51, 0, []), 10), (10, (3, 0, 2, 0, []), 11), (11, (3, 2, 0, 0, []), 12), (12, (21, 201, 2, 0, []), 15), (15, (16, 1, 51, 0, []), 18), (18, (3, 0, 2, 0, []), 19), (19, (3, 2, 0, 0, []), 20), (20, (21, 211, 2, 0, []), 23), (23, (3, 0, 2, 0, []), 24), (24, (24, 0, 1, 1546, []), 27), (27, (3, 1, 0, 0, []), 28), (28, (24, 2, 2, 0, []), 29), (29, (15, 2, 51, 0, []), 32), (32, (3, 0, 2, 0, []), 33), (33, (24, 0, 1, 1538, []), 36), (36, (3, 0, 2, 0, []), 37), (37, (24, 0, 1, 1545, []), 40), (40, (3, 1, 0, 0, []), 41), (41, (24, 2, 2, 0, []), 42), (42, (24, 2, 2, 0, []), 43), (43, (0, 0, 0, 2, []), 44), (44, (15, 2, 51, 0, []), 47), (47, (0, 0, 0, 1, []), 48), (48, (18, 0, 52, 0, []), 51), (51, (0, 0, 0, 0, []), 52), (52, (22, 1, 0, 0, []), 53)]
/-- WashingLinesModel.hangsOn(II)V -/
def am_c225 : List (Nat × am_I × Nat) := [(0, (3, 0, 2, 0, []), 1), (1, (24, 0, 1, 1548, []), 4), (4, (3, 1, 0, 0, []), 5), (5, (3, 2, 0, 0, []), 6), (6, (24, 3, 3, 0, []), 7), (7, (3, 0, 2, 0, []), 8), (8, (24, 0, 1, 1538, []), 11), (11, (3, 0, 2, 0, []), 12), (12, (24, 0, 1, 1545, []), 15), (15, (3, 1, 0, 0, []), 16), (16, (24, 2, 2, 0, []), 17), (17, (13, 0, 0, 0, []), 18), (18, (24, 2, 2, 0, []), 19), (19, (0, 0, 0, 2, []), 20), (20, (6, 1, 0, 0, []), 21), (21, (24, 3, 3, 0, []), 22), (22, (23, 0, 0, 0, []), 23)]
/-- WashingLinesModel.take(I)I -/
def am_c226 : List (Nat × am_I × Nat) := [(0, (3, 0, 2, 0, []), 1), (1, (3, 1, 0, 0, []), 2), (2, (21, 214, 2, 0, []), 5), (5, (16, 0, 18, 0, []), 8), (8, (3, 0, 2, 0, []), 9), (9, (24, 0, 1, 1548, []), 12), (12, (3, 1, 0, 0, []), 13), (13, (24, 2, 2, 0, []), 14), (14, (0, 0, 0, -1, []), 15), (15, (15, 1, 20, 0, []), 18), (18, (0, 0, 0, -1, []), 19), (19, (22, 0, 0, 0, []), 20), (20, (3, 0, 2, 0, []), 21), (21, (21, 221, 1, 0, []), 24), (24, (3, 0, 2, 0, []), 25), (25, (24, 0, 1, 1548, []), 28), (28, (3, 1, 0, 0, []), 29), (29, (24, 2, 2, 0, []), 30), (30, (4, 2, 0, 0, []), 31), (31, (3, 0, 2, 0, []), 32), (32, (3, 1, 0, 0, []), 33), (33, (21, 227, 2, 0, []), 36), (36, (3, 2, 0, 0, []), 37), (37, (22, 0, 0, 0, []), 38)]
/-- WashingLinesModel.comesDown(I)V -/
def am_c227 : List (Nat × am_I × Nat) := [(0, (3, 0, 2, 0, []), 1), (1, (24, 0, 1, 1548, []), 4), (4, (3, 1, 0, 0, []), 5), (5, (0, 0, 0, -1, []), 6), (6, (24, 3, 3, 0, []), 7), (7, (3, 0, 2, 0, []), 8), (8, (24, 0, 1, 1538, []), 11), (11, (3, 0, 2, 0, []), 12), (12, (24, 0, 1, 1545, []), 15), (15, (3, 1, 0, 0, []), 16), (16, (24, 2, 2, 0, []), 17), (17, (13, 0, 0, 0, []), 18), (18, (24, 2, 2, 0, []), 19), (19, (0, 0, 0, 2, []), 20), (20, (6, 0, 0, 0, []), 21), (21, (24, 3, 3, 0, []), 22), (22, (23, 0, 0, 0, []), 23)]
/-- WashingLinesModel.wash(I)I -/
def am_c228 : List (Nat × am_I × Nat) := [(0, (3, 0, 2, 0, []), 1), (1, (3, 1, 0, 0, []), 2), (2, (21, 214, 2, 0, []), 5), (5, (16, 0, 33, 0, []), 8), (8, (3, 0, 2, 0, []), 9), (9, (24, 0, 1, 1548, []), 12), (12, (3, 1, 0, 0, []), 13), (13, (24, 2, 2, 0, []), 14), (14, (0, 0, 0, -1, []), 15), (15, (15, 1, 33, 0, []), 18), (18, (3, 0, 2, 0, []), 19), (19, (24, 0, 1, 1547, []), 22), (22, (3, 1, 0, 0, []), 23), (23, (24, 2, 2, 0, []), 24), (24, (3, 0, 2, 0, []), 25), (25, (24, 0, 1, 1555, []), 28), (28, (3, 1, 0, 0, []), 29), (29, (24, 2, 2, 0, []), 30), (30, (15, 1, 35, 0, []), 33), (33, (0, 0, 0, -1, []), 34), (34, (22, 0, 0, 0, []), 35), (35, (3, 0, 2, 0, []), 36), (36, (21, 221, 1, 0, []), 39), (39, (3, 0, 2, 0, []), 40), (40, (24, 0, 1, 1547, []), 43), (43, (3, 1, 0, 0, []), 44), (44, (3, 0, 2, 0, []), 45), (45, (24, 0, 1, 1555, []), 48), (48, (3, 1, 0, 0, []), 49), (49, (24, 2, 2, 0, []), 50), (50, (24, 3, 3, 0, []), 51), (51, (3, 0, 2, 0, []), 52), (52, (24, 0, 1, 1547, []), 55), (55, (3, 1, 0, 0, []), 56), (56, (24, 2, 2, 0, []), 57), (57, (22, 0, 0, 0, []), 58)]
/-- WashingLinesModel.cut(I)I -/
def am_c229 : List (Nat × am_I × Nat) := [(0, (3, 0, 2, 0, []), 1), (1, (3, 1, 0, 0, []), 2), (2, (21, 210, 2, 0, []), 5), (5, (16, 0, 16, 0, []), 8), (8, (3, 0, 2, 0, []), 9), (9, (3, 1, 0, 0, []), 10), (10, (21, 201, 2, 0, []), 13), (13, (16, 0, 18, 0, []), 16), (16, (0, 0, 0, -1, []), 17), (17, (22, 0, 0, 0, []), 18), (18, (3, 0, 2, 0, []), 19), (19, (21, 221, 1, 0, []), 22), (22, (0, 0, 0, 0, []), 23), (23, (4, 2, 0, 0, []), 24), (24, (0, 0, 0, 0, []), 25), (25, (4, 3, 0, 0, []), 26), (26, (3, 3, 0, 0, []), 27), (27, (3, 0, 2, 0, []), 28), (28, (24, 0, 1, 1537, []), 31), (31, (0, 0, 0, 4, []), 32), (32, (24, 2, 2, 0, []), 33), (33, (15, 3, 60, 0, []), 36), (36, (3, 0, 2, 0, []), 37), (37, (24, 0, 1, 1548, []), 40), (40, (3, 3, 0, 0, []), 41), (41, (24, 2, 2, 0, []), 42), (42, (3, 1, 0, 0, []), 43), (43, (15, 1, 54, 0, []), 46), (46, (3, 0, 2, 0, []), 47), (47, (3, 3, 0, 0, []), 48), (48, (21, 227, 2, 0, []), 51), (51, (5, 2, 0, 1, []), 54), (54, (5, 3, 0, 1, []), 57), (57, (18, 0, 26, 0, []), 60), (60, (3, 0, 2, 0, []), 61), (61, (24, 0, 1, 1544, []), 64), (64, (3, 1, 0, 0, []), 65), (65, (0, 0, 0, -1, []), 66), (66, (24, 3, 3, 0, []), 67), (67, (3, 0, 2, 0, []), 68), (68, (24, 0, 1, 1537, []), 71), (71, (0, 0, 0, 6, []), 73), (73, (13, 0, 0, 0, []), 74), (74, (24, 2, 2, 0, []), 75), (75, (0, 0, 0, 1, []), 76), (76, (3, 1, 0, 0, []), 77), (77, (6, 6, 0, 0, []), 78), (78, (6, 4, 0, 0, []), 79), (79, (24, 3, 3, 0, []), 80), (80, (3, 2, 0, 0, []), 81), (81, (22, 0, 0, 0, []), 82)]
/-- WashingLinesModel.mend(I)Z -/
def am_c230 : List (Nat × am_I × Nat) := [(0, (3, 0, 2, 0, []), 1), (1, (3, 1, 0, 0, []), 2), (2, (21, 210, 2, 0, []), 5), (5, (16, 0, 16, 0, []), 8), (8, (3, 0, 2, 0, []), 9), (9, (3, 1, 0, 0, []), 10), (10, (21, 201, 2, 0, []), 13), (13, (16, 1, 18, 0, []), 16), (16, (0, 0, 0, 0, []), 17), (17, (22, 1, 0, 0, []), 18), (18, (3, 0, 2, 0, []), 19), (19, (21, 221, 1, 0, []), 22), (22, (3, 0, 2, 0, []), 23), (23, (24, 0, 1, 1537, []), 26), (26, (0, 0, 0, 6, []), 28), (28, (13, 0, 0, 0, []), 29), (29, (24, 2, 2, 0, []), 30), (30, (0, 0, 0, 1, []), 31), (31, (3, 1, 0, 0, []), 32), (32, (6, 6, 0, 0, []), 33), (33, (6, 5, 0, 0, []), 34), (34, (24, 3, 3, 0, []), 35), (35, (0, 0, 0, 1, []), 36), (36, (22, 1, 0, 0, []), 37)]
/-- WashingLinesModel.ahead(III)I -/
def am_c231 : List (Nat × am_I × Nat) := [(0, (3, 3, 0, 0, []), 1), (1, (8, 0, 0, 0, []), 2), (2, (1, 0, 0, 0, []), 3), (3, (1, 0, 0, 2, []), 6), (6, (21, 173, 3, 1, []), 9), (9, (16, 0, 33, 0, []), 12), (12, (3, 0, 2, 0, []), 13), (13, (3, 1, 0, 0, []), 14), (14, (3, 3, 0, 0, []), 15), (15, (21, 232, 3, 0, []), 18), (18, (16, 0, 33, 0, []), 21), (21, (3, 2, 0, 0, []), 22), (22, (8, 0, 0, 0, []), 23), (23, (1, 0, 0, 0, []), 24), (24, (1, 0, 0, 100, []), 27), (27, (21, 173, 3, 1, []), 30), (30, (16, 1, 36, 0, []), 33), (33, (0, 0, 0, -2, []), 35), (35, (22, 0, 0, 0, []), 36), (36, (3, 0, 2, 0, []), 37), (37, (21, 233, 1, 0, []), 40), (40, (3, 0, 2, 0, []), 41), (41, (3, 2, 0, 0, []), 42), (42, (21, 236, 2, 0, []), 45), (45, (3, 3, 0, 0, []), 46), (46, (16, 1, 58, 0, []), 49), (49, (3, 0, 2, 0, []), 50), (50, (24, 0, 1, 1544, []), 53), (53, (3, 1, 0, 0, []), 54), (54, (24, 2, 2, 0, []), 55), (55, (18, 0, 78, 0, []), 58), (58, (3, 3, 0, 0, []), 59), (59, (0, 0, 0, 1, []), 60), (60, (15, 1, 72, 0, []), 63), (63, (3, 0, 2, 0, []), 64), (64, (24, 0, 1, 1547, []), 67), (67, (3, 1, 0, 0, []), 68), (68, (24, 2, 2, 0, []), 69), (69, (18, 0, 78, 0, []), 72), (72, (3, 0, 2, 0, []), 73), (73, (24, 0, 1, 1539, []), 76), (76, (3, 1, 0, 0, []), 77), (77, (24, 2, 2, 0, []), 78), (78, (4, 4, 0, 0, []), 80), (80, (3, 0, 2, 0, []), 81), (81, (21, 237, 1, 0, []), 84), (84, (3, 4, 0, 0, []), 86), (86, (22, 0, 0, 0, []), 87)]
/-- WashingLinesModel.isNumber(II)Z -/
def am_c232 : List (Nat × am_I × Nat) := [(0, (3, 2, 0, 0, []), 1), (1, (16, 1, 12, 0, []), 4), (4, (3, 0, 2, 0, []), 5), (5, (3, 1, 0, 0, []), 6), (6, (21, 210, 2, 0, []), 9), (9, (18, 0, 30, 0, []), 12), (12, (3, 2, 0, 0, []), 13), (13, (0, 0, 0, 1, []), 14), (14, (15, 1, 25, 0, []), 17), (17, (3, 0, 2, 0, []), 18), (18, (3, 1, 0, 0, []), 19), (19, (21, 214, 2, 0, []), 22), (22, (18, 0, 30, 0, []), 25), (25, (3, 0, 2, 0, []), 26), (26, (3, 1, 0, 0, []), 27), (27, (21, 198, 2, 0, []), 30), (30, (22, 1, 0, 0, []), 31)]
/-- WashingLinesModel.keepsAll()V -/
def am_c233 : List (Nat × am_I × Nat) := [(0, (3, 0, 2, 0, []), 1), (1, (0, 0, 0, 4, []), 2), (2, (0, 0, 0, 0, []), 3), (3, (21, 234, 3, 0, []), 6), (6, (23, 0, 0, 0, []), 7)]
/-- WashingLinesModel.carriesAll(IZ)V -/
def am_c234 : List (Nat × am_I × Nat) := [(0, (3, 0, 2, 0, []), 1), (1, (0, 0, 0, 1100, []), 4), (4, (3, 1, 0, 0, []), 5), (5, (6, 2, 0, 0, []), 6), (6, (24, 1, 2, 1608, []), 9), (9, (3, 0, 2, 0, []), 10), (10, (3, 2, 0, 0, []), 11), (11, (24, 1, 2, 1609, []), 14), (14, (3, 0, 2, 0, []), 15), (15, (3, 0, 2, 0, []), 16), (16, (24, 0, 1, 1537, []), 19), (19, (21, 235, 2, 0, []), 22), (22, (3, 0, 2, 0, []), 23), (23, (3, 0, 2, 0, []), 24), (24, (24, 0, 1, 1538, []), 27), (27, (21, 235, 2, 0, []), 30), (30, (3, 0, 2, 0, []), 31), (31, (3, 0, 2, 0, []), 32), (32, (24, 0, 1, 1539, []), 35), (35, (21, 235, 2, 0, []), 38), (38, (3, 0, 2, 0, []), 39), (39, (3, 0, 2, 0, []), 40), (40, (24, 0, 1, 1544, []), 43), (43, (21, 235, 2, 0, []), 46), (46, (3, 0, 2, 0, []), 47), (47, (3, 0, 2, 0, []), 48), (48, (24, 0, 1, 1547, []), 51), (51, (21, 235, 2, 0, []), 54), (54, (3, 0, 2, 0, []), 55), (55, (3, 0, 2, 0, []), 56), (56, (24, 0, 1, 1548, []), 59), (59, (21, 235, 2, 0, []), 62), (62, (3, 1, 0, 0, []), 63), (63, (0, 0, 0, 4, []), 64), (64, (15, 1, 68, 0, []), 67), (67, (23, 0, 0, 0, []), 68), (68, (3, 0, 2, 0, []), 69), (69, (24, 0, 1, 1592, []), 72), (72, (0, 0, 0, 0, []), 73), (73, (3, 0, 2, 0, []), 74), (74, (24, 0, 1, 1593, []), 77), (77, (24, 3, 3, 0, []), 78), (78, (3, 0, 2, 0, []), 79), (79, (3, 0, 2, 0, []), 80), (80, (24, 0, 1, 1592, []), 83), (83, (21, 235, 2, 0, []), 86), (86, (3, 0, 2, 0, []), 87), (87, (3, 0, 2, 0, []), 88), (88, (24, 0, 1, 1592, []), 91), (91, (0, 0, 0, 0, []), 92), (92, (24, 2, 2, 0, []), 93), (93, (24, 1, 2, 1593, []), 96), (96, (3, 0, 2, 0, []), 97), (97, (3, 0, 2, 0, []), 98), (98, (24, 0, 1, 1540, []), 101), (101, (21, 235, 2, 0, []), 104), (104, (3, 0, 2, 0, []), 105), (105, (3, 0, 2, 0, []), 106), (106, (24, 0, 1, 1541, []), 109), (109, (21, 235, 2, 0, []), 112), (112, (3, 0, 2, 0, []), 113), (113, (3, 0, 2, 0, []), 114), (114, (24, 0, 1, 1542, []), 117), (117, (21, 235, 2, 0, []), 120), (120, (3, 0, 2, 0, []), 121), (121, (3, 0, 2, 0, []), 122), (122, (24, 0, 1, 1543, []), 125), (125, (21, 235, 2, 0, []), 128), (128, (3, 0, 2, 0, []), 129), (129, (3, 0, 2, 0, []), 130), (130, (24, 0, 1, 1545, []), 133), (133, (21, 235, 2, 0, []), 136), (136, (3, 0, 2, 0, []), 137), (137, (3, 0, 2, 0, []), 138), (138, (24, 0, 1, 1546, []), 141), (141, (21, 235, 2, 0, []), 144), (144, (3, 0, 2, 0, []), 145), (145, (3, 0, 2, 0, []), 146), (146, (24, 0, 1, 1549, []), 149), (149, (21, 235, 2, 0, []), 152), (152, (3, 0, 2, 0, []), 153), (153, (3, 0, 2, 0, []), 154), (154, (24, 0, 1, 1550, []), 157), (157, (21, 235, 2, 0, []), 160), (160, (3, 0, 2, 0, []), 161), (161, (3, 0, 2, 0, []), 162), (162, (24, 0, 1, 1551, []), 165), (165, (21, 235, 2, 0, []), 168), (168, (3, 0, 2, 0, []), 169), (169, (3, 0, 2, 0, []), 170), (170, (24, 0, 1, 1552, []), 173), (173, (21, 235, 2, 0, []), 176), (176, (3, 0, 2, 0, []), 177), (177, (3, 0, 2, 0, []), 178), (178, (24, 0, 1, 1553, []), 181), (181, (21, 235, 2, 0, []), 184), (184, (3, 0, 2, 0, []), 185), (185, (3, 0, 2, 0, []), 186), (186, (24, 0, 1, 1554, []), 189), (189, (21, 235, 2, 0, []), 192), (192, (3, 0, 2, 0, []), 193), (193, (3, 0, 2, 0, []), 194), (194, (24, 0, 1, 1555, []), 197), (197, (21, 235, 2, 0, []), 200), (200, (3, 0, 2, 0, []), 201), (201, (3, 0, 2, 0, []), 202), (202, (24, 0, 1, 1556, []), 205), (205, (21, 235, 2, 0, []), 208), (208, (3, 0, 2, 0, []), 209), (209, (3, 0, 2, 0, []), 210), (210, (24, 0, 1, 1591, []), 213), (213, (21, 235, 2, 0, []), 216), (216, (23, 0, 0, 0, []), 217)]
/-- WashingLinesModel.carryRow([I)V -/
def am_c235 : List (Nat × am_I × Nat) := [(0, (0, 0, 0, 0, []), 1), (1, (4, 2, 0, 0, []), 2), (2, (3, 2, 0, 0, []), 3), (3, (3, 1, 2, 0, []), 4), (4, (24, 4, 1, 0, []), 5), (5, (15, 3, 58, 0, []), 8), (8, (3, 0, 2, 0, []), 9), (9, (24, 0, 1, 1609, []), 12), (12, (16, 0, 30, 0, []), 15), (15, (3, 1, 2, 0, []), 16), (16, (3, 2, 0, 0, []), 17), (17, (3, 0, 2, 0, []), 18), (18, (24, 0, 1, 1606, []), 21), (21, (3, 0, 2, 0, []), 22), (22, (24, 0, 1, 1608, []), 25), (25, (24, 2, 2, 0, []), 26), (26, (24, 3, 3, 0, []), 27), (27, (18, 0, 42, 0, []), 30), (30, (3, 0, 2, 0, []), 31), (31, (24, 0, 1, 1606, []), 34), (34, (3, 0, 2, 0, []), 35), (35, (24, 0, 1, 1608, []), 38), (38, (3, 1, 2, 0, []), 39), (39, (3, 2, 0, 0, []), 40), (40, (24, 2, 2, 0, []), 41), (41, (24, 3, 3, 0, []), 42), (42, (3, 0, 2, 0, []), 43), (43, (12, 0, 0, 0, []), 44), (44, (24, 0, 1, 1608, []), 47), (47, (0, 0, 0, 1, []), 48), (48, (6, 0, 0, 0, []), 49), (49, (24, 1, 2, 1608, []), 52), (52, (5, 2, 0, 1, []), 55), (55, (18, 0, 2, 0, []), 58), (58, (23, 0, 0, 0, []), 59)]
/-- WashingLinesModel.goFor(I)V -/
def am_c236 : List (Nat × am_I × Nat) := [(0, (0, 0, 0, 0, []), 1), (1, (4, 2, 0, 0, []), 2), (2, (3, 2, 0, 0, []), 3), (3, (3, 1, 0, 0, []), 4), (4, (15, 3, 18, 0, []), 7), (7, (3, 0, 2, 0, []), 8), (8, (21, 222, 1, 0, []), 11), (11, (14, 0, 0, 0, []), 12), (12, (5, 2, 0, 1, []), 15), (15, (18, 0, 2, 0, []), 18), (18, (23, 0, 0, 0, []), 19)]
/-- WashingLinesModel.laysBack()V -/
def am_c237 : List (Nat × am_I × Nat) := [(0, (3, 0, 2, 0, []), 1), (1, (0, 0, 0, 4, []), 2), (2, (0, 0, 0, 1, []), 3), (3, (21, 234, 3, 0, []), 6), (6, (23, 0, 0, 0, []), 7)]
/-- WashingLinesModel.dries(I)I -/
def am_c238 : List (Nat × am_I × Nat) := [(0, (3, 0, 2, 0, []), 1), (1, (3, 1, 0, 0, []), 2), (2, (21, 214, 2, 0, []), 5), (5, (16, 1, 10, 0, []), 8), (8, (0, 0, 0, -1, []), 9), (9, (22, 0, 0, 0, []), 10), (10, (3, 0, 2, 0, []), 11), (11, (24, 0, 1, 1548, []), 14), (14, (3, 1, 0, 0, []), 15), (15, (24, 2, 2, 0, []), 16), (16, (0, 0, 0, -1, []), 17), (17, (15, 1, 23, 0, []), 20), (20, (0, 0, 0, -2, []), 22), (22, (22, 0, 0, 0, []), 23), (23, (3, 0, 2, 0, []), 24), (24, (21, 233, 1, 0, []), 27), (27, (0, 0, 0, -2, []), 29), (29, (4, 2, 0, 0, []), 30), (30, (0, 0, 0, 0, []), 31), (31, (4, 3, 0, 0, []), 32), (32, (3, 3, 0, 0, []), 33), (33, (0, 0, 0, 200, []), 36), (36, (15, 3, 78, 0, []), 39), (39, (3, 2, 0, 0, []), 40), (40, (0, 0, 0, -2, []), 42), (42, (15, 1, 78, 0, []), 45), (45, (3, 0, 2, 0, []), 46), (46, (24, 0, 1, 1547, []), 49), (49, (3, 1, 0, 0, []), 50), (50, (24, 2, 2, 0, []), 51), (51, (16, 1, 64, 0, []), 54), (54, (3, 0, 2, 0, []), 55), (55, (24, 0, 1, 1537, []), 58), (58, (0, 0, 0, 7, []), 60), (60, (24, 2, 2, 0, []), 61), (61, (18, 0, 66, 0, []), 64), (64, (0, 0, 0, -2, []), 66), (66, (4, 2, 0, 0, []), 67), (67, (3, 0, 2, 0, []), 68), (68, (21, 222, 1, 0, []), 71), (71, (14, 0, 0, 0, []), 72), (72, (5, 3, 0, 1, []), 75), (75, (18, 0, 32, 0, []), 78), (78, (3, 0, 2, 0, []), 79), (79, (21, 237, 1, 0, []), 82), (82, (3, 2, 0, 0, []), 83), (83, (22, 0, 0, 0, []), 84)]
/-- WashingLinesModel.most(III)I -/
def am_c239 : List (Nat × am_I × Nat) := [(0, (3, 0, 2, 0, []), 1), (1, (3, 1, 0, 0, []), 2), (2, (21, 198, 2, 0, []), 5), (5, (16, 0, 32, 0, []), 8), (8, (3, 2, 0, 0, []), 9), (9, (8, 0, 0, 0, []), 10), (10, (1, 0, 0, 1, []), 11), (11, (1, 0, 0, 12, []), 14), (14, (21, 173, 3, 1, []), 17), (17, (16, 0, 32, 0, []), 20), (20, (3, 3, 0, 0, []), 21), (21, (8, 0, 0, 0, []), 22), (22, (1, 0, 0, 0, []), 23), (23, (1, 0, 0, 4, []), 26), (26, (21, 173, 3, 1, []), 29), (29, (16, 1, 35, 0, []), 32), (32, (0, 0, 0, -3, []), 34), (34, (22, 0, 0, 0, []), 35), (35, (3, 0, 2, 0, []), 36), (36, (3, 1, 0, 0, []), 37), (37, (21, 240, 2, 0, []), 40), (40, (0, 0, 0, 1, []), 41), (41, (4, 4, 0, 0, []), 43), (43, (0, 0, 0, 0, []), 44), (44, (4, 5, 0, 0, []), 46), (46, (3, 5, 0, 0, []), 48), (48, (3, 0, 2, 0, []), 49), (49, (24, 0, 1, 1599, []), 52), (52, (15, 3, 74, 0, []), 55), (55, (3, 4, 0, 0, []), 57), (57, (3, 0, 2, 0, []), 58), (58, (24, 0, 1, 1537, []), 61), (61, (0, 0, 0, 3, []), 62), (62, (24, 2, 2, 0, []), 63), (63, (0, 0, 0, 1, []), 64), (64, (6, 0, 0, 0, []), 65), (65, (6, 2, 0, 0, []), 66), (66, (4, 4, 0, 0, []), 68), (68, (5, 5, 0, 1, []), 71), (71, (18, 0, 46, 0, []), 74), (74, (0, 0, 0, -1, []), 75), (75, (4, 5, 0, 0, []), 77), (77, (3, 0, 2, 0, []), 78), (78, (21, 233, 1, 0, []), 81), (81, (0, 0, 0, 0, []), 82), (82, (4, 6, 0, 0, []), 84), (84, (3, 6, 0, 0, []), 86), (86, (3, 4, 0, 0, []), 88), (88, (15, 3, 145, 0, []), 91), (91, (3, 0, 2, 0, []), 92), (92, (3, 6, 0, 0, []), 94), (94, (21, 241, 2, 0, []), 97), (97, (16, 0, 135, 0, []), 100), (100, (3, 0, 2, 0, []), 101), (101, (3, 2, 0, 0, []), 102), (102, (21, 236, 2, 0, []), 105), (105, (3, 0, 2, 0, []), 106), (106, (24, 0, 1, 1539, []), 109), (109, (3, 1, 0, 0, []), 110), (110, (24, 2, 2, 0, []), 111), (111, (3, 5, 0, 0, []), 113), (113, (15, 5, 135, 0, []), 116), (116, (3, 0, 2, 0, []), 117), (117, (24, 0, 1, 1539, []), 120), (120, (3, 1, 0, 0, []), 121), (121, (24, 2, 2, 0, []), 122), (122, (4, 5, 0, 0, []), 124), (124, (3, 0, 2, 0, []), 125), (125, (24, 0, 1, 1597, []), 128), (128, (3, 0, 2, 0, []), 129), (129, (24, 0, 1, 1598, []), 132), (132, (21, 179, 2, 1, []), 135), (135, (3, 0, 2, 0, []), 136), (136, (21, 237, 1, 0, []), 139), (139, (5, 6, 0, 1, []), 142), (142, (18, 0, 84, 0, []), 145), (145, (3, 3, 0, 0, []), 146), (146, (16, 1, 154, 0, []), 149), (149, (3, 5, 0, 0, []), 151), (151, (18, 0, 175, 0, []), 154), (154, (3, 3, 0, 0, []), 155), (155, (3, 0, 2, 0, []), 156), (156, (24, 0, 1, 1599, []), 159), (159, (15, 4, 173, 0, []), 162), (162, (3, 0, 2, 0, []), 163), (163, (24, 0, 1, 1598, []), 166), (166, (3, 3, 0, 0, []), 167), (167, (0, 0, 0, 1, []), 168), (168, (6, 1, 0, 0, []), 169), (169, (24, 2, 2, 0, []), 170), (170, (18, 0, 175, 0, []), 173), (173, (0, 0, 0, -2, []), 175), (175, (22, 0, 0, 0, []), 176)]
/-- WashingLinesModel.laysToHang(I)V -/
def am_c240 : List (Nat × am_I × Nat) := [(0, (3, 0, 2, 0, []), 1), (1, (0, 0, 0, 0, []), 2), (2, (24, 1, 2, 1599, []), 5), (5, (0, 0, 0, 0, []), 6), (6, (4, 2, 0, 0, []), 7), (7, (3, 2, 0, 0, []), 8), (8, (3, 0, 2, 0, []), 9), (9, (24, 0, 1, 1537, []), 12), (12, (0, 0, 0, 4, []), 13), (13, (24, 2, 2, 0, []), 14), (14, (15, 3, 71, 0, []), 17), (17, (3, 0, 2, 0, []), 18), (18, (24, 0, 1, 1599, []), 21), (21, (0, 0, 0, 4, []), 22), (22, (15, 3, 71, 0, []), 25), (25, (3, 0, 2, 0, []), 26), (26, (24, 0, 1, 1545, []), 29), (29, (3, 2, 0, 0, []), 30), (30, (24, 2, 2, 0, []), 31), (31, (3, 1, 0, 0, []), 32), (32, (15, 1, 65, 0, []), 35), (35, (3, 0, 2, 0, []), 36), (36, (24, 0, 1, 1548, []), 39), (39, (3, 2, 0, 0, []), 40), (40, (24, 2, 2, 0, []), 41), (41, (0, 0, 0, -1, []), 42), (42, (15, 1, 65, 0, []), 45), (45, (3, 0, 2, 0, []), 46), (46, (24, 0, 1, 1596, []), 49), (49, (3, 0, 2, 0, []), 50), (50, (24, 0, 1, 1599, []), 53), (53, (3, 2, 0, 0, []), 54), (54, (24, 3, 3, 0, []), 55), (55, (3, 0, 2, 0, []), 56), (56, (12, 0, 0, 0, []), 57), (57, (24, 0, 1, 1599, []), 60), (60, (0, 0, 0, 1, []), 61), (61, (6, 0, 0, 0, []), 62), (62, (24, 1, 2, 1599, []), 65), (65, (5, 2, 0, 1, []), 68), (68, (18, 0, 7, 0, []), 71), (71, (23, 0, 0, 0, []), 72)]
/-- WashingLinesModel.hangsRow(I)Z -/
def am_c241 : List (Nat × am_I × Nat) := [(0, (3, 1, 0, 0, []), 1), (1, (4, 2, 0, 0, []), 2), (2, (3, 0, 2, 0, []), 3), (3, (24, 0, 1, 1599, []), 6), (6, (0, 0, 0, 1, []), 7), (7, (6, 1, 0, 0, []), 8), (8, (4, 3, 0, 0, []), 9), (9, (3, 3, 0, 0, []), 10), (10, (16, 2, 48, 0, []), 13), (13, (3, 0, 2, 0, []), 14), (14, (24, 0, 1, 1597, []), 17), (17, (3, 3, 0, 0, []), 18), (18, (3, 2, 0, 0, []), 19), (19, (3, 0, 2, 0, []), 20), (20, (24, 0, 1, 1537, []), 23), (23, (0, 0, 0, 3, []), 24), (24, (24, 2, 2, 0, []), 25), (25, (0, 0, 0, 1, []), 26), (26, (6, 0, 0, 0, []), 27), (27, (6, 10, 0, 0, []), 28), (28, (0, 0, 0, 1, []), 29), (29, (6, 1, 0, 0, []), 30), (30, (24, 3, 3, 0, []), 31), (31, (3, 2, 0, 0, []), 32), (32, (3, 0, 2, 0, []), 33), (33, (24, 0, 1, 1537, []), 36), (36, (0, 0, 0, 3, []), 37), (37, (24, 2, 2, 0, []), 38), (38, (0, 0, 0, 1, []), 39), (39, (6, 0, 0, 0, []), 40), (40, (6, 9, 0, 0, []), 41), (41, (4, 2, 0, 0, []), 42), (42, (5, 3, 0, -1, []), 45), (45, (18, 0, 9, 0, []), 48), (48, (0, 0, 0, 0, []), 49), (49, (4, 3, 0, 0, []), 50), (50, (3, 3, 0, 0, []), 51), (51, (3, 0, 2, 0, []), 52), (52, (24, 0, 1, 1599, []), 55), (55, (15, 3, 121, 0, []), 58), (58, (3, 0, 2, 0, []), 59), (59, (24, 0, 1, 1597, []), 62), (62, (3, 3, 0, 0, []), 63), (63, (24, 2, 2, 0, []), 64), (64, (0, 0, 0, -1, []), 65), (65, (15, 0, 89, 0, []), 68), (68, (3, 0, 2, 0, []), 69), (69, (3, 0, 2, 0, []), 70), (70, (24, 0, 1, 1596, []), 73), (73, (3, 3, 0, 0, []), 74), (74, (24, 2, 2, 0, []), 75), (75, (3, 0, 2, 0, []), 76), (76, (24, 0, 1, 1597, []), 79), (79, (3, 3, 0, 0, []), 80), (80, (24, 2, 2, 0, []), 81), (81, (21, 224, 3, 0, []), 84), (84, (16, 1, 89, 0, []), 87), (87, (0, 0, 0, 0, []), 88), (88, (22, 1, 0, 0, []), 89), (89, (3, 0, 2, 0, []), 90), (90, (24, 0, 1, 1597, []), 93), (93, (3, 3, 0, 0, []), 94), (94, (24, 2, 2, 0, []), 95), (95, (0, 0, 0, -1, []), 96), (96, (15, 0, 115, 0, []), 99), (99, (3, 0, 2, 0, []), 100), (100, (3, 0, 2, 0, []), 101), (101, (24, 0, 1, 1596, []), 104), (104, (3, 3, 0, 0, []), 105), (105, (24, 2, 2, 0, []), 106), (106, (3, 0, 2, 0, []), 107), (107, (24, 0, 1, 1597, []), 110), (110, (3, 3, 0, 0, []), 111), (111, (24, 2, 2, 0, []), 112), (112, (21, 225, 3, 0, []), 115), (115, (5, 3, 0, 1, []), 118), (118, (18, 0, 50, 0, []), 121), (121, (0, 0, 0, 1, []), 122), (122, (22, 1, 0, 0, []), 123)]
/-- WashingLinesModel.game(IIII)I -/
def am_c242 : List (Nat × am_I × Nat) := [(0, (3, 0, 2, 0, []), 1), (1, (3, 1, 0, 0, []), 2), (2, (21, 198, 2, 0, []), 5), (5, (16, 0, 44, 0, []), 8), (8, (3, 0, 2, 0, []), 9), (9, (3, 2, 0, 0, []), 10), (10, (21, 198, 2, 0, []), 13), (13, (16, 0, 44, 0, []), 16), (16, (3, 1, 0, 0, []), 17), (17, (3, 2, 0, 0, []), 18), (18, (15, 0, 44, 0, []), 21), (21, (3, 3, 0, 0, []), 22), (22, (8, 0, 0, 0, []), 23), (23, (1, 0, 0, 1, []), 24), (24, (1, 0, 0, 3, []), 27), (27, (21, 173, 3, 1, []), 30), (30, (16, 0, 44, 0, []), 33), (33, (3, 4, 0, 0, []), 35), (35, (8, 0, 0, 0, []), 36), (36, (1, 0, 0, 0, []), 37), (37, (1, 0, 0, 1, []), 38), (38, (21, 173, 3, 1, []), 41), (41, (16, 1, 48, 0, []), 44), (44, (0, 0, 0, -100000, []), 47), (47, (22, 0, 0, 0, []), 48), (48, (3, 0, 2, 0, []), 49), (49, (3, 1, 0, 0, []), 50), (50, (3, 2, 0, 0, []), 51), (51, (3, 3, 0, 0, []), 52), (52, (21, 243, 4, 0, []), 55), (55, (3, 4, 0, 0, []), 57), (57, (16, 1, 69, 0, []), 60), (60, (3, 0, 2, 0, []), 61), (61, (24, 0, 1, 1601, []), 64), (64, (0, 0, 0, 0, []), 65), (65, (24, 2, 2, 0, []), 66), (66, (18, 0, 73, 0, []), 69), (69, (3, 0, 2, 0, []), 70), (70, (24, 0, 1, 1602, []), 73), (73, (22, 0, 0, 0, []), 74)]
/-- WashingLinesModel.playsGame(III)V -/
def am_c243 : List (Nat × am_I × Nat) := [(0, (3, 0, 2, 0, []), 1), (1, (21, 233, 1, 0, []), 4), (4, (0, 0, 0, 0, []), 5), (5, (4, 4, 0, 0, []), 7), (7, (3, 0, 2, 0, []), 8), (8, (24, 0, 1, 1600, []), 11), (11, (0, 0, 0, 0, []), 12), (12, (0, 0, 0, -2, []), 14), (14, (24, 3, 3, 0, []), 15), (15, (3, 0, 2, 0, []), 16), (16, (24, 0, 1, 1601, []), 19), (19, (0, 0, 0, 0, []), 20), (20, (0, 0, 0, 1000000, []), 23), (23, (24, 3, 3, 0, []), 24), (24, (3, 4, 0, 0, []), 26), (26, (16, 2, 179, 0, []), 29), (29, (3, 0, 2, 0, []), 30), (30, (24, 0, 1, 1600, []), 33), (33, (3, 4, 0, 0, []), 35), (35, (13, 0, 0, 0, []), 36), (36, (24, 2, 2, 0, []), 37), (37, (0, 0, 0, 1, []), 38), (38, (6, 0, 0, 0, []), 39), (39, (24, 3, 3, 0, []), 40), (40, (3, 0, 2, 0, []), 41), (41, (24, 0, 1, 1600, []), 44), (44, (3, 4, 0, 0, []), 46), (46, (24, 2, 2, 0, []), 47), (47, (0, 0, 0, 10, []), 49), (49, (3, 0, 2, 0, []), 50), (50, (24, 0, 1, 1537, []), 53), (53, (0, 0, 0, 3, []), 54), (54, (24, 2, 2, 0, []), 55), (55, (6, 2, 0, 0, []), 56), (56, (15, 2, 85, 0, []), 59), (59, (5, 4, 0, -1, []), 62), (62, (3, 4, 0, 0, []), 64), (64, (16, 2, 24, 0, []), 67), (67, (3, 0, 2, 0, []), 68), (68, (3, 4, 0, 0, []), 70), (70, (3, 0, 2, 0, []), 71), (71, (24, 0, 1, 1601, []), 74), (74, (3, 4, 0, 0, []), 76), (76, (0, 0, 0, 1, []), 77), (77, (6, 0, 0, 0, []), 78), (78, (24, 2, 2, 0, []), 79), (79, (21, 244, 3, 0, []), 82), (82, (18, 0, 24, 0, []), 85), (85, (3, 0, 2, 0, []), 86), (86, (3, 1, 0, 0, []), 87), (87, (3, 2, 0, 0, []), 88), (88, (3, 4, 0, 0, []), 90), (90, (21, 245, 4, 0, []), 93), (93, (3, 0, 2, 0, []), 94), (94, (3, 4, 0, 0, []), 96), (96, (0, 0, 0, 2, []), 97), (97, (6, 10, 0, 0, []), 98), (98, (16, 1, 105, 0, []), 101), (101, (3, 1, 0, 0, []), 102), (102, (18, 0, 106, 0, []), 105), (105, (3, 2, 0, 0, []), 106), (106, (3, 0, 2, 0, []), 107), (107, (24, 0, 1, 1600, []), 110), (110, (3, 4, 0, 0, []), 112), (112, (24, 2, 2, 0, []), 113), (113, (21, 246, 3, 0, []), 116), (116, (16, 0, 24, 0, []), 119), (119, (3, 0, 2, 0, []), 120), (120, (21, 222, 1, 0, []), 123), (123, (14, 0, 0, 0, []), 124), (124, (3, 4, 0, 0, []), 126), (126, (3, 3, 0, 0, []), 127), (127, (0, 0, 0, 1, []), 128), (128, (6, 1, 0, 0, []), 129), (129, (15, 1, 154, 0, []), 132), (132, (3, 0, 2, 0, []), 133), (133, (3, 4, 0, 0, []), 135), (135, (3, 0, 2, 0, []), 136), (136, (24, 0, 1, 1539, []), 139), (139, (3, 1, 0, 0, []), 140), (140, (24, 2, 2, 0, []), 141), (141, (3, 0, 2, 0, []), 142), (142, (24, 0, 1, 1539, []), 145), (145, (3, 2, 0, 0, []), 146), (146, (24, 2, 2, 0, []), 147), (147, (6, 1, 0, 0, []), 148), (148, (21, 244, 3, 0, []), 151), (151, (18, 0, 24, 0, []), 154), (154, (5, 4, 0, 1, []), 157), (157, (3, 0, 2, 0, []), 158), (158, (24, 0, 1, 1600, []), 161), (161, (3, 4, 0, 0, []), 163), (163, (0, 0, 0, -2, []), 165), (165, (24, 3, 3, 0, []), 166), (166, (3, 0, 2, 0, []), 167), (167, (24, 0, 1, 1601, []), 170), (170, (3, 4, 0, 0, []), 172), (172, (0, 0, 0, 1000000, []), 175), (175, (24, 3, 3, 0, []), 176), (176, (18, 0, 24, 0, []), 179), (179, (3, 0, 2, 0, []), 180), (180, (21, 237, 1, 0, []), 183), (183, (23, 0, 0, 0, []), 184)]
/-- WashingLinesModel.takesValue(II)V -/
def am_c244 : List (Nat × am_I × Nat) := [(0, (3, 0, 2, 0, []), 1), (1, (24, 0, 1, 1601, []), 4), (4, (3, 1, 0, 0, []), 5), (5, (24, 2, 2, 0, []), 6), (6, (0, 0, 0, 1000000, []), 9), (9, (15, 0, 41, 0, []), 12), (12, (3, 1, 0, 0, []), 13), (13, (0, 0, 0, 2, []), 14), (14, (6, 10, 0, 0, []), 15), (15, (16, 1, 31, 0, []), 18), (18, (3, 2, 0, 0, []), 19), (19, (3, 0, 2, 0, []), 20), (20, (24, 0, 1, 1601, []), 23), (23, (3, 1, 0, 0, []), 24), (24, (24, 2, 2, 0, []), 25), (25, (15, 5, 45, 0, []), 28), (28, (18, 0, 41, 0, []), 31), (31, (3, 2, 0, 0, []), 32), (32, (3, 0, 2, 0, []), 33), (33, (24, 0, 1, 1601, []), 36), (36, (3, 1, 0, 0, []), 37), (37, (24, 2, 2, 0, []), 38), (38, (15, 3, 45, 0, []), 41), (41, (0, 0, 0, 1, []), 42), (42, (18, 0, 46, 0, []), 45), (45, (0, 0, 0, 0, []), 46), (46, (4, 3, 0, 0, []), 47), (47, (3, 3, 0, 0, []), 48), (48, (16, 0, 79, 0, []), 51), (51, (3, 0, 2, 0, []), 52), (52, (24, 0, 1, 1601, []), 55), (55, (3, 1, 0, 0, []), 56), (56, (3, 2, 0, 0, []), 57), (57, (24, 3, 3, 0, []), 58), (58, (3, 0, 2, 0, []), 59), (59, (3, 1, 0, 0, []), 60), (60, (16, 1, 72, 0, []), 63), (63, (3, 0, 2, 0, []), 64), (64, (24, 0, 1, 1600, []), 67), (67, (0, 0, 0, 0, []), 68), (68, (24, 2, 2, 0, []), 69), (69, (18, 0, 76, 0, []), 72), (72, (3, 0, 2, 0, []), 73), (73, (24, 0, 1, 1602, []), 76), (76, (24, 1, 2, 1602, []), 79), (79, (23, 0, 0, 0, []), 80)]
/-- WashingLinesModel.goesThrough(III)V -/
def am_c245 : List (Nat × am_I × Nat) := [(0, (3, 0, 2, 0, []), 1), (1, (21, 237, 1, 0, []), 4), (4, (0, 0, 0, 0, []), 5), (5, (4, 4, 0, 0, []), 7), (7, (3, 4, 0, 0, []), 9), (9, (3, 3, 0, 0, []), 10), (10, (15, 3, 48, 0, []), 13), (13, (3, 0, 2, 0, []), 14), (14, (3, 4, 0, 0, []), 16), (16, (0, 0, 0, 2, []), 17), (17, (6, 10, 0, 0, []), 18), (18, (16, 1, 25, 0, []), 21), (21, (3, 1, 0, 0, []), 22), (22, (18, 0, 26, 0, []), 25), (25, (3, 2, 0, 0, []), 26), (26, (3, 0, 2, 0, []), 27), (27, (24, 0, 1, 1600, []), 30), (30, (3, 4, 0, 0, []), 32), (32, (24, 2, 2, 0, []), 33), (33, (21, 246, 3, 0, []), 36), (36, (14, 0, 0, 0, []), 37), (37, (3, 0, 2, 0, []), 38), (38, (21, 222, 1, 0, []), 41), (41, (14, 0, 0, 0, []), 42), (42, (5, 4, 0, 1, []), 45), (45, (18, 0, 7, 0, []), 48), (48, (23, 0, 0, 0, []), 49)]
/-- WashingLinesModel.acts(II)Z -/
def am_c246 : List (Nat × am_I × Nat) := [(0, (3, 2, 0, 0, []), 1), (1, (0, 0, 0, 10, []), 3), (3, (6, 10, 0, 0, []), 4), (4, (4, 3, 0, 0, []), 5), (5, (3, 2, 0, 0, []), 6), (6, (0, 0, 0, 10, []), 8), (8, (6, 9, 0, 0, []), 9), (9, (4, 4, 0, 0, []), 11), (11, (3, 2, 0, 0, []), 12), (12, (0, 0, 0, -1, []), 13), (13, (15, 1, 18, 0, []), 16), (16, (0, 0, 0, 1, []), 17), (17, (22, 1, 0, 0, []), 18), (18, (3, 0, 2, 0, []), 19), (19, (3, 3, 0, 0, []), 20), (20, (21, 214, 2, 0, []), 23), (23, (16, 0, 46, 0, []), 26), (26, (3, 0, 2, 0, []), 27), (27, (24, 0, 1, 1545, []), 30), (30, (3, 3, 0, 0, []), 31), (31, (24, 2, 2, 0, []), 32), (32, (3, 1, 0, 0, []), 33), (33, (15, 1, 46, 0, []), 36), (36, (3, 0, 2, 0, []), 37), (37, (3, 3, 0, 0, []), 38), (38, (3, 4, 0, 0, []), 40), (40, (21, 224, 3, 0, []), 43), (43, (16, 1, 48, 0, []), 46), (46, (0, 0, 0, 0, []), 47), (47, (22, 1, 0, 0, []), 48), (48, (3, 0, 2, 0, []), 49), (49, (3, 3, 0, 0, []), 50), (50, (3, 4, 0, 0, []), 52), (52, (21, 225, 3, 0, []), 55), (55, (0, 0, 0, 1, []), 56), (56, (22, 1, 0, 0, []), 57)]
/-- WashingLinesModel.free(II)I -/
def am_c247 : List (Nat × am_I × Nat) := [(0, (3, 0, 2, 0, []), 1), (1, (3, 1, 0, 0, []), 2), (2, (21, 210, 2, 0, []), 5), (5, (16, 0, 18, 0, []), 8), (8, (3, 2, 0, 0, []), 9), (9, (8, 0, 0, 0, []), 10), (10, (1, 0, 0, 0, []), 11), (11, (1, 0, 0, 1, []), 12), (12, (21, 173, 3, 1, []), 15), (15, (16, 1, 20, 0, []), 18), (18, (0, 0, 0, -1, []), 19), (19, (22, 0, 0, 0, []), 20), (20, (3, 0, 2, 0, []), 21), (21, (3, 1, 0, 0, []), 22), (22, (21, 212, 2, 0, []), 25), (25, (4, 3, 0, 0, []), 26), (26, (0, 0, 0, -2, []), 28), (28, (4, 4, 0, 0, []), 30), (30, (3, 0, 2, 0, []), 31), (31, (21, 233, 1, 0, []), 34), (34, (0, 0, 0, 0, []), 35), (35, (4, 5, 0, 0, []), 37), (37, (3, 5, 0, 0, []), 39), (39, (3, 3, 0, 0, []), 40), (40, (15, 4, 136, 0, []), 43), (43, (3, 5, 0, 0, []), 45), (45, (3, 3, 0, 0, []), 46), (46, (0, 0, 0, -1, []), 47), (47, (6, 5, 0, 0, []), 48), (48, (6, 3, 0, 0, []), 49), (49, (16, 1, 130, 0, []), 52), (52, (3, 4, 0, 0, []), 54), (54, (0, 0, 0, -2, []), 56), (56, (15, 0, 72, 0, []), 59), (59, (3, 5, 0, 0, []), 61), (61, (21, 248, 1, 1, []), 64), (64, (3, 4, 0, 0, []), 66), (66, (21, 248, 1, 1, []), 69), (69, (15, 3, 130, 0, []), 72), (72, (0, 0, 0, 0, []), 73), (73, (4, 6, 0, 0, []), 75), (75, (3, 6, 0, 0, []), 77), (77, (3, 0, 2, 0, []), 78), (78, (24, 0, 1, 1537, []), 81), (81, (0, 0, 0, 4, []), 82), (82, (24, 2, 2, 0, []), 83), (83, (15, 3, 108, 0, []), 86), (86, (3, 5, 0, 0, []), 88), (88, (3, 6, 0, 0, []), 90), (90, (21, 202, 2, 1, []), 93), (93, (16, 0, 102, 0, []), 96), (96, (3, 0, 2, 0, []), 97), (97, (3, 6, 0, 0, []), 99), (99, (21, 227, 2, 0, []), 102), (102, (5, 6, 0, 1, []), 105), (105, (18, 0, 75, 0, []), 108), (108, (3, 0, 2, 0, []), 109), (109, (3, 1, 0, 0, []), 110), (110, (21, 200, 2, 0, []), 113), (113, (0, 0, 0, -1, []), 114), (114, (15, 1, 122, 0, []), 117), (117, (3, 5, 0, 0, []), 119), (119, (18, 0, 124, 0, []), 122), (122, (3, 4, 0, 0, []), 124), (124, (4, 4, 0, 0, []), 126), (126, (3, 0, 2, 0, []), 127), (127, (21, 237, 1, 0, []), 130), (130, (5, 5, 0, 1, []), 133), (133, (18, 0, 37, 0, []), 136), (136, (3, 4, 0, 0, []), 138), (138, (0, 0, 0, -2, []), 140), (140, (15, 0, 148, 0, []), 143), (143, (3, 2, 0, 0, []), 144), (144, (0, 0, 0, 1, []), 145), (145, (15, 1, 153, 0, []), 148), (148, (3, 4, 0, 0, []), 150), (150, (18, 0, 158, 0, []), 153), (153, (3, 4, 0, 0, []), 155), (155, (21, 248, 1, 1, []), 158), (158, (22, 0, 0, 0, []), 159)]
/-- WashingLinesModel.bits(I)I -/
def am_c248 : List (Nat × am_I × Nat) := [(0, (0, 0, 0, 0, []), 1), (1, (4, 1, 0, 0, []), 2), (2, (0, 0, 0, 0, []), 3), (3, (4, 2, 0, 0, []), 4), (4, (3, 2, 0, 0, []), 5), (5, (0, 0, 0, 16, []), 7), (7, (15, 3, 24, 0, []), 10), (10, (3, 1, 0, 0, []), 11), (11, (3, 0, 0, 0, []), 12), (12, (3, 2, 0, 0, []), 13), (13, (6, 7, 0, 0, []), 14), (14, (0, 0, 0, 1, []), 15), (15, (6, 3, 0, 0, []), 16), (16, (6, 0, 0, 0, []), 17), (17, (4, 1, 0, 0, []), 18), (18, (5, 2, 0, 1, []), 21), (21, (18, 0, 4, 0, []), 24), (24, (3, 1, 0, 0, []), 25), (25, (22, 0, 0, 0, []), 26)]
/-- WashingLinesModel.few(III)I -/
def am_c249 : List (Nat × am_I × Nat) := [(0, (3, 0, 2, 0, []), 1), (1, (3, 1, 0, 0, []), 2), (2, (21, 198, 2, 0, []), 5), (5, (16, 0, 26, 0, []), 8), (8, (3, 0, 2, 0, []), 9), (9, (3, 2, 0, 0, []), 10), (10, (21, 210, 2, 0, []), 13), (13, (16, 0, 26, 0, []), 16), (16, (3, 3, 0, 0, []), 17), (17, (8, 0, 0, 0, []), 18), (18, (1, 0, 0, 0, []), 19), (19, (1, 0, 0, 1, []), 20), (20, (21, 173, 3, 1, []), 23), (23, (16, 1, 28, 0, []), 26), (26, (0, 0, 0, -1, []), 27), (27, (22, 0, 0, 0, []), 28), (28, (0, 0, 0, 0, []), 29), (29, (4, 4, 0, 0, []), 31), (31, (0, 0, 0, 0, []), 32), (32, (4, 5, 0, 0, []), 34), (34, (3, 5, 0, 0, []), 36), (36, (3, 0, 2, 0, []), 37), (37, (24, 0, 1, 1537, []), 40), (40, (0, 0, 0, 4, []), 41), (41, (24, 2, 2, 0, []), 42), (42, (15, 3, 86, 0, []), 45), (45, (3, 4, 0, 0, []), 47), (47, (3, 0, 2, 0, []), 48), (48, (24, 0, 1, 1545, []), 51), (51, (3, 5, 0, 0, []), 53), (53, (24, 2, 2, 0, []), 54), (54, (3, 1, 0, 0, []), 55), (55, (15, 1, 76, 0, []), 58), (58, (3, 0, 2, 0, []), 59), (59, (24, 0, 1, 1548, []), 62), (62, (3, 5, 0, 0, []), 64), (64, (24, 2, 2, 0, []), 65), (65, (0, 0, 0, -1, []), 66), (66, (15, 1, 76, 0, []), 69), (69, (0, 0, 0, 1, []), 70), (70, (3, 5, 0, 0, []), 72), (72, (6, 6, 0, 0, []), 73), (73, (18, 0, 77, 0, []), 76), (76, (0, 0, 0, 0, []), 77), (77, (6, 4, 0, 0, []), 78), (78, (4, 4, 0, 0, []), 80), (80, (5, 5, 0, 1, []), 83), (83, (18, 0, 34, 0, []), 86), (86, (0, 0, 0, -2, []), 88), (88, (4, 5, 0, 0, []), 90), (90, (3, 0, 2, 0, []), 91), (91, (21, 233, 1, 0, []), 94), (94, (0, 0, 0, 0, []), 95), (95, (4, 6, 0, 0, []), 97), (97, (3, 6, 0, 0, []), 99), (99, (3, 4, 0, 0, []), 101), (101, (15, 4, 172, 0, []), 104), (104, (3, 6, 0, 0, []), 106), (106, (3, 4, 0, 0, []), 108), (108, (0, 0, 0, -1, []), 109), (109, (6, 5, 0, 0, []), 110), (110, (6, 3, 0, 0, []), 111), (111, (16, 1, 166, 0, []), 114), (114, (3, 5, 0, 0, []), 116), (116, (0, 0, 0, -2, []), 118), (118, (15, 0, 134, 0, []), 121), (121, (3, 6, 0, 0, []), 123), (123, (21, 248, 1, 1, []), 126), (126, (3, 5, 0, 0, []), 128), (128, (21, 248, 1, 1, []), 131), (131, (15, 3, 166, 0, []), 134), (134, (3, 0, 2, 0, []), 135), (135, (3, 6, 0, 0, []), 137), (137, (3, 2, 0, 0, []), 138), (138, (21, 250, 3, 0, []), 141), (141, (16, 0, 158, 0, []), 144), (144, (3, 0, 2, 0, []), 145), (145, (3, 2, 0, 0, []), 146), (146, (21, 200, 2, 0, []), 149), (149, (3, 1, 0, 0, []), 150), (150, (15, 1, 158, 0, []), 153), (153, (3, 6, 0, 0, []), 155), (155, (18, 0, 160, 0, []), 158), (158, (3, 5, 0, 0, []), 160), (160, (4, 5, 0, 0, []), 162), (162, (3, 0, 2, 0, []), 163), (163, (21, 237, 1, 0, []), 166), (166, (5, 6, 0, 1, []), 169), (169, (18, 0, 97, 0, []), 172), (172, (3, 5, 0, 0, []), 174), (174, (0, 0, 0, -2, []), 176), (176, (15, 0, 184, 0, []), 179), (179, (3, 3, 0, 0, []), 180), (180, (0, 0, 0, 1, []), 181), (181, (15, 1, 189, 0, []), 184), (184, (3, 5, 0, 0, []), 186), (186, (18, 0, 194, 0, []), 189), (189, (3, 5, 0, 0, []), 191), (191, (21, 248, 1, 1, []), 194), (194, (22, 0, 0, 0, []), 195)]
/-- WashingLinesModel.hangsSet(II)Z -/
def am_c250 : List (Nat × am_I × Nat) := [(0, (0, 0, 0, 0, []), 1), (1, (4, 3, 0, 0, []), 2), (2, (3, 3, 0, 0, []), 3), (3, (3, 0, 2, 0, []), 4), (4, (24, 0, 1, 1537, []), 7), (7, (0, 0, 0, 4, []), 8), (8, (24, 2, 2, 0, []), 9), (9, (15, 3, 51, 0, []), 12), (12, (3, 1, 0, 0, []), 13), (13, (3, 3, 0, 0, []), 14), (14, (21, 202, 2, 1, []), 17), (17, (16, 0, 31, 0, []), 20), (20, (3, 0, 2, 0, []), 21), (21, (3, 3, 0, 0, []), 22), (22, (3, 2, 0, 0, []), 23), (23, (21, 224, 3, 0, []), 26), (26, (16, 1, 31, 0, []), 29), (29, (0, 0, 0, 0, []), 30), (30, (22, 1, 0, 0, []), 31), (31, (3, 1, 0, 0, []), 32), (32, (3, 3, 0, 0, []), 33), (33, (21, 202, 2, 1, []), 36), (36, (16, 0, 45, 0, []), 39), (39, (3, 0, 2, 0, []), 40), (40, (3, 3, 0, 0, []), 41), (41, (3, 2, 0, 0, []), 42), (42, (21, 225, 3, 0, []), 45), (45, (5, 3, 0, 1, []), 48), (48, (18, 0, 2, 0, []), 51), (51, (0, 0, 0, 1, []), 52), (52, (22, 1, 0, 0, []), 53)]
/-- WashingLinesModel.way(III)I -/
def am_c251 : List (Nat × am_I × Nat) := [(0, (3, 0, 2, 0, []), 1), (1, (21, 220, 1, 0, []), 4), (4, (16, 0, 41, 0, []), 7), (7, (3, 1, 0, 0, []), 8), (8, (8, 0, 0, 0, []), 9), (9, (1, 0, 0, 0, []), 10), (10, (1, 0, 0, 7, []), 13), (13, (21, 173, 3, 1, []), 16), (16, (16, 0, 41, 0, []), 19), (19, (3, 2, 0, 0, []), 20), (20, (8, 0, 0, 0, []), 21), (21, (1, 0, 0, 0, []), 22), (22, (1, 0, 0, 7, []), 25), (25, (21, 173, 3, 1, []), 28), (28, (16, 0, 41, 0, []), 31), (31, (3, 3, 0, 0, []), 32), (32, (8, 0, 0, 0, []), 33), (33, (1, 0, 0, 0, []), 34), (34, (1, 0, 0, 1, []), 35), (35, (21, 173, 3, 1, []), 38), (38, (16, 1, 44, 0, []), 41), (41, (0, 0, 0, -3, []), 43), (43, (22, 0, 0, 0, []), 44), (44, (3, 0, 2, 0, []), 45), (45, (3, 2, 0, 0, []), 46), (46, (21, 252, 2, 0, []), 49), (49, (3, 0, 2, 0, []), 50), (50, (24, 0, 1, 1603, []), 53), (53, (3, 1, 0, 0, []), 54), (54, (24, 2, 2, 0, []), 55), (55, (0, 0, 0, 100000, []), 58), (58, (15, 2, 64, 0, []), 61), (61, (0, 0, 0, -2, []), 63), (63, (22, 0, 0, 0, []), 64), (64, (3, 3, 0, 0, []), 65), (65, (16, 1, 78, 0, []), 68), (68, (3, 0, 2, 0, []), 69), (69, (24, 0, 1, 1603, []), 72), (72, (3, 1, 0, 0, []), 73), (73, (24, 2, 2, 0, []), 74), (74, (0, 0, 0, 100, []), 76), (76, (6, 9, 0, 0, []), 77), (77, (22, 0, 0, 0, []), 78), (78, (0, 0, 0, 0, []), 79), (79, (4, 4, 0, 0, []), 81), (81, (3, 4, 0, 0, []), 83), (83, (3, 0, 2, 0, []), 84), (84, (24, 0, 1, 1537, []), 87), (87, (0, 0, 0, 3, []), 88), (88, (24, 2, 2, 0, []), 89), (89, (15, 3, 163, 0, []), 92), (92, (3, 1, 0, 0, []), 93), (93, (3, 2, 0, 0, []), 94), (94, (15, 0, 163, 0, []), 97), (97, (3, 0, 2, 0, []), 98), (98, (3, 4, 0, 0, []), 100), (100, (21, 201, 2, 0, []), 103), (103, (16, 0, 110, 0, []), 106), (106, (0, 0, 0, -1, []), 107), (107, (18, 0, 117, 0, []), 110), (110, (3, 0, 2, 0, []), 111), (111, (3, 4, 0, 0, []), 113), (113, (3, 1, 0, 0, []), 114), (114, (21, 253, 3, 0, []), 117), (117, (4, 5, 0, 0, []), 119), (119, (3, 5, 0, 0, []), 121), (121, (0, 0, 0, -1, []), 122), (122, (15, 0, 157, 0, []), 125), (125, (3, 0, 2, 0, []), 126), (126, (24, 0, 1, 1603, []), 129), (129, (3, 5, 0, 0, []), 131), (131, (24, 2, 2, 0, []), 132), (132, (0, 0, 0, 100, []), 134), (134, (3, 0, 2, 0, []), 135), (135, (24, 0, 1, 1542, []), 138), (138, (3, 4, 0, 0, []), 140), (140, (24, 2, 2, 0, []), 141), (141, (6, 2, 0, 0, []), 142), (142, (6, 0, 0, 0, []), 143), (143, (0, 0, 0, 1, []), 144), (144, (6, 0, 0, 0, []), 145), (145, (3, 0, 2, 0, []), 146), (146, (24, 0, 1, 1603, []), 149), (149, (3, 1, 0, 0, []), 150), (150, (24, 2, 2, 0, []), 151), (151, (15, 1, 157, 0, []), 154), (154, (3, 4, 0, 0, []), 156), (156, (22, 0, 0, 0, []), 157), (157, (5, 4, 0, 1, []), 160), (160, (18, 0, 81, 0, []), 163), (163, (0, 0, 0, -1, []), 164), (164, (22, 0, 0, 0, []), 165)]
/-- WashingLinesModel.laysFar(I)V -/
def am_c252 : List (Nat × am_I × Nat) := [(0, (0, 0, 0, 0, []), 1), (1, (4, 2, 0, 0, []), 2), (2, (3, 2, 0, 0, []), 3), (3, (0, 0, 0, 8, []), 5), (5, (15, 3, 32, 0, []), 8), (8, (3, 0, 2, 0, []), 9), (9, (24, 0, 1, 1603, []), 12), (12, (3, 2, 0, 0, []), 13), (13, (3, 2, 0, 0, []), 14), (14, (3, 1, 0, 0, []), 15), (15, (15, 1, 22, 0, []), 18), (18, (0, 0, 0, 0, []), 19), (19, (18, 0, 25, 0, []), 22), (22, (0, 0, 0, 100000, []), 25), (25, (24, 3, 3, 0, []), 26), (26, (5, 2, 0, 1, []), 29), (29, (18, 0, 2, 0, []), 32), (32, (0, 0, 0, 0, []), 33), (33, (4, 2, 0, 0, []), 34), (34, (3, 2, 0, 0, []), 35), (35, (0, 0, 0, 8, []), 37), (37, (15, 3, 219, 0, []), 40), (40, (0, 0, 0, 0, []), 41), (41, (4, 3, 0, 0, []), 42), (42, (3, 3, 0, 0, []), 43), (43, (3, 0, 2, 0, []), 44), (44, (24, 0, 1, 1537, []), 47), (47, (0, 0, 0, 3, []), 48), (48, (24, 2, 2, 0, []), 49), (49, (15, 3, 213, 0, []), 52), (52, (3, 0, 2, 0, []), 53), (53, (3, 3, 0, 0, []), 54), (54, (21, 201, 2, 0, []), 57), (57, (16, 1, 207, 0, []), 60), (60, (0, 0, 0, 100, []), 62), (62, (3, 0, 2, 0, []), 63), (63, (24, 0, 1, 1542, []), 66), (66, (3, 3, 0, 0, []), 67), (67, (24, 2, 2, 0, []), 68), (68, (6, 2, 0, 0, []), 69), (69, (0, 0, 0, 1, []), 70), (70, (6, 0, 0, 0, []), 71), (71, (4, 4, 0, 0, []), 73), (73, (3, 0, 2, 0, []), 74), (74, (24, 0, 1, 1603, []), 77), (77, (3, 0, 2, 0, []), 78), (78, (24, 0, 1, 1540, []), 81), (81, (3, 3, 0, 0, []), 82), (82, (24, 2, 2, 0, []), 83), (83, (3, 0, 2, 0, []), 84), (84, (24, 0, 1, 1603, []), 87), (87, (3, 0, 2, 0, []), 88), (88, (24, 0, 1, 1541, []), 91), (91, (3, 3, 0, 0, []), 92), (92, (24, 2, 2, 0, []), 93), (93, (24, 2, 2, 0, []), 94), (94, (3, 4, 0, 0, []), 96), (96, (6, 0, 0, 0, []), 97), (97, (3, 0, 2, 0, []), 98), (98, (24, 0, 1, 1603, []), 101), (101, (3, 0, 2, 0, []), 102), (102, (24, 0, 1, 1540, []), 105), (105, (3, 3, 0, 0, []), 106), (106, (24, 2, 2, 0, []), 107), (107, (24, 2, 2, 0, []), 108), (108, (15, 3, 128, 0, []), 111), (111, (3, 0, 2, 0, []), 112), (112, (24, 0, 1, 1603, []), 115), (115, (3, 0, 2, 0, []), 116), (116, (24, 0, 1, 1541, []), 119), (119, (3, 3, 0, 0, []), 120), (120, (24, 2, 2, 0, []), 121), (121, (24, 2, 2, 0, []), 122), (122, (3, 4, 0, 0, []), 124), (124, (6, 0, 0, 0, []), 125), (125, (18, 0, 139, 0, []), 128), (128, (3, 0, 2, 0, []), 129), (129, (24, 0, 1, 1603, []), 132), (132, (3, 0, 2, 0, []), 133), (133, (24, 0, 1, 1540, []), 136), (136, (3, 3, 0, 0, []), 137), (137, (24, 2, 2, 0, []), 138), (138, (24, 2, 2, 0, []), 139), (139, (24, 3, 3, 0, []), 140), (140, (3, 0, 2, 0, []), 141), (141, (24, 0, 1, 1603, []), 144), (144, (3, 0, 2, 0, []), 145), (145, (24, 0, 1, 1541, []), 148), (148, (3, 3, 0, 0, []), 149), (149, (24, 2, 2, 0, []), 150), (150, (3, 0, 2, 0, []), 151), (151, (24, 0, 1, 1603, []), 154), (154, (3, 0, 2, 0, []), 155), (155, (24, 0, 1, 1540, []), 158), (158, (3, 3, 0, 0, []), 159), (159, (24, 2, 2, 0, []), 160), (160, (24, 2, 2, 0, []), 161), (161, (3, 4, 0, 0, []), 163), (163, (6, 0, 0, 0, []), 164), (164, (3, 0, 2, 0, []), 165), (165, (24, 0, 1, 1603, []), 168), (168, (3, 0, 2, 0, []), 169), (169, (24, 0, 1, 1541, []), 172), (172, (3, 3, 0, 0, []), 173), (173, (24, 2, 2, 0, []), 174), (174, (24, 2, 2, 0, []), 175), (175, (15, 3, 195, 0, []), 178), (178, (3, 0, 2, 0, []), 179), (179, (24, 0, 1, 1603, []), 182), (182, (3, 0, 2, 0, []), 183), (183, (24, 0, 1, 1540, []), 186), (186, (3, 3, 0, 0, []), 187), (187, (24, 2, 2, 0, []), 188), (188, (24, 2, 2, 0, []), 189), (189, (3, 4, 0, 0, []), 191), (191, (6, 0, 0, 0, []), 192), (192, (18, 0, 206, 0, []), 195), (195, (3, 0, 2, 0, []), 196), (196, (24, 0, 1, 1603, []), 199), (199, (3, 0, 2, 0, []), 200), (200, (24, 0, 1, 1541, []), 203), (203, (3, 3, 0, 0, []), 204), (204, (24, 2, 2, 0, []), 205), (205, (24, 2, 2, 0, []), 206), (206, (24, 3, 3, 0, []), 207), (207, (5, 3, 0, 1, []), 210), (210, (18, 0, 42, 0, []), 213), (213, (5, 2, 0, 1, []), 216), (216, (18, 0, 34, 0, []), 219), (219, (23, 0, 0, 0, []), 220)]
/-- WashingLinesModel.over(II)I -/
def am_c253 : List (Nat × am_I × Nat) := [(0, (3, 0, 2, 0, []), 1), (1, (24, 0, 1, 1540, []), 4), (4, (3, 1, 0, 0, []), 5), (5, (24, 2, 2, 0, []), 6), (6, (3, 2, 0, 0, []), 7), (7, (15, 1, 19, 0, []), 10), (10, (3, 0, 2, 0, []), 11), (11, (24, 0, 1, 1541, []), 14), (14, (3, 1, 0, 0, []), 15), (15, (24, 2, 2, 0, []), 16), (16, (18, 0, 39, 0, []), 19), (19, (3, 0, 2, 0, []), 20), (20, (24, 0, 1, 1541, []), 23), (23, (3, 1, 0, 0, []), 24), (24, (24, 2, 2, 0, []), 25), (25, (3, 2, 0, 0, []), 26), (26, (15, 1, 38, 0, []), 29), (29, (3, 0, 2, 0, []), 30), (30, (24, 0, 1, 1540, []), 33), (33, (3, 1, 0, 0, []), 34), (34, (24, 2, 2, 0, []), 35), (35, (18, 0, 39, 0, []), 38), (38, (0, 0, 0, -1, []), 39), (39, (22, 0, 0, 0, []), 40)]
/-- WashingLinesModel.bears(I)I -/
def am_c254 : List (Nat × am_I × Nat) := [(0, (3, 0, 2, 0, []), 1), (1, (3, 1, 0, 0, []), 2), (2, (21, 210, 2, 0, []), 5), (5, (16, 1, 11, 0, []), 8), (8, (0, 0, 0, -2, []), 10), (10, (22, 0, 0, 0, []), 11), (11, (0, 0, 0, -1, []), 12), (12, (4, 2, 0, 0, []), 13), (13, (0, 0, 0, 0, []), 14), (14, (4, 3, 0, 0, []), 15), (15, (3, 3, 0, 0, []), 16), (16, (0, 0, 0, 99, []), 18), (18, (15, 4, 48, 0, []), 21), (21, (3, 0, 2, 0, []), 22), (22, (3, 1, 0, 0, []), 23), (23, (3, 3, 0, 0, []), 24), (24, (21, 255, 3, 0, []), 27), (27, (3, 0, 2, 0, []), 28), (28, (24, 0, 1, 1543, []), 31), (31, (3, 1, 0, 0, []), 32), (32, (24, 2, 2, 0, []), 33), (33, (15, 4, 40, 0, []), 36), (36, (3, 3, 0, 0, []), 37), (37, (18, 0, 41, 0, []), 40), (40, (3, 2, 0, 0, []), 41), (41, (4, 2, 0, 0, []), 42), (42, (5, 3, 0, 1, []), 45), (45, (18, 0, 15, 0, []), 48), (48, (3, 2, 0, 0, []), 49), (49, (22, 0, 0, 0, []), 50)]
/-- WashingLinesModel.loadOf(II)I -/
def am_c255 : List (Nat × am_I × Nat) := [(0, (0, 0, 0, 0, []), 1), (1, (4, 3, 0, 0, []), 2), (2, (0, 0, 0, 0, []), 3), (3, (4, 4, 0, 0, []), 5), (5, (3, 4, 0, 0, []), 7), (7, (3, 0, 2, 0, []), 8), (8, (24, 0, 1, 1537, []), 11), (11, (0, 0, 0, 4, []), 12), (12, (24, 2, 2, 0, []), 13), (13, (15, 3, 57, 0, []), 16), (16, (3, 3, 0, 0, []), 17), (17, (3, 0, 2, 0, []), 18), (18, (24, 0, 1, 1548, []), 21), (21, (3, 4, 0, 0, []), 23), (23, (24, 2, 2, 0, []), 24), (24, (3, 1, 0, 0, []), 25), (25, (15, 1, 48, 0, []), 28), (28, (3, 0, 2, 0, []), 29), (29, (24, 0, 1, 1547, []), 32), (32, (3, 4, 0, 0, []), 34), (34, (24, 2, 2, 0, []), 35), (35, (3, 0, 2, 0, []), 36), (36, (24, 0, 1, 1546, []), 39), (39, (3, 4, 0, 0, []), 41), (41, (24, 2, 2, 0, []), 42), (42, (3, 2, 0, 0, []), 43), (43, (6, 2, 0, 0, []), 44), (44, (6, 0, 0, 0, []), 45), (45, (18, 0, 49, 0, []), 48), (48, (0, 0, 0, 0, []), 49), (49, (6, 0, 0, 0, []), 50), (50, (4, 3, 0, 0, []), 51), (51, (5, 4, 0, 1, []), 54), (54, (18, 0, 5, 0, []), 57), (57, (3, 3, 0, 0, []), 58), (58, (22, 0, 0, 0, []), 59)]
/-- WashingLinesModel.storm(I)I -/
def am_c256 : List (Nat × am_I × Nat) := [(0, (3, 0, 2, 0, []), 1), (1, (21, 220, 1, 0, []), 4), (4, (16, 0, 19, 0, []), 7), (7, (3, 1, 0, 0, []), 8), (8, (8, 0, 0, 0, []), 9), (9, (1, 0, 0, 0, []), 10), (10, (1, 0, 0, 99, []), 13), (13, (21, 173, 3, 1, []), 16), (16, (16, 1, 21, 0, []), 19), (19, (0, 0, 0, -1, []), 20), (20, (22, 0, 0, 0, []), 21), (21, (0, 0, 0, 0, []), 22), (22, (4, 2, 0, 0, []), 23), (23, (0, 0, 0, 0, []), 24), (24, (4, 3, 0, 0, []), 25), (25, (3, 3, 0, 0, []), 26), (26, (3, 0, 2, 0, []), 27), (27, (24, 0, 1, 1537, []), 30), (30, (0, 0, 0, 3, []), 31), (31, (24, 2, 2, 0, []), 32), (32, (15, 3, 74, 0, []), 35), (35, (3, 2, 0, 0, []), 36), (36, (3, 0, 2, 0, []), 37), (37, (3, 3, 0, 0, []), 38), (38, (21, 201, 2, 0, []), 41), (41, (16, 1, 65, 0, []), 44), (44, (3, 0, 2, 0, []), 45), (45, (3, 3, 0, 0, []), 46), (46, (3, 1, 0, 0, []), 47), (47, (21, 255, 3, 0, []), 50), (50, (3, 0, 2, 0, []), 51), (51, (24, 0, 1, 1543, []), 54), (54, (3, 3, 0, 0, []), 55), (55, (24, 2, 2, 0, []), 56), (56, (15, 5, 65, 0, []), 59), (59, (0, 0, 0, 1, []), 60), (60, (3, 3, 0, 0, []), 61), (61, (6, 6, 0, 0, []), 62), (62, (18, 0, 66, 0, []), 65), (65, (0, 0, 0, 0, []), 66), (66, (6, 4, 0, 0, []), 67), (67, (4, 2, 0, 0, []), 68), (68, (5, 3, 0, 1, []), 71), (71, (18, 0, 25, 0, []), 74), (74, (3, 2, 0, 0, []), 75), (75, (22, 0, 0, 0, []), 76)]
/-- WashingLinesModel.worth(II)I -/
def am_c257 : List (Nat × am_I × Nat) := [(0, (3, 0, 2, 0, []), 1), (1, (3, 1, 0, 0, []), 2), (2, (21, 214, 2, 0, []), 5), (5, (16, 0, 30, 0, []), 8), (8, (3, 0, 2, 0, []), 9), (9, (24, 0, 1, 1548, []), 12), (12, (3, 1, 0, 0, []), 13), (13, (24, 2, 2, 0, []), 14), (14, (0, 0, 0, -1, []), 15), (15, (15, 0, 30, 0, []), 18), (18, (3, 2, 0, 0, []), 19), (19, (8, 0, 0, 0, []), 20), (20, (1, 0, 0, 1, []), 21), (21, (1, 0, 0, 60, []), 24), (24, (21, 173, 3, 1, []), 27), (27, (16, 1, 34, 0, []), 30), (30, (0, 0, 0, -100000, []), 33), (33, (22, 0, 0, 0, []), 34), (34, (3, 0, 2, 0, []), 35), (35, (24, 0, 1, 1545, []), 38), (38, (3, 1, 0, 0, []), 39), (39, (24, 2, 2, 0, []), 40), (40, (4, 3, 0, 0, []), 41), (41, (3, 0, 2, 0, []), 42), (42, (21, 233, 1, 0, []), 45), (45, (3, 0, 2, 0, []), 46), (46, (3, 2, 0, 0, []), 47), (47, (21, 236, 2, 0, []), 50), (50, (3, 0, 2, 0, []), 51), (51, (24, 0, 1, 1539, []), 54), (54, (3, 3, 0, 0, []), 55), (55, (24, 2, 2, 0, []), 56), (56, (4, 4, 0, 0, []), 58), (58, (3, 0, 2, 0, []), 59), (59, (21, 237, 1, 0, []), 62), (62, (3, 0, 2, 0, []), 63), (63, (3, 1, 0, 0, []), 64), (64, (21, 227, 2, 0, []), 67), (67, (3, 0, 2, 0, []), 68), (68, (3, 2, 0, 0, []), 69), (69, (21, 236, 2, 0, []), 72), (72, (3, 4, 0, 0, []), 74), (74, (3, 0, 2, 0, []), 75), (75, (24, 0, 1, 1539, []), 78), (78, (3, 3, 0, 0, []), 79), (79, (24, 2, 2, 0, []), 80), (80, (6, 1, 0, 0, []), 81), (81, (4, 5, 0, 0, []), 83), (83, (3, 0, 2, 0, []), 84), (84, (21, 237, 1, 0, []), 87), (87, (3, 5, 0, 0, []), 89), (89, (22, 0, 0, 0, []), 90)]
/-- WashingLinesModel.log(III)I -/
def am_c258 : List (Nat × am_I × Nat) := [(0, (3, 1, 0, 0, []), 1), (1, (0, 0, 0, -1, []), 2), (2, (15, 1, 15, 0, []), 5), (5, (3, 0, 2, 0, []), 6), (6, (24, 0, 1, 1537, []), 9), (9, (0, 0, 0, 8, []), 11), (11, (0, 0, 0, 0, []), 12), (12, (24, 3, 3, 0, []), 13), (13, (0, 0, 0, 0, []), 14), (14, (22, 0, 0, 0, []), 15), (15, (3, 0, 2, 0, []), 16), (16, (24, 0, 1, 1537, []), 19), (19, (0, 0, 0, 8, []), 21), (21, (24, 2, 2, 0, []), 22), (22, (4, 4, 0, 0, []), 24), (24, (3, 1, 0, 0, []), 25), (25, (8, 0, 0, 0, []), 26), (26, (1, 0, 0, 0, []), 27), (27, (1, 0, 0, 60, []), 30), (30, (21, 173, 3, 1, []), 33), (33, (16, 0, 64, 0, []), 36), (36, (3, 0, 2, 0, []), 37), (37, (3, 2, 0, 0, []), 38), (38, (21, 210, 2, 0, []), 41), (41, (16, 0, 64, 0, []), 44), (44, (3, 3, 0, 0, []), 45), (45, (0, 0, 0, -1, []), 46), (46, (15, 0, 57, 0, []), 49), (49, (3, 0, 2, 0, []), 50), (50, (3, 3, 0, 0, []), 51), (51, (21, 198, 2, 0, []), 54), (54, (16, 0, 64, 0, []), 57), (57, (3, 4, 0, 0, []), 59), (59, (0, 0, 0, 10, []), 61), (61, (15, 1, 67, 0, []), 64), (64, (0, 0, 0, -2, []), 66), (66, (22, 0, 0, 0, []), 67), (67, (3, 0, 2, 0, []), 68), (68, (24, 0, 1, 1551, []), 71), (71, (3, 4, 0, 0, []), 73), (73, (3, 1, 0, 0, []), 74), (74, (24, 3, 3, 0, []), 75), (75, (3, 0, 2, 0, []), 76), (76, (24, 0, 1, 1552, []), 79), (79, (3, 4, 0, 0, []), 81), (81, (3, 2, 0, 0, []), 82), (82, (24, 3, 3, 0, []), 83), (83, (3, 0, 2, 0, []), 84), (84, (24, 0, 1, 1553, []), 87), (87, (3, 4, 0, 0, []), 89), (89, (3, 3, 0, 0, []), 90), (90, (24, 3, 3, 0, []), 91), (91, (3, 0, 2, 0, []), 92), (92, (24, 0, 1, 1537, []), 95), (95, (0, 0, 0, 8, []), 97), (97, (13, 0, 0, 0, []), 98), (98, (24, 2, 2, 0, []), 99), (99, (0, 0, 0, 1, []), 100), (100, (6, 0, 0, 0, []), 101), (101, (24, 3, 3, 0, []), 102), (102, (3, 4, 0, 0, []), 104), (104, (0, 0, 0, 1, []), 105), (105, (6, 0, 0, 0, []), 106), (106, (22, 0, 0, 0, []), 107)]
/-- WashingLinesModel.ruled(I)I -/
def am_c259 : List (Nat × am_I × Nat) := [(0, (3, 0, 2, 0, []), 1), (1, (21, 220, 1, 0, []), 4), (4, (16, 0, 17, 0, []), 7), (7, (3, 1, 0, 0, []), 8), (8, (8, 0, 0, 0, []), 9), (9, (1, 0, 0, 0, []), 10), (10, (1, 0, 0, 1, []), 11), (11, (21, 173, 3, 1, []), 14), (14, (16, 1, 20, 0, []), 17), (17, (0, 0, 0, -3, []), 19), (19, (22, 0, 0, 0, []), 20), (20, (3, 0, 2, 0, []), 21), (21, (21, 233, 1, 0, []), 24), (24, (0, 0, 0, 0, []), 25), (25, (4, 2, 0, 0, []), 26), (26, (0, 0, 0, -2, []), 28), (28, (4, 3, 0, 0, []), 29), (29, (0, 0, 0, -1, []), 30), (30, (4, 4, 0, 0, []), 32), (32, (3, 4, 0, 0, []), 34), (34, (3, 0, 2, 0, []), 35), (35, (24, 0, 1, 1573, []), 38), (38, (15, 3, 71, 0, []), 41), (41, (3, 0, 2, 0, []), 42), (42, (3, 4, 0, 0, []), 44), (44, (0, 0, 0, -1, []), 45), (45, (21, 260, 3, 0, []), 48), (48, (16, 0, 65, 0, []), 51), (51, (3, 2, 0, 0, []), 52), (52, (16, 1, 60, 0, []), 55), (55, (3, 4, 0, 0, []), 57), (57, (18, 0, 61, 0, []), 60), (60, (3, 3, 0, 0, []), 61), (61, (4, 3, 0, 0, []), 62), (62, (5, 2, 0, 1, []), 65), (65, (5, 4, 0, 1, []), 68), (68, (18, 0, 32, 0, []), 71), (71, (3, 1, 0, 0, []), 72), (72, (16, 1, 79, 0, []), 75), (75, (3, 2, 0, 0, []), 76), (76, (18, 0, 80, 0, []), 79), (79, (3, 3, 0, 0, []), 80), (80, (22, 0, 0, 0, []), 81)]
/-- WashingLinesModel.couldRule(II)Z -/
def am_c260 : List (Nat × am_I × Nat) := [(0, (3, 0, 2, 0, []), 1), (1, (24, 0, 1, 1537, []), 4), (4, (0, 0, 0, 10, []), 6), (6, (3, 1, 0, 0, []), 7), (7, (24, 3, 3, 0, []), 8), (8, (3, 0, 2, 0, []), 9), (9, (21, 180, 1, 0, []), 12), (12, (0, 0, 0, 1, []), 13), (13, (4, 3, 0, 0, []), 14), (14, (0, 0, 0, 0, []), 15), (15, (4, 4, 0, 0, []), 17), (17, (3, 4, 0, 0, []), 19), (19, (0, 0, 0, 60, []), 21), (21, (15, 4, 71, 0, []), 24), (24, (3, 0, 2, 0, []), 25), (25, (21, 222, 1, 0, []), 28), (28, (14, 0, 0, 0, []), 29), (29, (3, 3, 0, 0, []), 30), (30, (16, 0, 46, 0, []), 33), (33, (3, 0, 2, 0, []), 34), (34, (3, 4, 0, 0, []), 36), (36, (21, 261, 2, 0, []), 39), (39, (16, 0, 46, 0, []), 42), (42, (0, 0, 0, 1, []), 43), (43, (18, 0, 47, 0, []), 46), (46, (0, 0, 0, 0, []), 47), (47, (4, 3, 0, 0, []), 48), (48, (3, 4, 0, 0, []), 50), (50, (3, 2, 0, 0, []), 51), (51, (15, 1, 65, 0, []), 54), (54, (3, 0, 2, 0, []), 55), (55, (24, 0, 1, 1544, []), 58), (58, (3, 0, 2, 0, []), 59), (59, (24, 0, 1, 1604, []), 62), (62, (21, 179, 2, 1, []), 65), (65, (5, 4, 0, 1, []), 68), (68, (18, 0, 17, 0, []), 71), (71, (3, 0, 2, 0, []), 72), (72, (21, 237, 1, 0, []), 75), (75, (3, 3, 0, 0, []), 76), (76, (22, 1, 0, 0, []), 77)]
/-- WashingLinesModel.areLogsSo(I)Z -/
def am_c261 : List (Nat × am_I × Nat) := [(0, (0, 0, 0, 1, []), 1), (1, (4, 2, 0, 0, []), 2), (2, (0, 0, 0, 0, []), 3), (3, (4, 3, 0, 0, []), 4), (4, (3, 3, 0, 0, []), 5), (5, (3, 0, 2, 0, []), 6), (6, (24, 0, 1, 1537, []), 9), (9, (0, 0, 0, 8, []), 11), (11, (24, 2, 2, 0, []), 12), (12, (15, 3, 61, 0, []), 15), (15, (3, 2, 0, 0, []), 16), (16, (16, 0, 53, 0, []), 19), (19, (3, 0, 2, 0, []), 20), (20, (24, 0, 1, 1551, []), 23), (23, (3, 3, 0, 0, []), 24), (24, (24, 2, 2, 0, []), 25), (25, (3, 1, 0, 0, []), 26), (26, (15, 1, 49, 0, []), 29), (29, (3, 0, 2, 0, []), 30), (30, (24, 0, 1, 1544, []), 33), (33, (3, 0, 2, 0, []), 34), (34, (24, 0, 1, 1552, []), 37), (37, (3, 3, 0, 0, []), 38), (38, (24, 2, 2, 0, []), 39), (39, (24, 2, 2, 0, []), 40), (40, (3, 0, 2, 0, []), 41), (41, (24, 0, 1, 1553, []), 44), (44, (3, 3, 0, 0, []), 45), (45, (24, 2, 2, 0, []), 46), (46, (15, 1, 53, 0, []), 49), (49, (0, 0, 0, 1, []), 50), (50, (18, 0, 54, 0, []), 53), (53, (0, 0, 0, 0, []), 54), (54, (4, 2, 0, 0, []), 55), (55, (5, 3, 0, 1, []), 58), (58, (18, 0, 4, 0, []), 61), (61, (3, 2, 0, 0, []), 62), (62, (22, 1, 0, 0, []), 63)]
/-- WashingLinesModel.look(II)I -/
def am_c262 : List (Nat × am_I × Nat) := [(0, (3, 0, 2, 0, []), 1), (1, (21, 220, 1, 0, []), 4), (4, (16, 0, 29, 0, []), 7), (7, (3, 1, 0, 0, []), 8), (8, (8, 0, 0, 0, []), 9), (9, (1, 0, 0, 0, []), 10), (10, (1, 0, 0, 60, []), 13), (13, (21, 173, 3, 1, []), 16), (16, (16, 0, 29, 0, []), 19), (19, (3, 2, 0, 0, []), 20), (20, (8, 0, 0, 0, []), 21), (21, (1, 0, 0, 0, []), 22), (22, (1, 0, 0, 1, []), 23), (23, (21, 173, 3, 1, []), 26), (26, (16, 1, 31, 0, []), 29), (29, (0, 0, 0, -1, []), 30), (30, (22, 0, 0, 0, []), 31), (31, (0, 0, 0, 0, []), 32), (32, (4, 3, 0, 0, []), 33), (33, (3, 3, 0, 0, []), 34), (34, (3, 0, 2, 0, []), 35), (35, (24, 0, 1, 1605, []), 38), (38, (24, 4, 1, 0, []), 39), (39, (15, 3, 55, 0, []), 42), (42, (3, 0, 2, 0, []), 43), (43, (24, 0, 1, 1605, []), 46), (46, (3, 3, 0, 0, []), 47), (47, (0, 0, 0, 0, []), 48), (48, (24, 3, 3, 0, []), 49), (49, (5, 3, 0, 1, []), 52), (52, (18, 0, 33, 0, []), 55), (55, (3, 0, 2, 0, []), 56), (56, (21, 233, 1, 0, []), 59), (59, (0, 0, 0, 0, []), 60), (60, (4, 3, 0, 0, []), 61), (61, (0, 0, 0, -1, []), 62), (62, (4, 4, 0, 0, []), 64), (64, (3, 4, 0, 0, []), 66), (66, (3, 0, 2, 0, []), 67), (67, (24, 0, 1, 1573, []), 70), (70, (15, 3, 135, 0, []), 73), (73, (3, 0, 2, 0, []), 74), (74, (3, 4, 0, 0, []), 76), (76, (3, 1, 0, 0, []), 77), (77, (21, 260, 3, 0, []), 80), (80, (16, 0, 129, 0, []), 83), (83, (5, 3, 0, 1, []), 86), (86, (0, 0, 0, 0, []), 87), (87, (4, 5, 0, 0, []), 89), (89, (3, 5, 0, 0, []), 91), (91, (3, 0, 2, 0, []), 92), (92, (24, 0, 1, 1537, []), 95), (95, (0, 0, 0, 3, []), 96), (96, (24, 2, 2, 0, []), 97), (97, (15, 3, 129, 0, []), 100), (100, (3, 0, 2, 0, []), 101), (101, (24, 0, 1, 1605, []), 104), (104, (0, 0, 0, 5, []), 105), (105, (3, 5, 0, 0, []), 107), (107, (6, 2, 0, 0, []), 108), (108, (3, 0, 2, 0, []), 109), (109, (24, 0, 1, 1604, []), 112), (112, (3, 5, 0, 0, []), 114), (114, (24, 2, 2, 0, []), 115), (115, (6, 0, 0, 0, []), 116), (116, (0, 0, 0, 1, []), 117), (117, (6, 0, 0, 0, []), 118), (118, (13, 0, 0, 0, []), 119), (119, (24, 2, 2, 0, []), 120), (120, (0, 0, 0, 1, []), 121), (121, (6, 0, 0, 0, []), 122), (122, (24, 3, 3, 0, []), 123), (123, (5, 5, 0, 1, []), 126), (126, (18, 0, 89, 0, []), 129), (129, (5, 4, 0, 1, []), 132), (132, (18, 0, 64, 0, []), 135), (135, (0, 0, 0, -2, []), 137), (137, (4, 4, 0, 0, []), 139), (139, (0, 0, 0, -2, []), 141), (141, (4, 5, 0, 0, []), 143), (143, (0, 0, 0, 0, []), 144), (144, (4, 6, 0, 0, []), 146), (146, (3, 6, 0, 0, []), 148), (148, (3, 0, 2, 0, []), 149), (149, (24, 0, 1, 1537, []), 152), (152, (0, 0, 0, 3, []), 153), (153, (24, 2, 2, 0, []), 154), (154, (15, 3, 241, 0, []), 157), (157, (3, 3, 0, 0, []), 158), (158, (16, 5, 241, 0, []), 161), (161, (0, 0, 0, 0, []), 162), (162, (4, 7, 0, 0, []), 164), (164, (0, 0, 0, 5, []), 165), (165, (3, 6, 0, 0, []), 167), (167, (6, 2, 0, 0, []), 168), (168, (4, 8, 0, 0, []), 170), (170, (3, 8, 0, 0, []), 172), (172, (0, 0, 0, 5, []), 173), (173, (3, 6, 0, 0, []), 175), (175, (0, 0, 0, 1, []), 176), (176, (6, 0, 0, 0, []), 177), (177, (6, 2, 0, 0, []), 178), (178, (15, 3, 213, 0, []), 181), (181, (3, 0, 2, 0, []), 182), (182, (24, 0, 1, 1605, []), 185), (185, (3, 8, 0, 0, []), 187), (187, (24, 2, 2, 0, []), 188), (188, (3, 7, 0, 0, []), 190), (190, (15, 5, 203, 0, []), 193), (193, (3, 0, 2, 0, []), 194), (194, (24, 0, 1, 1605, []), 197), (197, (3, 8, 0, 0, []), 199), (199, (24, 2, 2, 0, []), 200), (200, (18, 0, 205, 0, []), 203), (203, (3, 7, 0, 0, []), 205), (205, (4, 7, 0, 0, []), 207), (207, (5, 8, 0, 1, []), 210), (210, (18, 0, 170, 0, []), 213), (213, (3, 4, 0, 0, []), 215), (215, (0, 0, 0, -2, []), 217), (217, (15, 0, 227, 0, []), 220), (220, (3, 7, 0, 0, []), 222), (222, (3, 5, 0, 0, []), 224), (224, (15, 3, 235, 0, []), 227), (227, (3, 6, 0, 0, []), 229), (229, (4, 4, 0, 0, []), 231), (231, (3, 7, 0, 0, []), 233), (233, (4, 5, 0, 0, []), 235), (235, (5, 6, 0, 1, []), 238), (238, (18, 0, 146, 0, []), 241), (241, (3, 2, 0, 0, []), 242), (242, (16, 1, 250, 0, []), 245), (245, (3, 4, 0, 0, []), 247), (247, (18, 0, 252, 0, []), 250), (250, (3, 5, 0, 0, []), 252), (252, (22, 0, 0, 0, []), 253)]
/-- WashingLinesModel.laws(III)I -/
def am_c263 : List (Nat × am_I × Nat) := [(0, (3, 0, 2, 0, []), 1), (1, (3, 1, 0, 0, []), 2), (2, (21, 198, 2, 0, []), 5), (5, (16, 0, 30, 0, []), 8), (8, (3, 2, 0, 0, []), 9), (9, (8, 0, 0, 0, []), 10), (10, (1, 0, 0, 1, []), 11), (11, (1, 0, 0, 60, []), 14), (14, (21, 173, 3, 1, []), 17), (17, (16, 0, 30, 0, []), 20), (20, (3, 3, 0, 0, []), 21), (21, (8, 0, 0, 0, []), 22), (22, (1, 0, 0, 0, []), 23), (23, (1, 0, 0, 1, []), 24), (24, (21, 173, 3, 1, []), 27), (27, (16, 1, 33, 0, []), 30), (30, (0, 0, 0, -2, []), 32), (32, (22, 0, 0, 0, []), 33), (33, (0, 0, 0, -1, []), 34), (34, (4, 4, 0, 0, []), 36), (36, (0, 0, 0, -1, []), 37), (37, (4, 5, 0, 0, []), 39), (39, (3, 0, 2, 0, []), 40), (40, (24, 0, 1, 1539, []), 43), (43, (3, 1, 0, 0, []), 44), (44, (24, 2, 2, 0, []), 45), (45, (4, 6, 0, 0, []), 47), (47, (3, 0, 2, 0, []), 48), (48, (21, 233, 1, 0, []), 51), (51, (0, 0, 0, -1, []), 52), (52, (4, 7, 0, 0, []), 54), (54, (3, 7, 0, 0, []), 56), (56, (3, 0, 2, 0, []), 57), (57, (24, 0, 1, 1573, []), 60), (60, (15, 3, 110, 0, []), 63), (63, (3, 0, 2, 0, []), 64), (64, (24, 0, 1, 1537, []), 67), (67, (0, 0, 0, 10, []), 69), (69, (3, 7, 0, 0, []), 71), (71, (24, 3, 3, 0, []), 72), (72, (3, 0, 2, 0, []), 73), (73, (3, 2, 0, 0, []), 74), (74, (21, 236, 2, 0, []), 77), (77, (3, 0, 2, 0, []), 78), (78, (24, 0, 1, 1539, []), 81), (81, (3, 1, 0, 0, []), 82), (82, (24, 2, 2, 0, []), 83), (83, (3, 5, 0, 0, []), 85), (85, (15, 5, 100, 0, []), 88), (88, (3, 7, 0, 0, []), 90), (90, (4, 4, 0, 0, []), 92), (92, (3, 0, 2, 0, []), 93), (93, (24, 0, 1, 1539, []), 96), (96, (3, 1, 0, 0, []), 97), (97, (24, 2, 2, 0, []), 98), (98, (4, 5, 0, 0, []), 100), (100, (3, 0, 2, 0, []), 101), (101, (21, 237, 1, 0, []), 104), (104, (5, 7, 0, 1, []), 107), (107, (18, 0, 54, 0, []), 110), (110, (3, 3, 0, 0, []), 111), (111, (16, 1, 119, 0, []), 114), (114, (3, 4, 0, 0, []), 116), (116, (18, 0, 124, 0, []), 119), (119, (3, 5, 0, 0, []), 121), (121, (3, 6, 0, 0, []), 123), (123, (6, 1, 0, 0, []), 124), (124, (22, 0, 0, 0, []), 125)]
/-- WashingLinesModel.seed(I)I -/
def am_c264 : List (Nat × am_I × Nat) := [(0, (3, 1, 0, 0, []), 1), (1, (16, 3, 6, 0, []), 4), (4, (0, 0, 0, -1, []), 5), (5, (22, 0, 0, 0, []), 6), (6, (3, 0, 2, 0, []), 7), (7, (24, 0, 1, 1537, []), 10), (10, (0, 0, 0, 9, []), 12), (12, (24, 2, 2, 0, []), 13), (13, (4, 2, 0, 0, []), 14), (14, (3, 0, 2, 0, []), 15), (15, (24, 0, 1, 1537, []), 18), (18, (0, 0, 0, 9, []), 20), (20, (3, 1, 0, 0, []), 21), (21, (24, 3, 3, 0, []), 22), (22, (3, 2, 0, 0, []), 23), (23, (22, 0, 0, 0, []), 24)]
/-- WashingLinesModel.years(IIII)I -/
def am_c265 : List (Nat × am_I × Nat) := [(0, (3, 0, 2, 0, []), 1), (1, (21, 220, 1, 0, []), 4), (4, (16, 0, 54, 0, []), 7), (7, (3, 1, 0, 0, []), 8), (8, (8, 0, 0, 0, []), 9), (9, (1, 0, 0, 1, []), 10), (10, (1, 0, 0, 10, []), 13), (13, (21, 173, 3, 1, []), 16), (16, (16, 0, 54, 0, []), 19), (19, (3, 2, 0, 0, []), 20), (20, (8, 0, 0, 0, []), 21), (21, (1, 0, 0, 1, []), 22), (22, (1, 0, 0, 60, []), 25), (25, (21, 173, 3, 1, []), 28), (28, (16, 0, 54, 0, []), 31), (31, (3, 3, 0, 0, []), 32), (32, (8, 0, 0, 0, []), 33), (33, (1, 0, 0, 0, []), 34), (34, (1, 0, 0, 100, []), 37), (37, (21, 173, 3, 1, []), 40), (40, (16, 0, 54, 0, []), 43), (43, (3, 4, 0, 0, []), 45), (45, (8, 0, 0, 0, []), 46), (46, (1, 0, 0, 0, []), 47), (47, (1, 0, 0, 1, []), 48), (48, (21, 173, 3, 1, []), 51), (51, (16, 1, 56, 0, []), 54), (54, (0, 0, 0, -1, []), 55), (55, (22, 0, 0, 0, []), 56), (56, (3, 0, 2, 0, []), 57), (57, (24, 0, 1, 1537, []), 60), (60, (0, 0, 0, 9, []), 62), (62, (24, 2, 2, 0, []), 63), (63, (4, 5, 0, 0, []), 65), (65, (3, 5, 0, 0, []), 67), (67, (4, 6, 0, 0, []), 69), (69, (0, 0, 0, 0, []), 70), (70, (4, 7, 0, 0, []), 72), (72, (0, 0, 0, 0, []), 73), (73, (4, 8, 0, 0, []), 75), (75, (3, 0, 2, 0, []), 76), (76, (21, 233, 1, 0, []), 79), (79, (0, 0, 0, 0, []), 80), (80, (4, 9, 0, 0, []), 82), (82, (3, 9, 0, 0, []), 84), (84, (3, 1, 0, 0, []), 85), (85, (15, 3, 173, 0, []), 88), (88, (3, 0, 2, 0, []), 89), (89, (24, 0, 1, 1537, []), 92), (92, (0, 0, 0, 9, []), 94), (94, (3, 6, 0, 0, []), 96), (96, (24, 3, 3, 0, []), 97), (97, (0, 0, 0, 0, []), 98), (98, (4, 10, 0, 0, []), 100), (100, (3, 10, 0, 0, []), 102), (102, (3, 2, 0, 0, []), 103), (103, (15, 3, 140, 0, []), 106), (106, (3, 0, 2, 0, []), 107), (107, (3, 0, 2, 0, []), 108), (108, (0, 0, 0, 100, []), 110), (110, (21, 266, 2, 0, []), 113), (113, (3, 3, 0, 0, []), 114), (114, (15, 3, 121, 0, []), 117), (117, (0, 0, 0, 1, []), 118), (118, (18, 0, 122, 0, []), 121), (121, (0, 0, 0, 0, []), 122), (122, (24, 1, 2, 1589, []), 125), (125, (3, 7, 0, 0, []), 127), (127, (3, 0, 2, 0, []), 128), (128, (21, 222, 1, 0, []), 131), (131, (6, 0, 0, 0, []), 132), (132, (4, 7, 0, 0, []), 134), (134, (5, 10, 0, 1, []), 137), (137, (18, 0, 100, 0, []), 140), (140, (3, 0, 2, 0, []), 141), (141, (0, 0, 0, 0, []), 142), (142, (24, 1, 2, 1589, []), 145), (145, (3, 8, 0, 0, []), 147), (147, (3, 0, 2, 0, []), 148), (148, (21, 267, 1, 0, []), 151), (151, (6, 0, 0, 0, []), 152), (152, (4, 8, 0, 0, []), 154), (154, (3, 0, 2, 0, []), 155), (155, (24, 0, 1, 1537, []), 158), (158, (0, 0, 0, 9, []), 160), (160, (24, 2, 2, 0, []), 161), (161, (4, 6, 0, 0, []), 163), (163, (3, 0, 2, 0, []), 164), (164, (21, 237, 1, 0, []), 167), (167, (5, 9, 0, 1, []), 170), (170, (18, 0, 82, 0, []), 173), (173, (3, 0, 2, 0, []), 174), (174, (24, 0, 1, 1537, []), 177), (177, (0, 0, 0, 9, []), 179), (179, (3, 5, 0, 0, []), 181), (181, (24, 3, 3, 0, []), 182), (182, (3, 4, 0, 0, []), 184), (184, (16, 1, 192, 0, []), 187), (187, (3, 7, 0, 0, []), 189), (189, (18, 0, 194, 0, []), 192), (192, (3, 8, 0, 0, []), 194), (194, (22, 0, 0, 0, []), 195)]
/-- WashingLinesModel.draws(I)I -/
def am_c266 : List (Nat × am_I × Nat) := [(0, (3, 0, 2, 0, []), 1), (1, (24, 0, 1, 1537, []), 4), (4, (0, 0, 0, 9, []), 6), (6, (3, 0, 2, 0, []), 7), (7, (24, 0, 1, 1537, []), 10), (10, (0, 0, 0, 9, []), 12), (12, (24, 2, 2, 0, []), 13), (13, (8, 0, 0, 0, []), 14), (14, (1, 0, 0, 1103515245, []), 17), (17, (10, 2, 0, 0, []), 18), (18, (1, 0, 0, 12345, []), 21), (21, (10, 0, 0, 0, []), 22), (22, (1, 0, 0, 2147483648, []), 25), (25, (10, 6, 0, 0, []), 26), (26, (9, 0, 0, 0, []), 27), (27, (24, 3, 3, 0, []), 28), (28, (3, 0, 2, 0, []), 29), (29, (24, 0, 1, 1537, []), 32), (32, (0, 0, 0, 9, []), 34), (34, (24, 2, 2, 0, []), 35), (35, (0, 0, 0, 65536, []), 38), (38, (6, 9, 0, 0, []), 39), (39, (3, 1, 0, 0, []), 40), (40, (6, 10, 0, 0, []), 41), (41, (22, 0, 0, 0, []), 42)]
/-- WashingLinesModel.dryOnes()I -/
def am_c267 : List (Nat × am_I × Nat) := [(0, (0, 0, 0, 0, []), 1), (1, (4, 1, 0, 0, []), 2), (2, (0, 0, 0, 0, []), 3), (3, (4, 2, 0, 0, []), 4), (4, (3, 2, 0, 0, []), 5), (5, (3, 0, 2, 0, []), 6), (6, (24, 0, 1, 1537, []), 9), (9, (0, 0, 0, 4, []), 10), (10, (24, 2, 2, 0, []), 11), (11, (15, 3, 47, 0, []), 14), (14, (3, 1, 0, 0, []), 15), (15, (3, 0, 2, 0, []), 16), (16, (24, 0, 1, 1548, []), 19), (19, (3, 2, 0, 0, []), 20), (20, (24, 2, 2, 0, []), 21), (21, (0, 0, 0, -1, []), 22), (22, (15, 0, 38, 0, []), 25), (25, (3, 0, 2, 0, []), 26), (26, (24, 0, 1, 1547, []), 29), (29, (3, 2, 0, 0, []), 30), (30, (24, 2, 2, 0, []), 31), (31, (16, 1, 38, 0, []), 34), (34, (0, 0, 0, 1, []), 35), (35, (18, 0, 39, 0, []), 38), (38, (0, 0, 0, 0, []), 39), (39, (6, 0, 0, 0, []), 40), (40, (4, 1, 0, 0, []), 41), (41, (5, 2, 0, 1, []), 44), (44, (18, 0, 4, 0, []), 47), (47, (3, 1, 0, 0, []), 48), (48, (22, 0, 0, 0, []), 49)]
/-- WashingLinesModel.count(I)I -/
def am_c268 : List (Nat × am_I × Nat) := [(0, (3, 1, 0, 0, []), 1), (1, (19, 0, 191, 0, [(0, 76), (1, 83), (2, 90), (3, 97), (4, 104), (5, 111), (6, 116), (7, 124), (8, 132), (9, 137), (10, 145), (11, 165), (12, 173), (13, 178), (14, 186)]), 76), (76, (3, 0, 2, 0, []), 77), (77, (24, 0, 1, 1537, []), 80), (80, (0, 0, 0, 0, []), 81), (81, (24, 2, 2, 0, []), 82), (82, (22, 0, 0, 0, []), 83), (83, (3, 0, 2, 0, []), 84), (84, (24, 0, 1, 1537, []), 87), (87, (0, 0, 0, 1, []), 88), (88, (24, 2, 2, 0, []), 89), (89, (22, 0, 0, 0, []), 90), (90, (3, 0, 2, 0, []), 91), (91, (24, 0, 1, 1537, []), 94), (94, (0, 0, 0, 2, []), 95), (95, (24, 2, 2, 0, []), 96), (96, (22, 0, 0, 0, []), 97), (97, (3, 0, 2, 0, []), 98), (98, (24, 0, 1, 1537, []), 101), (101, (0, 0, 0, 3, []), 102), (102, (24, 2, 2, 0, []), 103), (103, (22, 0, 0, 0, []), 104), (104, (3, 0, 2, 0, []), 105), (105, (24, 0, 1, 1537, []), 108), (108, (0, 0, 0, 4, []), 109), (109, (24, 2, 2, 0, []), 110), (110, (22, 0, 0, 0, []), 111), (111, (3, 0, 2, 0, []), 112), (112, (24, 0, 1, 1573, []), 115), (115, (22, 0, 0, 0, []), 116), (116, (3, 0, 2, 0, []), 117), (117, (24, 0, 1, 1537, []), 120), (120, (0, 0, 0, 10, []), 122), (122, (24, 2, 2, 0, []), 123), (123, (22, 0, 0, 0, []), 124), (124, (3, 0, 2, 0, []), 125), (125, (24, 0, 1, 1537, []), 128), (128, (0, 0, 0, 7, []), 130), (130, (24, 2, 2, 0, []), 131), (131, (22, 0, 0, 0, []), 132), (132, (3, 0, 2, 0, []), 133), (133, (21, 269, 1, 0, []), 136), (136, (22, 0, 0, 0, []), 137), (137, (3, 0, 2, 0, []), 138), (138, (24, 0, 1, 1537, []), 141), (141, (0, 0, 0, 6, []), 143), (143, (24, 2, 2, 0, []), 144), (144, (22, 0, 0, 0, []), 145), (145, (3, 0, 2, 0, []), 146), (146, (3, 0, 2, 0, []), 147), (147, (24, 0, 1, 1537, []), 150), (150, (0, 0, 0, 7, []), 152), (152, (24, 2, 2, 0, []), 153), (153, (21, 204, 2, 0, []), 156), (156, (16, 0, 163, 0, []), 159), (159, (0, 0, 0, 1, []), 160), (160, (18, 0, 164, 0, []), 163), (163, (0, 0, 0, 0, []), 164), (164, (22, 0, 0, 0, []), 165), (165, (3, 0, 2, 0, []), 166), (166, (24, 0, 1, 1537, []), 169), (169, (0, 0, 0, 8, []), 171), (171, (24, 2, 2, 0, []), 172), (172, (22, 0, 0, 0, []), 173), (173, (3, 0, 2, 0, []), 174), (174, (24, 0, 1, 1593, []), 177), (177, (22, 0, 0, 0, []), 178), (178, (3, 0, 2, 0, []), 179), (179, (24, 0, 1, 1537, []), 182), (182, (0, 0, 0, 9, []), 184), (184, (24, 2, 2, 0, []), 185), (185, (22, 0, 0, 0, []), 186), (186, (3, 0, 2, 0, []), 187), (187, (24, 0, 1, 1569, []), 190), (190, (22, 0, 0, 0, []), 191), (191, (0, 0, 0, -1, []), 192), (192, (22, 0, 0, 0, []), 193)]
/-- WashingLinesModel.allHung()I -/
def am_c269 : List (Nat × am_I × Nat) := [(0, (0, 0, 0, 0, []), 1), (1, (4, 1, 0, 0, []), 2), (2, (0, 0, 0, 0, []), 3), (3, (4, 2, 0, 0, []), 4), (4, (3, 2, 0, 0, []), 5), (5, (3, 0, 2, 0, []), 6), (6, (24, 0, 1, 1537, []), 9), (9, (0, 0, 0, 4, []), 10), (10, (24, 2, 2, 0, []), 11), (11, (15, 3, 40, 0, []), 14), (14, (3, 1, 0, 0, []), 15), (15, (3, 0, 2, 0, []), 16), (16, (24, 0, 1, 1548, []), 19), (19, (3, 2, 0, 0, []), 20), (20, (24, 2, 2, 0, []), 21), (21, (0, 0, 0, -1, []), 22), (22, (15, 0, 31, 0, []), 25), (25, (0, 0, 0, 1, []), 26), (26, (3, 2, 0, 0, []), 27), (27, (6, 6, 0, 0, []), 28), (28, (18, 0, 32, 0, []), 31), (31, (0, 0, 0, 0, []), 32), (32, (6, 4, 0, 0, []), 33), (33, (4, 1, 0, 0, []), 34), (34, (5, 2, 0, 1, []), 37), (37, (18, 0, 4, 0, []), 40), (40, (3, 1, 0, 0, []), 41), (41, (22, 0, 0, 0, []), 42)]
/-- WashingLinesModel.image(I)I -/
def am_c270 : List (Nat × am_I × Nat) := [(0, (3, 1, 0, 0, []), 1), (1, (8, 0, 0, 0, []), 2), (2, (1, 0, 0, 0, []), 3), (3, (1, 0, 0, 3, []), 6), (6, (21, 173, 3, 1, []), 9), (9, (16, 1, 14, 0, []), 12), (12, (0, 0, 0, -1, []), 13), (13, (22, 0, 0, 0, []), 14), (14, (3, 0, 2, 0, []), 15), (15, (24, 0, 1, 1607, []), 18), (18, (3, 1, 0, 0, []), 19), (19, (0, 0, 0, 1, []), 20), (20, (24, 3, 3, 1, []), 21), (21, (3, 0, 2, 0, []), 22), (22, (3, 1, 0, 0, []), 23), (23, (0, 0, 0, 0, []), 24), (24, (21, 234, 3, 0, []), 27), (27, (3, 0, 2, 0, []), 28), (28, (24, 0, 1, 1537, []), 31), (31, (0, 0, 0, 7, []), 33), (33, (24, 2, 2, 0, []), 34), (34, (22, 0, 0, 0, []), 35)]
/-- WashingLinesModel.back(I)I -/
def am_c271 : List (Nat × am_I × Nat) := [(0, (3, 1, 0, 0, []), 1), (1, (8, 0, 0, 0, []), 2), (2, (1, 0, 0, 0, []), 3), (3, (1, 0, 0, 3, []), 6), (6, (21, 173, 3, 1, []), 9), (9, (16, 0, 21, 0, []), 12), (12, (3, 0, 2, 0, []), 13), (13, (24, 0, 1, 1607, []), 16), (16, (3, 1, 0, 0, []), 17), (17, (24, 2, 2, 1, []), 18), (18, (16, 1, 23, 0, []), 21), (21, (0, 0, 0, -1, []), 22), (22, (22, 0, 0, 0, []), 23), (23, (3, 0, 2, 0, []), 24), (24, (3, 1, 0, 0, []), 25), (25, (0, 0, 0, 1, []), 26), (26, (21, 234, 3, 0, []), 29), (29, (3, 0, 2, 0, []), 30), (30, (24, 0, 1, 1537, []), 33), (33, (0, 0, 0, 7, []), 35), (35, (24, 2, 2, 0, []), 36), (36, (22, 0, 0, 0, []), 37)]
/-- java/lang/Math.floorMod(II)I -/
def am_c272 : List (Nat × am_I × Nat) := [(0, (3, 0, 0, 0, []), 1), (1, (3, 1, 0, 0, []), 2), (2, (6, 10, 0, 0, []), 3), (3, (4, 2, 0, 0, []), 4), (4, (3, 0, 0, 0, []), 5), (5, (3, 1, 0, 0, []), 6), (6, (6, 5, 0, 0, []), 7), (7, (16, 3, 18, 0, []), 10), (10, (3, 2, 0, 0, []), 11), (11, (16, 0, 18, 0, []), 14), (14, (3, 2, 0, 0, []), 15), (15, (3, 1, 0, 0, []), 16), (16, (6, 0, 0, 0, []), 17), (17, (22, 0, 0, 0, []), 18), (18, (3, 2, 0, 0, []), 19), (19, (22, 0, 0, 0, []), 20)]
/-- java/lang/Integer.bitCount(I)I -/
def am_c273 : List (Nat × am_I × Nat) := [(0, (3, 0, 0, 0, []), 1), (1, (3, 0, 0, 0, []), 2), (2, (0, 0, 0, 1, []), 3), (3, (6, 8, 0, 0, []), 4), (4, (0, 0, 0, 1431655765, []), 7), (7, (6, 3, 0, 0, []), 8), (8, (6, 1, 0, 0, []), 9), (9, (4, 0, 0, 0, []), 10), (10, (3, 0, 0, 0, []), 11), (11, (0, 0, 0, 858993459, []), 14), (14, (6, 3, 0, 0, []), 15), (15, (3, 0, 0, 0, []), 16), (16, (0, 0, 0, 2, []), 17), (17, (6, 8, 0, 0, []), 18), (18, (0, 0, 0, 858993459, []), 21), (21, (6, 3, 0, 0, []), 22), (22, (6, 0, 0, 0, []), 23), (23, (4, 0, 0, 0, []), 24), (24, (3, 0, 0, 0, []), 25), (25, (3, 0, 0, 0, []), 26), (26, (0, 0, 0, 4, []), 27), (27, (6, 8, 0, 0, []), 28), (28, (6, 0, 0, 0, []), 29), (29, (0, 0, 0, 252645135, []), 32), (32, (6, 3, 0, 0, []), 33), (33, (4, 0, 0, 0, []), 34), (34, (3, 0, 0, 0, []), 35), (35, (3, 0, 0, 0, []), 36), (36, (0, 0, 0, 8, []), 38), (38, (6, 8, 0, 0, []), 39), (39, (6, 0, 0, 0, []), 40), (40, (4, 0, 0, 0, []), 41), (41, (3, 0, 0, 0, []), 42), (42, (3, 0, 0, 0, []), 43), (43, (0, 0, 0, 16, []), 45), (45, (6, 8, 0, 0, []), 46), (46, (6, 0, 0, 0, []), 47), (47, (4, 0, 0, 0, []), 48), (48, (3, 0, 0, 0, []), 49), (49, (0, 0, 0, 63, []), 51), (51, (6, 3, 0, 0, []), 52), (52, (22, 0, 0, 0, []), 53)]
/-- java/lang/String.length()I -/
def am_c274 : List (Nat × am_I × Nat) := [(0, (3, 0, 2, 0, []), 1), (1, (24, 19, 1, 0, []), 4), (4, (24, 4, 1, 0, []), 5), (5, (3, 0, 2, 0, []), 6), (6, (21, 275, 1, 0, []), 9), (9, (6, 7, 0, 0, []), 10), (10, (22, 0, 0, 0, []), 11)]
/-- java/lang/String.coder()B -/
def am_c275 : List (Nat × am_I × Nat) := [(0, (24, 18, 0, 0, []), 3), (3, (16, 0, 13, 0, []), 6), (6, (3, 0, 2, 0, []), 7), (7, (24, 19, 1, 1, []), 10), (10, (18, 0, 14, 0, []), 13), (13, (0, 0, 0, 1, []), 14), (14, (22, 4, 0, 0, []), 15)]
/-- java/lang/String.charAt(I)C -/
def am_c276 : List (Nat × am_I × Nat) := [(0, (3, 0, 2, 0, []), 1), (1, (21, 277, 1, 0, []), 4), (4, (16, 0, 16, 0, []), 7), (7, (3, 0, 2, 0, []), 8), (8, (24, 19, 1, 0, []), 11), (11, (3, 1, 0, 0, []), 12), (12, (21, 281, 2, 1, []), 15), (15, (22, 4, 0, 0, []), 16), (16, (3, 0, 2, 0, []), 17), (17, (24, 19, 1, 0, []), 20), (20, (3, 1, 0, 0, []), 21), (24, (22, 4, 0, 0, []), 25)]
/-- java/lang/String.isLatin1()Z -/
def am_c277 : List (Nat × am_I × Nat) := [(0, (24, 18, 0, 0, []), 3), (3, (16, 0, 17, 0, []), 6), (6, (3, 0, 2, 0, []), 7), (7, (24, 19, 1, 1, []), 10), (10, (16, 1, 17, 0, []), 13), (13, (0, 0, 0, 1, []), 14), (14, (18, 0, 18, 0, []), 17), (17, (0, 0, 0, 0, []), 18), (18, (22, 1, 0, 0, []), 19)]
/-- java/lang/String.indexOf(I)I -/
def am_c278 : List (Nat × am_I × Nat) := [(0, (3, 0, 2, 0, []), 1), (1, (3, 1, 0, 0, []), 2), (2, (0, 0, 0, 0, []), 3), (3, (21, 279, 3, 0, []), 6), (6, (22, 0, 0, 0, []), 7)]
/-- java/lang/String.indexOf(II)I -/
def am_c279 : List (Nat × am_I × Nat) := [(0, (3, 0, 2, 0, []), 1), (1, (21, 277, 1, 0, []), 4), (4, (16, 0, 23, 0, []), 7), (7, (3, 0, 2, 0, []), 8), (8, (24, 19, 1, 0, []), 11), (11, (3, 1, 0, 0, []), 12), (12, (3, 2, 0, 0, []), 13), (13, (3, 0, 2, 0, []), 14), (14, (21, 274, 1, 0, []), 17), (17, (21, 282, 4, 1, []), 20), (20, (18, 0, 36, 0, []), 23), (23, (3, 0, 2, 0, []), 24), (24, (24, 19, 1, 0, []), 27), (27, (3, 1, 0, 0, []), 28), (28, (3, 2, 0, 0, []), 29), (29, (3, 0, 2, 0, []), 30), (30, (21, 274, 1, 0, []), 33), (36, (22, 0, 0, 0, []), 37)]
/-- java/lang/String.checkIndex(II)V -/
def am_c280 : List (Nat × am_I × Nat) := [(0, (3, 0, 0, 0, []), 1), (1, (3, 1, 0, 0, []), 2), (2, (24, 18, 0, 1, []), 5), (5, (21, 285, 3, 1, []), 8), (8, (14, 0, 0, 0, []), 9), (9, (23, 0, 0, 0, []), 10)]
/-- java/lang/StringLatin1.charAt([BI)C -/
def am_c281 : List (Nat × am_I × Nat) := [(0, (3, 1, 0, 0, []), 1), (1, (3, 0, 2, 0, []), 2), (2, (24, 4, 1, 0, []), 3), (3, (21, 280, 2, 1, []), 6), (6, (3, 0, 2, 0, []), 7), (7, (3, 1, 0, 0, []), 8), (8, (24, 2, 2, 1, []), 9), (9, (0, 0, 0, 255, []), 12), (12, (6, 3, 0, 0, []), 13), (13, (7, 2, 0, 0, []), 14), (14, (22, 4, 0, 0, []), 15)]
/-- java/lang/StringLatin1.indexOf([BIII)I -/
def am_c282 : List (Nat × am_I × Nat) := [(0, (3, 1, 0, 0, []), 1), (1, (21, 283, 1, 1, []), 4), (4, (16, 1, 9, 0, []), 7), (7, (0, 0, 0, -1, []), 8), (8, (22, 0, 0, 0, []), 9), (9, (3, 2, 0, 0, []), 10), (10, (0, 0, 0, 0, []), 11), (11, (24, 15, 2, 0, []), 14), (14, (4, 2, 0, 0, []), 15), (15, (3, 3, 0, 0, []), 16), (16, (3, 0, 2, 0, []), 17), (17, (24, 4, 1, 0, []), 18), (18, (24, 16, 2, 0, []), 21), (21, (4, 3, 0, 0, []), 22), (22, (3, 2, 0, 0, []), 23), (23, (3, 3, 0, 0, []), 24), (24, (15, 2, 29, 0, []), 27), (27, (0, 0, 0, -1, []), 28), (28, (22, 0, 0, 0, []), 29), (29, (3, 0, 2, 0, []), 30), (30, (3, 1, 0, 0, []), 31), (31, (3, 2, 0, 0, []), 32), (32, (3, 3, 0, 0, []), 33), (33, (21, 284, 4, 1, []), 36), (36, (22, 0, 0, 0, []), 37)]
/-- java/lang/StringLatin1.canEncode(I)Z -/
def am_c283 : List (Nat × am_I × Nat) := [(0, (3, 0, 0, 0, []), 1), (1, (16, 2, 15, 0, []), 4), (4, (3, 0, 0, 0, []), 5), (5, (0, 0, 0, 255, []), 8), (8, (15, 4, 15, 0, []), 11), (11, (0, 0, 0, 1, []), 12), (12, (18, 0, 16, 0, []), 15), (15, (0, 0, 0, 0, []), 16), (16, (22, 1, 0, 0, []), 17)]
/-- java/lang/StringLatin1.indexOfChar([BIII)I -/
def am_c284 : List (Nat × am_I × Nat) := [(0, (3, 1, 0, 0, []), 1), (1, (7, 1, 0, 0, []), 2), (2, (4, 4, 0, 0, []), 4), (4, (3, 2, 0, 0, []), 5), (5, (4, 5, 0, 0, []), 7), (7, (3, 5, 0, 0, []), 9), (9, (3, 3, 0, 0, []), 10), (10, (15, 3, 31, 0, []), 13), (13, (3, 0, 2, 0, []), 14), (14, (3, 5, 0, 0, []), 16), (16, (24, 2, 2, 1, []), 17), (17, (3, 4, 0, 0, []), 19), (19, (15, 1, 25, 0, []), 22), (22, (3, 5, 0, 0, []), 24), (24, (22, 0, 0, 0, []), 25), (25, (5, 5, 0, 1, []), 28), (28, (18, 0, 7, 0, []), 31), (31, (0, 0, 0, -1, []), 32), (32, (22, 0, 0, 0, []), 33)]
/-- jdk/internal/util/Preconditions.checkIndex(IILjava/util/function/BiFunction;)I -/
def am_c285 : List (Nat × am_I × Nat) := [(0, (3, 0, 0, 0, []), 1), (1, (16, 2, 9, 0, []), 4), (4, (3, 0, 0, 0, []), 5), (5, (3, 1, 0, 0, []), 6), (6, (15, 2, 16, 0, []), 9), (9, (3, 2, 2, 0, []), 10), (10, (3, 0, 0, 0, []), 11), (11, (3, 1, 0, 0, []), 12), (16, (3, 0, 0, 0, []), 17), (17, (22, 0, 0, 0, []), 18)]
/-- WashingLinesLaw.law([I)Z -/
def am_c286 : List (Nat × am_I × Nat) := [(0, (24, 5, 0, 0, []), 3), (3, (12, 0, 0, 0, []), 4), (4, (21, 0, 1, 2, []), 7), (7, (4, 1, 2, 0, []), 8), (8, (24, 5, 0, 12, []), 11), (11, (12, 0, 0, 0, []), 12), (12, (21, 155, 1, 2, []), 15), (15, (4, 2, 2, 0, []), 16), (16, (0, 0, 0, 0, []), 17), (17, (4, 3, 0, 0, []), 18), (18, (3, 3, 0, 0, []), 19), (19, (3, 0, 2, 0, []), 20), (20, (24, 4, 1, 0, []), 21), (21, (0, 0, 0, 6, []), 23), (23, (6, 1, 0, 0, []), 24), (24, (15, 4, 1222, 0, []), 27), (27, (3, 0, 2, 0, []), 28), (28, (3, 3, 0, 0, []), 29), (29, (24, 2, 2, 0, []), 30), (30, (0, 0, 0, 63, []), 32), (32, (6, 3, 0, 0, []), 33), (33, (19, 0, 1216, 0, [(0, 184), (1, 247), (2, 270), (3, 283), (4, 296), (5, 319), (6, 352), (7, 385), (8, 418), (9, 431), (10, 464), (11, 487), (12, 510), (13, 533), (14, 556), (15, 569), (16, 612), (17, 635), (18, 678), (19, 731), (20, 764), (21, 807), (22, 850), (23, 873), (24, 896), (25, 929), (26, 972), (27, 995), (28, 1028), (29, 1071), (30, 1094), (31, 1147), (32, 1170), (33, 1193)]), 184), (184, (3, 1, 2, 0, []), 185), (185, (3, 0, 2, 0, []), 186), (186, (3, 3, 0, 0, []), 187), (187, (0, 0, 0, 1, []), 188), (188, (6, 0, 0, 0, []), 189), (189, (24, 2, 2, 0, []), 190), (190, (3, 0, 2, 0, []), 191), (191, (3, 3, 0, 0, []), 192), (192, (0, 0, 0, 2, []), 193), (193, (6, 0, 0, 0, []), 194), (194, (24, 2, 2, 0, []), 195), (195, (3, 0, 2, 0, []), 196), (196, (3, 3, 0, 0, []), 197), (197, (0, 0, 0, 3, []), 198), (198, (6, 0, 0, 0, []), 199), (199, (24, 2, 2, 0, []), 200), (200, (3, 0, 2, 0, []), 201), (201, (3, 3, 0, 0, []), 202), (202, (0, 0, 0, 4, []), 203), (203, (6, 0, 0, 0, []), 204), (204, (24, 2, 2, 0, []), 205), (205, (3, 0, 2, 0, []), 206), (206, (3, 3, 0, 0, []), 207), (207, (0, 0, 0, 5, []), 208), (208, (6, 0, 0, 0, []), 209), (209, (24, 2, 2, 0, []), 210), (210, (21, 14, 6, 0, []), 213), (213, (3, 2, 2, 0, []), 214), (214, (3, 0, 2, 0, []), 215), (215, (3, 3, 0, 0, []), 216), (216, (0, 0, 0, 1, []), 217), (217, (6, 0, 0, 0, []), 218), (218, (24, 2, 2, 0, []), 219), (219, (3, 0, 2, 0, []), 220), (220, (3, 3, 0, 0, []), 221), (221, (0, 0, 0, 2, []), 222), (222, (6, 0, 0, 0, []), 223), (223, (24, 2, 2, 0, []), 224), (224, (3, 0, 2, 0, []), 225), (225, (3, 3, 0, 0, []), 226), (226, (0, 0, 0, 3, []), 227), (227, (6, 0, 0, 0, []), 228), (228, (24, 2, 2, 0, []), 229), (229, (3, 0, 2, 0, []), 230), (230, (3, 3, 0, 0, []), 231), (231, (0, 0, 0, 4, []), 232), (232, (6, 0, 0, 0, []), 233), (233, (24, 2, 2, 0, []), 234), (234, (3, 0, 2, 0, []), 235), (235, (3, 3, 0, 0, []), 236), (236, (0, 0, 0, 5, []), 237), (237, (6, 0, 0, 0, []), 238), (238, (24, 2, 2, 0, []), 239), (239, (21, 156, 6, 0, []), 242), (242, (15, 0, 1216, 0, []), 245), (245, (0, 0, 0, 0, []), 246), (246, (22, 1, 0, 0, []), 247), (247, (3, 1, 2, 0, []), 248), (248, (3, 0, 2, 0, []), 249), (249, (3, 3, 0, 0, []), 250), (250, (0, 0, 0, 1, []), 251), (251, (6, 0, 0, 0, []), 252), (252, (24, 2, 2, 0, []), 253), (253, (21, 17, 2, 0, []), 256), (256, (3, 2, 2, 0, []), 257), (257, (3, 0, 2, 0, []), 258), (258, (3, 3, 0, 0, []), 259), (259, (0, 0, 0, 1, []), 260), (260, (6, 0, 0, 0, []), 261), (261, (24, 2, 2, 0, []), 262), (262, (21, 158, 2, 0, []), 265), (265, (15, 0, 1216, 0, []), 268), (268, (0, 0, 0, 0, []), 269), (269, (22, 1, 0, 0, []), 270), (270, (3, 1, 2, 0, []), 271), (271, (21, 18, 1, 0, []), 274), (274, (3, 2, 2, 0, []), 275), (275, (21, 159, 1, 0, []), 278), (278, (15, 0, 1216, 0, []), 281), (281, (0, 0, 0, 0, []), 282), (282, (22, 1, 0, 0, []), 283), (283, (3, 1, 2, 0, []), 284), (284, (21, 59, 1, 0, []), 287), (287, (3, 2, 2, 0, []), 288), (288, (21, 181, 1, 0, []), 291), (291, (15, 0, 1216, 0, []), 294), (294, (0, 0, 0, 0, []), 295), (295, (22, 1, 0, 0, []), 296), (296, (3, 1, 2, 0, []), 297), (297, (3, 0, 2, 0, []), 298), (298, (3, 3, 0, 0, []), 299), (299, (0, 0, 0, 1, []), 300), (300, (6, 0, 0, 0, []), 301), (301, (24, 2, 2, 0, []), 302), (302, (21, 71, 2, 0, []), 305), (305, (3, 2, 2, 0, []), 306), (306, (3, 0, 2, 0, []), 307), (307, (3, 3, 0, 0, []), 308), (308, (0, 0, 0, 1, []), 309), (309, (6, 0, 0, 0, []), 310), (310, (24, 2, 2, 0, []), 311), (311, (21, 196, 2, 0, []), 314), (314, (15, 0, 1216, 0, []), 317), (317, (0, 0, 0, 0, []), 318), (318, (22, 1, 0, 0, []), 319), (319, (3, 1, 2, 0, []), 320), (320, (3, 0, 2, 0, []), 321), (321, (3, 3, 0, 0, []), 322), (322, (0, 0, 0, 1, []), 323), (323, (6, 0, 0, 0, []), 324), (324, (24, 2, 2, 0, []), 325), (325, (3, 0, 2, 0, []), 326), (326, (3, 3, 0, 0, []), 327), (327, (0, 0, 0, 2, []), 328), (328, (6, 0, 0, 0, []), 329), (329, (24, 2, 2, 0, []), 330), (330, (21, 73, 3, 0, []), 333), (333, (3, 2, 2, 0, []), 334), (334, (3, 0, 2, 0, []), 335), (335, (3, 3, 0, 0, []), 336), (336, (0, 0, 0, 1, []), 337), (337, (6, 0, 0, 0, []), 338), (338, (24, 2, 2, 0, []), 339), (339, (3, 0, 2, 0, []), 340), (340, (3, 3, 0, 0, []), 341), (341, (0, 0, 0, 2, []), 342), (342, (6, 0, 0, 0, []), 343), (343, (24, 2, 2, 0, []), 344), (344, (21, 197, 3, 0, []), 347), (347, (15, 0, 1216, 0, []), 350), (350, (0, 0, 0, 0, []), 351), (351, (22, 1, 0, 0, []), 352), (352, (3, 1, 2, 0, []), 353), (353, (3, 0, 2, 0, []), 354), (354, (3, 3, 0, 0, []), 355), (355, (0, 0, 0, 1, []), 356), (356, (6, 0, 0, 0, []), 357), (357, (24, 2, 2, 0, []), 358), (358, (3, 0, 2, 0, []), 359), (359, (3, 3, 0, 0, []), 360), (360, (0, 0, 0, 2, []), 361), (361, (6, 0, 0, 0, []), 362), (362, (24, 2, 2, 0, []), 363), (363, (21, 88, 3, 0, []), 366), (366, (3, 2, 2, 0, []), 367), (367, (3, 0, 2, 0, []), 368), (368, (3, 3, 0, 0, []), 369), (369, (0, 0, 0, 1, []), 370), (370, (6, 0, 0, 0, []), 371), (371, (24, 2, 2, 0, []), 372), (372, (3, 0, 2, 0, []), 373), (373, (3, 3, 0, 0, []), 374), (374, (0, 0, 0, 2, []), 375), (375, (6, 0, 0, 0, []), 376), (376, (24, 2, 2, 0, []), 377), (377, (21, 209, 3, 0, []), 380), (380, (15, 0, 1216, 0, []), 383), (383, (0, 0, 0, 0, []), 384), (384, (22, 1, 0, 0, []), 385), (385, (3, 1, 2, 0, []), 386), (386, (3, 0, 2, 0, []), 387), (387, (3, 3, 0, 0, []), 388), (388, (0, 0, 0, 1, []), 389), (389, (6, 0, 0, 0, []), 390), (390, (24, 2, 2, 0, []), 391), (391, (3, 0, 2, 0, []), 392), (392, (3, 3, 0, 0, []), 393), (393, (0, 0, 0, 2, []), 394), (394, (6, 0, 0, 0, []), 395), (395, (24, 2, 2, 0, []), 396), (396, (21, 91, 3, 0, []), 399), (399, (3, 2, 2, 0, []), 400), (400, (3, 0, 2, 0, []), 401), (401, (3, 3, 0, 0, []), 402), (402, (0, 0, 0, 1, []), 403), (403, (6, 0, 0, 0, []), 404), (404, (24, 2, 2, 0, []), 405), (405, (3, 0, 2, 0, []), 406), (406, (3, 3, 0, 0, []), 407), (407, (0, 0, 0, 2, []), 408), (408, (6, 0, 0, 0, []), 409), (409, (24, 2, 2, 0, []), 410), (410, (21, 213, 3, 0, []), 413), (413, (15, 0, 1216, 0, []), 416), (416, (0, 0, 0, 0, []), 417), (417, (22, 1, 0, 0, []), 418), (418, (3, 1, 2, 0, []), 419), (419, (21, 92, 1, 0, []), 422), (422, (3, 2, 2, 0, []), 423), (423, (21, 219, 1, 0, []), 426), (426, (15, 0, 1216, 0, []), 429), (429, (0, 0, 0, 0, []), 430), (430, (22, 1, 0, 0, []), 431), (431, (3, 1, 2, 0, []), 432), (432, (3, 0, 2, 0, []), 433), (433, (3, 3, 0, 0, []), 434), (434, (0, 0, 0, 1, []), 435), (435, (6, 0, 0, 0, []), 436), (436, (24, 2, 2, 0, []), 437), (437, (3, 0, 2, 0, []), 438), (438, (3, 3, 0, 0, []), 439), (439, (0, 0, 0, 2, []), 440), (440, (6, 0, 0, 0, []), 441), (441, (24, 2, 2, 0, []), 442), (442, (21, 96, 3, 0, []), 445), (445, (3, 2, 2, 0, []), 446), (446, (3, 0, 2, 0, []), 447), (447, (3, 3, 0, 0, []), 448), (448, (0, 0, 0, 1, []), 449), (449, (6, 0, 0, 0, []), 450), (450, (24, 2, 2, 0, []), 451), (451, (3, 0, 2, 0, []), 452), (452, (3, 3, 0, 0, []), 453), (453, (0, 0, 0, 2, []), 454), (454, (6, 0, 0, 0, []), 455), (455, (24, 2, 2, 0, []), 456), (456, (21, 223, 3, 0, []), 459), (459, (15, 0, 1216, 0, []), 462), (462, (0, 0, 0, 0, []), 463), (463, (22, 1, 0, 0, []), 464), (464, (3, 1, 2, 0, []), 465), (465, (3, 0, 2, 0, []), 466), (466, (3, 3, 0, 0, []), 467), (467, (0, 0, 0, 1, []), 468), (468, (6, 0, 0, 0, []), 469), (469, (24, 2, 2, 0, []), 470), (470, (21, 97, 2, 0, []), 473), (473, (3, 2, 2, 0, []), 474), (474, (3, 0, 2, 0, []), 475), (475, (3, 3, 0, 0, []), 476), (476, (0, 0, 0, 1, []), 477), (477, (6, 0, 0, 0, []), 478), (478, (24, 2, 2, 0, []), 479), (479, (21, 226, 2, 0, []), 482), (482, (15, 0, 1216, 0, []), 485), (485, (0, 0, 0, 0, []), 486), (486, (22, 1, 0, 0, []), 487), (487, (3, 1, 2, 0, []), 488), (488, (3, 0, 2, 0, []), 489), (489, (3, 3, 0, 0, []), 490), (490, (0, 0, 0, 1, []), 491), (491, (6, 0, 0, 0, []), 492), (492, (24, 2, 2, 0, []), 493), (493, (21, 100, 2, 0, []), 496), (496, (3, 2, 2, 0, []), 497), (497, (3, 0, 2, 0, []), 498), (498, (3, 3, 0, 0, []), 499), (499, (0, 0, 0, 1, []), 500), (500, (6, 0, 0, 0, []), 501), (501, (24, 2, 2, 0, []), 502), (502, (21, 228, 2, 0, []), 505), (505, (15, 0, 1216, 0, []), 508), (508, (0, 0, 0, 0, []), 509), (509, (22, 1, 0, 0, []), 510), (510, (3, 1, 2, 0, []), 511), (511, (3, 0, 2, 0, []), 512), (512, (3, 3, 0, 0, []), 513), (513, (0, 0, 0, 1, []), 514), (514, (6, 0, 0, 0, []), 515), (515, (24, 2, 2, 0, []), 516), (516, (21, 101, 2, 0, []), 519), (519, (3, 2, 2, 0, []), 520), (520, (3, 0, 2, 0, []), 521), (521, (3, 3, 0, 0, []), 522), (522, (0, 0, 0, 1, []), 523), (523, (6, 0, 0, 0, []), 524), (524, (24, 2, 2, 0, []), 525), (525, (21, 229, 2, 0, []), 528), (528, (15, 0, 1216, 0, []), 531), (531, (0, 0, 0, 0, []), 532), (532, (22, 1, 0, 0, []), 533), (533, (3, 1, 2, 0, []), 534), (534, (3, 0, 2, 0, []), 535), (535, (3, 3, 0, 0, []), 536), (536, (0, 0, 0, 1, []), 537), (537, (6, 0, 0, 0, []), 538), (538, (24, 2, 2, 0, []), 539), (539, (21, 103, 2, 0, []), 542), (542, (3, 2, 2, 0, []), 543), (543, (3, 0, 2, 0, []), 544), (544, (3, 3, 0, 0, []), 545), (545, (0, 0, 0, 1, []), 546), (546, (6, 0, 0, 0, []), 547), (547, (24, 2, 2, 0, []), 548), (548, (21, 230, 2, 0, []), 551), (551, (15, 0, 1216, 0, []), 554), (554, (0, 0, 0, 0, []), 555), (555, (22, 1, 0, 0, []), 556), (556, (3, 1, 2, 0, []), 557), (557, (21, 104, 1, 0, []), 560), (560, (3, 2, 2, 0, []), 561), (561, (21, 215, 1, 0, []), 564), (564, (15, 0, 1216, 0, []), 567), (567, (0, 0, 0, 0, []), 568), (568, (22, 1, 0, 0, []), 569), (569, (3, 1, 2, 0, []), 570), (570, (3, 0, 2, 0, []), 571), (571, (3, 3, 0, 0, []), 572), (572, (0, 0, 0, 1, []), 573), (573, (6, 0, 0, 0, []), 574), (574, (24, 2, 2, 0, []), 575), (575, (3, 0, 2, 0, []), 576), (576, (3, 3, 0, 0, []), 577), (577, (0, 0, 0, 2, []), 578), (578, (6, 0, 0, 0, []), 579), (579, (24, 2, 2, 0, []), 580), (580, (3, 0, 2, 0, []), 581), (581, (3, 3, 0, 0, []), 582), (582, (0, 0, 0, 3, []), 583), (583, (6, 0, 0, 0, []), 584), (584, (24, 2, 2, 0, []), 585), (585, (21, 106, 4, 0, []), 588), (588, (3, 2, 2, 0, []), 589), (589, (3, 0, 2, 0, []), 590), (590, (3, 3, 0, 0, []), 591), (591, (0, 0, 0, 1, []), 592), (592, (6, 0, 0, 0, []), 593), (593, (24, 2, 2, 0, []), 594), (594, (3, 0, 2, 0, []), 595), (595, (3, 3, 0, 0, []), 596), (596, (0, 0, 0, 2, []), 597), (597, (6, 0, 0, 0, []), 598), (598, (24, 2, 2, 0, []), 599), (599, (3, 0, 2, 0, []), 600), (600, (3, 3, 0, 0, []), 601), (601, (0, 0, 0, 3, []), 602), (602, (6, 0, 0, 0, []), 603), (603, (24, 2, 2, 0, []), 604), (604, (21, 231, 4, 0, []), 607), (607, (15, 0, 1216, 0, []), 610), (610, (0, 0, 0, 0, []), 611), (611, (22, 1, 0, 0, []), 612), (612, (3, 1, 2, 0, []), 613), (613, (3, 0, 2, 0, []), 614), (614, (3, 3, 0, 0, []), 615), (615, (0, 0, 0, 1, []), 616), (616, (6, 0, 0, 0, []), 617), (617, (24, 2, 2, 0, []), 618), (618, (21, 108, 2, 0, []), 621), (621, (3, 2, 2, 0, []), 622), (622, (3, 0, 2, 0, []), 623), (623, (3, 3, 0, 0, []), 624), (624, (0, 0, 0, 1, []), 625), (625, (6, 0, 0, 0, []), 626), (626, (24, 2, 2, 0, []), 627), (627, (21, 238, 2, 0, []), 630), (630, (15, 0, 1216, 0, []), 633), (633, (0, 0, 0, 0, []), 634), (634, (22, 1, 0, 0, []), 635), (635, (3, 1, 2, 0, []), 636), (636, (3, 0, 2, 0, []), 637), (637, (3, 3, 0, 0, []), 638), (638, (0, 0, 0, 1, []), 639), (639, (6, 0, 0, 0, []), 640), (640, (24, 2, 2, 0, []), 641), (641, (3, 0, 2, 0, []), 642), (642, (3, 3, 0, 0, []), 643), (643, (0, 0, 0, 2, []), 644), (644, (6, 0, 0, 0, []), 645), (645, (24, 2, 2, 0, []), 646), (646, (3, 0, 2, 0, []), 647), (647, (3, 3, 0, 0, []), 648), (648, (0, 0, 0, 3, []), 649), (649, (6, 0, 0, 0, []), 650), (650, (24, 2, 2, 0, []), 651), (651, (21, 110, 4, 0, []), 654), (654, (3, 2, 2, 0, []), 655), (655, (3, 0, 2, 0, []), 656), (656, (3, 3, 0, 0, []), 657), (657, (0, 0, 0, 1, []), 658), (658, (6, 0, 0, 0, []), 659), (659, (24, 2, 2, 0, []), 660), (660, (3, 0, 2, 0, []), 661), (661, (3, 3, 0, 0, []), 662), (662, (0, 0, 0, 2, []), 663), (663, (6, 0, 0, 0, []), 664), (664, (24, 2, 2, 0, []), 665), (665, (3, 0, 2, 0, []), 666), (666, (3, 3, 0, 0, []), 667), (667, (0, 0, 0, 3, []), 668), (668, (6, 0, 0, 0, []), 669), (669, (24, 2, 2, 0, []), 670), (670, (21, 239, 4, 0, []), 673), (673, (15, 0, 1216, 0, []), 676), (676, (0, 0, 0, 0, []), 677), (677, (22, 1, 0, 0, []), 678), (678, (3, 1, 2, 0, []), 679), (679, (3, 0, 2, 0, []), 680), (680, (3, 3, 0, 0, []), 681), (681, (0, 0, 0, 1, []), 682), (682, (6, 0, 0, 0, []), 683), (683, (24, 2, 2, 0, []), 684), (684, (3, 0, 2, 0, []), 685), (685, (3, 3, 0, 0, []), 686), (686, (0, 0, 0, 2, []), 687), (687, (6, 0, 0, 0, []), 688), (688, (24, 2, 2, 0, []), 689), (689, (3, 0, 2, 0, []), 690), (690, (3, 3, 0, 0, []), 691), (691, (0, 0, 0, 3, []), 692), (692, (6, 0, 0, 0, []), 693), (693, (24, 2, 2, 0, []), 694), (694, (3, 0, 2, 0, []), 695), (695, (3, 3, 0, 0, []), 696), (696, (0, 0, 0, 4, []), 697), (697, (6, 0, 0, 0, []), 698), (698, (24, 2, 2, 0, []), 699), (699, (21, 117, 5, 0, []), 702), (702, (3, 2, 2, 0, []), 703), (703, (3, 0, 2, 0, []), 704), (704, (3, 3, 0, 0, []), 705), (705, (0, 0, 0, 1, []), 706), (706, (6, 0, 0, 0, []), 707), (707, (24, 2, 2, 0, []), 708), (708, (3, 0, 2, 0, []), 709), (709, (3, 3, 0, 0, []), 710), (710, (0, 0, 0, 2, []), 711), (711, (6, 0, 0, 0, []), 712), (712, (24, 2, 2, 0, []), 713), (713, (3, 0, 2, 0, []), 714), (714, (3, 3, 0, 0, []), 715), (715, (0, 0, 0, 3, []), 716), (716, (6, 0, 0, 0, []), 717), (717, (24, 2, 2, 0, []), 718), (718, (3, 0, 2, 0, []), 719), (719, (3, 3, 0, 0, []), 720), (720, (0, 0, 0, 4, []), 721), (721, (6, 0, 0, 0, []), 722), (722, (24, 2, 2, 0, []), 723), (723, (21, 242, 5, 0, []), 726), (726, (15, 0, 1216, 0, []), 729), (729, (0, 0, 0, 0, []), 730), (730, (22, 1, 0, 0, []), 731), (731, (3, 1, 2, 0, []), 732), (732, (3, 0, 2, 0, []), 733), (733, (3, 3, 0, 0, []), 734), (734, (0, 0, 0, 1, []), 735), (735, (6, 0, 0, 0, []), 736), (736, (24, 2, 2, 0, []), 737), (737, (3, 0, 2, 0, []), 738), (738, (3, 3, 0, 0, []), 739), (739, (0, 0, 0, 2, []), 740), (740, (6, 0, 0, 0, []), 741), (741, (24, 2, 2, 0, []), 742), (742, (21, 122, 3, 0, []), 745), (745, (3, 2, 2, 0, []), 746), (746, (3, 0, 2, 0, []), 747), (747, (3, 3, 0, 0, []), 748), (748, (0, 0, 0, 1, []), 749), (749, (6, 0, 0, 0, []), 750), (750, (24, 2, 2, 0, []), 751), (751, (3, 0, 2, 0, []), 752), (752, (3, 3, 0, 0, []), 753), (753, (0, 0, 0, 2, []), 754), (754, (6, 0, 0, 0, []), 755), (755, (24, 2, 2, 0, []), 756), (756, (21, 247, 3, 0, []), 759), (759, (15, 0, 1216, 0, []), 762), (762, (0, 0, 0, 0, []), 763), (763, (22, 1, 0, 0, []), 764), (764, (3, 1, 2, 0, []), 765), (765, (3, 0, 2, 0, []), 766), (766, (3, 3, 0, 0, []), 767), (767, (0, 0, 0, 1, []), 768), (768, (6, 0, 0, 0, []), 769), (769, (24, 2, 2, 0, []), 770), (770, (3, 0, 2, 0, []), 771), (771, (3, 3, 0, 0, []), 772), (772, (0, 0, 0, 2, []), 773), (773, (6, 0, 0, 0, []), 774), (774, (24, 2, 2, 0, []), 775), (775, (3, 0, 2, 0, []), 776), (776, (3, 3, 0, 0, []), 777), (777, (0, 0, 0, 3, []), 778), (778, (6, 0, 0, 0, []), 779), (779, (24, 2, 2, 0, []), 780), (780, (21, 127, 4, 0, []), 783), (783, (3, 2, 2, 0, []), 784), (784, (3, 0, 2, 0, []), 785), (785, (3, 3, 0, 0, []), 786), (786, (0, 0, 0, 1, []), 787), (787, (6, 0, 0, 0, []), 788), (788, (24, 2, 2, 0, []), 789), (789, (3, 0, 2, 0, []), 790), (790, (3, 3, 0, 0, []), 791), (791, (0, 0, 0, 2, []), 792), (792, (6, 0, 0, 0, []), 793), (793, (24, 2, 2, 0, []), 794), (794, (3, 0, 2, 0, []), 795), (795, (3, 3, 0, 0, []), 796), (796, (0, 0, 0, 3, []), 797), (797, (6, 0, 0, 0, []), 798), (798, (24, 2, 2, 0, []), 799), (799, (21, 249, 4, 0, []), 802), (802, (15, 0, 1216, 0, []), 805), (805, (0, 0, 0, 0, []), 806), (806, (22, 1, 0, 0, []), 807), (807, (3, 1, 2, 0, []), 808), (808, (3, 0, 2, 0, []), 809), (809, (3, 3, 0, 0, []), 810), (810, (0, 0, 0, 1, []), 811), (811, (6, 0, 0, 0, []), 812), (812, (24, 2, 2, 0, []), 813), (813, (3, 0, 2, 0, []), 814), (814, (3, 3, 0, 0, []), 815), (815, (0, 0, 0, 2, []), 816), (816, (6, 0, 0, 0, []), 817), (817, (24, 2, 2, 0, []), 818), (818, (3, 0, 2, 0, []), 819), (819, (3, 3, 0, 0, []), 820), (820, (0, 0, 0, 3, []), 821), (821, (6, 0, 0, 0, []), 822), (822, (24, 2, 2, 0, []), 823), (823, (21, 128, 4, 0, []), 826), (826, (3, 2, 2, 0, []), 827), (827, (3, 0, 2, 0, []), 828), (828, (3, 3, 0, 0, []), 829), (829, (0, 0, 0, 1, []), 830), (830, (6, 0, 0, 0, []), 831), (831, (24, 2, 2, 0, []), 832), (832, (3, 0, 2, 0, []), 833), (833, (3, 3, 0, 0, []), 834), (834, (0, 0, 0, 2, []), 835), (835, (6, 0, 0, 0, []), 836), (836, (24, 2, 2, 0, []), 837), (837, (3, 0, 2, 0, []), 838), (838, (3, 3, 0, 0, []), 839), (839, (0, 0, 0, 3, []), 840), (840, (6, 0, 0, 0, []), 841), (841, (24, 2, 2, 0, []), 842), (842, (21, 251, 4, 0, []), 845), (845, (15, 0, 1216, 0, []), 848), (848, (0, 0, 0, 0, []), 849), (849, (22, 1, 0, 0, []), 850), (850, (3, 1, 2, 0, []), 851), (851, (3, 0, 2, 0, []), 852), (852, (3, 3, 0, 0, []), 853), (853, (0, 0, 0, 1, []), 854), (854, (6, 0, 0, 0, []), 855), (855, (24, 2, 2, 0, []), 856), (856, (21, 133, 2, 0, []), 859), (859, (3, 2, 2, 0, []), 860), (860, (3, 0, 2, 0, []), 861), (861, (3, 3, 0, 0, []), 862), (862, (0, 0, 0, 1, []), 863), (863, (6, 0, 0, 0, []), 864), (864, (24, 2, 2, 0, []), 865), (865, (21, 254, 2, 0, []), 868), (868, (15, 0, 1216, 0, []), 871), (871, (0, 0, 0, 0, []), 872), (872, (22, 1, 0, 0, []), 873), (873, (3, 1, 2, 0, []), 874), (874, (3, 0, 2, 0, []), 875), (875, (3, 3, 0, 0, []), 876), (876, (0, 0, 0, 1, []), 877), (877, (6, 0, 0, 0, []), 878), (878, (24, 2, 2, 0, []), 879), (879, (21, 135, 2, 0, []), 882), (882, (3, 2, 2, 0, []), 883), (883, (3, 0, 2, 0, []), 884), (884, (3, 3, 0, 0, []), 885), (885, (0, 0, 0, 1, []), 886), (886, (6, 0, 0, 0, []), 887), (887, (24, 2, 2, 0, []), 888), (888, (21, 256, 2, 0, []), 891), (891, (15, 0, 1216, 0, []), 894), (894, (0, 0, 0, 0, []), 895), (895, (22, 1, 0, 0, []), 896), (896, (3, 1, 2, 0, []), 897), (897, (3, 0, 2, 0, []), 898), (898, (3, 3, 0, 0, []), 899), (899, (0, 0, 0, 1, []), 900), (900, (6, 0, 0, 0, []), 901), (901, (24, 2, 2, 0, []), 902), (902, (3, 0, 2, 0, []), 903), (903, (3, 3, 0, 0, []), 904), (904, (0, 0, 0, 2, []), 905), (905, (6, 0, 0, 0, []), 906), (906, (24, 2, 2, 0, []), 907), (907, (21, 136, 3, 0, []), 910), (910, (3, 2, 2, 0, []), 911), (911, (3, 0, 2, 0, []), 912), (912, (3, 3, 0, 0, []), 913), (913, (0, 0, 0, 1, []), 914), (914, (6, 0, 0, 0, []), 915), (915, (24, 2, 2, 0, []), 916), (916, (3, 0, 2, 0, []), 917), (917, (3, 3, 0, 0, []), 918), (918, (0, 0, 0, 2, []), 919), (919, (6, 0, 0, 0, []), 920), (920, (24, 2, 2, 0, []), 921), (921, (21, 257, 3, 0, []), 924), (924, (15, 0, 1216, 0, []), 927), (927, (0, 0, 0, 0, []), 928), (928, (22, 1, 0, 0, []), 929), (929, (3, 1, 2, 0, []), 930), (930, (3, 0, 2, 0, []), 931), (931, (3, 3, 0, 0, []), 932), (932, (0, 0, 0, 1, []), 933), (933, (6, 0, 0, 0, []), 934), (934, (24, 2, 2, 0, []), 935), (935, (3, 0, 2, 0, []), 936), (936, (3, 3, 0, 0, []), 937), (937, (0, 0, 0, 2, []), 938), (938, (6, 0, 0, 0, []), 939), (939, (24, 2, 2, 0, []), 940), (940, (3, 0, 2, 0, []), 941), (941, (3, 3, 0, 0, []), 942), (942, (0, 0, 0, 3, []), 943), (943, (6, 0, 0, 0, []), 944), (944, (24, 2, 2, 0, []), 945), (945, (21, 137, 4, 0, []), 948), (948, (3, 2, 2, 0, []), 949), (949, (3, 0, 2, 0, []), 950), (950, (3, 3, 0, 0, []), 951), (951, (0, 0, 0, 1, []), 952), (952, (6, 0, 0, 0, []), 953), (953, (24, 2, 2, 0, []), 954), (954, (3, 0, 2, 0, []), 955), (955, (3, 3, 0, 0, []), 956), (956, (0, 0, 0, 2, []), 957), (957, (6, 0, 0, 0, []), 958), (958, (24, 2, 2, 0, []), 959), (959, (3, 0, 2, 0, []), 960), (960, (3, 3, 0, 0, []), 961), (961, (0, 0, 0, 3, []), 962), (962, (6, 0, 0, 0, []), 963), (963, (24, 2, 2, 0, []), 964), (964, (21, 258, 4, 0, []), 967), (967, (15, 0, 1216, 0, []), 970), (970, (0, 0, 0, 0, []), 971), (971, (22, 1, 0, 0, []), 972), (972, (3, 1, 2, 0, []), 973), (973, (3, 0, 2, 0, []), 974), (974, (3, 3, 0, 0, []), 975), (975, (0, 0, 0, 1, []), 976), (976, (6, 0, 0, 0, []), 977), (977, (24, 2, 2, 0, []), 978), (978, (21, 139, 2, 0, []), 981), (981, (3, 2, 2, 0, []), 982), (982, (3, 0, 2, 0, []), 983), (983, (3, 3, 0, 0, []), 984), (984, (0, 0, 0, 1, []), 985), (985, (6, 0, 0, 0, []), 986), (986, (24, 2, 2, 0, []), 987), (987, (21, 259, 2, 0, []), 990), (990, (15, 0, 1216, 0, []), 993), (993, (0, 0, 0, 0, []), 994), (994, (22, 1, 0, 0, []), 995), (995, (3, 1, 2, 0, []), 996), (996, (3, 0, 2, 0, []), 997), (997, (3, 3, 0, 0, []), 998), (998, (0, 0, 0, 1, []), 999), (999, (6, 0, 0, 0, []), 1000), (1000, (24, 2, 2, 0, []), 1001), (1001, (3, 0, 2, 0, []), 1002), (1002, (3, 3, 0, 0, []), 1003), (1003, (0, 0, 0, 2, []), 1004), (1004, (6, 0, 0, 0, []), 1005), (1005, (24, 2, 2, 0, []), 1006), (1006, (21, 143, 3, 0, []), 1009), (1009, (3, 2, 2, 0, []), 1010), (1010, (3, 0, 2, 0, []), 1011), (1011, (3, 3, 0, 0, []), 1012), (1012, (0, 0, 0, 1, []), 1013), (1013, (6, 0, 0, 0, []), 1014), (1014, (24, 2, 2, 0, []), 1015), (1015, (3, 0, 2, 0, []), 1016), (1016, (3, 3, 0, 0, []), 1017), (1017, (0, 0, 0, 2, []), 1018), (1018, (6, 0, 0, 0, []), 1019), (1019, (24, 2, 2, 0, []), 1020), (1020, (21, 262, 3, 0, []), 1023), (1023, (15, 0, 1216, 0, []), 1026), (1026, (0, 0, 0, 0, []), 1027), (1027, (22, 1, 0, 0, []), 1028), (1028, (3, 1, 2, 0, []), 1029), (1029, (3, 0, 2, 0, []), 1030), (1030, (3, 3, 0, 0, []), 1031), (1031, (0, 0, 0, 1, []), 1032), (1032, (6, 0, 0, 0, []), 1033), (1033, (24, 2, 2, 0, []), 1034), (1034, (3, 0, 2, 0, []), 1035), (1035, (3, 3, 0, 0, []), 1036), (1036, (0, 0, 0, 2, []), 1037), (1037, (6, 0, 0, 0, []), 1038), (1038, (24, 2, 2, 0, []), 1039), (1039, (3, 0, 2, 0, []), 1040), (1040, (3, 3, 0, 0, []), 1041), (1041, (0, 0, 0, 3, []), 1042), (1042, (6, 0, 0, 0, []), 1043), (1043, (24, 2, 2, 0, []), 1044), (1044, (21, 146, 4, 0, []), 1047), (1047, (3, 2, 2, 0, []), 1048), (1048, (3, 0, 2, 0, []), 1049), (1049, (3, 3, 0, 0, []), 1050), (1050, (0, 0, 0, 1, []), 1051), (1051, (6, 0, 0, 0, []), 1052), (1052, (24, 2, 2, 0, []), 1053), (1053, (3, 0, 2, 0, []), 1054), (1054, (3, 3, 0, 0, []), 1055), (1055, (0, 0, 0, 2, []), 1056), (1056, (6, 0, 0, 0, []), 1057), (1057, (24, 2, 2, 0, []), 1058), (1058, (3, 0, 2, 0, []), 1059), (1059, (3, 3, 0, 0, []), 1060), (1060, (0, 0, 0, 3, []), 1061), (1061, (6, 0, 0, 0, []), 1062), (1062, (24, 2, 2, 0, []), 1063), (1063, (21, 263, 4, 0, []), 1066), (1066, (15, 0, 1216, 0, []), 1069), (1069, (0, 0, 0, 0, []), 1070), (1070, (22, 1, 0, 0, []), 1071), (1071, (3, 1, 2, 0, []), 1072), (1072, (3, 0, 2, 0, []), 1073), (1073, (3, 3, 0, 0, []), 1074), (1074, (0, 0, 0, 1, []), 1075), (1075, (6, 0, 0, 0, []), 1076), (1076, (24, 2, 2, 0, []), 1077), (1077, (21, 147, 2, 0, []), 1080), (1080, (3, 2, 2, 0, []), 1081), (1081, (3, 0, 2, 0, []), 1082), (1082, (3, 3, 0, 0, []), 1083), (1083, (0, 0, 0, 1, []), 1084), (1084, (6, 0, 0, 0, []), 1085), (1085, (24, 2, 2, 0, []), 1086), (1086, (21, 264, 2, 0, []), 1089), (1089, (15, 0, 1216, 0, []), 1092), (1092, (0, 0, 0, 0, []), 1093), (1093, (22, 1, 0, 0, []), 1094), (1094, (3, 1, 2, 0, []), 1095), (1095, (3, 0, 2, 0, []), 1096), (1096, (3, 3, 0, 0, []), 1097), (1097, (0, 0, 0, 1, []), 1098), (1098, (6, 0, 0, 0, []), 1099), (1099, (24, 2, 2, 0, []), 1100), (1100, (3, 0, 2, 0, []), 1101), (1101, (3, 3, 0, 0, []), 1102), (1102, (0, 0, 0, 2, []), 1103), (1103, (6, 0, 0, 0, []), 1104), (1104, (24, 2, 2, 0, []), 1105), (1105, (3, 0, 2, 0, []), 1106), (1106, (3, 3, 0, 0, []), 1107), (1107, (0, 0, 0, 3, []), 1108), (1108, (6, 0, 0, 0, []), 1109), (1109, (24, 2, 2, 0, []), 1110), (1110, (3, 0, 2, 0, []), 1111), (1111, (3, 3, 0, 0, []), 1112), (1112, (0, 0, 0, 4, []), 1113), (1113, (6, 0, 0, 0, []), 1114), (1114, (24, 2, 2, 0, []), 1115), (1115, (21, 148, 5, 0, []), 1118), (1118, (3, 2, 2, 0, []), 1119), (1119, (3, 0, 2, 0, []), 1120), (1120, (3, 3, 0, 0, []), 1121), (1121, (0, 0, 0, 1, []), 1122), (1122, (6, 0, 0, 0, []), 1123), (1123, (24, 2, 2, 0, []), 1124), (1124, (3, 0, 2, 0, []), 1125), (1125, (3, 3, 0, 0, []), 1126), (1126, (0, 0, 0, 2, []), 1127), (1127, (6, 0, 0, 0, []), 1128), (1128, (24, 2, 2, 0, []), 1129), (1129, (3, 0, 2, 0, []), 1130), (1130, (3, 3, 0, 0, []), 1131), (1131, (0, 0, 0, 3, []), 1132), (1132, (6, 0, 0, 0, []), 1133), (1133, (24, 2, 2, 0, []), 1134), (1134, (3, 0, 2, 0, []), 1135), (1135, (3, 3, 0, 0, []), 1136), (1136, (0, 0, 0, 4, []), 1137), (1137, (6, 0, 0, 0, []), 1138), (1138, (24, 2, 2, 0, []), 1139), (1139, (21, 265, 5, 0, []), 1142), (1142, (15, 0, 1216, 0, []), 1145), (1145, (0, 0, 0, 0, []), 1146), (1146, (22, 1, 0, 0, []), 1147), (1147, (3, 1, 2, 0, []), 1148), (1148, (3, 0, 2, 0, []), 1149), (1149, (3, 3, 0, 0, []), 1150), (1150, (0, 0, 0, 1, []), 1151), (1151, (6, 0, 0, 0, []), 1152), (1152, (24, 2, 2, 0, []), 1153), (1153, (21, 150, 2, 0, []), 1156), (1156, (3, 2, 2, 0, []), 1157), (1157, (3, 0, 2, 0, []), 1158), (1158, (3, 3, 0, 0, []), 1159), (1159, (0, 0, 0, 1, []), 1160), (1160, (6, 0, 0, 0, []), 1161), (1161, (24, 2, 2, 0, []), 1162), (1162, (21, 268, 2, 0, []), 1165), (1165, (15, 0, 1216, 0, []), 1168), (1168, (0, 0, 0, 0, []), 1169), (1169, (22, 1, 0, 0, []), 1170), (1170, (3, 1, 2, 0, []), 1171), (1171, (3, 0, 2, 0, []), 1172), (1172, (3, 3, 0, 0, []), 1173), (1173, (0, 0, 0, 1, []), 1174), (1174, (6, 0, 0, 0, []), 1175), (1175, (24, 2, 2, 0, []), 1176), (1176, (21, 152, 2, 0, []), 1179), (1179, (3, 2, 2, 0, []), 1180), (1180, (3, 0, 2, 0, []), 1181), (1181, (3, 3, 0, 0, []), 1182), (1182, (0, 0, 0, 1, []), 1183), (1183, (6, 0, 0, 0, []), 1184), (1184, (24, 2, 2, 0, []), 1185), (1185, (21, 270, 2, 0, []), 1188), (1188, (15, 0, 1216, 0, []), 1191), (1191, (0, 0, 0, 0, []), 1192), (1192, (22, 1, 0, 0, []), 1193), (1193, (3, 1, 2, 0, []), 1194), (1194, (3, 0, 2, 0, []), 1195), (1195, (3, 3, 0, 0, []), 1196), (1196, (0, 0, 0, 1, []), 1197), (1197, (6, 0, 0, 0, []), 1198), (1198, (24, 2, 2, 0, []), 1199), (1199, (21, 154, 2, 0, []), 1202), (1202, (3, 2, 2, 0, []), 1203), (1203, (3, 0, 2, 0, []), 1204), (1204, (3, 3, 0, 0, []), 1205), (1205, (0, 0, 0, 1, []), 1206), (1206, (6, 0, 0, 0, []), 1207), (1207, (24, 2, 2, 0, []), 1208), (1208, (21, 271, 2, 0, []), 1211), (1211, (15, 0, 1216, 0, []), 1214), (1214, (0, 0, 0, 0, []), 1215), (1215, (22, 1, 0, 0, []), 1216), (1216, (5, 3, 0, 6, []), 1219), (1219, (18, 0, 18, 0, []), 1222), (1222, (0, 0, 0, 1, []), 1223), (1223, (22, 1, 0, 0, []), 1224)]
def am_cs : List (List (Nat × am_I × Nat)) := [am_c0, am_c1, am_c2, am_c3, am_c4, am_c5, am_c6, am_c7, am_c8, am_c9, am_c10, am_c11, am_c12, am_c13, am_c14, am_c15, am_c16, am_c17, am_c18, am_c19, am_c20, am_c21, am_c22, am_c23, am_c24, am_c25, am_c26, am_c27, am_c28, am_c29, am_c30, am_c31, am_c32, am_c33, am_c34, am_c35, am_c36, am_c37, am_c38, am_c39, am_c40, am_c41, am_c42, am_c43, am_c44, am_c45, am_c46, am_c47, am_c48, am_c49, am_c50, am_c51, am_c52, am_c53, am_c54, am_c55, am_c56, am_c57, am_c58, am_c59, am_c60, am_c61, am_c62, am_c63, am_c64, am_c65, am_c66, am_c67, am_c68, am_c69, am_c70, am_c71, am_c72, am_c73, am_c74, am_c75, am_c76, am_c77, am_c78, am_c79, am_c80, am_c81, am_c82, am_c83, am_c84, am_c85, am_c86, am_c87, am_c88, am_c89, am_c90, am_c91, am_c92, am_c93, am_c94, am_c95, am_c96, am_c97, am_c98, am_c99, am_c100, am_c101, am_c102, am_c103, am_c104, am_c105, am_c106, am_c107, am_c108, am_c109, am_c110, am_c111, am_c112, am_c113, am_c114, am_c115, am_c116, am_c117, am_c118, am_c119, am_c120, am_c121, am_c122, am_c123, am_c124, am_c125, am_c126, am_c127, am_c128, am_c129, am_c130, am_c131, am_c132, am_c133, am_c134, am_c135, am_c136, am_c137, am_c138, am_c139, am_c140, am_c141, am_c142, am_c143, am_c144, am_c145, am_c146, am_c147, am_c148, am_c149, am_c150, am_c151, am_c152, am_c153, am_c154, am_c155, am_c156, am_c157, am_c158, am_c159, am_c160, am_c161, am_c162, am_c163, am_c164, am_c165, am_c166, am_c167, am_c168, am_c169, am_c170, am_c171, am_c172, am_c173, am_c174, am_c175, am_c176, am_c177, am_c178, am_c179, am_c180, am_c181, am_c182, am_c183, am_c184, am_c185, am_c186, am_c187, am_c188, am_c189, am_c190, am_c191, am_c192, am_c193, am_c194, am_c195, am_c196, am_c197, am_c198, am_c199, am_c200, am_c201, am_c202, am_c203, am_c204, am_c205, am_c206, am_c207, am_c208, am_c209, am_c210, am_c211, am_c212, am_c213, am_c214, am_c215, am_c216, am_c217, am_c218, am_c219, am_c220, am_c221, am_c222, am_c223, am_c224, am_c225, am_c226, am_c227, am_c228, am_c229, am_c230, am_c231, am_c232, am_c233, am_c234, am_c235, am_c236, am_c237, am_c238, am_c239, am_c240, am_c241, am_c242, am_c243, am_c244, am_c245, am_c246, am_c247, am_c248, am_c249, am_c250, am_c251, am_c252, am_c253, am_c254, am_c255, am_c256, am_c257, am_c258, am_c259, am_c260, am_c261, am_c262, am_c263, am_c264, am_c265, am_c266, am_c267, am_c268, am_c269, am_c270, am_c271, am_c272, am_c273, am_c274, am_c275, am_c276, am_c277, am_c278, am_c279, am_c280, am_c281, am_c282, am_c283, am_c284, am_c285, am_c286]
def am_lk (pc : Nat) : List (Nat × am_I × Nat) → Option (am_I × Nat)
  | [] => none
  | (q, i, n) :: r => bif Nat.beq q pc then some (i, n) else am_lk pc r
def am_P (k pc : Nat) : Option (am_I × Nat) := am_lk pc (am_cs.getD k [])
end
section
/-! PURE STEPS: the bytecode's, the small machine's -/
def am_tgt (pc : Nat) (off : Int) : Option Nat := if 0 ≤ (pc : Int) + off then some ((pc : Int) + off).toNat else none
def am_cn (c : Jvm.ClassFile.Cond) : Nat := match c with
  | .eq => 0
  | .ne => 1
  | .lt => 2
  | .ge => 3
  | .gt => 4
  | .le => 5
def am_trp (ins : Jvm.ClassFile.Instr) (pc len : Nat) : Option am_I := match ins, len with
  | .iconst i, 1 => some (0, 0, 0, (Int32.ofInt i).toInt, [])
  | .bipush i, 2 => some (0, 0, 0, ((Int8.ofInt i).toInt32).toInt, [])
  | .sipush i, 3 => some (0, 0, 0, ((Int16.ofInt i).toInt32).toInt, [])
  | .lconst f, 1 => some (1, 0, 0, (Int64.ofNat (f : Nat)).toInt, [])
  | .aconst_null, 1 => some (2, 0, 0, 0, [])
  | .iload i, 2 => some (3, i, 0, 0, [])
  | .iload_n f, 1 => some (3, (f : Nat), 0, 0, [])
  | .lload i, 2 => some (3, i, 1, 0, [])
  | .lload_n f, 1 => some (3, (f : Nat), 1, 0, [])
  | .aload i, 2 => some (3, i, 2, 0, [])
  | .aload_n f, 1 => some (3, (f : Nat), 2, 0, [])
  | .istore i, 2 => some (4, i, 0, 0, [])
  | .istore_n f, 1 => some (4, (f : Nat), 0, 0, [])
  | .lstore i, 2 => some (4, i, 1, 0, [])
  | .lstore_n f, 1 => some (4, (f : Nat), 1, 0, [])
  | .astore i, 2 => some (4, i, 2, 0, [])
  | .astore_n f, 1 => some (4, (f : Nat), 2, 0, [])
  | .iinc i c, 3 => some (5, i, 0, c, [])
  | .iadd, 1 => some (6, 0, 0, 0, [])
  | .isub, 1 => some (6, 1, 0, 0, [])
  | .imul, 1 => some (6, 2, 0, 0, [])
  | .iand, 1 => some (6, 3, 0, 0, [])
  | .ior, 1 => some (6, 4, 0, 0, [])
  | .ixor, 1 => some (6, 5, 0, 0, [])
  | .ishl, 1 => some (6, 6, 0, 0, [])
  | .ishr, 1 => some (6, 7, 0, 0, [])
  | .iushr, 1 => some (6, 8, 0, 0, [])
  | .idiv, 1 => some (6, 9, 0, 0, [])
  | .irem, 1 => some (6, 10, 0, 0, [])
  | .ineg, 1 => some (7, 0, 0, 0, [])
  | .i2b, 1 => some (7, 1, 0, 0, [])
  | .i2c, 1 => some (7, 2, 0, 0, [])
  | .i2l, 1 => some (8, 0, 0, 0, [])
  | .l2i, 1 => some (9, 0, 0, 0, [])
  | .ladd, 1 => some (10, 0, 0, 0, [])
  | .lsub, 1 => some (10, 1, 0, 0, [])
  | .lmul, 1 => some (10, 2, 0, 0, [])
  | .land, 1 => some (10, 3, 0, 0, [])
  | .lor, 1 => some (10, 4, 0, 0, [])
  | .ldiv, 1 => some (10, 5, 0, 0, [])
  | .lrem, 1 => some (10, 6, 0, 0, [])
  | .lcmp, 1 => some (11, 0, 0, 0, [])
  | .dup, 1 => some (12, 0, 0, 0, [])
  | .dup2, 1 => some (13, 0, 0, 0, [])
  | .pop, 1 => some (14, 0, 0, 0, [])
  | .if_icmp c o, 3 => (am_tgt pc o).map fun t => (15, am_cn c, t, 0, [])
  | .ifCond c o, 3 => (am_tgt pc o).map fun t => (16, am_cn c, t, 0, [])
  | .ifnull o, 3 => (am_tgt pc o).map fun t => (17, 0, t, 0, [])
  | .ifnonnull o, 3 => (am_tgt pc o).map fun t => (17, 1, t, 0, [])
  | .goto o, 3 => (am_tgt pc o).map fun t => (18, 0, t, 0, [])
  | .tableswitch d lo hi offs, _ => if hi - lo + 1 = offs.size ∧ 0 ≤ (pc : Int) + d ∧ offs.toList.all (fun o => decide (0 ≤ (pc : Int) + o)) = true then some (19, 0, ((pc : Int) + d).toNat, 0, offs.toList.zipIdx.map fun q => (lo + (q.2 : Int), ((pc : Int) + q.1).toNat)) else none
  | .lookupswitch d ps, _ => if (ps.toList.zip (ps.toList.drop 1)).all (fun (a, next) => a.1 < next.1) = true ∧ 0 ≤ (pc : Int) + d ∧ ps.toList.all (fun q => decide (0 ≤ (pc : Int) + q.2)) = true then some (19, 0, ((pc : Int) + d).toNat, 0, ps.toList.map fun q => (q.1, ((pc : Int) + q.2).toNat)) else none
  | _, _ => none
theorem am_tgt_eq {pc t : Nat} {off : Int} (h : am_tgt pc off = some t) : (pc : Int) + off = (t : Int) := by
  unfold am_tgt at h
  split at h
  · cases h; omega
  · cases h
theorem am_iEq {a b : Int} (ha : (Int32.ofInt a).toInt = a) (hb : (Int32.ofInt b).toInt = b) : Int32.ofInt a = Int32.ofInt b ↔ a = b :=
  ⟨fun h => by rw [← ha, ← hb, h], fun h => by rw [h]⟩
theorem am_iLt {a b : Int} (ha : (Int32.ofInt a).toInt = a) (hb : (Int32.ofInt b).toInt = b) : Int32.ofInt a < Int32.ofInt b ↔ a < b := by
  rw [Int32.lt_iff_toInt_lt, ha, hb]
theorem am_iLe {a b : Int} (ha : (Int32.ofInt a).toInt = a) (hb : (Int32.ofInt b).toInt = b) : Int32.ofInt a ≤ Int32.ofInt b ↔ a ≤ b := by
  rw [Int32.le_iff_toInt_le, ha, hb]
theorem am_lEq {a b : Int} (ha : (Int64.ofInt a).toInt = a) (hb : (Int64.ofInt b).toInt = b) : Int64.ofInt a = Int64.ofInt b ↔ a = b :=
  ⟨fun h => by rw [← ha, ← hb, h], fun h => by rw [h]⟩
theorem am_lLt {a b : Int} (ha : (Int64.ofInt a).toInt = a) (hb : (Int64.ofInt b).toInt = b) : Int64.ofInt a < Int64.ofInt b ↔ a < b := by
  rw [Int64.lt_iff_toInt_lt, ha, hb]
theorem am_io (X : Int32) : (Int32.ofInt X.toInt).toInt = X.toInt := by rw [Int32.ofInt_toInt]
theorem am_lo (X : Int64) : (Int64.ofInt X.toInt).toInt = X.toInt := by rw [Int64.ofInt_toInt]
theorem am_i0 {a : Int} (ha : (Int32.ofInt a).toInt = a) : Int32.ofInt a = 0 ↔ a = 0 := am_iEq (b := 0) ha (by decide)
theorem am_ilt0 {a : Int} (ha : (Int32.ofInt a).toInt = a) : Int32.ofInt a < 0 ↔ a < 0 := am_iLt (b := 0) ha (by decide)
theorem am_ile0 {a : Int} (ha : (Int32.ofInt a).toInt = a) : Int32.ofInt a ≤ 0 ↔ a ≤ 0 := am_iLe (b := 0) ha (by decide)
theorem am_ige0 {a : Int} (ha : (Int32.ofInt a).toInt = a) : 0 ≤ Int32.ofInt a ↔ 0 ≤ a := am_iLe (a := 0) (b := a) (by decide) ha
theorem am_igt0 {a : Int} (ha : (Int32.ofInt a).toInt = a) : 0 < Int32.ofInt a ↔ 0 < a := am_iLt (a := 0) (b := a) (by decide) ha
theorem am_sw_off {pc : Nat} {d x : Int} (hd : 0 ≤ (pc : Int) + d) : ∀ (ps : List (Int × Int)), ps.all (fun q => decide (0 ≤ (pc : Int) + q.2)) = true →
    (pc : Int) + Op.lookupswitch.offset ps d x = ((am_sw (ps.map fun q => (q.1, ((pc : Int) + q.2).toNat)) ((pc : Int) + d).toNat x : Nat) : Int)
  | [], _ => by
    show (pc : Int) + Op.lookupswitch.offset [] d x = ((((pc : Int) + d).toNat : Nat) : Int)
    unfold Op.lookupswitch.offset
    simp
    omega
  | (k, o) :: r, h => by
    simp only [List.all_cons, Bool.and_eq_true, decide_eq_true_eq] at h
    have ih := am_sw_off hd (x := x) r h.2
    unfold Op.lookupswitch.offset
    simp only [List.map_cons, am_sw]
    by_cases e : x = k
    · subst e
      simp
      omega
    · have e' : ¬ k = x := fun q => e q.symm
      rw [if_neg e, if_neg e']
      exact ih
theorem am_sw_in {pc : Nat} {D : Nat} {x : Int} : ∀ (offs : List Int) (lo : Int) (k : Nat), (∀ i o, offs[i]? = some o → x = lo + ((k + i : Nat) : Int) → am_sw ((offs.zipIdx k).map fun q => (lo + (q.2 : Int), ((pc : Int) + q.1).toNat)) D x = ((pc : Int) + o).toNat)
  | [], _, _, i, o, h, _ => by simp at h
  | a :: r, lo, k, 0, o, h, hx => by
    have h : a = o := by simpa using h
    subst h
    simp only [List.zipIdx_cons, List.map_cons, am_sw]
    rw [if_pos (by simpa using hx)]
  | a :: r, lo, k, i + 1, o, h, hx => by
    have h : r[i]? = some o := by simpa using h
    simp only [List.zipIdx_cons, List.map_cons, am_sw]
    rw [if_neg (by omega)]
    exact am_sw_in r lo (k + 1) i o h (by rw [hx]; congr 2; omega)
theorem am_sw_out {pc : Nat} {D : Nat} {x : Int} : ∀ (offs : List Int) (lo : Int) (k : Nat), (x < lo + (k : Int) ∨ lo + ((k + offs.length : Nat) : Int) ≤ x) → am_sw ((offs.zipIdx k).map fun q => (lo + (q.2 : Int), ((pc : Int) + q.1).toNat)) D x = D
  | [], _, _, _ => rfl
  | a :: r, lo, k, h => by
    simp only [List.zipIdx_cons, List.map_cons, am_sw]
    simp only [List.length_cons] at h
    rw [if_neg (by omega)]
    exact am_sw_out r lo (k + 1) (by omega)
end
section
/-! THE ENCODING IS THE BYTECODE'S: checked by the kernel, entry by entry -/
def am_fl (o i : Nat) : Option Nat := (am_flT.find? (fun e => Nat.beq e.1 o && Nat.beq e.2.1 i)).map (fun e => e.2.2.1)
def am_ml (o i : Nat) : Option (Nat × Nat) := (am_mlT.find? (fun e => Nat.beq e.1 o && Nat.beq e.2.1 i)).map (fun e => (e.2.2.1, e.2.2.2.1))
def am_clk (o i : Nat) : Option Nat := (am_clT.find? (fun e => Nat.beq e.1 o && Nat.beq e.2.1 i)).map (fun e => e.2.2.1)
def am_ct (o i : Nat) : Option Int := (am_ctT.find? (fun e => Nat.beq e.1 o && Nat.beq e.2.1 i)).map (fun e => e.2.2.1)
def am_lt (o i : Nat) : Option Int := (am_ltT.find? (fun e => Nat.beq e.1 o && Nat.beq e.2.1 i)).map (fun e => e.2.2.1)
def am_txk (o i : Nat) : Option Nat := am_txT.findIdx? (fun e => Nat.beq e.1 o && Nat.beq e.2.1 i)
def am_fs (o i : Nat) : Option Nat := (am_fsT.find? (fun e => Nat.beq e.1 o && Nat.beq e.2.1 i)).map (fun e => e.2.2.1)
def am_gs (o i : Nat) : Option Nat := (am_gsT.find? (fun e => Nat.beq e.1 o && Nat.beq e.2.1 i)).map (fun e => e.2.2.1)
def am_np (k : Nat) : Nat := (am_mi k).2.2.2.2.2.2.2.2.2
def am_fin (f : Nat) : Bool := match am_cl[f / 128]? with
  | some q => (q.2.1 (f % 128)).2.2.2
  | none => true
def am_natN (k : Nat) : Nat := match k with
  | 14 => 1
  | 10 => 5
  | 15 => 2
  | 16 => 2
  | _ => 0
def am_tr (k : Nat) (ins : Jvm.ClassFile.Instr) (pc len : Nat) : Option am_I := match ins, len with
  | .getfield i, 3 => match am_fl (am_o k) i with
    | some f => some (24, 0, 1, Int.ofNat f, [])
    | none => match am_fs (am_o k) i with
      | some f => some (24, 19, 1, Int.ofNat f, [])
      | none => none
  | .getstatic i, 3 => match am_gs (am_o k) i with
    | some f => some (24, 18, 0, Int.ofNat f, [])
    | none => none
  | .putfield i, 3 => match am_fl (am_o k) i with
    | some f => if am_fin f = false ∨ (am_o k = f / 128 ∧ (am_y k).name = "<init>") then some (24, 1, 2, Int.ofNat f, []) else none
    | none => none
  | .iaload, 1 => some (24, 2, 2, 0, [])
  | .baload, 1 => some (24, 2, 2, 1, [])
  | .laload, 1 => some (24, 2, 2, 3, [])
  | .aaload, 1 => some (24, 2, 2, 4, [])
  | .iastore, 1 => some (24, 3, 3, 0, [])
  | .bastore, 1 => some (24, 3, 3, 1, [])
  | .lastore, 1 => some (24, 3, 3, 3, [])
  | .aastore, 1 => some (24, 3, 3, 4, [])
  | .arraylength, 1 => some (24, 4, 1, 0, [])
  | .new i, 3 => match am_clk (am_o k) i with
    | some c => some (24, 5, 0, Int.ofNat c, [])
    | none => none
  | .newarray t, 2 => match t with
    | .int => some (24, 6, 1, 0, [])
    | .byte => some (24, 6, 1, 1, [])
    | .boolean => some (24, 6, 1, 2, [])
    | .long => some (24, 6, 1, 3, [])
    | _ => none
  | .anewarray i, 3 => match am_clk (am_o k) i with
    | some c => some (24, 7, 1, Int.ofNat c, [])
    | none => none
  | .multianewarray i 2, 4 => match am_clk (am_o k) i with
    | some 99 => some (24, 8, 2, 0, [])
    | _ => none
  | .ldc i, 2 => match am_ct (am_o k) i with
    | some v => some (0, 0, 0, v, [])
    | none => match am_txk (am_o k) i with
      | some j => some (24, 9, 0, Int.ofNat j, [])
      | none => none
  | .ldc_w i, 3 => match am_ct (am_o k) i with
    | some v => some (0, 0, 0, v, [])
    | none => match am_txk (am_o k) i with
      | some j => some (24, 9, 0, Int.ofNat j, [])
      | none => none
  | .ldc2_w i, 3 => (am_lt (am_o k) i).map fun v => (1, 0, 0, v, [])
  | .invokevirtual i, 3 => match am_ml (am_o k) i with
    | some (0, t) => some (21, t, am_np t + 1, 0, [])
    | _ => none
  | .invokestatic i, 3 => match am_ml (am_o k) i with
    | some (1, t) => some (21, t, am_np t, 1, [])
    | some (4, t) => if t = 10 ∨ t = 15 ∨ t = 16 then some (24, t, am_natN t, 0, []) else none
    | _ => none
  | .invokespecial i, 3 => match am_ml (am_o k) i with
    | some (2, t) => some (21, t, am_np t + 1, 2, [])
    | some (3, t) => some (21, t, am_np t + 1, 3, [])
    | some (4, t) => if t = 14 then some (24, t, am_natN t, 0, []) else none
    | _ => none
  | .ireturn, 1 => match am_rt k with
    | some .int => some (22, 0, 0, 0, [])
    | some .boolean => some (22, 1, 0, 0, [])
    | some .byte => some (22, 4, 0, 0, [])
    | some .char => some (22, 4, 0, 0, [])
    | _ => none
  | .lreturn, 1 => match am_rt k with
    | some .long => some (22, 2, 0, 0, [])
    | _ => none
  | .areturn, 1 => match am_rt k with
    | some (.object _) => some (22, 3, 0, 0, [])
    | _ => none
  | .return_, 1 => match am_rt k with
    | none => some (23, 0, 0, 0, [])
    | _ => none
  | i, len => am_trp i pc len
def am_tbEq : List (Int × Nat) → List (Int × Nat) → Bool
  | [], [] => true
  | (a, b) :: r, (c, d) :: s => decide (a = c) && (Nat.beq b d && am_tbEq r s)
  | _, _ => false
theorem am_tbEq_eq : ∀ {a b : List (Int × Nat)}, am_tbEq a b = true → a = b
  | [], [], _ => rfl
  | (a, b) :: r, (c, d) :: s, h => by
    simp only [am_tbEq, Bool.and_eq_true, decide_eq_true_eq] at h
    obtain ⟨h1, h2, h3⟩ := h
    rw [h1, Nat.eq_of_beq_eq_true h2, am_tbEq_eq h3]
  | [], _ :: _, h => by cases h
  | _ :: _, [], h => by cases h
def am_Ieq : am_I → am_I → Bool
  | (a, b, c, d, e), (a', b', c', d', e') => Nat.beq a a' && (Nat.beq b b' && (Nat.beq c c' && (decide (d = d') && am_tbEq e e')))
theorem am_Ieq_eq : ∀ {a b : am_I}, am_Ieq a b = true → a = b
  | (a, b, c, d, e), (a', b', c', d', e'), h => by
    simp only [am_Ieq, Bool.and_eq_true, decide_eq_true_eq] at h
    obtain ⟨h1, h2, h3, h4, h5⟩ := h
    rw [Nat.eq_of_beq_eq_true h1, Nat.eq_of_beq_eq_true h2, Nat.eq_of_beq_eq_true h3, h4, am_tbEq_eq h5]
def am_chk (k : Nat) (e : Nat × am_I × Nat) : Bool := match decode (am_bc k) e.1 with
  | .ok (ins, len) => (match am_tr k ins e.1 len with
    | some i => am_Ieq i e.2.1
    | none => false) && Nat.beq e.2.2 (e.1 + len)
  | .error _ => false
def am_chkK (k : Nat) : Bool := (am_cs.getD k []).all (am_chk k)
theorem am_chkK_of {k a : Nat} (h1 : ((am_cs.getD k []).take a).all (am_chk k) = true) (h2 : ((am_cs.getD k []).drop a).all (am_chk k) = true) : am_chkK k = true := by
  unfold am_chkK
  rw [← List.take_append_drop a (am_cs.getD k []), List.all_append, h1, h2]
  rfl
def am_chkR (k a : Nat) : Bool := ((am_cs.getD k []).drop a).all (am_chk k)
theorem am_chkR_of {k a b : Nat} (h1 : (((am_cs.getD k []).drop a).take b).all (am_chk k) = true) (h2 : am_chkR k (a + b) = true) : am_chkR k a = true := by
  unfold am_chkR at h2 ⊢
  rw [← List.take_append_drop b ((am_cs.getD k []).drop a), List.all_append, h1, List.drop_drop, h2]
  rfl
theorem am_ckg0 : ∀ j, j < 5 → am_chkK (0 + j) = true := by decide +kernel
theorem am_ckg5 : ∀ j, j < 6 → am_chkK (5 + j) = true := by decide +kernel
theorem am_ckg11 : ∀ j, j < 7 → am_chkK (11 + j) = true := by decide +kernel
theorem am_ckg18 : ∀ j, j < 7 → am_chkK (18 + j) = true := by decide +kernel
theorem am_ckg25 : ∀ j, j < 6 → am_chkK (25 + j) = true := by decide +kernel
theorem am_ckg31 : ∀ j, j < 6 → am_chkK (31 + j) = true := by decide +kernel
theorem am_ckg37 : ∀ j, j < 6 → am_chkK (37 + j) = true := by decide +kernel
theorem am_ckg43 : ∀ j, j < 5 → am_chkK (43 + j) = true := by decide +kernel
theorem am_ckg48 : ∀ j, j < 9 → am_chkK (48 + j) = true := by decide +kernel
theorem am_ckg57 : ∀ j, j < 4 → am_chkK (57 + j) = true := by decide +kernel
theorem am_ckg61 : ∀ j, j < 4 → am_chkK (61 + j) = true := by decide +kernel
theorem am_ckg65 : ∀ j, j < 4 → am_chkK (65 + j) = true := by decide +kernel
theorem am_ckg69 : ∀ j, j < 9 → am_chkK (69 + j) = true := by decide +kernel
theorem am_ckg78 : ∀ j, j < 3 → am_chkK (78 + j) = true := by decide +kernel
theorem am_ckg81 : ∀ j, j < 3 → am_chkK (81 + j) = true := by decide +kernel
theorem am_ckg84 : ∀ j, j < 2 → am_chkK (84 + j) = true := by decide +kernel
theorem am_ckg86 : ∀ j, j < 4 → am_chkK (86 + j) = true := by decide +kernel
theorem am_ckg90 : ∀ j, j < 4 → am_chkK (90 + j) = true := by decide +kernel
theorem am_ckg94 : ∀ j, j < 5 → am_chkK (94 + j) = true := by decide +kernel
theorem am_ckg99 : ∀ j, j < 6 → am_chkK (99 + j) = true := by decide +kernel
theorem am_ckg105 : ∀ j, j < 5 → am_chkK (105 + j) = true := by decide +kernel
theorem am_ckg110 : ∀ j, j < 4 → am_chkK (110 + j) = true := by decide +kernel
theorem am_ckg114 : ∀ j, j < 5 → am_chkK (114 + j) = true := by decide +kernel
theorem am_ckg119 : ∀ j, j < 3 → am_chkK (119 + j) = true := by decide +kernel
theorem am_ckg122 : ∀ j, j < 5 → am_chkK (122 + j) = true := by decide +kernel
theorem am_ckg127 : ∀ j, j < 3 → am_chkK (127 + j) = true := by decide +kernel
theorem am_ckg130 : ∀ j, j < 5 → am_chkK (130 + j) = true := by decide +kernel
theorem am_ckg135 : ∀ j, j < 4 → am_chkK (135 + j) = true := by decide +kernel
theorem am_ckg139 : ∀ j, j < 4 → am_chkK (139 + j) = true := by decide +kernel
theorem am_ckg143 : ∀ j, j < 4 → am_chkK (143 + j) = true := by decide +kernel
theorem am_ckg147 : ∀ j, j < 3 → am_chkK (147 + j) = true := by decide +kernel
theorem am_ckg150 : ∀ j, j < 4 → am_chkK (150 + j) = true := by decide +kernel
theorem am_ckg154 : ∀ j, j < 1 → am_chkK (154 + j) = true := by decide +kernel
theorem am_ck155_0 : (((am_cs.getD 155 []).drop 0).take 50).all (am_chk 155) = true := by decide +kernel
theorem am_ck155_50 : (((am_cs.getD 155 []).drop 50).take 50).all (am_chk 155) = true := by decide +kernel
theorem am_ck155_100 : (((am_cs.getD 155 []).drop 100).take 50).all (am_chk 155) = true := by decide +kernel
theorem am_ck155_150 : (((am_cs.getD 155 []).drop 150).take 50).all (am_chk 155) = true := by decide +kernel
theorem am_ck155_200 : (((am_cs.getD 155 []).drop 200).take 50).all (am_chk 155) = true := by decide +kernel
theorem am_ck155_250 : (((am_cs.getD 155 []).drop 250).take 50).all (am_chk 155) = true := by decide +kernel
theorem am_ckk155 : am_chkR 155 0 = true := (am_chkR_of am_ck155_0 (am_chkR_of am_ck155_50 (am_chkR_of am_ck155_100 (am_chkR_of am_ck155_150 (am_chkR_of am_ck155_200 (am_chkR_of am_ck155_250 (by decide +kernel : am_chkR 155 300 = true)))))))
theorem am_ckg155 : ∀ j, j < 1 → am_chkK (155 + j) = true := fun j h => by rw [show j = 0 by omega]; exact am_ckk155
theorem am_ckg156 : ∀ j, j < 5 → am_chkK (156 + j) = true := by decide +kernel
theorem am_ckg161 : ∀ j, j < 7 → am_chkK (161 + j) = true := by decide +kernel
theorem am_ckg168 : ∀ j, j < 3 → am_chkK (168 + j) = true := by decide +kernel
theorem am_ckg171 : ∀ j, j < 5 → am_chkK (171 + j) = true := by decide +kernel
theorem am_ckg176 : ∀ j, j < 4 → am_chkK (176 + j) = true := by decide +kernel
theorem am_ckg180 : ∀ j, j < 3 → am_chkK (180 + j) = true := by decide +kernel
theorem am_ckg183 : ∀ j, j < 5 → am_chkK (183 + j) = true := by decide +kernel
theorem am_ckg188 : ∀ j, j < 4 → am_chkK (188 + j) = true := by decide +kernel
theorem am_ckg192 : ∀ j, j < 5 → am_chkK (192 + j) = true := by decide +kernel
theorem am_ckg197 : ∀ j, j < 6 → am_chkK (197 + j) = true := by decide +kernel
theorem am_ckg203 : ∀ j, j < 1 → am_chkK (203 + j) = true := by decide +kernel
theorem am_ckg204 : ∀ j, j < 3 → am_chkK (204 + j) = true := by decide +kernel
theorem am_ckg207 : ∀ j, j < 5 → am_chkK (207 + j) = true := by decide +kernel
theorem am_ckg212 : ∀ j, j < 8 → am_chkK (212 + j) = true := by decide +kernel
theorem am_ckg220 : ∀ j, j < 3 → am_chkK (220 + j) = true := by decide +kernel
theorem am_ckg223 : ∀ j, j < 6 → am_chkK (223 + j) = true := by decide +kernel
theorem am_ckg229 : ∀ j, j < 5 → am_chkK (229 + j) = true := by decide +kernel
theorem am_ckg234 : ∀ j, j < 4 → am_chkK (234 + j) = true := by decide +kernel
theorem am_ckg238 : ∀ j, j < 3 → am_chkK (238 + j) = true := by decide +kernel
theorem am_ckg241 : ∀ j, j < 2 → am_chkK (241 + j) = true := by decide +kernel
theorem am_ckg243 : ∀ j, j < 3 → am_chkK (243 + j) = true := by decide +kernel
theorem am_ckg246 : ∀ j, j < 3 → am_chkK (246 + j) = true := by decide +kernel
theorem am_ckg249 : ∀ j, j < 2 → am_chkK (249 + j) = true := by decide +kernel
theorem am_ckg251 : ∀ j, j < 1 → am_chkK (251 + j) = true := by decide +kernel
theorem am_ckg252 : ∀ j, j < 3 → am_chkK (252 + j) = true := by decide +kernel
theorem am_ckg255 : ∀ j, j < 4 → am_chkK (255 + j) = true := by decide +kernel
theorem am_ckg259 : ∀ j, j < 3 → am_chkK (259 + j) = true := by decide +kernel
theorem am_ckg262 : ∀ j, j < 1 → am_chkK (262 + j) = true := by decide +kernel
theorem am_ckg263 : ∀ j, j < 3 → am_chkK (263 + j) = true := by decide +kernel
theorem am_ckg266 : ∀ j, j < 5 → am_chkK (266 + j) = true := by decide +kernel
theorem am_ckg271 : ∀ j, j < 13 → am_chkK (271 + j) = true := by decide +kernel
theorem am_ckg284 : ∀ j, j < 2 → am_chkK (284 + j) = true := by decide +kernel
theorem am_ck286_0 : (((am_cs.getD 286 []).drop 0).take 50).all (am_chk 286) = true := by decide +kernel
theorem am_ck286_50 : (((am_cs.getD 286 []).drop 50).take 50).all (am_chk 286) = true := by decide +kernel
theorem am_ck286_100 : (((am_cs.getD 286 []).drop 100).take 50).all (am_chk 286) = true := by decide +kernel
theorem am_ck286_150 : (((am_cs.getD 286 []).drop 150).take 50).all (am_chk 286) = true := by decide +kernel
theorem am_ck286_200 : (((am_cs.getD 286 []).drop 200).take 50).all (am_chk 286) = true := by decide +kernel
theorem am_ck286_250 : (((am_cs.getD 286 []).drop 250).take 50).all (am_chk 286) = true := by decide +kernel
theorem am_ck286_300 : (((am_cs.getD 286 []).drop 300).take 50).all (am_chk 286) = true := by decide +kernel
theorem am_ck286_350 : (((am_cs.getD 286 []).drop 350).take 50).all (am_chk 286) = true := by decide +kernel
theorem am_ck286_400 : (((am_cs.getD 286 []).drop 400).take 50).all (am_chk 286) = true := by decide +kernel
theorem am_ck286_450 : (((am_cs.getD 286 []).drop 450).take 50).all (am_chk 286) = true := by decide +kernel
theorem am_ck286_500 : (((am_cs.getD 286 []).drop 500).take 50).all (am_chk 286) = true := by decide +kernel
theorem am_ck286_550 : (((am_cs.getD 286 []).drop 550).take 50).all (am_chk 286) = true := by decide +kernel
theorem am_ck286_600 : (((am_cs.getD 286 []).drop 600).take 50).all (am_chk 286) = true := by decide +kernel
theorem am_ck286_650 : (((am_cs.getD 286 []).drop 650).take 50).all (am_chk 286) = true := by decide +kernel
theorem am_ck286_700 : (((am_cs.getD 286 []).drop 700).take 50).all (am_chk 286) = true := by decide +kernel
theorem am_ck286_750 : (((am_cs.getD 286 []).drop 750).take 50).all (am_chk 286) = true := by decide +kernel
theorem am_ck286_800 : (((am_cs.getD 286 []).drop 800).take 50).all (am_chk 286) = true := by decide +kernel
theorem am_ck286_850 : (((am_cs.getD 286 []).drop 850).take 50).all (am_chk 286) = true := by decide +kernel
theorem am_ckk286 : am_chkR 286 0 = true := (am_chkR_of am_ck286_0 (am_chkR_of am_ck286_50 (am_chkR_of am_ck286_100 (am_chkR_of am_ck286_150 (am_chkR_of am_ck286_200 (am_chkR_of am_ck286_250 (am_chkR_of am_ck286_300 (am_chkR_of am_ck286_350 (am_chkR_of am_ck286_400 (am_chkR_of am_ck286_450 (am_chkR_of am_ck286_500 (am_chkR_of am_ck286_550 (am_chkR_of am_ck286_600 (am_chkR_of am_ck286_650 (am_chkR_of am_ck286_700 (am_chkR_of am_ck286_750 (am_chkR_of am_ck286_800 (am_chkR_of am_ck286_850 (by decide +kernel : am_chkR 286 900 = true)))))))))))))))))))
theorem am_ckg286 : ∀ j, j < 1 → am_chkK (286 + j) = true := fun j h => by rw [show j = 0 by omega]; exact am_ckk286
end
section
theorem am_ckAll (k : Nat) : am_chkK k = true := by
  by_cases h : k < 287
  · by_cases h5 : k < 5
    · have q := am_ckg0 (k - 0) (by omega); rwa [show 0 + (k - 0) = k by omega] at q
    by_cases h11 : k < 11
    · have q := am_ckg5 (k - 5) (by omega); rwa [show 5 + (k - 5) = k by omega] at q
    by_cases h18 : k < 18
    · have q := am_ckg11 (k - 11) (by omega); rwa [show 11 + (k - 11) = k by omega] at q
    by_cases h25 : k < 25
    · have q := am_ckg18 (k - 18) (by omega); rwa [show 18 + (k - 18) = k by omega] at q
    by_cases h31 : k < 31
    · have q := am_ckg25 (k - 25) (by omega); rwa [show 25 + (k - 25) = k by omega] at q
    by_cases h37 : k < 37
    · have q := am_ckg31 (k - 31) (by omega); rwa [show 31 + (k - 31) = k by omega] at q
    by_cases h43 : k < 43
    · have q := am_ckg37 (k - 37) (by omega); rwa [show 37 + (k - 37) = k by omega] at q
    by_cases h48 : k < 48
    · have q := am_ckg43 (k - 43) (by omega); rwa [show 43 + (k - 43) = k by omega] at q
    by_cases h57 : k < 57
    · have q := am_ckg48 (k - 48) (by omega); rwa [show 48 + (k - 48) = k by omega] at q
    by_cases h61 : k < 61
    · have q := am_ckg57 (k - 57) (by omega); rwa [show 57 + (k - 57) = k by omega] at q
    by_cases h65 : k < 65
    · have q := am_ckg61 (k - 61) (by omega); rwa [show 61 + (k - 61) = k by omega] at q
    by_cases h69 : k < 69
    · have q := am_ckg65 (k - 65) (by omega); rwa [show 65 + (k - 65) = k by omega] at q
    by_cases h78 : k < 78
    · have q := am_ckg69 (k - 69) (by omega); rwa [show 69 + (k - 69) = k by omega] at q
    by_cases h81 : k < 81
    · have q := am_ckg78 (k - 78) (by omega); rwa [show 78 + (k - 78) = k by omega] at q
    by_cases h84 : k < 84
    · have q := am_ckg81 (k - 81) (by omega); rwa [show 81 + (k - 81) = k by omega] at q
    by_cases h86 : k < 86
    · have q := am_ckg84 (k - 84) (by omega); rwa [show 84 + (k - 84) = k by omega] at q
    by_cases h90 : k < 90
    · have q := am_ckg86 (k - 86) (by omega); rwa [show 86 + (k - 86) = k by omega] at q
    by_cases h94 : k < 94
    · have q := am_ckg90 (k - 90) (by omega); rwa [show 90 + (k - 90) = k by omega] at q
    by_cases h99 : k < 99
    · have q := am_ckg94 (k - 94) (by omega); rwa [show 94 + (k - 94) = k by omega] at q
    by_cases h105 : k < 105
    · have q := am_ckg99 (k - 99) (by omega); rwa [show 99 + (k - 99) = k by omega] at q
    by_cases h110 : k < 110
    · have q := am_ckg105 (k - 105) (by omega); rwa [show 105 + (k - 105) = k by omega] at q
    by_cases h114 : k < 114
    · have q := am_ckg110 (k - 110) (by omega); rwa [show 110 + (k - 110) = k by omega] at q
    by_cases h119 : k < 119
    · have q := am_ckg114 (k - 114) (by omega); rwa [show 114 + (k - 114) = k by omega] at q
    by_cases h122 : k < 122
    · have q := am_ckg119 (k - 119) (by omega); rwa [show 119 + (k - 119) = k by omega] at q
    by_cases h127 : k < 127
    · have q := am_ckg122 (k - 122) (by omega); rwa [show 122 + (k - 122) = k by omega] at q
    by_cases h130 : k < 130
    · have q := am_ckg127 (k - 127) (by omega); rwa [show 127 + (k - 127) = k by omega] at q
    by_cases h135 : k < 135
    · have q := am_ckg130 (k - 130) (by omega); rwa [show 130 + (k - 130) = k by omega] at q
    by_cases h139 : k < 139
    · have q := am_ckg135 (k - 135) (by omega); rwa [show 135 + (k - 135) = k by omega] at q
    by_cases h143 : k < 143
    · have q := am_ckg139 (k - 139) (by omega); rwa [show 139 + (k - 139) = k by omega] at q
    by_cases h147 : k < 147
    · have q := am_ckg143 (k - 143) (by omega); rwa [show 143 + (k - 143) = k by omega] at q
    by_cases h150 : k < 150
    · have q := am_ckg147 (k - 147) (by omega); rwa [show 147 + (k - 147) = k by omega] at q
    by_cases h154 : k < 154
    · have q := am_ckg150 (k - 150) (by omega); rwa [show 150 + (k - 150) = k by omega] at q
    by_cases h155 : k < 155
    · have q := am_ckg154 (k - 154) (by omega); rwa [show 154 + (k - 154) = k by omega] at q
    by_cases h156 : k < 156
    · have q := am_ckg155 (k - 155) (by omega); rwa [show 155 + (k - 155) = k by omega] at q
    by_cases h161 : k < 161
    · have q := am_ckg156 (k - 156) (by omega); rwa [show 156 + (k - 156) = k by omega] at q
    by_cases h168 : k < 168
    · have q := am_ckg161 (k - 161) (by omega); rwa [show 161 + (k - 161) = k by omega] at q
    by_cases h171 : k < 171
    · have q := am_ckg168 (k - 168) (by omega); rwa [show 168 + (k - 168) = k by omega] at q
    by_cases h176 : k < 176
    · have q := am_ckg171 (k - 171) (by omega); rwa [show 171 + (k - 171) = k by omega] at q
    by_cases h180 : k < 180
    · have q := am_ckg176 (k - 176) (by omega); rwa [show 176 + (k - 176) = k by omega] at q
    by_cases h183 : k < 183
    · have q := am_ckg180 (k - 180) (by omega); rwa [show 180 + (k - 180) = k by omega] at q
    by_cases h188 : k < 188
    · have q := am_ckg183 (k - 183) (by omega); rwa [show 183 + (k - 183) = k by omega] at q
    by_cases h192 : k < 192
    · have q := am_ckg188 (k - 188) (by omega); rwa [show 188 + (k - 188) = k by omega] at q
    by_cases h197 : k < 197
    · have q := am_ckg192 (k - 192) (by omega); rwa [show 192 + (k - 192) = k by omega] at q
    by_cases h203 : k < 203
    · have q := am_ckg197 (k - 197) (by omega); rwa [show 197 + (k - 197) = k by omega] at q
    by_cases h204 : k < 204
    · have q := am_ckg203 (k - 203) (by omega); rwa [show 203 + (k - 203) = k by omega] at q
    by_cases h207 : k < 207
    · have q := am_ckg204 (k - 204) (by omega); rwa [show 204 + (k - 204) = k by omega] at q
    by_cases h212 : k < 212
    · have q := am_ckg207 (k - 207) (by omega); rwa [show 207 + (k - 207) = k by omega] at q
    by_cases h220 : k < 220
    · have q := am_ckg212 (k - 212) (by omega); rwa [show 212 + (k - 212) = k by omega] at q
    by_cases h223 : k < 223
    · have q := am_ckg220 (k - 220) (by omega); rwa [show 220 + (k - 220) = k by omega] at q
    by_cases h229 : k < 229
    · have q := am_ckg223 (k - 223) (by omega); rwa [show 223 + (k - 223) = k by omega] at q
    by_cases h234 : k < 234
    · have q := am_ckg229 (k - 229) (by omega); rwa [show 229 + (k - 229) = k by omega] at q
    by_cases h238 : k < 238
    · have q := am_ckg234 (k - 234) (by omega); rwa [show 234 + (k - 234) = k by omega] at q
    by_cases h241 : k < 241
    · have q := am_ckg238 (k - 238) (by omega); rwa [show 238 + (k - 238) = k by omega] at q
    by_cases h243 : k < 243
    · have q := am_ckg241 (k - 241) (by omega); rwa [show 241 + (k - 241) = k by omega] at q
    by_cases h246 : k < 246
    · have q := am_ckg243 (k - 243) (by omega); rwa [show 243 + (k - 243) = k by omega] at q
    by_cases h249 : k < 249
    · have q := am_ckg246 (k - 246) (by omega); rwa [show 246 + (k - 246) = k by omega] at q
    by_cases h251 : k < 251
    · have q := am_ckg249 (k - 249) (by omega); rwa [show 249 + (k - 249) = k by omega] at q
    by_cases h252 : k < 252
    · have q := am_ckg251 (k - 251) (by omega); rwa [show 251 + (k - 251) = k by omega] at q
    by_cases h255 : k < 255
    · have q := am_ckg252 (k - 252) (by omega); rwa [show 252 + (k - 252) = k by omega] at q
    by_cases h259 : k < 259
    · have q := am_ckg255 (k - 255) (by omega); rwa [show 255 + (k - 255) = k by omega] at q
    by_cases h262 : k < 262
    · have q := am_ckg259 (k - 259) (by omega); rwa [show 259 + (k - 259) = k by omega] at q
    by_cases h263 : k < 263
    · have q := am_ckg262 (k - 262) (by omega); rwa [show 262 + (k - 262) = k by omega] at q
    by_cases h266 : k < 266
    · have q := am_ckg263 (k - 263) (by omega); rwa [show 263 + (k - 263) = k by omega] at q
    by_cases h271 : k < 271
    · have q := am_ckg266 (k - 266) (by omega); rwa [show 266 + (k - 266) = k by omega] at q
    by_cases h284 : k < 284
    · have q := am_ckg271 (k - 271) (by omega); rwa [show 271 + (k - 271) = k by omega] at q
    by_cases h286 : k < 286
    · have q := am_ckg284 (k - 284) (by omega); rwa [show 284 + (k - 284) = k by omega] at q
    by_cases h287 : k < 287
    · have q := am_ckg286 (k - 286) (by omega); rwa [show 286 + (k - 286) = k by omega] at q
    omega
  · unfold am_chkK
    have hl : am_cs.length = 287 := by decide +kernel
    have e : am_cs.getD k [] = [] := by
      rw [List.getD_eq_getElem?_getD, List.getElem?_eq_none (by omega)]
      rfl
    rw [e]; rfl
theorem am_lk_mem {pc : Nat} {i : am_I} {nx : Nat} : ∀ {l : List (Nat × am_I × Nat)}, am_lk pc l = some (i, nx) → (pc, i, nx) ∈ l
  | [], h => by cases h
  | (q, j, n) :: r, h => by
    unfold am_lk at h
    cases e : Nat.beq q pc with
    | true =>
      rw [e] at h
      cases h
      rw [Nat.eq_of_beq_eq_true e]
      exact List.mem_cons_self
    | false =>
      rw [e] at h
      exact List.mem_cons_of_mem _ (am_lk_mem h)
theorem am_P_ok {k pc nx : Nat} {i : am_I} (h : am_P k pc = some (i, nx)) : ∃ ins len, decode (am_bc k) pc = .ok (ins, len) ∧ am_tr k ins pc len = some i ∧ nx = pc + len := by
  have h1 := List.all_eq_true.mp (am_ckAll k) _ (am_lk_mem h)
  unfold am_chk at h1
  split at h1
  · rename_i ins len hd
    simp only [Bool.and_eq_true] at h1
    refine ⟨ins, len, hd, ?_, Nat.eq_of_beq_eq_true h1.2⟩
    have h2 := h1.1
    split at h2
    · rename_i j hj
      rw [hj, am_Ieq_eq h2]
    · cases h2
  · cases h1
/-! WHAT THE TABLES SAY: each row's words are among lw_tbl's; checked by the kernel -/
def am_gw : List Cond := lw_tbl.filter goodWord
theorem am_gw_of {w : Cond} (i : Nat) (h : lw_tbl[i]? = some w) (g : goodWord w = true) : w ∈ am_gw := List.mem_filter.mpr ⟨List.mem_of_getElem? h, g⟩
def am_at (i : Nat) (w : Cond) : Bool := decide (lw_tbl[i]? = some w) && goodWord w
theorem am_at_mem {i : Nat} {w : Cond} (h : am_at i w = true) : w ∈ am_gw := by
  unfold am_at at h
  simp only [Bool.and_eq_true, decide_eq_true_eq] at h
  exact am_gw_of i h.1 h.2
theorem am_gw_good : GoodIn am_gw am_gw := fun w h => ⟨h, good_of_word (List.mem_filter.mp h).2⟩
def am_nm (o : Nat) : String := am_own.getD o ""
def am_dq : vw_C := ("", am_F0, 0)
-- fields
def am_flC (e : Nat × Nat × Nat × Nat) : Bool := match am_cl[e.2.2.1 / 128]? with
  | some q => decide (e.2.2.1 % 128 < q.2.2) && (am_at e.2.2.2 (.fieldLink (am_nm e.1) e.2.1 q.1 (q.2.1 (e.2.2.1 % 128)).2.1 (q.2.1 (e.2.2.1 % 128)).2.2.1) && decide ((q.2.1 (e.2.2.1 % 128)).1 = q.1))
  | none => false
theorem am_flAll : am_flT.all am_flC = true := by decide +kernel
theorem am_fl_ok {o i f : Nat} (h : am_fl o i = some f) : ∃ q : vw_C, am_cl[f / 128]? = some q ∧ f % 128 < q.2.2 ∧ Cond.fieldLink (am_nm o) i q.1 (q.2.1 (f % 128)).2.1 (q.2.1 (f % 128)).2.2.1 ∈ am_gw ∧ (q.2.1 (f % 128)).1 = q.1 := by
  unfold am_fl at h
  obtain ⟨e, he, rfl⟩ := Option.map_eq_some_iff.mp h
  have h1 := List.find?_some he
  have h2 := List.all_eq_true.mp am_flAll e (List.mem_of_find?_eq_some he)
  simp only [Bool.and_eq_true] at h1
  rw [← Nat.eq_of_beq_eq_true h1.1, ← Nat.eq_of_beq_eq_true h1.2]
  unfold am_flC at h2
  split at h2
  · rename_i q hq
    simp only [Bool.and_eq_true, decide_eq_true_eq] at h2
    exact ⟨q, hq, h2.1, am_at_mem h2.2.1, h2.2.2⟩
  · cases h2
-- classes
def am_fty (c k : Nat) : FieldType := (parseFieldDescriptor (((am_cl.getD c am_dq).2.1 k).2.2.1)).getD .int
def am_tagOk (t : Nat) (ty : FieldType) : Bool := match t, ty with
  | 0, .int => true
  | 1, .boolean => true
  | 2, .object _ => true
  | 2, .array _ => true
  | _, _ => false
def am_lyT : List (List Nat) := [[583, 585, 587, 589, 591, 593, 595, 597, 599], [158, 160, 162, 164, 166, 168, 170, 172], [343], [306, 308, 310, 312, 314, 316, 318, 320, 322, 324, 326, 328, 330, 332, 334, 336, 338], [226, 228, 230, 232, 234, 236, 238], [376, 378], [363, 365, 367, 369], [399, 401, 403], [435, 437, 439, 441, 443, 445, 447, 449, 451, 453, 455], [485, 487, 489, 491, 493, 495, 497, 499, 501, 503], [529, 531, 533, 535, 537, 539, 541, 543, 545, 547, 549, 551], [567, 569, 571], [1426, 1428, 1430, 1432, 1434, 1436, 1438, 1440, 1442, 1444, 1446, 1448, 1450, 1452, 1454, 1456, 1458, 1460, 1462, 1464, 1466, 1468, 1470, 1472, 1474, 1476, 1478, 1480, 1482, 1484, 1486, 1488, 1490, 1492, 1494, 1496, 1498, 1500, 1502, 1504, 1506, 1508, 1510, 1512, 1514, 1516, 1518, 1520, 1522, 1524, 1526, 1528, 1530, 1532, 1534, 1536, 1538, 1540, 1542, 1544, 1546, 1548, 1550, 1552, 1554, 1556, 1558, 1560, 1562, 1564, 1566, 1568, 1570, 1572]]
def am_lyC (c : Nat) : Bool := match am_cl[c]? with
  | some q => (List.range q.2.2).all fun k => am_at ((am_lyT.getD c []).getD k 0) (u_lay q.1 q.2.1 k)
  | none => false
theorem am_lyA1 : (List.range 6).all am_lyC = true := by decide +kernel
theorem am_lyA2 : [6, 7, 8, 9, 10, 11].all am_lyC = true := by decide +kernel
theorem am_lyA3 : am_lyC 12 = true := by decide +kernel
theorem am_lyAll {c : Nat} (h : c < 13) : am_lyC c = true := by
  by_cases h1 : c < 6
  · exact List.all_eq_true.mp am_lyA1 c (List.mem_range.mpr h1)
  · by_cases h2 : c < 12
    · exact List.all_eq_true.mp am_lyA2 c (by
        rcases (show c = 6 ∨ c = 7 ∨ c = 8 ∨ c = 9 ∨ c = 10 ∨ c = 11 by omega) with rfl | rfl | rfl | rfl | rfl | rfl <;> decide)
    · rw [show c = 12 by omega]; exact am_lyA3
def am_clC (c : Nat) : Bool := match am_cl[c]? with
  | some q => (List.range q.2.2).all (fun k => decide (parseFieldDescriptor (q.2.1 k).2.2.1 = some (am_fty c k)) && am_tagOk ((am_ft c).getD k 9) (am_fty c k)) && Nat.beq (am_ft c).length q.2.2
  | none => false
theorem am_clA1 : (List.range 12).all am_clC = true := by decide +kernel
theorem am_clA2 : am_clC 12 = true := by decide +kernel
theorem am_clAll {c : Nat} (h : c < 13) : am_clC c = true := by
  by_cases h1 : c < 12
  · exact List.all_eq_true.mp am_clA1 c (List.mem_range.mpr h1)
  · rw [show c = 12 by omega]; exact am_clA2
def am_nmC (c : Nat) : Bool := match am_cl[c]? with
  | some q => (List.range q.2.2).all fun a => (List.range q.2.2).all fun b => decide (a = b) || decide ((q.2.1 a).2.1 ≠ (q.2.1 b).2.1)
  | none => false
theorem am_nmAll : (List.range 13).all am_nmC = true := by decide +kernel
theorem am_cl_lt {c : Nat} {q : vw_C} (h : am_cl[c]? = some q) : c < 13 := (List.getElem?_eq_some_iff.mp h).1
theorem am_cl_ok {c : Nat} {q : vw_C} (h : am_cl[c]? = some q) : (∀ w ∈ u_ws q.1 q.2.1 q.2.2, w ∈ am_gw) ∧ (∀ k, k < q.2.2 → parseFieldDescriptor (q.2.1 k).2.2.1 = some (am_fty c k)) ∧ (∀ k, k < q.2.2 → am_tagOk ((am_ft c).getD k 9) (am_fty c k) = true) ∧ (am_ft c).length = q.2.2 := by
  have h1 := am_clAll (am_cl_lt h)
  have h0 := am_lyAll (am_cl_lt h)
  unfold am_clC at h1
  unfold am_lyC at h0
  rw [h] at h1 h0
  simp only [Bool.and_eq_true, decide_eq_true_eq, List.all_eq_true] at h1 h0
  refine ⟨fun w hw => ?_, fun k hk => (h1.1 k (List.mem_range.mpr hk)).1, fun k hk => (h1.1 k (List.mem_range.mpr hk)).2, Nat.eq_of_beq_eq_true h1.2⟩
  obtain ⟨k, hk, rfl⟩ := List.mem_map.mp hw
  exact am_at_mem (h0 k hk)
theorem am_cl_nm {c : Nat} {q : vw_C} (h : am_cl[c]? = some q) : ∀ a, a < q.2.2 → ∀ b, b < q.2.2 → a ≠ b → (q.2.1 a).2.1 ≠ (q.2.1 b).2.1 := by
  have h1 := List.all_eq_true.mp am_nmAll c (List.mem_range.mpr (am_cl_lt h))
  unfold am_nmC at h1
  rw [h] at h1
  intro a ha b hb hab
  have h2 := List.all_eq_true.mp (List.all_eq_true.mp h1 a (List.mem_range.mpr ha)) b (List.mem_range.mpr hb)
  simp only [Bool.or_eq_true, decide_eq_true_eq] at h2
  exact h2.resolve_left hab
-- methods
def am_lEqB : List UInt8 → List UInt8 → Bool
  | [], [] => true
  | a :: r, b :: t => Nat.beq a.toNat b.toNat && am_lEqB r t
  | _, _ => false
theorem am_lEqB_eq : ∀ {a b : List UInt8}, am_lEqB a b = true → a = b
  | [], [], _ => rfl
  | a :: r, b :: t, h => by
    simp only [am_lEqB, Bool.and_eq_true] at h
    rw [UInt8.toNat_inj.mp (Nat.eq_of_beq_eq_true h.1), am_lEqB_eq h.2]
  | [], _ :: _, h => by cases h
  | _ :: _, [], h => by cases h
def am_bEq (a b : ByteArray) : Bool := am_lEqB a.data.toList b.data.toList
theorem am_bEq_eq {a b : ByteArray} (h : am_bEq a b = true) : a = b := by
  have h1 := am_lEqB_eq h
  cases a; cases b
  congr
  exact Array.toList_inj.mp h1
def am_codeC (e : am_MI) : Bool := match e with
  | (y, bc, nl, rt, p1, _) => match lw_tbl[p1]? with
    | some (.code y' b' n' r') => decide (y' = y) && (am_bEq b' bc && (Nat.beq n' nl && decide (r' = rt)))
    | _ => false
theorem am_codeA1 : ((am_mt.take am_NM).take 70).all am_codeC = true := by decide +kernel
theorem am_codeA2 : (((am_mt.take am_NM).drop 70).take 70).all am_codeC = true := by decide +kernel
theorem am_codeA3 : (((am_mt.take am_NM).drop 140).take 70).all am_codeC = true := by decide +kernel
theorem am_codeA4 : ((am_mt.take am_NM).drop 210).all am_codeC = true := by decide +kernel
def am_mC (e : am_MI) : Bool := match e with
  | (y, _, nl, _, _, st, p2, ps, pi, np) => am_at pi (.initialized y.cls) && ((if st = 1 then am_at p2 (.static y) else am_at p2 (.instanceMethod y)) && ((Nat.beq ps 0 || am_at (ps - 1) (.selects y.cls y y)) && (plainFor y && (decide (y.cls ≠ "java/lang/invoke/MethodHandle") && (decide (y.cls ≠ "java/lang/invoke/VarHandle") && (decide ((parseMethodDescriptor y.desc).map (fun d => d.parameters.length) = some np) && decide (nl ≤ 40)))))))
theorem am_mA1 : ((am_mt.take am_NM).take 70).all am_mC = true := by decide +kernel
theorem am_mA2 : (((am_mt.take am_NM).drop 70).take 70).all am_mC = true := by decide +kernel
theorem am_mA3 : (((am_mt.take am_NM).drop 140).take 70).all am_mC = true := by decide +kernel
theorem am_mA4 : ((am_mt.take am_NM).drop 210).all am_mC = true := by decide +kernel
theorem am_all4 {α : Type} {l : List α} {f : α → Bool} {a b c : Nat} (h1 : (l.take a).all f = true) (h2 : ((l.drop a).take b).all f = true) (h3 : ((l.drop (a + b)).take c).all f = true) (h4 : (l.drop (a + b + c)).all f = true) : l.all f = true := by
  rw [← List.take_append_drop a l, List.all_append, h1, Bool.true_and, ← List.take_append_drop b (l.drop a), List.all_append, h2, Bool.true_and, List.drop_drop, ← List.take_append_drop c (l.drop (a + b)), List.all_append, h3, Bool.true_and, List.drop_drop]
  exact h4
theorem am_codeAll : (am_mt.take am_NM).all am_codeC = true := am_all4 am_codeA1 am_codeA2 am_codeA3 am_codeA4
theorem am_mAll : (am_mt.take am_NM).all am_mC = true := am_all4 am_mA1 am_mA2 am_mA3 am_mA4
theorem am_mt_len : am_mt.length = am_NM + 1 := by decide +kernel
theorem am_mi_mem {k : Nat} (h : k < am_NM) : am_mi k ∈ am_mt.take am_NM := by
  have hl := am_mt_len
  have h1 : am_mt[k]? = some (am_mi k) := by
    unfold am_mi
    rw [List.getD_eq_getElem?_getD]
    cases e : am_mt[k]? with
    | none => have := List.getElem?_eq_none_iff.mp e; omega
    | some z => rfl
  refine List.mem_of_getElem? (i := k) ?_
  rw [List.getElem?_take, if_pos h]
  exact h1
theorem am_m_code {k : Nat} (h : k < am_NM) : Cond.code (am_y k) (am_bc k) (am_nl k) (am_rt k) ∈ am_gw := by
  have h1 := List.all_eq_true.mp am_codeAll _ (am_mi_mem h)
  unfold am_y am_bc am_nl am_rt
  generalize am_mi k = e at h1
  obtain ⟨y, bc, nl, rt, p1, r⟩ := e
  unfold am_codeC at h1
  simp only at h1
  split at h1
  · rename_i y' b' n' r' hw
    simp only [Bool.and_eq_true, decide_eq_true_eq] at h1
    obtain ⟨h2, h3, h4, h5⟩ := h1
    rw [← h2, ← am_bEq_eq h3, ← Nat.eq_of_beq_eq_true h4, ← h5]
    exact am_gw_of p1 hw rfl
  · cases h1
def am_stat (k : Nat) : Nat := (am_mi k).2.2.2.2.2.1
def am_selp (k : Nat) : Nat := (am_mi k).2.2.2.2.2.2.2.1
theorem am_m_ok {k : Nat} (h : k < am_NM) : Cond.initialized (am_y k).cls ∈ am_gw ∧ (if am_stat k = 1 then Cond.static (am_y k) ∈ am_gw else Cond.instanceMethod (am_y k) ∈ am_gw) ∧ (¬ am_selp k = 0 → Cond.selects (am_y k).cls (am_y k) (am_y k) ∈ am_gw) ∧ plainFor (am_y k) = true ∧ (am_y k).cls ≠ "java/lang/invoke/MethodHandle" ∧ (am_y k).cls ≠ "java/lang/invoke/VarHandle" ∧ (parseMethodDescriptor (am_y k).desc).map (fun d => d.parameters.length) = some (am_np k) ∧ am_nl k ≤ 40 := by
  have h1 := List.all_eq_true.mp am_mAll _ (am_mi_mem h)
  unfold am_y am_nl am_stat am_selp am_np
  generalize am_mi k = e at h1
  obtain ⟨y, bc, nl, rt, p1, st, p2, ps, pi, np⟩ := e
  unfold am_mC at h1
  simp only [Bool.and_eq_true, Bool.or_eq_true, decide_eq_true_eq] at h1
  obtain ⟨h2, h3, h4, h5, h6, h7, h8, h9⟩ := h1
  refine ⟨am_at_mem h2, ?_, fun hp => ?_, h5, h6, h7, h8, h9⟩
  · show if st = 1 then _ else _
    by_cases q : st = 1
    · rw [if_pos q] at h3 ⊢; exact am_at_mem h3
    · rw [if_neg q] at h3 ⊢; exact am_at_mem h3
  · rcases h4 with z | z
    · exact absurd (Nat.eq_of_beq_eq_true z) hp
    · exact am_at_mem z
-- links of methods, classes, constants
def am_natM (t : Nat) : MethodName := match t with
  | 14 => Lib.objectInit
  | 10 => arraycopyName
  | 15 => Lib.Math.max.name
  | 16 => Lib.Math.min.name
  | _ => Lib.objectInit
def am_mlC (e : Nat × Nat × Nat × Nat × Nat) : Bool := match e with
  | (o, i, how, t, pos) => match how with
    | 0 => am_at pos (.methodLink (am_nm o) i (am_y t)) && (decide (t < am_NM) && (!(Nat.beq (am_selp t) 0) && !(Nat.beq (am_stat t) 1)))
    | 1 => am_at pos (.methodLink (am_nm o) i (am_y t)) && (decide (t < am_NM) && Nat.beq (am_stat t) 1)
    | 2 => am_at pos (.methodLink (am_nm o) i (am_y t)) && (decide (t < am_NM) && (decide ((am_y t).name = "<init>") && (!(Nat.beq (am_stat t) 1) && decide (am_rt t = none))))
    | 3 => decide (t < am_NM) && (decide ((am_y t).name = "<init>") && (!(Nat.beq (am_stat t) 1) && decide (am_rt t = none)))
    | 4 => am_at pos (.methodLink (am_nm o) i (am_natM t))
    | _ => false
theorem am_mlA1 : (am_mlT.take 200).all am_mlC = true := by decide +kernel
theorem am_mlA2 : (am_mlT.drop 200).all am_mlC = true := by decide +kernel
theorem am_mlAll : am_mlT.all am_mlC = true := by
  rw [← List.take_append_drop 200 am_mlT, List.all_append, am_mlA1, am_mlA2]; rfl
theorem am_ml_ok {o i how t : Nat} (h : am_ml o i = some (how, t)) : ∃ pos, am_mlC (o, i, how, t, pos) = true ∧ (o, i, how, t, pos) ∈ am_mlT := by
  unfold am_ml at h
  obtain ⟨e, he, h⟩ := Option.map_eq_some_iff.mp h
  have h1 := List.find?_some he
  have hm := List.mem_of_find?_eq_some he
  have h2 := List.all_eq_true.mp am_mlAll e hm
  simp only [Bool.and_eq_true] at h1
  obtain ⟨a, b, c, d, q⟩ := e
  cases h
  have e1 := Nat.eq_of_beq_eq_true h1.1
  have e2 := Nat.eq_of_beq_eq_true h1.2
  simp only at e1 e2
  subst e1; subst e2
  exact ⟨q, h2, hm⟩
def am_clkC (e : Nat × Nat × Nat × Nat) : Bool := match e with
  | (o, i, c, pos) => match am_cl[c]? with
    | some q => am_at pos (.classLink (am_nm o) i q.1) && ((lw_tbl.any fun w => match w with
      | .instantiable C n => decide (C = q.1) && Nat.beq n q.2.2
      | _ => false) && (lw_tbl.any fun w => match w with
      | .initialized C => decide (C = q.1)
      | _ => false))
    | none => am_at pos (.classLink (am_nm o) i "[[I")
theorem am_clkAll : am_clT.all am_clkC = true := by decide +kernel
theorem am_clk_ok {o i c : Nat} {q : vw_C} (h : am_clk o i = some c) (hq : am_cl[c]? = some q) : Cond.classLink (am_nm o) i q.1 ∈ am_gw ∧ Cond.instantiable q.1 q.2.2 ∈ am_gw ∧ Cond.initialized q.1 ∈ am_gw := by
  unfold am_clk at h
  obtain ⟨e, he, h⟩ := Option.map_eq_some_iff.mp h
  have h1 := List.find?_some he
  have h2 := List.all_eq_true.mp am_clkAll e (List.mem_of_find?_eq_some he)
  simp only [Bool.and_eq_true] at h1
  obtain ⟨a, b, d, p⟩ := e
  cases h
  have e1 := Nat.eq_of_beq_eq_true h1.1
  have e2 := Nat.eq_of_beq_eq_true h1.2
  simp only at e1 e2
  subst e1; subst e2
  unfold am_clkC at h2
  simp only at h2 hq
  rw [hq] at h2
  simp only [Bool.and_eq_true] at h2
  obtain ⟨h3, h4, h5⟩ := h2
  refine ⟨am_at_mem h3, ?_, ?_⟩
  · obtain ⟨w, hw, hz⟩ := List.any_eq_true.mp h4
    split at hz
    · simp only [Bool.and_eq_true, decide_eq_true_eq] at hz
      rw [← hz.1, ← Nat.eq_of_beq_eq_true hz.2]
      exact List.mem_filter.mpr ⟨hw, rfl⟩
    · cases hz
  · obtain ⟨w, hw, hz⟩ := List.any_eq_true.mp h5
    split at hz
    · simp only [decide_eq_true_eq] at hz
      rw [← hz]
      exact List.mem_filter.mpr ⟨hw, rfl⟩
    · cases hz
theorem am_ctAll : am_ctT.all (fun e => am_at e.2.2.2 (.constant (am_nm e.1) e.2.1 (Int32.ofInt e.2.2.1)) && decide ((Int32.ofInt e.2.2.1).toInt = e.2.2.1)) = true := by decide +kernel
theorem am_ct_ok {o i : Nat} {v : Int} (h : am_ct o i = some v) : Cond.constant (am_nm o) i (Int32.ofInt v) ∈ am_gw ∧ (Int32.ofInt v).toInt = v := by
  unfold am_ct at h
  obtain ⟨e, he, rfl⟩ := Option.map_eq_some_iff.mp h
  have h1 := List.find?_some he
  have h2 := List.all_eq_true.mp am_ctAll e (List.mem_of_find?_eq_some he)
  simp only [Bool.and_eq_true, decide_eq_true_eq] at h1 h2
  rw [← Nat.eq_of_beq_eq_true h1.1, ← Nat.eq_of_beq_eq_true h1.2]
  exact ⟨am_at_mem h2.1, h2.2⟩
theorem am_ltAll : am_ltT.all (fun e => am_at e.2.2.2 (.constantLong (am_nm e.1) e.2.1 (Int64.ofInt e.2.2.1)) && decide ((Int64.ofInt e.2.2.1).toInt = e.2.2.1)) = true := by decide +kernel
theorem am_lt_ok {o i : Nat} {v : Int} (h : am_lt o i = some v) : Cond.constantLong (am_nm o) i (Int64.ofInt v) ∈ am_gw ∧ (Int64.ofInt v).toInt = v := by
  unfold am_lt at h
  obtain ⟨e, he, rfl⟩ := Option.map_eq_some_iff.mp h
  have h1 := List.find?_some he
  have h2 := List.all_eq_true.mp am_ltAll e (List.mem_of_find?_eq_some he)
  simp only [Bool.and_eq_true, decide_eq_true_eq] at h1 h2
  rw [← Nat.eq_of_beq_eq_true h1.1, ← Nat.eq_of_beq_eq_true h1.2]
  exact ⟨am_at_mem h2.1, h2.2⟩
theorem am_tx_ok {o i j : Nat} (h : am_txk o i = some j) : j < 23 ∧ ∃ p, am_txT.getD j (0, 0, 0) = (o, i, p) := by
  unfold am_txk at h
  obtain ⟨h1, h2, -⟩ := List.findIdx?_eq_some_iff_getElem.mp h
  simp only [Bool.and_eq_true] at h2
  refine ⟨h1, (am_txT[j]).2.2, ?_⟩
  rw [List.getD_eq_getElem?_getD, List.getElem?_eq_getElem h1, Option.getD_some]
  rw [← Nat.eq_of_beq_eq_true h2.1, ← Nat.eq_of_beq_eq_true h2.2]
-- fields of texts, statics
def am_fsC (e : Nat × Nat × Nat × Nat) : Bool := match e with
  | (o, i, f, pos) => match f with
    | 0 => am_at pos (.fieldLink (am_nm o) i "java/lang/String" "value" "[B")
    | 1 => am_at pos (.fieldLink (am_nm o) i "java/lang/String" "coder" "B")
    | _ => false
theorem am_fsAll : am_fsT.all am_fsC = true := by decide +kernel
theorem am_fs_ok {o i f : Nat} (h : am_fs o i = some f) : ∃ p, am_fsC (o, i, f, p) = true := by
  unfold am_fs at h
  obtain ⟨e, he, h⟩ := Option.map_eq_some_iff.mp h
  have h1 := List.find?_some he
  have h2 := List.all_eq_true.mp am_fsAll e (List.mem_of_find?_eq_some he)
  simp only [Bool.and_eq_true] at h1
  obtain ⟨a, b, d, p⟩ := e
  cases h
  have e1 := Nat.eq_of_beq_eq_true h1.1
  have e2 := Nat.eq_of_beq_eq_true h1.2
  simp only at e1 e2
  subst e1; subst e2
  exact ⟨p, h2⟩
def am_gsC (e : Nat × Nat × Nat × Nat) : Bool := match e with
  | (o, i, f, pos) => match f with
    | 0 => am_at pos (.fieldLink (am_nm o) i "java/lang/String" "COMPACT_STRINGS" "Z")
    | 1 => am_at pos (.fieldLink (am_nm o) i "jdk/internal/util/Preconditions" "SIOOBE_FORMATTER" "Ljava/util/function/BiFunction;")
    | _ => false
theorem am_gsAll : am_gsT.all am_gsC = true := by decide +kernel
theorem am_gs_ok {o i f : Nat} (h : am_gs o i = some f) : ∃ p, am_gsC (o, i, f, p) = true := by
  unfold am_gs at h
  obtain ⟨e, he, h⟩ := Option.map_eq_some_iff.mp h
  have h1 := List.find?_some he
  have h2 := List.all_eq_true.mp am_gsAll e (List.mem_of_find?_eq_some he)
  simp only [Bool.and_eq_true] at h1
  obtain ⟨a, b, d, p⟩ := e
  cases h
  have e1 := Nat.eq_of_beq_eq_true h1.1
  have e2 := Nat.eq_of_beq_eq_true h1.2
  simp only at e1 e2
  subst e1; subst e2
  exact ⟨p, h2⟩
end
section
/-- the array class whose components are rows of ty is there, and anewarray's kin finds it -/
def va_AOA (ty : FieldType) (U : State) : Prop := (Cond.arrayOver (.array ty)).before #[] U = true
theorem va_AOA.use {ty : FieldType} {A : Array Value} {U : State} (h : va_AOA ty U) : (Cond.arrayOver (.array ty)).before A U = true := h
theorem va_AOA.moved {ty : FieldType} {u U : State} (hvm : u.vm.Alike U.vm) (h : va_AOA ty u) : va_AOA ty U := by
  have h1 : (Cond.arrayOver (.array ty)).before #[] (u.setVm U.vm) = true := by rw [Cond.arrayOver_setVmC hvm]; exact h
  exact h1
/-! ===== BEGIN new T[n][m]: the outer array a place, the inner ones among the pooled ===== -/
/-- f, but v at every address of l -/
def vr_up {α : Type} (f : Nat → α) (l : List Nat) (v : α) : Nat → α := fun a => if a ∈ l then v else f a
theorem vr_up_in {α : Type} {f : Nat → α} {l : List Nat} {v : α} {a : Nat} (h : a ∈ l) : vr_up f l v a = v := if_pos h
theorem vr_up_ne {α : Type} {f : Nat → α} {l : List Nat} {v : α} {a : Nat} (h : a ∉ l) : vr_up f l v a = f a := if_neg h
theorem vr_rows {L l : List Nat} {f : Nat → va_E} {e : va_E} (h : ∀ a, a ∈ l → a ∉ L) : va_pl L f ++ l.map (fun a => (a, e)) = va_pl (L ++ l) (vr_up f l e) := by
  unfold va_pl
  rw [List.map_append]
  congr 1
  · apply List.map_congr_left
    intro a ha
    rw [vr_up_ne (fun q => h a q ha)]
  · apply List.map_congr_left
    intro a ha
    rw [vr_up_in ha]
theorem vr_lay {X rows : va_W} {x : Nat × va_E} {pl : va_W} {D : va_G} {cl : List vw_C} {H : Heap} (hP : va_P D cl (((X ++ pl) ++ [x]) ++ rows) H) : va_P D cl ((X ++ [x]) ++ (pl ++ rows)) H := by
  rw [List.append_assoc (X ++ pl)] at hP
  have h := va_P.swap hP
  rw [← List.append_assoc X] at h
  have h2 := va_P.swap h
  rw [List.append_assoc (X ++ [x])] at h2
  exact h2
theorem vr_layD {X rows : va_W} {x : Nat × va_E} {pl : va_W} {A : Nat → Prop} (hD : va_D A (((X ++ pl) ++ [x]) ++ rows)) : va_D A ((X ++ [x]) ++ (pl ++ rows)) := by
  rw [List.append_assoc (X ++ pl)] at hD
  have h := va_D.swap hD
  rw [← List.append_assoc X] at h
  have h2 := va_D.swap h
  rw [List.append_assoc (X ++ [x])] at h2
  exact h2
theorem vr_outer (c : ClassId) (N h0 : Nat) : ∀ i : Nat, Jvm.Free.Multi.outerC c N h0 i = arrV c N (fun j => va_rf (if j < i then some (h0 + 1 + j) else none))
  | 0 => by
    show ({ cls := c, slots := Array.replicate N .null, vm := .none } : Cell) = _
    rw [arrV_new]
    refine congrArg (arrV c N) (funext fun j => ?_)
    simp [va_rf]
  | i + 1 => by
    show (Jvm.Free.Multi.outerC c N h0 i).setSlot i (.ref (h0 + 1 + i)) = _
    rw [vr_outer c N h0 i, arrV_store]
    refine congrArg (arrV c N) (funext fun j => ?_)
    by_cases e : j = i
    · subst e
      simp [updV, va_rf]
    · by_cases h : j < i
      · simp [updV, e, h, Nat.lt_succ_of_lt h]
      · simp [updV, e, h, show ¬ j < i + 1 by omega]
section VGM
variable {p : Program} {l : Launch} {e : Env} {R : Room} {s : State} {m : MethodId} {args : Array Value} {below : List Frame} {meth : Method} {c : Code} {H : Heap} {locs : List Loc} {cells slots : Nat} {Q : State → Prop}
variable {cc : ByteArray} {pc : Nat} {ls : Array Slot} {rest : List Value} {D : va_G} {cl : List vw_C} {A : Nat → Prop} {a : Nat} {tys : List (ClassId × FieldType)} {ws : va_W} {H0 : Heap}
theorem va_mna {X : va_W} {L : List Nat} {f : Nat → va_E} {cc : ByteArray} (hexec : p.tables.exec = Jvm.exec) (hb : c.code = cc) {own : String} {index : Nat} {ty : FieldType} {cy : ClassId} (hown : s.vm.findClass own = some m.cls) (hclink : (Cond.classLink own index ("[" ++ (FieldType.array ty).toString)).before args s = true) (hover : va_AOA ty s) (harr : (Cond.arrayClass ty).before args s = true) (hcy : s.vm.findClass (FieldType.array ty).toString = some cy)
    (hK : va_K D cl tys s) (hP : va_P D cl (X ++ va_pl L f) H) (hD : va_D A (X ++ va_pl L f)) (hS : va_S A H0 H locs) (hA : ∀ q, H0.size ≤ q → A q) {n k : Int32} {N' K' : Nat} {z : vp_A} (hn : ¬ n < 0) (hk : ¬ k < 0) (hN : n.toNatClampNeg = N') (hM : k.toNatClampNeg = K')
    (hb1 : N' * 4 ≤ 536870912) (hb2 : K' * componentBytes ty ≤ 536870912) (hb3 : K' ≤ 536870912) (hdf : fits ty (defaultValue ty) = true) (hdd : (defaultValue ty).isDefault = true) (hcells : cells + (1 + N') ≤ R.cells) (hslots : slots + (N' + N' * K') ≤ R.slots) (hz : ∀ c : ClassId, Jvm.Free.Multi.innerC c K' (defaultValue ty) = vp_cell c z) (hdg : decode cc pc = .ok (.multianewarray index 2, 4))
    (kk : ∀ (q : Nat) (r : Nat → Nat) (cA : ClassId) (H1 : Heap), (∀ i j : Nat, i < N' → j < N' → r i = r j → i = j) → (∀ i : Nat, i < N' → r i ∉ L) → va_K D cl (tys ++ [(cA, .array ty)]) s →
      va_P D cl ((X ++ [(q, .inl (cA, N', .inr (.inr (.inr (.inr (fun i => if i < N' then some (r i) else none))))))]) ++ va_pl (L ++ (List.range N').map r) (vr_up f ((List.range N').map r) (.inl (cy, z)))) H1 → va_D A ((X ++ [(q, .inl (cA, N', .inr (.inr (.inr (.inr (fun i => if i < N' then some (r i) else none))))))]) ++ va_pl (L ++ (List.range N').map r) (vr_up f ((List.range N').map r) (.inl (cy, z)))) → va_S A H0 H1 locs →
      W p l e R s m args below meth c H1 locs (cells + 1 + N') (slots + N' + N' * K') Q (F0 m (pc + 4) ls (.ref q :: rest))) : W p l e R s m args below meth c H locs cells slots Q (F0 m pc ls (.int k :: .int n :: rest)) := by
  subst hN
  subst hM
  intro T hT Xs
  obtain ⟨vm₁, cA, comp, -, fA, fC, hO, -, X', step⟩ := Xs.multianewarray2F hexec hown hclink (va_AOA.use hover) harr (g := F0 m pc ls (.int k :: .int n :: rest)) rfl (by rw [hb]; exact hdg) rfl hn hk hb1 hb2 hb3 hdf hdd hcells hslots
  have ec : some cy = some comp := hcy.symm.trans fC
  cases ec
  generalize hF : Jvm.Free.Multi.fill (T.setVm vm₁) cA cy n.toNatClampNeg k.toNatClampNeg (defaultValue ty) n.toNatClampNeg = F at X' step
  have hTh : (T.setVm vm₁).heap = H := hT
  obtain ⟨f1, f2, -, -⟩ := Jvm.Free.Multi.fill_facts (T.setVm vm₁) cA cy n.toNatClampNeg k.toNatClampNeg (defaultValue ty) n.toNatClampNeg
  rw [hF, hTh] at f1 f2
  have hold : ∀ x : Nat, x < H.size → F.heap[x]? = H[x]? := fun x hx => by
    have := Jvm.Free.Multi.fill_old (T.setVm vm₁) cA cy n.toNatClampNeg k.toNatClampNeg (defaultValue ty) (a := x) (by rw [hTh]; exact hx) n.toNatClampNeg
    rw [hF, hTh] at this
    exact this
  have hrow : ∀ j : Nat, j < n.toNatClampNeg → F.heap[H.size + 1 + j]? = some (vp_cell cy z) := fun j hj => by
    have := Jvm.Free.Multi.fill_inner (T.setVm vm₁) cA cy n.toNatClampNeg k.toNatClampNeg (defaultValue ty) n.toNatClampNeg j hj
    rw [hF, hTh, hz] at this
    exact this
  have hout : Jvm.Free.Multi.outerC cA n.toNatClampNeg H.size n.toNatClampNeg = vp_cell cA (n.toNatClampNeg, .inr (.inr (.inr (.inr (fun i => if i < n.toNatClampNeg then some (H.size + 1 + i) else none))))) := by
    rw [vp_cell_q]
    exact vr_outer cA n.toNatClampNeg H.size n.toNatClampNeg
  rw [hout] at f2
  have hlt : ∀ a, a ∈ L → a < H.size := fun a ha => by
    obtain ⟨k9, hk9⟩ := va_pl_get (X := X) (f := f) ha
    exact (hP k9 _ hk9).lt
  have hnl : ∀ i : Nat, i < n.toNatClampNeg → H.size + 1 + i ∉ L := fun i _ h => by
    have := hlt _ h
    omega
  have hnm : ∀ a, a ∈ (List.range n.toNatClampNeg).map (fun i => H.size + 1 + i) → a ∉ L := fun a ha h => by
    obtain ⟨i, -, rfl⟩ := List.mem_map.mp ha
    have := hlt _ h
    omega
  have hP0 : va_P D cl (X ++ va_pl L f) F.heap := hP.kept (fun k9 x hx => hold x.1 ((hP k9 x hx).lt))
  have hP1 : va_P D cl ((X ++ va_pl L f) ++ [(H.size, .inl (cA, n.toNatClampNeg, .inr (.inr (.inr (.inr (fun i => if i < n.toNatClampNeg then some (H.size + 1 + i) else none))))))]) F.heap := hP0.app (fun k9 x hx => by
    have h0 : k9 < 1 := (List.getElem?_eq_some_iff.mp hx).1
    rw [show k9 = 0 by omega] at hx
    cases hx
    exact f2)
  have hP2 : va_P D cl (((X ++ va_pl L f) ++ [(H.size, .inl (cA, n.toNatClampNeg, .inr (.inr (.inr (.inr (fun i => if i < n.toNatClampNeg then some (H.size + 1 + i) else none))))))]) ++ ((List.range n.toNatClampNeg).map (fun i => H.size + 1 + i)).map (fun a => (a, .inl (cy, z)))) F.heap := hP1.app (fun k9 x hx => by
    obtain ⟨a, ha, rfl⟩ := List.mem_map.mp (List.mem_of_getElem? hx)
    obtain ⟨i, hi, rfl⟩ := List.mem_map.mp ha
    exact hrow i (List.mem_range.mp hi))
  have hD2 : va_D A (((X ++ va_pl L f) ++ [(H.size, .inl (cA, n.toNatClampNeg, .inr (.inr (.inr (.inr (fun i => if i < n.toNatClampNeg then some (H.size + 1 + i) else none))))))]) ++ ((List.range n.toNatClampNeg).map (fun i => H.size + 1 + i)).map (fun a => (a, .inl (cy, z)))) := by
    have hD1 := hD.push (e := .inl (cA, n.toNatClampNeg, .inr (.inr (.inr (.inr (fun i => if i < n.toNatClampNeg then some (H.size + 1 + i) else none)))))) hP rfl (hA _ hS.1)
    generalize hW1 : (X ++ va_pl L f) ++ [(H.size, .inl (cA, n.toNatClampNeg, .inr (.inr (.inr (.inr (fun i => if i < n.toNatClampNeg then some (H.size + 1 + i) else none))))))] = W1 at hD1 hP1 ⊢
    have hle : ∀ (k9 : Nat) (x : Nat × va_E), W1[k9]? = some x → x.1 ≤ H.size := fun k9 x hx => by
      rw [← hW1] at hx
      by_cases hl : k9 < (X ++ va_pl L f).length
      · rw [List.getElem?_append_left hl] at hx
        exact Nat.le_of_lt ((hP k9 x hx).lt)
      · rw [List.getElem?_append_right (by omega)] at hx
        have h0 : k9 - (X ++ va_pl L f).length < 1 := (List.getElem?_eq_some_iff.mp hx).1
        rw [show k9 - (X ++ va_pl L f).length = 0 by omega] at hx
        cases hx
        exact Nat.le_refl _
    have hr : ∀ (k9 : Nat) (x : Nat × va_E), (((List.range n.toNatClampNeg).map (fun i => H.size + 1 + i)).map (fun a => ((a, .inl (cy, z)) : Nat × va_E)))[k9]? = some x → x.1 = H.size + 1 + k9 := fun k9 x hx => by
      rw [List.getElem?_map, List.getElem?_map] at hx
      by_cases h9 : k9 < n.toNatClampNeg
      · rw [List.getElem?_range h9] at hx
        cases hx
        rfl
      · have hn0 : (List.range n.toNatClampNeg)[k9]? = none := List.getElem?_eq_none (by rw [List.length_range]; omega)
        rw [hn0] at hx
        cases hx
    refine ⟨fun i j x y hi hj hxy => ?_, fun k9 x hx => ?_⟩
    · by_cases h1 : i < W1.length <;> by_cases h2 : j < W1.length
      · rw [List.getElem?_append_left h1] at hi
        rw [List.getElem?_append_left h2] at hj
        exact hD1.1 i j x y hi hj hxy
      · rw [List.getElem?_append_left h1] at hi
        rw [List.getElem?_append_right (by omega)] at hj
        have := hle _ _ hi
        have := hr _ _ hj
        omega
      · rw [List.getElem?_append_right (by omega)] at hi
        rw [List.getElem?_append_left h2] at hj
        have := hle _ _ hj
        have := hr _ _ hi
        omega
      · rw [List.getElem?_append_right (by omega)] at hi hj
        have := hr _ _ hi
        have := hr _ _ hj
        omega
    · by_cases h1 : k9 < W1.length
      · rw [List.getElem?_append_left h1] at hx
        exact hD1.2 k9 x hx
      · rw [List.getElem?_append_right (by omega)] at hx
        have := hr _ _ hx
        exact hA _ (by have := hS.1; omega)
  have hAr : ArrOfT s cA (.array ty) := fun N9 z9 => by
    obtain ⟨-, k9, hk9, cm9, hkk9⟩ := (hO 0 0 0).1
    exact ⟨(fun q hq => by cases hq), k9, hk9, cm9, hkk9⟩
  have hK2 : va_K D cl (tys ++ [(cA, .array ty)]) s := ⟨hK.1, fun k9 x hx => by
    by_cases hl : k9 < tys.length
    · rw [List.getElem?_append_left hl] at hx
      exact hK.2 k9 x hx
    · rw [List.getElem?_append_right (by omega)] at hx
      have h0 : k9 - tys.length < 1 := (List.getElem?_eq_some_iff.mp hx).1
      rw [show k9 - tys.length = 0 by omega] at hx
      cases hx
      exact ⟨hAr, fA⟩⟩
  obtain ⟨t, a1, b1⟩ := kk H.size (fun i => H.size + 1 + i) cA F.heap (fun i j _ _ h => by have h9 : H.size + 1 + i = H.size + 1 + j := h; omega) hnl hK2 (by rw [← vr_rows hnm]; exact vr_lay hP2) (by rw [← vr_rows hnm]; exact vr_layD hD2) ⟨by rw [f1]; have := hS.1; omega, fun x h1 h2 => (hold x (Nat.lt_of_lt_of_le h1 hS.1)).trans (hS.2.1 x h1 h2), hS.2.2⟩ F rfl X'
  refine ⟨t, step t ?_, b1⟩
  have e : T.heap.size = H.size := by rw [hT]
  rw [e]
  exact a1
end VGM
/-! ===== END ===== -/
end
section
/-! THE CELLS of the small machine: objects (class, fields), rows of whole numbers (kind 0 int, 1 byte, 2 boolean, 3 long), rows of references (kind 100 + class; 99 of rows of ints). A reference: a cell, or a thing from outside: 0 the script, j + 1 the text j. -/
abbrev R1 : Type := Nat ⊕ Nat
abbrev C1 : Type := (Nat × List (AV R1)) ⊕ ((Nat × Nat × (Nat → Int)) ⊕ (Nat × Nat × (Nat → Option Nat)))
abbrev W1 : Type := List C1
def am_u (f : Nat → Int) (k : Nat) (x : Int) : Nat → Int := fun j => if j = k then x else f j
def am_uq (f : Nat → Option Nat) (k : Nat) (x : Option Nat) : Nat → Option Nat := fun j => if j = k then x else f j
def am_cp (f g : Nat → Int) (sp dp n : Nat) : Nat → Int := fun k => if dp ≤ k ∧ k < dp + n then f (sp + (k - dp)) else g k
def am_in (i : Int) (n : Nat) : Bool := decide (0 ≤ i ∧ i < n)
def am_tm (t idx : Nat) : Bool := Nat.beq t idx || (Nat.beq idx 1 && Nat.beq t 2)
/-- what a field takes: 0 an int, 1 a boolean, 2 a reference -/
def am_fit {ρ : Type} (t : Nat) (v : AV ρ) : Bool := match t, v with
  | 0, .inl _ => true
  | 1, .inl z => decide (z = 0 ∨ z = 1)
  | 2, .inr (.inr _) => true
  | _, _ => false
def am_def {ρ : Type} (t : Nat) : AV ρ := if t = 2 then vN else vI 0
def m1_get (idx : Nat) (as : List (AV R1)) (w : W1) : Option (Option (AV R1) × W1) := match as with
  | [.inr (.inr (some (.inl a)))] => match w[a]? with
    | some (.inl (c, fs)) => if idx / 128 = c then match fs[idx % 128]? with
      | some v => some (some v, w)
      | none => none
      else none
    | _ => none
  | _ => none
def m1_put (ft : Nat → List Nat) (idx : Nat) (as : List (AV R1)) (w : W1) : Option (Option (AV R1) × W1) := match as with
  | [.inr (.inr (some (.inl a))), v] => match w[a]? with
    | some (.inl (c, fs)) => if idx / 128 = c ∧ idx % 128 < fs.length then match (ft c)[idx % 128]? with
      | some t => if am_fit t v = true then some (none, w.set a (.inl (c, fs.set (idx % 128) v))) else none
      | none => none
      else none
    | _ => none
  | _ => none
def m1_ald (T : List (List Nat)) (sl : Nat) (sx : Nat → Int) (idx : Nat) (as : List (AV R1)) (w : W1) : Option (Option (AV R1) × W1) := match as with
  | [.inr (.inr (some (.inl a))), .inl i] => match w[a]? with
    | some (.inr (.inl (t, n, f))) => if am_tm t idx = true ∧ am_in i n = true then some (some (if t = 3 then vL (f i.toNat) else vI (f i.toNat)), w) else none
    | some (.inr (.inr (_, n, g))) => if idx = 4 ∧ am_in i n = true then some (some (.inr (.inr ((g i.toNat).map Sum.inl))), w) else none
    | _ => none
  | [.inr (.inr (some (.inr j))), .inl i] => if j = 0 ∧ idx = 0 ∧ am_in i sl = true then some (some (vI (sx i.toNat)), w)
    else if 1001 ≤ j ∧ idx = 1 then match T[j - 1001]? with
      | some bs => if am_in i bs.length = true then some (some (vI (Int.ofNat (bs.getD i.toNat 0))), w) else none
      | none => none
    else none
  | _ => none
def m1_ast (idx : Nat) (as : List (AV R1)) (w : W1) : Option (Option (AV R1) × W1) := match as with
  | [.inr (.inr (some (.inl a))), .inl i, .inl x] => match w[a]? with
    | some (.inr (.inl (t, n, f))) => if am_tm t idx = true ∧ am_in i n = true then match t with
      | 0 => some (none, w.set a (.inr (.inl (t, n, am_u f i.toNat x))))
      | 1 => some (none, w.set a (.inr (.inl (t, n, am_u f i.toNat (ji2b x)))))
      | 2 => if x = 0 ∨ x = 1 then some (none, w.set a (.inr (.inl (t, n, am_u f i.toNat x)))) else none
      | _ => none
      else none
    | _ => none
  | [.inr (.inr (some (.inl a))), .inl i, .inr (.inl x)] => match w[a]? with
    | some (.inr (.inl (t, n, f))) => if idx = 3 ∧ t = 3 ∧ am_in i n = true then some (none, w.set a (.inr (.inl (t, n, am_u f i.toNat x)))) else none
    | _ => none
  | [.inr (.inr (some (.inl a))), .inl i, .inr (.inr (some (.inl b)))] => match w[a]? with
    | some (.inr (.inr (t, n, g))) => match w[b]? with
      | some (.inl (c, _)) => if idx = 4 ∧ t = 100 + c ∧ am_in i n = true then some (none, w.set a (.inr (.inr (t, n, am_uq g i.toNat (some b))))) else none
      | _ => none
    | _ => none
  | _ => none
def m1_len (T : List (List Nat)) (sl : Nat) (as : List (AV R1)) (w : W1) : Option (Option (AV R1) × W1) := match as with
  | [.inr (.inr (some (.inl a)))] => match w[a]? with
    | some (.inr (.inl (_, n, _))) => if n ≤ 100000 then some (some (vI n), w) else none
    | some (.inr (.inr (_, n, _))) => if n ≤ 100000 then some (some (vI n), w) else none
    | _ => none
  | [.inr (.inr (some (.inr j)))] => if j = 0 ∧ sl ≤ 100000 then some (some (vI sl), w)
    else if 1001 ≤ j then match T[j - 1001]? with
      | some bs => if bs.length ≤ 100000 then some (some (vI bs.length), w) else none
      | none => none
    else none
  | _ => none
def m1_new (ft : Nat → List Nat) (idx : Nat) (as : List (AV R1)) (w : W1) : Option (Option (AV R1) × W1) := match as with
  | [] => if idx < 13 then some (some (vR (.inl w.length)), w ++ [.inl (idx, (ft idx).map am_def)]) else none
  | _ => none
def m1_newa (idx : Nat) (as : List (AV R1)) (w : W1) : Option (Option (AV R1) × W1) := match as with
  | [.inl n] => if 0 ≤ n ∧ n ≤ 100000 ∧ idx ≤ 3 then some (some (vR (.inl w.length)), w ++ [.inr (.inl (idx, n.toNat, fun _ => 0))]) else none
  | _ => none
def m1_newq (idx : Nat) (as : List (AV R1)) (w : W1) : Option (Option (AV R1) × W1) := match as with
  | [.inl n] => if 0 ≤ n ∧ n ≤ 100000 ∧ (idx = 4 ∨ idx = 6 ∨ idx = 8) then some (some (vR (.inl w.length)), w ++ [.inr (.inr (100 + idx, n.toNat, fun _ => none))]) else none
  | _ => none
def m1_mna (as : List (AV R1)) (w : W1) : Option (Option (AV R1) × W1) := match as with
  | [.inl n, .inl k] => if 0 ≤ n ∧ n ≤ 100 ∧ 0 ≤ k ∧ k ≤ 100 then
      some (some (vR (.inl w.length)), w ++ (.inr (.inr (99, n.toNat, fun j => if j < n.toNat then some (w.length + 1 + j) else none)) :: List.replicate n.toNat (.inr (.inl (0, k.toNat, fun _ => 0))))) else none
  | _ => none
def m1_cpy (as : List (AV R1)) (w : W1) : Option (Option (AV R1) × W1) := match as with
  | [.inr (.inr (some (.inl a))), .inl sp, .inr (.inr (some (.inl b))), .inl dp, .inl n] => match w[a]?, w[b]? with
    | some (.inr (.inl (t, n0, f))), some (.inr (.inl (u, n1, g))) => if t = 0 ∧ u = 0 ∧ 0 ≤ sp ∧ 0 ≤ dp ∧ 0 ≤ n ∧ sp.toNat + n.toNat ≤ n0 ∧ dp.toNat + n.toNat ≤ n1 then some (none, w.set b (.inr (.inl (u, n1, am_cp f g sp.toNat dp.toNat n.toNat)))) else none
    | _, _ => none
  | _ => none
/-- a text's fields: 0 its bytes, 1 its coder -/
def m1_tf (T : List (List Nat)) (idx : Nat) (as : List (AV R1)) (w : W1) : Option (Option (AV R1) × W1) := match as with
  | [.inr (.inr (some (.inr j)))] => if 1 ≤ j ∧ j ≤ T.length then match idx with
    | 0 => some (some (vR (.inr (1000 + j))), w)
    | 1 => some (some (vI 0), w)
    | _ => none
    else none
  | _ => none
/-- statics: 0 COMPACT_STRINGS, 1 the formatter (null or not: a place far behind the script says it) -/
def m1_gs (sx : Nat → Int) (idx : Nat) (as : List (AV R1)) (w : W1) : Option (Option (AV R1) × W1) := match as with
  | [] => match idx with
    | 0 => some (some (vI 1), w)
    | 1 => some (some (if sx 1000000 = 0 then vN else vR (.inr 5000)), w)
    | _ => none
  | _ => none
/-- what the machine asks of its cells: T the texts, sx the script of length sl -/
def m1 (ft : Nat → List Nat) (T : List (List Nat)) (sl : Nat) (sx : Nat → Int) (kind idx : Nat) (as : List (AV R1)) (w : W1) : Option (Option (AV R1) × W1) := match kind with
  | 0 => m1_get idx as w
  | 1 => m1_put ft idx as w
  | 2 => m1_ald T sl sx idx as w
  | 3 => m1_ast idx as w
  | 4 => m1_len T sl as w
  | 5 => m1_new ft idx as w
  | 6 => m1_newa idx as w
  | 7 => m1_newq idx as w
  | 8 => m1_mna as w
  | 9 => match as with
    | [] => if idx < T.length then some (some (vR (.inr (idx + 1))), w) else none
    | _ => none
  | 10 => m1_cpy as w
  | 14 => match as with
    | [.inr (.inr (some (.inl _)))] => some (none, w)
    | _ => none
  | 15 => match as with
    | [.inl x, .inl y] => some (some (vI (if x < y then y else x)), w)
    | _ => none
  | 16 => match as with
    | [.inl x, .inl y] => some (some (vI (if y < x then y else x)), w)
    | _ => none
  | 17 => match as with
    | [.inr (.inr (some (.inl a)))] => match w[a]? with
      | some (.inl (c, _)) => if c = am_o idx then some (none, w) else none
      | _ => none
    | [.inr (.inr (some (.inr j)))] => if 1 ≤ j ∧ j ≤ T.length ∧ am_o idx = 16 then some (none, w) else none
    | _ => none
  | 18 => m1_gs sx idx as w
  | 19 => m1_tf T idx as w
  | _ => none
end
section
/-! THE SMALL MACHINE'S CELLS AND THE REAL HEAP: A gives each cell its address, B each thing from outside -/
def am_cv (A B : Nat → Nat) : AV R1 → Value
  | .inl x => .int (Int32.ofInt x)
  | .inr (.inl x) => .long (Int64.ofInt x)
  | .inr (.inr none) => .null
  | .inr (.inr (some (.inl a))) => .ref (A a)
  | .inr (.inr (some (.inr j))) => .ref (B j)
def am_cc (A B : Nat → Nat) (dA : Nat → ClassId) : C1 → va_E
  | .inl (c, fs) => .inr (c, fs.map (am_cv A B))
  | .inr (.inl (t, n, f)) => if t = 3 then .inl (dA 3, n, .inr (.inl (fun j => Int64.ofInt (f j)))) else .inl (dA t, n, .inl (fun j => Int32.ofInt (f j)))
  | .inr (.inr (t, n, g)) => .inl (dA t, n, .inr (.inr (.inr (.inr (fun j => (g j).map A)))))
def am_ws (A B : Nat → Nat) (dA : Nat → ClassId) (w : W1) : va_W := w.mapIdx fun i c => (A i, am_cc A B dA c)
def am_ok (n : Nat) : AV R1 → Prop
  | .inl x => (Int32.ofInt x).toInt = x
  | .inr (.inl x) => (Int64.ofInt x).toInt = x
  | .inr (.inr (some (.inl a))) => a < n
  | _ => True
def am_okc (n : Nat) : C1 → Prop
  | .inl (_, fs) => ∀ v ∈ fs, am_ok n v
  | .inr (.inl (t, _, f)) => t ≤ 3 ∧ ∀ j, if t = 3 then (Int64.ofInt (f j)).toInt = f j else (Int32.ofInt (f j)).toInt = f j
  | .inr (.inr (t, _, g)) => (t = 99 ∨ t = 104 ∨ t = 106 ∨ t = 108) ∧ ∀ j a, g j = some a → a < n
def am_szc (ft : Nat → List Nat) : C1 → Nat
  | .inl (c, _) => (ft c).length
  | .inr (.inl (_, n, _)) => n
  | .inr (.inr (_, n, _)) => n
def am_sl (ft : Nat → List Nat) (w : W1) : Nat := (w.map (am_szc ft)).sum
theorem am_ws_get {A B : Nat → Nat} {dA : Nat → ClassId} {w : W1} (a : Nat) : (am_ws A B dA w)[a]? = (w[a]?).map (fun c => (A a, am_cc A B dA c)) := by
  unfold am_ws
  rw [List.getElem?_mapIdx]
theorem am_ws_at {A B : Nat → Nat} {dA : Nat → ClassId} {w : W1} {a : Nat} {c : C1} (h : w[a]? = some c) : (am_ws A B dA w)[a]? = some (A a, am_cc A B dA c) := by
  rw [am_ws_get, h]; rfl
theorem am_ws_set {A B : Nat → Nat} {dA : Nat → ClassId} {w : W1} {a : Nat} {c : C1} : (am_ws A B dA w).set a (A a, am_cc A B dA c) = am_ws A B dA (w.set a c) := by
  apply List.ext_getElem?
  intro i
  rw [am_ws_get, List.getElem?_set, List.getElem?_set, am_ws_get]
  have hl : (am_ws A B dA w).length = w.length := by unfold am_ws; simp
  rw [hl]
  by_cases h : a = i
  · subst h
    by_cases h2 : a < w.length <;> simp [h2]
  · simp [h]
theorem am_ws_len {A B : Nat → Nat} {dA : Nat → ClassId} {w : W1} : (am_ws A B dA w).length = w.length := by unfold am_ws; simp
theorem am_ok_mono {n n' : Nat} (h : n ≤ n') : ∀ {v : AV R1}, am_ok n v → am_ok n' v
  | .inl _, q => q
  | .inr (.inl _), q => q
  | .inr (.inr none), q => q
  | .inr (.inr (some (.inl _))), q => Nat.lt_of_lt_of_le q h
  | .inr (.inr (some (.inr _))), q => q
theorem am_okc_mono {n n' : Nat} (h : n ≤ n') : ∀ {c : C1}, am_okc n c → am_okc n' c
  | .inl _, q => fun v hv => am_ok_mono h (q v hv)
  | .inr (.inl _), q => q
  | .inr (.inr _), q => ⟨q.1, fun j a e => Nat.lt_of_lt_of_le (q.2 j a e) h⟩
theorem am_cv_congr {n : Nat} {A A' B : Nat → Nat} (hA : ∀ a, a < n → A' a = A a) : ∀ {v : AV R1}, am_ok n v → am_cv A' B v = am_cv A B v
  | .inl _, _ => rfl
  | .inr (.inl _), _ => rfl
  | .inr (.inr none), _ => rfl
  | .inr (.inr (some (.inl a))), q => by show Value.ref (A' a) = .ref (A a); rw [hA a q]
  | .inr (.inr (some (.inr _))), _ => rfl
theorem am_map_congr {n : Nat} {A A' B : Nat → Nat} (hA : ∀ a, a < n → A' a = A a) {S : List (AV R1)} (h : ∀ v ∈ S, am_ok n v) : S.map (am_cv A' B) = S.map (am_cv A B) :=
  List.map_congr_left fun v hv => am_cv_congr hA (h v hv)
theorem am_cc_congr {n : Nat} {A A' B : Nat → Nat} {dA : Nat → ClassId} (hA : ∀ a, a < n → A' a = A a) : ∀ {c : C1}, am_okc n c → am_cc A' B dA c = am_cc A B dA c
  | .inl (c, fs), q => by
    show (Sum.inr (c, fs.map (am_cv A' B)) : va_E) = .inr (c, fs.map (am_cv A B))
    rw [am_map_congr hA q]
  | .inr (.inl _), _ => rfl
  | .inr (.inr (t, n', g)), q => by
    show (Sum.inl (dA t, n', _) : va_E) = .inl (dA t, n', _)
    have : (fun j => (g j).map A') = fun j => (g j).map A := funext fun j => by
      cases hg : g j with
      | none => rfl
      | some a => show some (A' a) = some (A a); rw [hA a (q.2 j a hg)]
    rw [this]
theorem am_ws_app {A A' B : Nat → Nat} {dA : Nat → ClassId} {w : W1} {c : C1} (hA : ∀ a, a < w.length → A' a = A a) (hw : ∀ c ∈ w, am_okc w.length c) : am_ws A' B dA (w ++ [c]) = am_ws A B dA w ++ [(A' w.length, am_cc A' B dA c)] := by
  apply List.ext_getElem?
  intro i
  rw [am_ws_get]
  by_cases h : i < w.length
  · rw [List.getElem?_append_left h, List.getElem?_append_left (by rw [am_ws_len]; exact h), am_ws_get]
    cases hc : w[i]? with
    | none => rfl
    | some x =>
      show some (A' i, _) = some (A i, _)
      rw [hA i h, am_cc_congr hA (hw x (List.mem_of_getElem? hc))]
  · rw [List.getElem?_append_right (by omega), List.getElem?_append_right (by rw [am_ws_len]; omega), am_ws_len]
    by_cases h2 : i = w.length
    · subst h2
      simp
    · have h3 : 1 ≤ i - w.length := by omega
      rw [List.getElem?_eq_none (by simpa using h3), List.getElem?_eq_none (by simpa using h3)]
      rfl
theorem am_ws_same {A A' B : Nat → Nat} {dA : Nat → ClassId} {w : W1} (hA : ∀ a, a < w.length → A' a = A a) (hw : ∀ c ∈ w, am_okc w.length c) : am_ws A' B dA w = am_ws A B dA w := by
  apply List.ext_getElem?
  intro i
  rw [am_ws_get, am_ws_get]
  cases hc : w[i]? with
  | none => rfl
  | some x =>
    show some (A' i, _) = some (A i, _)
    rw [hA i (List.getElem?_eq_some_iff.mp hc).1, am_cc_congr hA (hw x (List.mem_of_getElem? hc))]
theorem am_sl_app {ft : Nat → List Nat} {w : W1} {c : C1} : am_sl ft (w ++ [c]) = am_sl ft w + am_szc ft c := by unfold am_sl; simp
theorem am_sl_set {ft : Nat → List Nat} {c c0 : C1} (hs : am_szc ft c = am_szc ft c0) : ∀ (w : W1) (a : Nat), w[a]? = some c0 → am_sl ft (w.set a c) = am_sl ft w
  | [], a, h => by simp at h
  | x :: w, 0, h => by
    have h : x = c0 := by simpa using h
    subst h
    simp [am_sl, hs]
  | x :: w, a + 1, h => by
    have h : w[a]? = some c0 := by simpa using h
    have := am_sl_set hs w a h
    unfold am_sl at this ⊢
    simp only [List.set_cons_succ, List.map_cons, List.sum_cons, this]
theorem am_cat_cv {A B : Nat → Nat} : ∀ (v : AV R1), (am_cv A B v).category = am_cat v
  | .inl _ => rfl
  | .inr (.inl _) => rfl
  | .inr (.inr none) => rfl
  | .inr (.inr (some (.inl _))) => rfl
  | .inr (.inr (some (.inr _))) => rfl
theorem am_cats {A B : Nat → Nat} (S : List (AV R1)) : (S.map (am_cv A B)).map (fun v => v.category) = S.map am_cat := by
  rw [List.map_map]
  exact List.map_congr_left fun v _ => am_cat_cv v
/-- the locals -/
def am_LR (A B : Nat → Nat) (nL : Nat) (ls : Array Slot) (L : am_L R1) : Prop := ls.size = nL ∧ lv_wf ls ∧ ∀ (j : Nat) (v : AV R1), L[j]? = some (some v) → ls[j]? = some (Slot.val (am_cv A B v))
def am_ent (A B : Nat → Nat) (L : am_L R1) : List (Nat × Value) := (List.range L.length).filterMap fun j => match L[j]? with
  | some (some v) => some (j, am_cv A B v)
  | _ => none
theorem am_ent_mem {A B : Nat → Nat} {L : am_L R1} {q : Nat × Value} : q ∈ am_ent A B L ↔ ∃ v, L[q.1]? = some (some v) ∧ q.2 = am_cv A B v := by
  unfold am_ent
  rw [List.mem_filterMap]
  constructor
  · rintro ⟨j, hj, h⟩
    split at h
    · rename_i v hv
      cases h
      exact ⟨v, hv, rfl⟩
    · cases h
  · rintro ⟨v, h1, h2⟩
    refine ⟨q.1, List.mem_range.mpr (List.getElem?_eq_some_iff.mp h1).1, ?_⟩
    rw [h1]
    show some (q.1, am_cv A B v) = some q
    rw [← h2]
theorem am_LR.has {A B : Nat → Nat} {nL : Nat} {ls : Array Slot} {L : am_L R1} (h : am_LR A B nL ls L) : lv_has ls nL (am_ent A B L) :=
  ⟨h.1, h.2.1, fun q hq => by
    obtain ⟨v, h1, h2⟩ := am_ent_mem.mp hq
    rw [h2]; exact h.2.2 q.1 v h1⟩
theorem am_LR.moved {n : Nat} {A A' B : Nat → Nat} {nL : Nat} {ls : Array Slot} {L : am_L R1} (h : am_LR A B nL ls L) (hA : ∀ a, a < n → A' a = A a) (hL : ∀ v, some v ∈ L → am_ok n v) : am_LR A' B nL ls L :=
  ⟨h.1, h.2.1, fun j v hj => by rw [am_cv_congr hA (hL v (List.mem_of_getElem? hj))]; exact h.2.2 j v hj⟩
theorem am_kill_get {L : am_L R1} {x j : Nat} {v : AV R1} (h : (am_kill x L)[j]? = some (some v)) : L[j]? = some (some v) ∧ ¬ (j + 1 = x ∧ am_isL v = true) := by
  cases x with
  | zero => exact ⟨h, fun q => by omega⟩
  | succ y =>
    unfold am_kill at h
    simp only at h
    split at h
    · rename_i z hz
      by_cases e : y = j
      · subst e
        rw [List.getElem?_set_self (List.getElem?_eq_some_iff.mp hz).1] at h
        simp at h
      · rw [List.getElem?_set_ne e] at h
        exact ⟨h, fun q => e (by omega)⟩
    · rename_i hz
      refine ⟨h, fun q => ?_⟩
      have e : j = y := by omega
      subst e
      obtain ⟨-, q2⟩ := q
      match v, q2 with
      | .inr (.inl z), _ => exact hz z h
theorem am_isL_cat (v : AV R1) : am_isL v = true ↔ am_cat v = 2 := by
  unfold am_cat
  cases am_isL v <;> simp
end
section
theorem am_oks_cons {n : Nat} {v : AV R1} {S : List (AV R1)} (h : ∀ u ∈ v :: S, am_ok n u) : am_ok n v ∧ ∀ u ∈ S, am_ok n u := ⟨h v List.mem_cons_self, fun u hu => h u (List.mem_cons_of_mem _ hu)⟩
theorem am_cons_oks {n : Nat} {v : AV R1} {S : List (AV R1)} (h : am_ok n v) (hS : ∀ u ∈ S, am_ok n u) : ∀ u ∈ v :: S, am_ok n u := fun u hu => (List.mem_cons.mp hu).elim (fun e => e ▸ h) (hS u)
section AMP
variable {p : Program} {l : Launch} {e : Env} {R : Room} {s : State} {m : MethodId} {args : Array Value} {below : List Frame} {meth : Method} {c : Code} {H : Heap} {locs : List Loc} {cells slots : Nat} {Q : State → Prop}
variable {cc : ByteArray} {pc : Nat} {ls : Array Slot}
theorem am_store1 {A B : Nat → Nat} {nL x : Nat} {v : AV R1} {L L' : am_L R1} {ls' : Array Slot} (hst : am_st x v L = some L') (hv : am_isL v = false) (h : lv_has ls' nL ((x, am_cv A B v) :: (am_ent A B L).filter (fun q => !(q.1 == x) && !(q.1 + 1 == x && q.2.category == 2)))) : am_LR A B nL ls' L' := by
  have hst : (if x < L.length then some ((am_kill x L).set x (some v)) else none) = some L' := by
    match v, hv, hst with
    | .inl _, _, h => exact h
    | .inr (.inr _), _, h => exact h
  split at hst
  · cases hst
    refine ⟨h.1, h.2.1, fun j u hj => ?_⟩
    by_cases e : x = j
    · subst e
      rw [List.getElem?_set_self'] at hj
      have : u = v := by
        cases hk : (am_kill x L)[x]? with
        | none => rw [hk] at hj; simp at hj
        | some z => rw [hk] at hj; simpa using hj.symm
      subst this
      exact h.2.2 (x, _) List.mem_cons_self
    · rw [List.getElem?_set_ne e] at hj
      obtain ⟨h1, h2⟩ := am_kill_get hj
      refine h.2.2 (j, am_cv A B u) (List.mem_cons_of_mem _ (List.mem_filter.mpr ⟨am_ent_mem.mpr ⟨u, h1, rfl⟩, ?_⟩))
      have e1 : ¬ j = x := fun q => e q.symm
      simp only [am_cat_cv, Bool.and_eq_true, Bool.not_eq_true', beq_eq_false_iff_ne, ne_eq, e1, not_false_eq_true, true_and, Bool.and_eq_false_iff]
      by_cases e2 : j + 1 = x
      · right
        intro e3
        exact h2 ⟨e2, (am_isL_cat u).mpr e3⟩
      · left; exact e2
  · cases hst
theorem am_store2 {A B : Nat → Nat} {nL x : Nat} {z : Int} {L L' : am_L R1} {ls' : Array Slot} (hst : am_st x (vL z : AV R1) L = some L') (h : lv_has ls' nL ((x, am_cv A B (vL z)) :: (am_ent A B L).filter (fun q => !(q.1 == x) && (!(q.1 == x + 1) && !(q.1 + 1 == x && q.2.category == 2))))) : am_LR A B nL ls' L' := by
  have hst : (if x + 1 < L.length then some (((am_kill x L).set x (some (vL z))).set (x + 1) none) else none) = some L' := hst
  split at hst
  · cases hst
    refine ⟨h.1, h.2.1, fun j u hj => ?_⟩
    by_cases e0 : x + 1 = j
    · subst e0
      rw [List.getElem?_set_self'] at hj
      cases hk : ((am_kill x L).set x (some (vL z)))[x + 1]? with
      | none => rw [hk] at hj; simp at hj
      | some q => rw [hk] at hj; simp at hj
    · rw [List.getElem?_set_ne e0] at hj
      by_cases e : x = j
      · subst e
        rw [List.getElem?_set_self'] at hj
        have : u = vL z := by
          cases hk : (am_kill x L)[x]? with
          | none => rw [hk] at hj; simp at hj
          | some q => rw [hk] at hj; simpa using hj.symm
        subst this
        exact h.2.2 (x, _) List.mem_cons_self
      · rw [List.getElem?_set_ne e] at hj
        obtain ⟨h1, h2⟩ := am_kill_get hj
        refine h.2.2 (j, am_cv A B u) (List.mem_cons_of_mem _ (List.mem_filter.mpr ⟨am_ent_mem.mpr ⟨u, h1, rfl⟩, ?_⟩))
        have e1 : ¬ j = x := fun q => e q.symm
        have e3 : ¬ j = x + 1 := fun q => e0 q.symm
        simp only [am_cat_cv, Bool.and_eq_true, Bool.not_eq_true', beq_eq_false_iff_ne, ne_eq, e1, e3, not_false_eq_true, true_and, Bool.and_eq_false_iff]
        by_cases e2 : j + 1 = x
        · right
          intro e3
          exact h2 ⟨e2, (am_isL_cat u).mpr e3⟩
        · left; exact e2
  · cases hst
theorem am_inc {A B : Nat → Nat} {nL x : Nat} {z z' : Int} {L : am_L R1} {ls ls' : Array Slot} (hl : am_LR A B nL ls L) (hx : L[x]? = some (some (vI z))) (h : lv_has ls' nL ((x, am_cv A B (vI z')) :: (am_ent A B L).filter (fun q => !(q.1 == x) && !(q.1 + 1 == x && q.2.category == 2)))) : am_LR A B nL ls' (L.set x (some (vI z'))) := by
  refine ⟨h.1, h.2.1, fun j u hj => ?_⟩
  by_cases e : x = j
  · subst e
    rw [List.getElem?_set_self (List.getElem?_eq_some_iff.mp hx).1] at hj
    have : u = vI z' := by simpa using hj.symm
    subst this
    exact h.2.2 (x, _) List.mem_cons_self
  · rw [List.getElem?_set_ne e] at hj
    refine h.2.2 (j, am_cv A B u) (List.mem_cons_of_mem _ (List.mem_filter.mpr ⟨am_ent_mem.mpr ⟨u, hj, rfl⟩, ?_⟩))
    have e1 : ¬ j = x := fun q => e q.symm
    simp only [am_cat_cv, Bool.and_eq_true, Bool.not_eq_true', beq_eq_false_iff_ne, ne_eq, e1, not_false_eq_true, true_and, Bool.and_eq_false_iff]
    by_cases e2 : j + 1 = x
    · right
      intro e3
      have h3 := hl.2.1.1 j _ (hl.2.2 j u hj) (by rw [am_cat_cv]; exact e3)
      rw [e2, hl.2.2 x _ hx] at h3
      cases h3
    · left; exact e2
end AMP
end
section
def am_Lok (n : Nat) (L : am_L R1) : Prop := ∀ (j : Nat) (u : AV R1), L[j]? = some (some u) → am_ok n u
theorem am_cv_i {A B : Nat → Nat} (X : Int32) : am_cv A B (vI X.toInt) = .int X := by simp [am_cv]
theorem am_cv_l {A B : Nat → Nat} (X : Int64) : am_cv A B (vL X.toInt) = .long X := by simp [am_cv]
theorem am_kill_len {L : am_L R1} {x : Nat} : (am_kill x L).length = L.length := by
  cases x with
  | zero => rfl
  | succ y => unfold am_kill; simp only; split <;> simp
theorem am_set_some {L : am_L R1} {x j : Nat} {o : Option (AV R1)} {u : AV R1} (h : (L.set x o)[j]? = some (some u)) : (j = x ∧ o = some u) ∨ L[j]? = some (some u) := by
  by_cases e : x = j
  · subst e
    rw [List.getElem?_set_self'] at h
    cases hk : L[x]? with
    | none => rw [hk] at h; simp at h
    | some q => rw [hk] at h; exact Or.inl ⟨rfl, by simpa using h⟩
  · rw [List.getElem?_set_ne e] at h
    exact Or.inr h
theorem am_st_ok {n x : Nat} {v : AV R1} {L L' : am_L R1} (hst : am_st x v L = some L') (hL : am_Lok n L) (hv : am_ok n v) : am_Lok n L' ∧ L'.length = L.length ∧ x < L.length := by
  have key : ∀ (L2 : am_L R1), L2 = (am_kill x L).set x (some v) → am_Lok n L2 ∧ L2.length = L.length := by
    intro L2 e
    subst e
    refine ⟨fun j u hj => ?_, by rw [List.length_set, am_kill_len]⟩
    rcases am_set_some hj with ⟨-, h⟩ | h
    · cases h; exact hv
    · exact hL j u (am_kill_get h).1
  match v, hst with
  | .inl z, h =>
    have h : (if x < L.length then some ((am_kill x L).set x (some (.inl z))) else none) = some L' := h
    split at h
    · cases h; exact ⟨(key _ rfl).1, (key _ rfl).2, by assumption⟩
    · cases h
  | .inr (.inr z), h =>
    have h : (if x < L.length then some ((am_kill x L).set x (some (.inr (.inr z)))) else none) = some L' := h
    split at h
    · cases h; exact ⟨(key _ rfl).1, (key _ rfl).2, by assumption⟩
    · cases h
  | .inr (.inl z), h =>
    have h : (if x + 1 < L.length then some (((am_kill x L).set x (some (.inr (.inl z)))).set (x + 1) none) else none) = some L' := h
    split at h
    · cases h
      refine ⟨fun j u hj => ?_, by rw [List.length_set]; exact (key _ rfl).2, by omega⟩
      rcases am_set_some hj with ⟨-, h⟩ | h
      · cases h
      · exact (key _ rfl).1 j u h
    · cases h
theorem am_st_2 {x : Nat} {z : Int} {L L' : am_L R1} (hst : am_st x (vL z : AV R1) L = some L') : x + 1 < L.length := by
  have h : (if x + 1 < L.length then some (((am_kill x L).set x (some (vL z))).set (x + 1) none) else none) = some L' := hst
  split at h
  · assumption
  · cases h
section AMQ
variable {p : Program} {l : Launch} {e : Env} {R : Room} {s : State} {m : MethodId} {args : Array Value} {below : List Frame} {meth : Method} {c : Code} {H : Heap} {locs : List Loc} {cells slots : Nat} {Q : State → Prop}
variable {cc : ByteArray} {pc : Nat} {ls : Array Slot}
set_option maxHeartbeats 4000000 in
theorem am_sim_p {A B : Nat → Nat} {n nL len op x y pc' : Nat} {im : Int} {tb : List (Int × Nat)} {ins : Jvm.ClassFile.Instr} {L L' : am_L R1} {S S' : List (AV R1)} (hx : p.tables.exec = Jvm.exec) (hb : c.code = cc) (htr : am_trp ins pc len = some (op, x, y, im, tb)) (hdg : decode cc pc = .ok (ins, len))
    (hp : am_p op x y im tb (pc + len) L S = some (pc', L', S')) (hL : am_LR A B nL ls L) (hlen : L.length ≤ nL) (hLo : am_Lok n L) (hSo : ∀ v ∈ S, am_ok n v)
    (kk : ∀ ls' : Array Slot, am_LR A B nL ls' L' → L'.length ≤ nL → am_Lok n L' → (∀ v ∈ S', am_ok n v) → W p l e R s m args below meth c H locs cells slots Q (F0 m pc' ls' (S'.map (am_cv A B)))) : W p l e R s m args below meth c H locs cells slots Q (F0 m pc ls (S.map (am_cv A B))) := by
  unfold am_trp at htr
  split at htr
  · rename_i i
    cases htr
    have hp : some (pc + 1, L, vI (Int32.ofInt i).toInt :: S) = some (pc', L', S') := hp
    cases hp
    refine lv_iconst hx hb (v := Int32.ofInt i) hdg rfl ?_
    have h := kk ls hL hlen hLo (am_cons_oks (am_io _) hSo)
    rw [List.map_cons, am_cv_i] at h
    exact h
  · rename_i i
    cases htr
    have hp : some (pc + 2, L, vI ((Int8.ofInt i).toInt32).toInt :: S) = some (pc', L', S') := hp
    cases hp
    refine lv_bipush hx hb (v := (Int8.ofInt i).toInt32) hdg rfl ?_
    have h := kk ls hL hlen hLo (am_cons_oks (am_io _) hSo)
    rw [List.map_cons, am_cv_i] at h
    exact h
  · rename_i i
    cases htr
    have hp : some (pc + 3, L, vI ((Int16.ofInt i).toInt32).toInt :: S) = some (pc', L', S') := hp
    cases hp
    refine lv_sipush hx hb (v := (Int16.ofInt i).toInt32) hdg rfl ?_
    have h := kk ls hL hlen hLo (am_cons_oks (am_io _) hSo)
    rw [List.map_cons, am_cv_i] at h
    exact h
  · rename_i f
    cases htr
    have hp : some (pc + 1, L, vL (Int64.ofNat (f : Nat)).toInt :: S) = some (pc', L', S') := hp
    cases hp
    refine lv_lconst hx hb (v := Int64.ofNat (f : Nat)) hdg rfl ?_
    have h := kk ls hL hlen hLo (am_cons_oks (am_lo _) hSo)
    rw [List.map_cons, am_cv_l] at h
    exact h
  · cases htr
    have hp : some (pc + 1, L, vN :: S) = some (pc', L', S') := hp
    cases hp
    exact lv_null hx hb hdg (kk ls hL hlen hLo (am_cons_oks trivial hSo))
  · rename_i i
    cases htr
    unfold am_p at hp
    simp only at hp
    split at hp
    · rename_i v hv
      split at hp
      · rename_i hty
        cases hp
        have hv2 := hL.2.2 _ _ hv
        have hvo := hLo _ _ hv
        have h := kk ls hL hlen hLo (am_cons_oks hvo hSo)
        match v, hty, hv2, h with
        | .inl z, _, hv2, h => exact lv_iload hx hb hdg hv2 h
      · cases hp
    · cases hp
  · rename_i f
    cases htr
    unfold am_p at hp
    simp only at hp
    split at hp
    · rename_i v hv
      split at hp
      · rename_i hty
        cases hp
        have hv2 := hL.2.2 _ _ hv
        have hvo := hLo _ _ hv
        have h := kk ls hL hlen hLo (am_cons_oks hvo hSo)
        match v, hty, hv2, h with
        | .inl z, _, hv2, h => exact lv_iload_n hx hb hdg rfl hv2 h
      · cases hp
    · cases hp
  · rename_i i
    cases htr
    unfold am_p at hp
    simp only at hp
    split at hp
    · rename_i v hv
      split at hp
      · rename_i hty
        cases hp
        have hv2 := hL.2.2 _ _ hv
        have hvo := hLo _ _ hv
        have h := kk ls hL hlen hLo (am_cons_oks hvo hSo)
        match v, hty, hv2, h with
        | .inr (.inl z), _, hv2, h => exact lv_lload hx hb hdg hv2 h
      · cases hp
    · cases hp
  · rename_i f
    cases htr
    unfold am_p at hp
    simp only at hp
    split at hp
    · rename_i v hv
      split at hp
      · rename_i hty
        cases hp
        have hv2 := hL.2.2 _ _ hv
        have hvo := hLo _ _ hv
        have h := kk ls hL hlen hLo (am_cons_oks hvo hSo)
        match v, hty, hv2, h with
        | .inr (.inl z), _, hv2, h => exact lv_lload_n hx hb hdg rfl hv2 h
      · cases hp
    · cases hp
  · rename_i i
    cases htr
    unfold am_p at hp
    simp only at hp
    split at hp
    · rename_i v hv
      split at hp
      · rename_i hty
        cases hp
        have hv2 := hL.2.2 _ _ hv
        have hvo := hLo _ _ hv
        have h := kk ls hL hlen hLo (am_cons_oks hvo hSo)
        match v, hty, hv2, h with
        | .inr (.inr none), _, hv2, h => exact lv_aloadN hx hb hdg hv2 h
        | .inr (.inr (some (.inl a))), _, hv2, h => exact lv_aload hx hb hdg hv2 h
        | .inr (.inr (some (.inr a))), _, hv2, h => exact lv_aload hx hb hdg hv2 h
      · cases hp
    · cases hp
  · rename_i f
    cases htr
    unfold am_p at hp
    simp only at hp
    split at hp
    · rename_i v hv
      split at hp
      · rename_i hty
        cases hp
        have hv2 := hL.2.2 _ _ hv
        have hvo := hLo _ _ hv
        have h := kk ls hL hlen hLo (am_cons_oks hvo hSo)
        match v, hty, hv2, h with
        | .inr (.inr none), _, hv2, h => exact lv_aload_nN hx hb hdg rfl hv2 h
        | .inr (.inr (some (.inl a))), _, hv2, h => exact lv_aload_n hx hb hdg rfl hv2 h
        | .inr (.inr (some (.inr a))), _, hv2, h => exact lv_aload_n hx hb hdg rfl hv2 h
      · cases hp
    · cases hp
  · rename_i i
    cases htr
    unfold am_p at hp
    simp only at hp
    split at hp
    · rename_i v S2
      obtain ⟨hvo, hSo2⟩ := am_oks_cons hSo
      split at hp
      · rename_i hty
        split at hp
        · rename_i L2 hst
          cases hp
          obtain ⟨k1, k2, k3⟩ := am_st_ok hst hLo hvo
          match v, hty, hst with
          | .inl z, _, hst => exact lv_istore hx hb hdg hL.has (by omega) rfl (fun ls2 h2 => kk ls2 (am_store1 hst rfl h2) (by omega) k1 hSo2)
        · cases hp
      · cases hp
    · cases hp
  · rename_i f
    cases htr
    unfold am_p at hp
    simp only at hp
    split at hp
    · rename_i v S2
      obtain ⟨hvo, hSo2⟩ := am_oks_cons hSo
      split at hp
      · rename_i hty
        split at hp
        · rename_i L2 hst
          cases hp
          obtain ⟨k1, k2, k3⟩ := am_st_ok hst hLo hvo
          match v, hty, hst with
          | .inl z, _, hst => exact lv_istore_n hx hb hdg rfl hL.has (by omega) rfl (fun ls2 h2 => kk ls2 (am_store1 hst rfl h2) (by omega) k1 hSo2)
        · cases hp
      · cases hp
    · cases hp
  · rename_i i
    cases htr
    unfold am_p at hp
    simp only at hp
    split at hp
    · rename_i v S2
      obtain ⟨hvo, hSo2⟩ := am_oks_cons hSo
      split at hp
      · rename_i hty
        split at hp
        · rename_i L2 hst
          cases hp
          obtain ⟨k1, k2, k3⟩ := am_st_ok hst hLo hvo
          match v, hty, hst with
          | .inr (.inl z), _, hst => exact lv_lstore hx hb hdg hL.has (by have := am_st_2 hst; omega) rfl (fun ls2 h2 => kk ls2 (am_store2 hst h2) (by omega) k1 hSo2)
        · cases hp
      · cases hp
    · cases hp
  · rename_i f
    cases htr
    unfold am_p at hp
    simp only at hp
    split at hp
    · rename_i v S2
      obtain ⟨hvo, hSo2⟩ := am_oks_cons hSo
      split at hp
      · rename_i hty
        split at hp
        · rename_i L2 hst
          cases hp
          obtain ⟨k1, k2, k3⟩ := am_st_ok hst hLo hvo
          match v, hty, hst with
          | .inr (.inl z), _, hst => exact lv_lstore_n hx hb hdg rfl hL.has (by have := am_st_2 hst; omega) rfl (fun ls2 h2 => kk ls2 (am_store2 hst h2) (by omega) k1 hSo2)
        · cases hp
      · cases hp
    · cases hp
  · rename_i i
    cases htr
    unfold am_p at hp
    simp only at hp
    split at hp
    · rename_i v S2
      obtain ⟨hvo, hSo2⟩ := am_oks_cons hSo
      split at hp
      · rename_i hty
        split at hp
        · rename_i L2 hst
          cases hp
          obtain ⟨k1, k2, k3⟩ := am_st_ok hst hLo hvo
          match v, hty, hst with
          | .inr (.inr none), _, hst => exact lv_astoreN hx hb hdg hL.has (by omega) rfl (fun ls2 h2 => kk ls2 (am_store1 hst rfl h2) (by omega) k1 hSo2)
          | .inr (.inr (some (.inl a))), _, hst => exact lv_astore hx hb hdg hL.has (by omega) rfl (fun ls2 h2 => kk ls2 (am_store1 hst rfl h2) (by omega) k1 hSo2)
          | .inr (.inr (some (.inr a))), _, hst => exact lv_astore hx hb hdg hL.has (by omega) rfl (fun ls2 h2 => kk ls2 (am_store1 hst rfl h2) (by omega) k1 hSo2)
        · cases hp
      · cases hp
    · cases hp
  · rename_i f
    cases htr
    unfold am_p at hp
    simp only at hp
    split at hp
    · rename_i v S2
      obtain ⟨hvo, hSo2⟩ := am_oks_cons hSo
      split at hp
      · rename_i hty
        split at hp
        · rename_i L2 hst
          cases hp
          obtain ⟨k1, k2, k3⟩ := am_st_ok hst hLo hvo
          match v, hty, hst with
          | .inr (.inr none), _, hst => exact lv_astore_nN hx hb hdg rfl hL.has (by omega) rfl (fun ls2 h2 => kk ls2 (am_store1 hst rfl h2) (by omega) k1 hSo2)
          | .inr (.inr (some (.inl a))), _, hst => exact lv_astore_n hx hb hdg rfl hL.has (by omega) rfl (fun ls2 h2 => kk ls2 (am_store1 hst rfl h2) (by omega) k1 hSo2)
          | .inr (.inr (some (.inr a))), _, hst => exact lv_astore_n hx hb hdg rfl hL.has (by omega) rfl (fun ls2 h2 => kk ls2 (am_store1 hst rfl h2) (by omega) k1 hSo2)
        · cases hp
      · cases hp
    · cases hp
  · rename_i i z
    cases htr
    unfold am_p at hp
    simp only at hp
    split at hp
    · rename_i v hv
      cases hp
      obtain ⟨k9, hk9⟩ := List.getElem?_of_mem (am_ent_mem.mpr ⟨vI v, hv, rfl⟩ : (x, am_cv A B (vI v)) ∈ am_ent A B L)
      refine lv_iinc hx hb hdg hL.has hk9 rfl (by have := (List.getElem?_eq_some_iff.mp hv).1; omega) rfl (fun ls2 h2 => kk ls2 (am_inc (z' := jadd v im) hL hv (by show lv_has ls2 nL ((x, .int (Int32.ofInt (jadd v im))) :: _); unfold jadd; rw [Int32.ofInt_toInt]; exact h2)) (by simpa using hlen) (fun j u hj => ?_) hSo)
      rcases am_set_some hj with ⟨-, h⟩ | h
      · cases h; exact am_io _
      · exact hLo j u h
    · cases hp
  · cases htr
    unfold am_p at hp
    simp only at hp
    split at hp
    · rename_i b a S2
      obtain ⟨hbo, hSo1⟩ := am_oks_cons hSo
      obtain ⟨hao, hSo2⟩ := am_oks_cons hSo1
      have hp : some (pc + 1, L, vI (jadd a b) :: S2) = some (pc', L', S') := hp
      cases hp
      have h := kk ls hL hlen hLo (am_cons_oks (am_io _) hSo2)
      unfold jadd at h
      rw [List.map_cons, am_cv_i] at h
      exact lv_iadd hx hb hdg h
    · cases hp
  · cases htr
    unfold am_p at hp
    simp only at hp
    split at hp
    · rename_i b a S2
      obtain ⟨hbo, hSo1⟩ := am_oks_cons hSo
      obtain ⟨hao, hSo2⟩ := am_oks_cons hSo1
      have hp : some (pc + 1, L, vI (jsub a b) :: S2) = some (pc', L', S') := hp
      cases hp
      have h := kk ls hL hlen hLo (am_cons_oks (am_io _) hSo2)
      unfold jsub at h
      rw [List.map_cons, am_cv_i] at h
      exact lv_isub hx hb hdg h
    · cases hp
  · cases htr
    unfold am_p at hp
    simp only at hp
    split at hp
    · rename_i b a S2
      obtain ⟨hbo, hSo1⟩ := am_oks_cons hSo
      obtain ⟨hao, hSo2⟩ := am_oks_cons hSo1
      have hp : some (pc + 1, L, vI (jmul a b) :: S2) = some (pc', L', S') := hp
      cases hp
      have h := kk ls hL hlen hLo (am_cons_oks (am_io _) hSo2)
      unfold jmul at h
      rw [List.map_cons, am_cv_i] at h
      exact lv_imul hx hb hdg h
    · cases hp
  · cases htr
    unfold am_p at hp
    simp only at hp
    split at hp
    · rename_i b a S2
      obtain ⟨hbo, hSo1⟩ := am_oks_cons hSo
      obtain ⟨hao, hSo2⟩ := am_oks_cons hSo1
      have hp : some (pc + 1, L, vI (jand a b) :: S2) = some (pc', L', S') := hp
      cases hp
      have h := kk ls hL hlen hLo (am_cons_oks (am_io _) hSo2)
      unfold jand at h
      rw [List.map_cons, am_cv_i] at h
      exact lv_iand hx hb hdg h
    · cases hp
  · cases htr
    unfold am_p at hp
    simp only at hp
    split at hp
    · rename_i b a S2
      obtain ⟨hbo, hSo1⟩ := am_oks_cons hSo
      obtain ⟨hao, hSo2⟩ := am_oks_cons hSo1
      have hp : some (pc + 1, L, vI (jor a b) :: S2) = some (pc', L', S') := hp
      cases hp
      have h := kk ls hL hlen hLo (am_cons_oks (am_io _) hSo2)
      unfold jor at h
      rw [List.map_cons, am_cv_i] at h
      exact lv_ior hx hb hdg h
    · cases hp
  · cases htr
    unfold am_p at hp
    simp only at hp
    split at hp
    · rename_i b a S2
      obtain ⟨hbo, hSo1⟩ := am_oks_cons hSo
      obtain ⟨hao, hSo2⟩ := am_oks_cons hSo1
      have hp : some (pc + 1, L, vI (jxor a b) :: S2) = some (pc', L', S') := hp
      cases hp
      have h := kk ls hL hlen hLo (am_cons_oks (am_io _) hSo2)
      unfold jxor at h
      rw [List.map_cons, am_cv_i] at h
      exact lv_ixor hx hb hdg h
    · cases hp
  · cases htr
    unfold am_p at hp
    simp only at hp
    split at hp
    · rename_i b a S2
      obtain ⟨hbo, hSo1⟩ := am_oks_cons hSo
      obtain ⟨hao, hSo2⟩ := am_oks_cons hSo1
      have hp : some (pc + 1, L, vI (jshl a b) :: S2) = some (pc', L', S') := hp
      cases hp
      have h := kk ls hL hlen hLo (am_cons_oks (am_io _) hSo2)
      unfold jshl at h
      rw [List.map_cons, am_cv_i] at h
      exact lv_ishl hx hb hdg h
    · cases hp
  · cases htr
    unfold am_p at hp
    simp only at hp
    split at hp
    · rename_i b a S2
      obtain ⟨hbo, hSo1⟩ := am_oks_cons hSo
      obtain ⟨hao, hSo2⟩ := am_oks_cons hSo1
      have hp : some (pc + 1, L, vI (jshr a b) :: S2) = some (pc', L', S') := hp
      cases hp
      have h := kk ls hL hlen hLo (am_cons_oks (am_io _) hSo2)
      unfold jshr at h
      rw [List.map_cons, am_cv_i] at h
      exact lv_ishr hx hb hdg h
    · cases hp
  · cases htr
    unfold am_p at hp
    simp only at hp
    split at hp
    · rename_i b a S2
      obtain ⟨hbo, hSo1⟩ := am_oks_cons hSo
      obtain ⟨hao, hSo2⟩ := am_oks_cons hSo1
      have hp : some (pc + 1, L, vI (jushr a b) :: S2) = some (pc', L', S') := hp
      cases hp
      have h := kk ls hL hlen hLo (am_cons_oks (am_io _) hSo2)
      unfold jushr at h
      rw [List.map_cons, am_cv_i] at h
      exact lv_iushr hx hb hdg rfl h
    · cases hp
  · cases htr
    unfold am_p at hp
    simp only at hp
    split at hp
    · rename_i b a S2
      obtain ⟨hbo, hSo1⟩ := am_oks_cons hSo
      obtain ⟨hao, hSo2⟩ := am_oks_cons hSo1
      unfold am_ibin at hp
      simp only at hp
      by_cases e0 : b = 0
      · rw [if_pos e0] at hp; cases hp
      · rw [if_neg e0] at hp
        cases hp
        have h := kk ls hL hlen hLo (am_cons_oks (am_io _) hSo2)
        unfold jdiv at h
        rw [List.map_cons, am_cv_i] at h
        exact lv_idiv hx hb hdg (fun q => e0 ((am_i0 hbo).mp q)) h
    · cases hp
  · cases htr
    unfold am_p at hp
    simp only at hp
    split at hp
    · rename_i b a S2
      obtain ⟨hbo, hSo1⟩ := am_oks_cons hSo
      obtain ⟨hao, hSo2⟩ := am_oks_cons hSo1
      unfold am_ibin at hp
      simp only at hp
      by_cases e0 : b = 0
      · rw [if_pos e0] at hp; cases hp
      · rw [if_neg e0] at hp
        cases hp
        have h := kk ls hL hlen hLo (am_cons_oks (am_io _) hSo2)
        unfold jrem at h
        rw [List.map_cons, am_cv_i] at h
        exact lv_irem hx hb hdg (fun q => e0 ((am_i0 hbo).mp q)) h
    · cases hp
  · cases htr
    unfold am_p at hp
    simp only at hp
    split at hp
    · rename_i a S2
      obtain ⟨hao, hSo2⟩ := am_oks_cons hSo
      have hp : some (pc + 1, L, vI (jneg a) :: S2) = some (pc', L', S') := hp
      cases hp
      have h := kk ls hL hlen hLo (am_cons_oks (am_io _) hSo2)
      unfold jneg at h
      rw [List.map_cons, am_cv_i] at h
      exact lv_ineg hx hb hdg h
    · cases hp
  · cases htr
    unfold am_p at hp
    simp only at hp
    split at hp
    · rename_i a S2
      obtain ⟨hao, hSo2⟩ := am_oks_cons hSo
      have hp : some (pc + 1, L, vI (ji2b a) :: S2) = some (pc', L', S') := hp
      cases hp
      have h := kk ls hL hlen hLo (am_cons_oks (am_io _) hSo2)
      unfold ji2b at h
      rw [List.map_cons, am_cv_i] at h
      exact lv_i2b hx hb hdg rfl h
    · cases hp
  · cases htr
    unfold am_p at hp
    simp only at hp
    split at hp
    · rename_i a S2
      obtain ⟨hao, hSo2⟩ := am_oks_cons hSo
      have hp : some (pc + 1, L, vI (ji2c a) :: S2) = some (pc', L', S') := hp
      cases hp
      have h := kk ls hL hlen hLo (am_cons_oks (am_io _) hSo2)
      unfold ji2c at h
      rw [List.map_cons, am_cv_i] at h
      exact lv_i2c hx hb hdg rfl h
    · cases hp
  · cases htr
    unfold am_p at hp
    simp only at hp
    split at hp
    · rename_i a S2
      obtain ⟨hao, hSo2⟩ := am_oks_cons hSo
      have hp : some (pc + 1, L, vL (ji2l a) :: S2) = some (pc', L', S') := hp
      cases hp
      have h := kk ls hL hlen hLo (am_cons_oks (am_lo _) hSo2)
      unfold ji2l at h
      rw [List.map_cons, am_cv_l] at h
      exact lv_i2l hx hb hdg rfl h
    · cases hp
  · cases htr
    unfold am_p at hp
    simp only at hp
    split at hp
    · rename_i a S2
      obtain ⟨hao, hSo2⟩ := am_oks_cons hSo
      have hp : some (pc + 1, L, vI (jl2i a) :: S2) = some (pc', L', S') := hp
      cases hp
      have h := kk ls hL hlen hLo (am_cons_oks (am_io _) hSo2)
      unfold jl2i at h
      rw [List.map_cons, am_cv_i] at h
      exact lv_l2i hx hb hdg rfl h
    · cases hp
  · cases htr
    unfold am_p at hp
    simp only at hp
    split at hp
    · rename_i b a S2
      obtain ⟨hbo, hSo1⟩ := am_oks_cons hSo
      obtain ⟨hao, hSo2⟩ := am_oks_cons hSo1
      have hp : some (pc + 1, L, vL (kadd a b) :: S2) = some (pc', L', S') := hp
      cases hp
      have h := kk ls hL hlen hLo (am_cons_oks (am_lo _) hSo2)
      unfold kadd at h
      rw [List.map_cons, am_cv_l] at h
      exact lv_ladd hx hb hdg h
    · cases hp
  · cases htr
    unfold am_p at hp
    simp only at hp
    split at hp
    · rename_i b a S2
      obtain ⟨hbo, hSo1⟩ := am_oks_cons hSo
      obtain ⟨hao, hSo2⟩ := am_oks_cons hSo1
      have hp : some (pc + 1, L, vL (ksub a b) :: S2) = some (pc', L', S') := hp
      cases hp
      have h := kk ls hL hlen hLo (am_cons_oks (am_lo _) hSo2)
      unfold ksub at h
      rw [List.map_cons, am_cv_l] at h
      exact lv_lsub hx hb hdg h
    · cases hp
  · cases htr
    unfold am_p at hp
    simp only at hp
    split at hp
    · rename_i b a S2
      obtain ⟨hbo, hSo1⟩ := am_oks_cons hSo
      obtain ⟨hao, hSo2⟩ := am_oks_cons hSo1
      have hp : some (pc + 1, L, vL (kmul a b) :: S2) = some (pc', L', S') := hp
      cases hp
      have h := kk ls hL hlen hLo (am_cons_oks (am_lo _) hSo2)
      unfold kmul at h
      rw [List.map_cons, am_cv_l] at h
      exact lv_lmul hx hb hdg h
    · cases hp
  · cases htr
    unfold am_p at hp
    simp only at hp
    split at hp
    · rename_i b a S2
      obtain ⟨hbo, hSo1⟩ := am_oks_cons hSo
      obtain ⟨hao, hSo2⟩ := am_oks_cons hSo1
      have hp : some (pc + 1, L, vL (kand a b) :: S2) = some (pc', L', S') := hp
      cases hp
      have h := kk ls hL hlen hLo (am_cons_oks (am_lo _) hSo2)
      unfold kand at h
      rw [List.map_cons, am_cv_l] at h
      exact lv_land hx hb hdg h
    · cases hp
  · cases htr
    unfold am_p at hp
    simp only at hp
    split at hp
    · rename_i b a S2
      obtain ⟨hbo, hSo1⟩ := am_oks_cons hSo
      obtain ⟨hao, hSo2⟩ := am_oks_cons hSo1
      have hp : some (pc + 1, L, vL (kor a b) :: S2) = some (pc', L', S') := hp
      cases hp
      have h := kk ls hL hlen hLo (am_cons_oks (am_lo _) hSo2)
      unfold kor at h
      rw [List.map_cons, am_cv_l] at h
      exact lv_lor hx hb hdg h
    · cases hp
  · cases htr
    unfold am_p at hp
    simp only at hp
    split at hp
    · rename_i b a S2
      obtain ⟨hbo, hSo1⟩ := am_oks_cons hSo
      obtain ⟨hao, hSo2⟩ := am_oks_cons hSo1
      unfold am_lbin at hp
      simp only at hp
      by_cases e0 : b = 0
      · rw [if_pos e0] at hp; cases hp
      · rw [if_neg e0] at hp
        cases hp
        have h := kk ls hL hlen hLo (am_cons_oks (am_lo _) hSo2)
        unfold kdiv at h
        rw [List.map_cons, am_cv_l] at h
        exact lv_ldiv hx hb hdg (fun q => e0 ((am_lEq (b := 0) hbo (by decide)).mp q)) h
    · cases hp
  · cases htr
    unfold am_p at hp
    simp only at hp
    split at hp
    · rename_i b a S2
      obtain ⟨hbo, hSo1⟩ := am_oks_cons hSo
      obtain ⟨hao, hSo2⟩ := am_oks_cons hSo1
      unfold am_lbin at hp
      simp only at hp
      by_cases e0 : b = 0
      · rw [if_pos e0] at hp; cases hp
      · rw [if_neg e0] at hp
        cases hp
        have h := kk ls hL hlen hLo (am_cons_oks (am_lo _) hSo2)
        unfold krem at h
        rw [List.map_cons, am_cv_l] at h
        exact lv_lrem hx hb hdg (fun q => e0 ((am_lEq (b := 0) hbo (by decide)).mp q)) h
    · cases hp
  · cases htr
    unfold am_p at hp
    simp only at hp
    split at hp
    · rename_i b a S2
      obtain ⟨hbo, hSo1⟩ := am_oks_cons hSo
      obtain ⟨hao, hSo2⟩ := am_oks_cons hSo1
      cases hp
      have e9 : Int32.ofInt (jcmp a b) = lg_cmp (Int64.ofInt a) (Int64.ofInt b) := by
        unfold jcmp lg_cmp
        have hlt : (Int64.ofInt a > Int64.ofInt b) ↔ b < a := am_lLt hbo hao
        simp only [hlt, am_lEq hao hbo]
        split
        · rfl
        · split <;> rfl
      have o9 : am_ok n (vI (jcmp a b) : AV R1) := by
        show (Int32.ofInt (jcmp a b)).toInt = jcmp a b
        unfold jcmp
        split
        · decide
        · split <;> decide
      have h := kk ls hL hlen hLo (am_cons_oks o9 hSo2)
      have h : W p l e R s m args below meth c H locs cells slots Q (F0 m (pc + 1) ls (.int (Int32.ofInt (jcmp a b)) :: S2.map (am_cv A B))) := h
      rw [e9] at h
      exact W.lcmp hx hb hdg h
    · cases hp
  · cases htr
    unfold am_p at hp
    simp only at hp
    split at hp
    · rename_i v S2
      obtain ⟨hvo, hSo2⟩ := am_oks_cons hSo
      cases hp
      exact lv_dup hx hb hdg rfl (kk ls hL hlen hLo (am_cons_oks hvo hSo))
    · rename_i v S2
      obtain ⟨hvo, hSo2⟩ := am_oks_cons hSo
      cases hp
      exact lv_dup hx hb hdg (by rw [am_cat_cv]; rfl) (kk ls hL hlen hLo (am_cons_oks hvo hSo))
    · cases hp
  · cases htr
    unfold am_p at hp
    simp only at hp
    split at hp
    · rename_i v u S2
      obtain ⟨hvo, hSo1⟩ := am_oks_cons hSo
      obtain ⟨huo, hSo2⟩ := am_oks_cons hSo1
      cases hp
      exact lv_dup2_11 hx hb hdg rfl (by rw [am_cat_cv]; rfl) (kk ls hL hlen hLo (am_cons_oks hvo (am_cons_oks huo hSo)))
    · cases hp
  · cases htr
    unfold am_p at hp
    simp only at hp
    split at hp
    · obtain ⟨hvo, hSo2⟩ := am_oks_cons hSo
      cases hp
      exact lv_pop hx hb hdg rfl (kk ls hL hlen hLo hSo2)
    · obtain ⟨hvo, hSo2⟩ := am_oks_cons hSo
      cases hp
      exact lv_pop hx hb hdg (by rw [am_cat_cv]; rfl) (kk ls hL hlen hLo hSo2)
    · cases hp
  · rename_i cnd o
    obtain ⟨t, ht, htr⟩ := Option.map_eq_some_iff.mp htr
    have ht := am_tgt_eq ht
    cases htr
    unfold am_p at hp
    simp only at hp
    split at hp
    · rename_i b a S2
      obtain ⟨hbo, hSo1⟩ := am_oks_cons hSo
      obtain ⟨hao, hSo2⟩ := am_oks_cons hSo1
      cases hp
      have k := kk ls hL hlen hLo hSo2
      cases cnd with
      | eq =>
        have hif : (@ite _ (am_cond (am_cn .eq) a b) (am_condD (am_cn .eq) a b) y (pc + 3)) = if a = b then y else pc + 3 := by unfold am_cond am_condD am_cn; rfl
        rw [hif] at k
        refine lv_icmp_eq hx hb hdg ht (fun q => ?_) (fun q => ?_)
        · rw [if_pos ((am_iEq hao hbo).mp q)] at k; exact k
        · rw [if_neg (fun z => q ((am_iEq hao hbo).mpr z))] at k; exact k
      | ne =>
        have hif : (@ite _ (am_cond (am_cn .ne) a b) (am_condD (am_cn .ne) a b) y (pc + 3)) = if ¬ a = b then y else pc + 3 := by unfold am_cond am_condD am_cn; rfl
        rw [hif] at k
        refine lv_icmp_ne hx hb hdg ht (fun q => ?_) (fun q => ?_)
        · rw [if_pos ((not_congr (am_iEq hao hbo)).mp q)] at k; exact k
        · rw [if_neg (fun z => z ((am_iEq hao hbo).mp q))] at k; exact k
      | lt =>
        have hif : (@ite _ (am_cond (am_cn .lt) a b) (am_condD (am_cn .lt) a b) y (pc + 3)) = if a < b then y else pc + 3 := by unfold am_cond am_condD am_cn; rfl
        rw [hif] at k
        refine lv_icmp_lt hx hb hdg ht (fun q => ?_) (fun q => ?_)
        · rw [if_pos ((am_iLt hao hbo).mp q)] at k; exact k
        · rw [if_neg (fun z => q ((am_iLt hao hbo).mpr z))] at k; exact k
      | ge =>
        have hif : (@ite _ (am_cond (am_cn .ge) a b) (am_condD (am_cn .ge) a b) y (pc + 3)) = if b ≤ a then y else pc + 3 := by unfold am_cond am_condD am_cn; rfl
        rw [hif] at k
        refine lv_icmp_ge hx hb hdg ht (fun q => ?_) (fun q => ?_)
        · rw [if_pos ((am_iLe hbo hao).mp q)] at k; exact k
        · rw [if_neg (fun z => q ((am_iLe hbo hao).mpr z))] at k; exact k
      | gt =>
        have hif : (@ite _ (am_cond (am_cn .gt) a b) (am_condD (am_cn .gt) a b) y (pc + 3)) = if b < a then y else pc + 3 := by unfold am_cond am_condD am_cn; rfl
        rw [hif] at k
        refine lv_icmp_gt hx hb hdg ht (fun q => ?_) (fun q => ?_)
        · rw [if_pos ((am_iLt hbo hao).mp q)] at k; exact k
        · rw [if_neg (fun z => q ((am_iLt hbo hao).mpr z))] at k; exact k
      | le =>
        have hif : (@ite _ (am_cond (am_cn .le) a b) (am_condD (am_cn .le) a b) y (pc + 3)) = if a ≤ b then y else pc + 3 := by unfold am_cond am_condD am_cn; rfl
        rw [hif] at k
        refine lv_icmp_le hx hb hdg ht (fun q => ?_) (fun q => ?_)
        · rw [if_pos ((am_iLe hao hbo).mp q)] at k; exact k
        · rw [if_neg (fun z => q ((am_iLe hao hbo).mpr z))] at k; exact k
    · cases hp
  · rename_i cnd o
    obtain ⟨t, ht, htr⟩ := Option.map_eq_some_iff.mp htr
    have ht := am_tgt_eq ht
    cases htr
    unfold am_p at hp
    simp only at hp
    split at hp
    · rename_i a S2
      obtain ⟨hao, hSo2⟩ := am_oks_cons hSo
      cases hp
      have k := kk ls hL hlen hLo hSo2
      cases cnd with
      | eq =>
        have hif : (@ite _ (am_cond (am_cn .eq) a 0) (am_condD (am_cn .eq) a 0) y (pc + 3)) = if a = 0 then y else pc + 3 := by unfold am_cond am_condD am_cn; rfl
        rw [hif] at k
        refine lv_if_eq hx hb hdg ht (fun q => ?_) (fun q => ?_)
        · rw [if_pos ((am_i0 hao).mp q)] at k; exact k
        · rw [if_neg (fun z => q ((am_i0 hao).mpr z))] at k; exact k
      | ne =>
        have hif : (@ite _ (am_cond (am_cn .ne) a 0) (am_condD (am_cn .ne) a 0) y (pc + 3)) = if ¬ a = 0 then y else pc + 3 := by unfold am_cond am_condD am_cn; rfl
        rw [hif] at k
        refine lv_if_ne hx hb hdg ht (fun q => ?_) (fun q => ?_)
        · rw [if_pos ((not_congr (am_i0 hao)).mp q)] at k; exact k
        · rw [if_neg (fun z => z ((am_i0 hao).mp q))] at k; exact k
      | lt =>
        have hif : (@ite _ (am_cond (am_cn .lt) a 0) (am_condD (am_cn .lt) a 0) y (pc + 3)) = if a < 0 then y else pc + 3 := by unfold am_cond am_condD am_cn; rfl
        rw [hif] at k
        refine lv_if_lt hx hb hdg ht (fun q => ?_) (fun q => ?_)
        · rw [if_pos ((am_ilt0 hao).mp q)] at k; exact k
        · rw [if_neg (fun z => q ((am_ilt0 hao).mpr z))] at k; exact k
      | ge =>
        have hif : (@ite _ (am_cond (am_cn .ge) a 0) (am_condD (am_cn .ge) a 0) y (pc + 3)) = if 0 ≤ a then y else pc + 3 := by unfold am_cond am_condD am_cn; rfl
        rw [hif] at k
        refine lv_if_ge hx hb hdg ht (fun q => ?_) (fun q => ?_)
        · rw [if_pos ((am_ige0 hao).mp q)] at k; exact k
        · rw [if_neg (fun z => q ((am_ige0 hao).mpr z))] at k; exact k
      | gt =>
        have hif : (@ite _ (am_cond (am_cn .gt) a 0) (am_condD (am_cn .gt) a 0) y (pc + 3)) = if 0 < a then y else pc + 3 := by unfold am_cond am_condD am_cn; rfl
        rw [hif] at k
        refine lv_if_gt hx hb hdg ht (fun q => ?_) (fun q => ?_)
        · rw [if_pos ((am_igt0 hao).mp q)] at k; exact k
        · rw [if_neg (fun z => q ((am_igt0 hao).mpr z))] at k; exact k
      | le =>
        have hif : (@ite _ (am_cond (am_cn .le) a 0) (am_condD (am_cn .le) a 0) y (pc + 3)) = if a ≤ 0 then y else pc + 3 := by unfold am_cond am_condD am_cn; rfl
        rw [hif] at k
        refine lv_if_le hx hb hdg ht (fun q => ?_) (fun q => ?_)
        · rw [if_pos ((am_ile0 hao).mp q)] at k; exact k
        · rw [if_neg (fun z => q ((am_ile0 hao).mpr z))] at k; exact k
    · cases hp
  · rename_i o
    obtain ⟨t, ht, htr⟩ := Option.map_eq_some_iff.mp htr
    have ht := am_tgt_eq ht
    cases htr
    unfold am_p at hp
    simp only at hp
    split at hp
    · obtain ⟨hvo, hSo2⟩ := am_oks_cons hSo
      cases hp
      exact lv_ifnullN hx hb hdg ht (kk ls hL hlen hLo hSo2)
    · rename_i r S2
      obtain ⟨hvo, hSo2⟩ := am_oks_cons hSo
      cases hp
      have k := kk ls hL hlen hLo hSo2
      match r, k with
      | .inl a, k => exact lv_ifnull hx hb hdg k
      | .inr a, k => exact lv_ifnull hx hb hdg k
    · cases hp
  · rename_i o
    obtain ⟨t, ht, htr⟩ := Option.map_eq_some_iff.mp htr
    have ht := am_tgt_eq ht
    cases htr
    unfold am_p at hp
    simp only at hp
    split at hp
    · obtain ⟨hvo, hSo2⟩ := am_oks_cons hSo
      cases hp
      exact lv_ifnonnullN hx hb hdg (kk ls hL hlen hLo hSo2)
    · rename_i r S2
      obtain ⟨hvo, hSo2⟩ := am_oks_cons hSo
      cases hp
      have k := kk ls hL hlen hLo hSo2
      match r, k with
      | .inl a, k => exact lv_ifnonnull hx hb hdg ht k
      | .inr a, k => exact lv_ifnonnull hx hb hdg ht k
    · cases hp
  · rename_i o
    obtain ⟨t, ht, htr⟩ := Option.map_eq_some_iff.mp htr
    have ht := am_tgt_eq ht
    cases htr
    have hp : some (y, L, S) = some (pc', L', S') := hp
    cases hp
    exact lv_goto hx hb hdg ht (kk ls hL hlen hLo hSo)
  · rename_i d lo hi offs
    split at htr
    · rename_i hc
      cases htr
      obtain ⟨c1, c2, c3⟩ := hc
      unfold am_p at hp
      simp only at hp
      split at hp
      · rename_i a S2
        obtain ⟨hao, hSo2⟩ := am_oks_cons hSo
        cases hp
        have k := kk ls hL hlen hLo hSo2
        have hT : (Int32.ofInt a).toInt = a := hao
        by_cases o1 : a < lo ∨ hi < a
        · rw [am_sw_out (pc := pc) (x := a) offs.toList lo 0 (by simp only [Array.length_toList]; omega)] at k
          exact lv_tableOut hx hb hdg (by rw [hT]; exact o1) (tgt := ((pc : Int) + d).toNat) (by omega) k
        · obtain ⟨i, hi1⟩ : ∃ i : Nat, a = lo + (i : Int) := ⟨(a - lo).toNat, by omega⟩
          have hi2 : i < offs.size := by omega
          have hi3 : offs.toList[i]? = some offs[i] := by simp [hi2]
          rw [am_sw_in (pc := pc) (x := a) offs.toList lo 0 i offs[i] hi3 (by rw [hi1]; congr 2; omega)] at k
          have hge := List.all_eq_true.mp c3 offs[i] (List.mem_of_getElem? hi3)
          simp only [decide_eq_true_eq] at hge
          refine lv_tableIn hx hb hdg (by rw [hT]; omega) (by rw [hT]; omega) (off := offs[i]) ?_ (tgt := ((pc : Int) + offs[i]).toNat) (by omega) k
          rw [hT, show (a - lo).toNat = i by omega]
          simp [hi2]
      · cases hp
    · cases htr
  · rename_i d ps
    split at htr
    · rename_i hc
      cases htr
      obtain ⟨c1, c2, c3⟩ := hc
      unfold am_p at hp
      simp only at hp
      split at hp
      · rename_i a S2
        obtain ⟨hao, hSo2⟩ := am_oks_cons hSo
        cases hp
        have k := kk ls hL hlen hLo hSo2
        have hT : (Int32.ofInt a).toInt = a := hao
        exact lv_lookup hx hb hdg c1 (off := Op.lookupswitch.offset ps.toList d a) (by rw [hT]) (am_sw_off c2 _ c3) k
      · cases hp
    · cases htr
  · cases htr
end AMQ
end
section
/-! WHAT STANDS ROUND THE CELLS: the tables' words that a call can't carry, the script, the texts -/
def am_tys (dA : Nat → ClassId) : List (ClassId × FieldType) := [(dA 0, .int), (dA 1, .byte), (dA 2, .boolean), (dA 3, .long), (dA 104, .object "WashingLines$Yard"), (dA 106, .object "WashingLines$Law"), (dA 108, .object "WashingLines$World"), (dA 99, .array .int)]
def am_ao : List String := ["WashingLines$Yard", "WashingLines$Law", "WashingLines$World"]
def am_nw : List Cond := (am_mlT.filter (fun e => Nat.beq e.2.2.1 3)).map fun e => .methodLinkNest (am_nm e.1) e.2.1 (am_y e.2.2.2.1) "WashingLines"
def am_txo (j : Nat) : String := am_nm (am_txT.getD j (0, 0, 0)).1
def am_txi (j : Nat) : Nat := (am_txT.getD j (0, 0, 0)).2.1
def am_txl : List Nat := am_T.map List.length
def am_txb : List (List Int32) := am_T.map fun t => t.map fun b => Int32.ofNat b
def am_E (D : va_G) (dA : Nat → ClassId) (B : Nat → Nat) (sl : Nat) (xs : Nat → Int32) (Af : Nat → Prop) (U : State) (H : Heap) : Prop :=
  (va_K D am_cl (am_tys dA) U ∧ (∀ w ∈ am_nw, va_Nw w U) ∧ (∀ C ∈ am_ao, va_AO C U) ∧ va_AOA .int U ∧ ∀ j, j < 23 → vk_R (am_txo j) (am_txi j) (am_tx.getD j "") (B (j + 1)) U) ∧
  (va_X (B 0) sl xs U H ∧ B 0 < H.size ∧ ¬ Af (B 0)) ∧ vk_S 23 am_txl am_txb (fun j => B (j + 1)) (fun j => B (1001 + j)) Af U H ∧ va_Z "java/lang/String" "COMPACT_STRINGS" "Z" (.int 1) Af U H ∧ ((xs 1000000 = 0 ∧ va_Z "jdk/internal/util/Preconditions" "SIOOBE_FORMATTER" "Ljava/util/function/BiFunction;" .null Af U H) ∨ (¬ xs 1000000 = 0 ∧ va_Z "jdk/internal/util/Preconditions" "SIOOBE_FORMATTER" "Ljava/util/function/BiFunction;" (.ref (B 5000)) Af U H))
theorem am_nw_nest : ∀ w ∈ am_nw, ∃ a i b h, w = .methodLinkNest a i b h := by
  intro w hw
  obtain ⟨e, -, rfl⟩ := List.mem_map.mp hw
  exact ⟨_, _, _, _, rfl⟩
theorem am_E.kept {D : va_G} {dA : Nat → ClassId} {B : Nat → Nat} {sl : Nat} {xs : Nat → Int32} {Af : Nat → Prop} {U : State} {H0 H : Heap} {locs : List Loc} (h : am_E D dA B sl xs Af U H0) (hS : va_S Af H0 H locs) : am_E D dA B sl xs Af U H := by
  obtain ⟨h1, ⟨h2, h3, h4⟩, h5, h6, h7⟩ := h
  exact ⟨h1, ⟨h2.kept (hS.2.1 _ h3 h4), Nat.lt_of_lt_of_le h3 hS.1, h4⟩, h5.kept fun a q1 q2 => hS.2.1 a q1 q2, h6.kept fun a q1 q2 => hS.2.1 a q1 q2, h7.imp (fun z => ⟨z.1, z.2.kept fun a q1 q2 => hS.2.1 a q1 q2⟩) (fun z => ⟨z.1, z.2.kept fun a q1 q2 => hS.2.1 a q1 q2⟩)⟩
theorem am_E.moved {D : va_G} {dA : Nat → ClassId} {B : Nat → Nat} {sl : Nat} {xs : Nat → Int32} {Af : Nat → Prop} {s U : State} {H : Heap} (hW : s.WarmedH U.vm) (h : am_E D dA B sl xs Af s H) : am_E D dA B sl xs Af U H := by
  obtain ⟨⟨k1, k2, k3, k4, k5⟩, ⟨h2, h3, h4⟩, h5, h6, h7⟩ := h
  refine ⟨⟨va_K.moved hW.alike k1, fun w hw => ?_, fun C hC => (k3 C hC).moved hW.alike, k4.moved hW.alike, fun j hj => (k5 j hj).warm hW⟩, ⟨h2.moved hW.alike, h3, h4⟩, h5.moved hW.alike, h6.moved hW.alike, h7.imp (fun z => ⟨z.1, z.2.moved hW.alike⟩) (fun z => ⟨z.1, z.2.moved hW.alike⟩)⟩
  obtain ⟨a, i, b, h, rfl⟩ := am_nw_nest w hw
  exact va_Nw.warmM hW (k2 _ hw)
theorem am_E.same {D : va_G} {dA : Nat → ClassId} {B : Nat → Nat} {sl : Nat} {xs : Nat → Int32} {Af : Nat → Prop} {s U : State} {H : Heap} (hv : U.vm = s.vm) (h : am_E D dA B sl xs Af s H) : am_E D dA B sl xs Af U H := by
  obtain ⟨⟨k1, k2, k3, k4, k5⟩, ⟨h2, h3, h4⟩, h5, h6, h7⟩ := h
  have hal : s.vm.Alike U.vm := by rw [hv]; exact Vm.Alike.refl _
  refine ⟨⟨va_K.moved hal k1, fun w hw => ?_, fun C hC => (k3 C hC).moved hal, k4.moved hal, fun j hj => (k5 j hj).same hv⟩, ⟨h2.moved hal, h3, h4⟩, h5.moved hal, h6.moved hal, h7.imp (fun z => ⟨z.1, z.2.moved hal⟩) (fun z => ⟨z.1, z.2.moved hal⟩)⟩
  obtain ⟨a, i, b, h, rfl⟩ := am_nw_nest w hw
  exact va_Nw.same rfl hv.symm (k2 _ hw)
theorem am_E.narrow {D : va_G} {dA : Nat → ClassId} {B : Nat → Nat} {sl : Nat} {xs : Nat → Int32} {Af Ag : Nat → Prop} {U : State} {H : Heap} (h : am_E D dA B sl xs Af U H) (hA : ∀ q, Ag q → Af q) : am_E D dA B sl xs Ag U H := by
  obtain ⟨h1, ⟨h2, h3, h4⟩, h5, h6, h7⟩ := h
  exact ⟨h1, ⟨h2, h3, fun q => h4 (hA _ q)⟩, h5.narrow hA, h6.narrow hA, h7.imp (fun z => ⟨z.1, z.2.narrow hA⟩) (fun z => ⟨z.1, z.2.narrow hA⟩)⟩
end
section
/-! WHAT THE MACHINE ASKS OF ITS CELLS, over the real heap -/
theorem am_rng {x : Int} (h1 : -2147483648 ≤ x) (h2 : x < 2147483648) : (Int32.ofInt x).toInt = x := by
  rw [Int32.toInt_ofInt]
  have hs : ((Int32.size : Nat) : Int) = 4294967296 := rfl
  exact Int.bmod_eq_of_le (by omega) (by omega)
theorem am_clamp {x : Int} (h : (Int32.ofInt x).toInt = x) : (Int32.ofInt x).toNatClampNeg = x.toNat := by
  show (Int32.ofInt x).toInt.toNat = x.toNat
  rw [h]
theorem am_in_vp {i : Int} {n : Nat} (hi : (Int32.ofInt i).toInt = i) (h : am_in i n = true) : vp_in (Int32.ofInt i) n := by
  unfold am_in at h
  simp only [decide_eq_true_eq] at h
  intro q
  rcases q with q | q
  · rw [am_ilt0 hi] at q; omega
  · rw [am_clamp hi] at q; omega
def am_R (D : va_G) (dA : Nat → ClassId) (A B : Nat → Nat) (Af : Nat → Prop) (H0 H : Heap) (locs : List Loc) (w : W1) : Prop :=
  va_P D am_cl (am_ws A B dA w) H ∧ va_D Af (am_ws A B dA w) ∧ va_S Af H0 H locs ∧ ∀ c ∈ w, am_okc w.length c
theorem am_okc_set {w : W1} {a : Nat} {c : C1} (h : ∀ c ∈ w, am_okc w.length c) (hc : am_okc w.length c) : ∀ x ∈ w.set a c, am_okc (w.set a c).length x := by
  intro x hx
  rw [List.length_set]
  rcases List.mem_or_eq_of_mem_set hx with q | q
  · exact h x q
  · rw [q]; exact hc
section AMM
variable {p : Program} {l : Launch} {e : Env} {R : Room} {s : State} {m : MethodId} {args : Array Value} {below : List Frame} {meth : Method} {c : Code} {H : Heap} {locs : List Loc} {cells slots : Nat} {Q : State → Prop}
variable {cc : ByteArray} {pc : Nat} {ls : Array Slot} {D : va_G} {dA : Nat → ClassId} {A B : Nat → Nat} {sl : Nat} {xs : Nat → Int32} {Af : Nat → Prop} {w w' : W1} {S2 : List (AV R1)} {rv : Option (AV R1)} {as : List (AV R1)} {k idx nx : Nat}
/-- what goes on behind a request -/
def am_K (p : Program) (l : Launch) (e : Env) (R : Room) (s : State) (m : MethodId) (args : Array Value) (below : List Frame) (meth : Method) (c : Code) (cells slots : Nat) (Q : State → Prop) (D : va_G) (dA : Nat → ClassId) (A B : Nat → Nat) (Af : Nat → Prop) (w w' : W1) (rv : Option (AV R1)) (nx : Nat) (ls : Array Slot) (S2 : List (AV R1)) : Prop :=
  ∀ (A' : Nat → Nat) (H' : Heap) (locs' : List Loc), (∀ a, a < w.length → A' a = A a) → am_R D dA A' B Af s.heap H' locs' w' → (∀ v, rv = some v → am_ok w'.length v) → w.length ≤ w'.length →
    W p l e R s m args below meth c H' locs' (cells + (w'.length - w.length)) (slots + (am_sl am_ft w' - am_sl am_ft w)) Q (F0 m nx ls ((rv.toList ++ S2).map (am_cv A' B)))
theorem am_K.same (kk : am_K p l e R s m args below meth c cells slots Q D dA A B Af w w' rv nx ls S2) (hl : w'.length = w.length) (hs : am_sl am_ft w' = am_sl am_ft w) {H' : Heap} {locs' : List Loc} (hR : am_R D dA A B Af s.heap H' locs' w') (hv : ∀ v, rv = some v → am_ok w'.length v) :
    W p l e R s m args below meth c H' locs' cells slots Q (F0 m nx ls ((rv.toList ++ S2).map (am_cv A B))) := by
  have h := kk A H' locs' (fun _ _ => rfl) hR hv (by omega)
  rw [hl, hs, Nat.sub_self, Nat.sub_self] at h
  exact h
theorem am_E.K {Af : Nat → Prop} {H : Heap} (hE : am_E D dA B sl xs Af s H) : va_K D am_cl (am_tys dA) s := hE.1.1
theorem am_m_get (hx : p.tables.exec = Jvm.exec) (hb : c.code = cc) (hown : s.vm.findClass (am_nm (am_o k)) = some m.cls) (hts : ∀ w ∈ am_gw, w.before args s = true) (hE : am_E D dA B sl xs Af s s.heap) (hR : am_R D dA A B Af s.heap H locs w)
    {i : Nat} (hfl : am_fl (am_o k) i = some idx) (hdg : decode cc pc = .ok (.getfield i, 3)) (hm : m1_get idx as w = some (rv, w')) (has : ∀ v ∈ as, am_ok w.length v)
    (kk : am_K p l e R s m args below meth c cells slots Q D dA A B Af w w' rv (pc + 3) ls S2) : W p l e R s m args below meth c H locs cells slots Q (F0 m pc ls ((as.reverse ++ S2).map (am_cv A B))) := by
  unfold m1_get at hm
  split at hm
  · rename_i a
    split at hm
    · rename_i cN fs hw
      split at hm
      · rename_i hc
        split at hm
        · rename_i v hv
          cases hm
          obtain ⟨q, h1, h2, h3, h4⟩ := am_fl_ok hfl
          rw [hc] at h1
          obtain ⟨C, T, N⟩ := q
          have h4 : (T (idx % 128)).1 = C := h4
          have hok : am_ok w.length v := hR.2.2.2 _ (List.mem_of_getElem? hw) v (List.mem_of_getElem? hv)
          have h := kk.same rfl rfl hR (fun u hu => by cases hu; exact hok)
          exact va_get (D := D) (cl := am_cl) (tys := am_tys dA) (ws := am_ws A B dA w) (C := C) (T := T) (N := N) (ref := C) hx hb hts (am_cl_ok h1).1 hown hE.K hR.1 a (am_ws_at hw) h1 (idx % 128) h2 (hts _ h3) (fun x hx => by rw [← h4]; exact hx) (by rw [List.getElem?_map, hv]; rfl) hdg h
        · cases hm
      · cases hm
    · cases hm
  · cases hm
theorem am_m_put (hx : p.tables.exec = Jvm.exec) (hb : c.code = cc) (hown : s.vm.findClass (am_nm (am_o k)) = some m.cls) (hts : ∀ w ∈ am_gw, w.before args s = true) (hE : am_E D dA B sl xs Af s s.heap) (hR : am_R D dA A B Af s.heap H locs w)
    (hini : am_fin idx = false ∨ (am_o k = idx / 128 ∧ meth.name = "<init>")) {i : Nat} (hfl : am_fl (am_o k) i = some idx) (hdg : decode cc pc = .ok (.putfield i, 3)) (hm : m1_put am_ft idx as w = some (rv, w')) (has : ∀ v ∈ as, am_ok w.length v)
    (kk : am_K p l e R s m args below meth c cells slots Q D dA A B Af w w' rv (pc + 3) ls S2) : W p l e R s m args below meth c H locs cells slots Q (F0 m pc ls ((as.reverse ++ S2).map (am_cv A B))) := by
  unfold m1_put at hm
  split at hm
  · rename_i a v
    split at hm
    · rename_i cN fs hw
      split at hm
      · rename_i hc
        obtain ⟨hc, hlen⟩ := hc
        split at hm
        · rename_i t ht
          split at hm
          · rename_i hfit
            cases hm
            obtain ⟨q, h1, h2, h3, h4⟩ := am_fl_ok hfl
            have hfin0 : am_fin idx = (q.2.1 (idx % 128)).2.2.2 := by unfold am_fin; rw [h1]
            rw [hc] at h1
            obtain ⟨C, T, N⟩ := q
            have h4 : (T (idx % 128)).1 = C := h4
            have hvo : am_ok w.length v := has v (by simp)
            obtain ⟨g1, g2, g3, g4⟩ := am_cl_ok h1
            have hty := g3 _ h2
            rw [List.getD_eq_getElem?_getD, ht, Option.getD_some] at hty
            have hnf : narrow (am_fty cN (idx % 128)) (am_cv A B v) = am_cv A B v ∧ fits (am_fty cN (idx % 128)) (am_cv A B v) = true := by
              generalize am_fty cN (idx % 128) = ty at hty
              match t, v, hfit, ty, hty with
              | 0, .inl z, _, .int, _ => exact ⟨rfl, rfl⟩
              | 1, .inl z, hf, .boolean, _ =>
                have hf : decide (z = 0 ∨ z = 1) = true := hf
                simp only [decide_eq_true_eq] at hf
                rcases hf with rfl | rfl <;> exact ⟨rfl, rfl⟩
              | 2, .inr (.inr none), _, .object _, _ => exact ⟨rfl, rfl⟩
              | 2, .inr (.inr none), _, .array _, _ => exact ⟨rfl, rfl⟩
              | 2, .inr (.inr (some (.inl _))), _, .object _, _ => exact ⟨rfl, rfl⟩
              | 2, .inr (.inr (some (.inl _))), _, .array _, _ => exact ⟨rfl, rfl⟩
              | 2, .inr (.inr (some (.inr _))), _, .object _, _ => exact ⟨rfl, rfl⟩
              | 2, .inr (.inr (some (.inr _))), _, .array _, _ => exact ⟨rfl, rfl⟩
            have hsz : am_szc am_ft (.inl (cN, fs.set (idx % 128) v)) = am_szc am_ft (.inl (cN, fs)) := rfl
            have hok2 : ∀ x ∈ w.set a (.inl (cN, fs.set (idx % 128) v)), am_okc (w.set a (.inl (cN, fs.set (idx % 128) v))).length x := am_okc_set hR.2.2.2 fun u hu => by
              rcases List.mem_or_eq_of_mem_set hu with q | q
              · exact hR.2.2.2 _ (List.mem_of_getElem? hw) u q
              · rw [q]; exact hvo
            have fin : ∀ (H1 : Heap) (locs1 : List Loc), va_P D am_cl ((am_ws A B dA w).set a (A a, .inr (cN, (fs.map (am_cv A B)).set (idx % 128) (am_cv A B v)))) H1 → va_D Af ((am_ws A B dA w).set a (A a, .inr (cN, (fs.map (am_cv A B)).set (idx % 128) (am_cv A B v)))) → va_S Af s.heap H1 locs1 → W p l e R s m args below meth c H1 locs1 cells slots Q (F0 m (pc + 3) ls (S2.map (am_cv A B))) := by
              intro H1 locs1 p1 p2 p3
              have e1 : (am_ws A B dA w).set a (A a, .inr (cN, (fs.map (am_cv A B)).set (idx % 128) (am_cv A B v))) = am_ws A B dA (w.set a (.inl (cN, fs.set (idx % 128) v))) := by
                rw [← am_ws_set]
                show _ = (am_ws A B dA w).set a (A a, .inr (cN, (fs.set (idx % 128) v).map (am_cv A B)))
                rw [List.map_set]
              rw [e1] at p1 p2
              exact kk.same (by rw [List.length_set]) (am_sl_set hsz _ _ hw) ⟨p1, p2, p3, hok2⟩ (fun u hu => by cases hu)
            by_cases hfn : am_fin idx = false
            · exact va_put (D := D) (cl := am_cl) (tys := am_tys dA) (ws := am_ws A B dA w) (C := C) (T := T) (N := N) (ref := C) hx hb hts g1 (am_fty cN) g2 (am_cl_nm h1) hown hE.K hR.1 hR.2.1 hR.2.2.1 a (am_ws_at hw) h1 (idx % 128) h2 (hts _ h3) (fun x hx => by rw [← h4]; exact hx) (by rw [← hfin0]; exact hfn) (g2 _ h2) hnf.1 hnf.2 (by rw [List.length_map]; exact hlen) hdg fin
            · have hin := hini.resolve_left hfn
              have hCown : C = am_nm (am_o k) := by
                have : am_o k = cN := by rw [hin.1, hc]
                rw [this]
                have hlt := am_cl_lt h1
                match cN, h1, hlt with
                | 0, h1, _ => cases h1; rfl
                | 1, h1, _ => cases h1; rfl
                | 2, h1, _ => cases h1; rfl
                | 3, h1, _ => cases h1; rfl
                | 4, h1, _ => cases h1; rfl
                | 5, h1, _ => cases h1; rfl
                | 6, h1, _ => cases h1; rfl
                | 7, h1, _ => cases h1; rfl
                | 8, h1, _ => cases h1; rfl
                | 9, h1, _ => cases h1; rfl
                | 10, h1, _ => cases h1; rfl
                | 11, h1, _ => cases h1; rfl
                | 12, h1, _ => cases h1; rfl
                | n + 13, _, hlt => omega
              exact va_putF (D := D) (cl := am_cl) (tys := am_tys dA) (ws := am_ws A B dA w) (C := C) (T := T) (N := N) (ref := C) hx hb hts g1 (am_fty cN) g2 (am_cl_nm h1) hown hE.K hR.1 hR.2.1 hR.2.2.1 a (am_ws_at hw) h1 (idx % 128) h2 (hts _ h3) (fun x hx => by rw [← h4]; exact hx) (by rw [← hfin0]; simpa using hfn) hin.2 (h4.trans hCown) (g2 _ h2) hnf.1 hnf.2 (by rw [List.length_map]; exact hlen) hdg fin
          · cases hm
        · cases hm
      · cases hm
    · cases hm
  · cases hm
theorem am_text_b : am_T.all (fun bs => bs.all (fun b => decide (b < 128))) = true := by decide +kernel
theorem am_T_len : am_T.length = 23 := by decide +kernel
theorem am_text {i : Nat} {bs : List Nat} (h : am_T[i]? = some bs) : i < 23 ∧ am_txl.getD i 0 = bs.length ∧ ∀ q, q < bs.length → (Int32.ofInt (Int.ofNat (bs.getD q 0))).toInt = Int.ofNat (bs.getD q 0) := by
  refine ⟨by rw [← am_T_len]; exact (List.getElem?_eq_some_iff.mp h).1, ?_, fun q hq => ?_⟩
  · unfold am_txl
    rw [List.getD_eq_getElem?_getD, List.getElem?_map, h]
    rfl
  · have h1 := List.all_eq_true.mp (List.all_eq_true.mp am_text_b _ (List.mem_of_getElem? h)) (bs.getD q 0) (by
      rw [List.getD_eq_getElem?_getD, List.getElem?_eq_getElem hq, Option.getD_some]; exact List.getElem_mem hq)
    simp only [decide_eq_true_eq] at h1
    refine am_rng ?_ ?_
    · have : (0 : Int) ≤ Int.ofNat (bs.getD q 0) := Int.natCast_nonneg _
      omega
    · show ((bs.getD q 0 : Nat) : Int) < _
      omega
theorem am_texb {i q : Nat} {bs : List Nat} (h : am_T[i]? = some bs) (hq : q < bs.length) : ((am_txb.getD i []).getD q 0) = Int32.ofNat (bs.getD q 0) := by
  have e1 : am_txb.getD i [] = bs.map fun b => Int32.ofNat b := by
    unfold am_txb
    rw [List.getD_eq_getElem?_getD, List.getElem?_map, h]
    rfl
  rw [e1, List.getD_eq_getElem?_getD, List.getElem?_map, List.getD_eq_getElem?_getD, List.getElem?_eq_getElem hq]
  rfl
theorem am_tag4 {t : Nat} (h : t ≤ 3) : ∃ ty, (am_tys dA)[t]? = some (dA t, ty) := by
  rcases (show t = 0 ∨ t = 1 ∨ t = 2 ∨ t = 3 by omega) with rfl | rfl | rfl | rfl <;> exact ⟨_, rfl⟩
theorem am_iok {f : Nat → Int} {t : Nat} (h : ∀ j, if t = 3 then (Int64.ofInt (f j)).toInt = f j else (Int32.ofInt (f j)).toInt = f j) (h3 : ¬ t = 3) (j : Nat) : (Int32.ofInt (f j)).toInt = f j := by
  have := h j
  rwa [if_neg h3] at this
theorem am_cc_int {t n : Nat} {f : Nat → Int} (h : ¬ t = 3) : am_cc A B dA (.inr (.inl (t, n, f))) = .inl (dA t, n, .inl (fun j => Int32.ofInt (f j))) := by
  show (if t = 3 then _ else _) = _
  rw [if_neg h]
theorem am_upd_cv {f : Nat → Int} {k : Nat} {x : Int} : (fun j => Int32.ofInt (am_u f k x j)) = upd (fun j => Int32.ofInt (f j)) k (Int32.ofInt x) := by
  funext j
  unfold am_u upd
  split <;> rfl
theorem am_updL_cv {f : Nat → Int} {k : Nat} {x : Int} : (fun j => Int64.ofInt (am_u f k x j)) = vp_updL (fun j => Int64.ofInt (f j)) k (Int64.ofInt x) := by
  funext j
  unfold am_u vp_updL
  split <;> rfl
theorem am_updq_cv {g : Nat → Option Nat} {k b : Nat} : (fun j => (am_uq g k (some b) j).map A) = va_up (fun j => (g j).map A) k (some (A b)) := by
  funext j
  unfold am_uq va_up
  split <;> rfl
theorem am_rf_cv {r : Option Nat} : va_rf (r.map A) = am_cv A B (.inr (.inr (r.map Sum.inl))) := by
  cases r <;> rfl
theorem am_m_ald {Wi : Jvm.ClassFile.Instr} (hx : p.tables.exec = Jvm.exec) (hb : c.code = cc) (hE : am_E D dA B sl xs Af s s.heap) (hR : am_R D dA A B Af s.heap H locs w)
    (hWi : (Wi = .iaload ∧ idx = 0) ∨ (Wi = .baload ∧ idx = 1) ∨ (Wi = .laload ∧ idx = 3) ∨ (Wi = .aaload ∧ idx = 4)) (hdg : decode cc pc = .ok (Wi, 1)) (hm : m1_ald am_T sl (fun j => (xs j).toInt) idx as w = some (rv, w')) (has : ∀ v ∈ as, am_ok w.length v)
    (kk : am_K p l e R s m args below meth c cells slots Q D dA A B Af w w' rv (pc + 1) ls S2) : W p l e R s m args below meth c H locs cells slots Q (F0 m pc ls ((as.reverse ++ S2).map (am_cv A B))) := by
  unfold m1_ald at hm
  split at hm
  · rename_i a i
    have hi : (Int32.ofInt i).toInt = i := has (.inl i) (by simp)
    split at hm
    · rename_i t n f hw
      split at hm
      · rename_i hc
        obtain ⟨hc, hin⟩ := hc
        cases hm
        obtain ⟨ht3, hf⟩ := hR.2.2.2 _ (List.mem_of_getElem? hw)
        have hws := am_ws_at (A := A) (B := B) (dA := dA) hw
        by_cases h3 : t = 3
        · subst h3
          have hidx : idx = 3 := by
            unfold am_tm at hc
            simp only [Bool.or_eq_true, Bool.and_eq_true] at hc
            rcases hc with q | q
            · exact (Nat.eq_of_beq_eq_true q).symm
            · have := Nat.eq_of_beq_eq_true q.2; omega
          have hWi : Wi = .laload := by
            rcases hWi with q | q | q | q
            · omega
            · omega
            · exact q.1
            · omega
          subst hWi
          have hfi : (Int64.ofInt (f i.toNat)).toInt = f i.toNat := by have := hf i.toNat; rwa [if_pos rfl] at this
          have h := kk.same rfl rfl hR (fun u hu => by cases hu; exact hfi)
          refine va_lald (D := D) (cl := am_cl) (tys := am_tys dA) (ws := am_ws A B dA w) hx hb hE.K hR.1 a 3 hws rfl (am_in_vp hi hin) hdg ?_
          rw [am_clamp hi]
          exact h
        · rw [am_cc_int h3] at hws
          have hfi := am_iok hf h3 i.toNat
          rw [if_neg h3] at kk
          have h := kk.same rfl rfl hR (fun u hu => by cases hu; exact hfi)
          unfold am_tm at hc
          simp only [Bool.or_eq_true, Bool.and_eq_true] at hc
          rcases (show t = 0 ∨ t = 1 ∨ t = 2 by omega) with rfl | rfl | rfl
          · have hWi : Wi = .iaload := by
              rcases hWi with q | q | q | q
              · exact q.1
              all_goals (rcases hc with z | z; · have := Nat.eq_of_beq_eq_true z; omega
                         · have := Nat.eq_of_beq_eq_true z.2; omega)
            subst hWi
            refine va_iald (D := D) (cl := am_cl) (tys := am_tys dA) (ws := am_ws A B dA w) hx hb hE.K hR.1 a 0 hws rfl (am_in_vp hi hin) hdg ?_
            rw [am_clamp hi]
            exact h
          · have hWi : Wi = .baload := by
              rcases hWi with q | q | q | q
              · rcases hc with z | z
                · have := Nat.eq_of_beq_eq_true z; omega
                · have := Nat.eq_of_beq_eq_true z.2; omega
              · exact q.1
              all_goals (rcases hc with z | z; · have := Nat.eq_of_beq_eq_true z; omega
                         · have := Nat.eq_of_beq_eq_true z.2; omega)
            subst hWi
            refine va_bald (D := D) (cl := am_cl) (tys := am_tys dA) (ws := am_ws A B dA w) hx hb hE.K hR.1 a 1 hws rfl (am_in_vp hi hin) hdg ?_
            rw [am_clamp hi]
            exact h
          · have hWi : Wi = .baload := by
              rcases hWi with q | q | q | q
              · rcases hc with z | z
                · have := Nat.eq_of_beq_eq_true z; omega
                · have := Nat.eq_of_beq_eq_true z.1; omega
              · exact q.1
              all_goals (rcases hc with z | z; · have := Nat.eq_of_beq_eq_true z; omega
                         · have := Nat.eq_of_beq_eq_true z.1; omega)
            subst hWi
            refine va_zald (D := D) (cl := am_cl) (tys := am_tys dA) (ws := am_ws A B dA w) hx hb hE.K hR.1 a 2 hws rfl (am_in_vp hi hin) hdg ?_
            rw [am_clamp hi]
            exact h
      · cases hm
    · rename_i t n g hw
      split at hm
      · rename_i hc
        obtain ⟨hc, hin⟩ := hc
        cases hm
        obtain ⟨htt, hg⟩ := hR.2.2.2 _ (List.mem_of_getElem? hw)
        have hws := am_ws_at (A := A) (B := B) (dA := dA) hw
        have hWi : Wi = .aaload := by
          rcases hWi with q | q | q | q
          · omega
          · omega
          · omega
          · exact q.1
        subst hWi
        have hok : am_ok w.length (.inr (.inr ((g i.toNat).map Sum.inl)) : AV R1) := by
          cases hgi : g i.toNat with
          | none => trivial
          | some z => exact hg _ z hgi
        have h := kk.same rfl rfl hR (fun u hu => by cases hu; exact hok)
        have h : W p l e R s m args below meth c H locs cells slots Q (F0 m (pc + 1) ls (am_cv A B (.inr (.inr ((g i.toNat).map Sum.inl))) :: S2.map (am_cv A B))) := h
        rw [← am_rf_cv, ← am_clamp hi] at h
        have hvp := am_in_vp hi hin
        have hlt : (Int32.ofInt i).toNatClampNeg < n := Nat.not_le.mp fun q => hvp (Or.inr q)
        have row : ∀ (t0 : Nat) (ty : FieldType), (am_tys dA)[t0]? = some (dA t, ty) → ty.isReference = true → W p l e R s m args below meth c H locs cells slots Q (F0 m pc ls (.int (Int32.ofInt i) :: .ref (A a) :: S2.map (am_cv A B))) := by
          intro t0 ty ht hr
          exact W.aald (v := va_rf ((g (Int32.ofInt i).toNatClampNeg).map A)) (ty := ty) hx hb (hR.1 a _ hws) ((hE.K.2 t0 _ ht).1 n (fun j => va_rf ((g j).map A))) hr (fun q => by cases q) (by show ¬ (Int32.ofInt i < 0 ∨ (arrV _ _ _).slots.size ≤ _); rw [arrV_size]; exact hvp) (by show (arrV _ _ _).slots[_]? = _; rw [arrV_read _ _ hlt]) rfl rfl hdg h
        rcases htt with rfl | rfl | rfl | rfl
        · exact row 7 _ rfl rfl
        · exact row 4 _ rfl rfl
        · exact row 5 _ rfl rfl
        · exact row 6 _ rfl rfl
      · cases hm
    · cases hm
  · rename_i j i
    have hi : (Int32.ofInt i).toInt = i := has (.inl i) (by simp)
    split at hm
    · rename_i hc
      obtain ⟨rfl, rfl, hin⟩ := hc
      cases hm
      have hWi : Wi = .iaload := by
        rcases hWi with q | q | q | q
        · exact q.1
        · omega
        · omega
        · omega
      subst hWi
      have h := kk.same rfl rfl hR (fun u hu => by cases hu; exact am_io _)
      have h : W p l e R s m args below meth c H locs cells slots Q (F0 m (pc + 1) ls (am_cv A B (vI (xs i.toNat).toInt) :: S2.map (am_cv A B))) := h
      rw [am_cv_i] at h
      refine va_sld hx hb hE.2.1.1 hE.2.1.2.1 hE.2.1.2.2 hR.2.2.1 (am_in_vp hi hin) hdg ?_
      rw [am_clamp hi]
      exact h
    · split at hm
      · rename_i hc
        obtain ⟨hj, hidx⟩ := hc
        split at hm
        · rename_i bs hbs
          split at hm
          · rename_i hin
            cases hm
            have hWi : Wi = .baload := by
              rcases hWi with q | q | q | q
              · omega
              · exact q.1
              · omega
              · omega
            subst hWi
            obtain ⟨t1, t2, t3⟩ := am_text hbs
            have hlt : i.toNat < bs.length := by unfold am_in at hin; simp only [decide_eq_true_eq] at hin; omega
            have hvo : am_ok w.length (vI (Int.ofNat (bs.getD i.toNat 0)) : AV R1) := t3 _ hlt
            have h := kk.same rfl rfl hR (fun u hu => by cases hu; exact hvo)
            have hT := (hE.2.2.1.1 (j - 1001) t1).2.2.2
            rw [t2] at hT
            have hBj : B (1001 + (j - 1001)) = B j := by rw [show 1001 + (j - 1001) = j by omega]
            simp only [hBj] at hT
            exact va_tb hx hb hT hR.2.2.1 (am_in_vp hi hin) (v := .int (Int32.ofInt (Int.ofNat (bs.getD i.toNat 0)))) (by rw [am_clamp hi, am_texb hbs hlt]; rfl) hdg h
          · cases hm
        · cases hm
      · cases hm
  · cases hm
theorem am_m_ast {Wi : Jvm.ClassFile.Instr} (hx : p.tables.exec = Jvm.exec) (hb : c.code = cc) (hE : am_E D dA B sl xs Af s s.heap) (hR : am_R D dA A B Af s.heap H locs w)
    (hWi : (Wi = .iastore ∧ idx = 0) ∨ (Wi = .bastore ∧ idx = 1) ∨ (Wi = .lastore ∧ idx = 3) ∨ (Wi = .aastore ∧ idx = 4)) (hdg : decode cc pc = .ok (Wi, 1)) (hm : m1_ast idx as w = some (rv, w')) (has : ∀ v ∈ as, am_ok w.length v)
    (kk : am_K p l e R s m args below meth c cells slots Q D dA A B Af w w' rv (pc + 1) ls S2) : W p l e R s m args below meth c H locs cells slots Q (F0 m pc ls ((as.reverse ++ S2).map (am_cv A B))) := by
  unfold m1_ast at hm
  split at hm
  · rename_i a i x
    have hi : (Int32.ofInt i).toInt = i := has (.inl i) (by simp)
    have hxo : (Int32.ofInt x).toInt = x := has (.inl x) (by simp)
    split at hm
    · rename_i t n f hw
      split at hm
      · rename_i hc
        obtain ⟨hc, hin⟩ := hc
        obtain ⟨ht3, hf⟩ := hR.2.2.2 _ (List.mem_of_getElem? hw)
        have hws := am_ws_at (A := A) (B := B) (dA := dA) hw
        unfold am_tm at hc
        simp only [Bool.or_eq_true, Bool.and_eq_true] at hc
        have fin : ∀ (y : Int), ¬ t = 3 → (Int32.ofInt y).toInt = y → w' = w.set a (.inr (.inl (t, n, am_u f i.toNat y))) → rv = none → ∀ (H1 : Heap) (locs1 : List Loc), va_P D am_cl ((am_ws A B dA w).set a (A a, .inl (dA t, n, .inl (upd (fun j => Int32.ofInt (f j)) (Int32.ofInt i).toNatClampNeg (Int32.ofInt y))))) H1 → va_D Af ((am_ws A B dA w).set a (A a, .inl (dA t, n, .inl (upd (fun j => Int32.ofInt (f j)) (Int32.ofInt i).toNatClampNeg (Int32.ofInt y))))) → va_S Af s.heap H1 locs1 → W p l e R s m args below meth c H1 locs1 cells slots Q (F0 m (pc + 1) ls (S2.map (am_cv A B))) := by
          intro y h3 hy ew er H1 locs1 p1 p2 p3
          subst ew; subst er
          have e1 : (am_ws A B dA w).set a (A a, .inl (dA t, n, .inl (upd (fun j => Int32.ofInt (f j)) (Int32.ofInt i).toNatClampNeg (Int32.ofInt y)))) = am_ws A B dA (w.set a (.inr (.inl (t, n, am_u f i.toNat y)))) := by
            rw [← am_ws_set, am_cc_int h3, am_upd_cv, am_clamp hi]
          rw [e1] at p1 p2
          refine kk.same (by rw [List.length_set]) (am_sl_set (by rfl) _ _ hw) ⟨p1, p2, p3, am_okc_set hR.2.2.2 ⟨ht3, fun j => ?_⟩⟩ (fun u hu => by cases hu)
          rw [if_neg h3]
          unfold am_u
          split
          · exact hy
          · exact am_iok hf h3 j
        split at hm
        · have hWi : Wi = .iastore := by
            rcases hWi with q | q | q | q
            · exact q.1
            all_goals (rcases hc with z | z; · have := Nat.eq_of_beq_eq_true z; omega
                       · have := Nat.eq_of_beq_eq_true z.2; omega)
          subst hWi
          rw [am_cc_int (by decide)] at hws
          cases hm
          exact va_iast (D := D) (cl := am_cl) (tys := am_tys dA) (ws := am_ws A B dA w) hx hb hE.K hR.1 hR.2.1 hR.2.2.1 a 0 hws rfl (am_in_vp hi hin) hdg (fin x (by decide) hxo rfl rfl)
        · have hWi : Wi = .bastore := by
            rcases hWi with q | q | q | q
            · rcases hc with z | z
              · have := Nat.eq_of_beq_eq_true z; omega
              · have := Nat.eq_of_beq_eq_true z.2; omega
            · exact q.1
            all_goals (rcases hc with z | z; · have := Nat.eq_of_beq_eq_true z; omega
                       · have := Nat.eq_of_beq_eq_true z.2; omega)
          subst hWi
          rw [am_cc_int (by decide)] at hws
          cases hm
          refine va_bast (D := D) (cl := am_cl) (tys := am_tys dA) (ws := am_ws A B dA w) hx hb hE.K hR.1 hR.2.1 hR.2.2.1 a 1 hws rfl (am_in_vp hi hin) hdg ?_
          have h := fin (ji2b x) (by decide) (am_io _) rfl rfl
          unfold ji2b at h
          rw [Int32.ofInt_toInt] at h
          rw [vp_nar_byte]
          exact h
        · have hWi : Wi = .bastore := by
            rcases hWi with q | q | q | q
            · rcases hc with z | z
              · have := Nat.eq_of_beq_eq_true z; omega
              · have := Nat.eq_of_beq_eq_true z.1; omega
            · exact q.1
            all_goals (rcases hc with z | z; · have := Nat.eq_of_beq_eq_true z; omega
                       · have := Nat.eq_of_beq_eq_true z.1; omega)
          subst hWi
          rw [am_cc_int (by decide)] at hws
          split at hm
          · rename_i h01
            cases hm
            refine va_zast (D := D) (cl := am_cl) (tys := am_tys dA) (ws := am_ws A B dA w) hx hb hE.K hR.1 hR.2.1 hR.2.2.1 a 2 hws rfl (am_in_vp hi hin) hdg ?_
            have h := fin x (by decide) hxo rfl rfl
            have e0 : vp_nar .boolean (Int32.ofInt x) = Int32.ofInt x := by rcases h01 with rfl | rfl <;> rfl
            first | exact h | (rw [e0]; exact h)
          · cases hm
        · cases hm
      · cases hm
    · cases hm
  · rename_i a i x
    have hi : (Int32.ofInt i).toInt = i := has (.inl i) (by simp)
    have hxo : (Int64.ofInt x).toInt = x := has (.inr (.inl x)) (by simp)
    split at hm
    · rename_i t n f hw
      split at hm
      · rename_i hc
        obtain ⟨hidx, rfl, hin⟩ := hc
        cases hm
        obtain ⟨ht3, hf⟩ := hR.2.2.2 _ (List.mem_of_getElem? hw)
        have hws := am_ws_at (A := A) (B := B) (dA := dA) hw
        have hWi : Wi = .lastore := by
          rcases hWi with q | q | q | q
          · omega
          · omega
          · exact q.1
          · omega
        subst hWi
        refine va_last (D := D) (cl := am_cl) (tys := am_tys dA) (ws := am_ws A B dA w) hx hb hE.K hR.1 hR.2.1 hR.2.2.1 a 3 hws rfl (am_in_vp hi hin) hdg (fun H1 locs1 p1 p2 p3 => ?_)
        have e1 : (am_ws A B dA w).set a (A a, .inl (dA 3, n, .inr (.inl (vp_updL (fun j => Int64.ofInt (f j)) (Int32.ofInt i).toNatClampNeg (Int64.ofInt x))))) = am_ws A B dA (w.set a (.inr (.inl (3, n, am_u f i.toNat x)))) := by
          rw [← am_ws_set, ← am_clamp hi, ← am_updL_cv]
          rfl
        rw [e1] at p1 p2
        refine kk.same (by rw [List.length_set]) (am_sl_set (by rfl) _ _ hw) ⟨p1, p2, p3, am_okc_set hR.2.2.2 ⟨ht3, fun j => ?_⟩⟩ (fun u hu => by cases hu)
        rw [if_pos rfl]
        unfold am_u
        split
        · exact hxo
        · have := hf j; rwa [if_pos rfl] at this
      · cases hm
    · cases hm
  · rename_i a i b
    have hi : (Int32.ofInt i).toInt = i := has (.inl i) (by simp)
    have hbo : b < w.length := has (.inr (.inr (some (.inl b)))) (by simp)
    split at hm
    · rename_i t n g hw
      split at hm
      · rename_i cN fs hwb
        split at hm
        · rename_i hc
          obtain ⟨hidx, htc, hin⟩ := hc
          cases hm
          obtain ⟨htt, hg⟩ := hR.2.2.2 _ (List.mem_of_getElem? hw)
          have hws := am_ws_at (A := A) (B := B) (dA := dA) hw
          have hwsb := am_ws_at (A := A) (B := B) (dA := dA) hwb
          have hWi : Wi = .aastore := by
            rcases hWi with q | q | q | q
            · omega
            · omega
            · omega
            · exact q.1
          subst hWi
          have row : ∀ (t0 : Nat) (r : vw_C), (am_tys dA)[t0]? = some (dA t, .object r.1) → am_cl[cN]? = some r → W p l e R s m args below meth c H locs cells slots Q (F0 m pc ls (.ref (A b) :: .int (Int32.ofInt i) :: .ref (A a) :: S2.map (am_cv A B))) := by
            intro t0 r ht hcl
            refine va_astq (D := D) (cl := am_cl) (tys := am_tys dA) (ws := am_ws A B dA w) hx hb hE.K hR.1 hR.2.1 hR.2.2.1 a t0 b cN hws ht hwsb hcl (am_in_vp hi hin) hdg (fun H1 locs1 p1 p2 p3 => ?_)
            have e1 : (am_ws A B dA w).set a (A a, .inl (dA t, n, .inr (.inr (.inr (.inr (va_up (fun j => (g j).map A) (Int32.ofInt i).toNatClampNeg (some (A b)))))))) = am_ws A B dA (w.set a (.inr (.inr (t, n, am_uq g i.toNat (some b))))) := by
              rw [← am_ws_set, ← am_clamp hi, ← am_updq_cv]
              rfl
            rw [e1] at p1 p2
            refine kk.same (by rw [List.length_set]) (am_sl_set (by rfl) _ _ hw) ⟨p1, p2, p3, am_okc_set hR.2.2.2 ⟨htt, fun j a' hj => ?_⟩⟩ (fun u hu => by cases hu)
            unfold am_uq at hj
            split at hj
            · cases hj; exact hbo
            · exact hg j a' hj
          rcases htt with rfl | rfl | rfl | rfl
          · omega
          · have : cN = 4 := by omega
            subst this
            exact row 4 _ rfl rfl
          · have : cN = 6 := by omega
            subst this
            exact row 5 _ rfl rfl
          · have : cN = 8 := by omega
            subst this
            exact row 6 _ rfl rfl
        · cases hm
      · cases hm
    · cases hm
  · cases hm
theorem am_i_nat {n : Nat} : Int32.ofInt (n : Int) = Int32.ofNat n := rfl
theorem am_m_len (hx : p.tables.exec = Jvm.exec) (hb : c.code = cc) (hE : am_E D dA B sl xs Af s s.heap) (hR : am_R D dA A B Af s.heap H locs w)
    (hdg : decode cc pc = .ok (.arraylength, 1)) (hm : m1_len am_T sl as w = some (rv, w'))
    (kk : am_K p l e R s m args below meth c cells slots Q D dA A B Af w w' rv (pc + 1) ls S2) : W p l e R s m args below meth c H locs cells slots Q (F0 m pc ls ((as.reverse ++ S2).map (am_cv A B))) := by
  have hok : ∀ n : Nat, n ≤ 100000 → am_ok w.length (vI (n : Int) : AV R1) := fun n hn => am_rng (by omega) (by omega)
  unfold m1_len at hm
  split at hm
  · rename_i a
    split at hm
    · rename_i t n f hw
      split at hm
      · rename_i hn
        cases hm
        have hws := am_ws_at (A := A) (B := B) (dA := dA) hw
        have h := kk.same rfl rfl hR (fun u hu => by cases hu; exact hok n hn)
        obtain ⟨ht3, hf⟩ := hR.2.2.2 _ (List.mem_of_getElem? hw)
        by_cases h3 : t = 3
        · subst h3
          exact va_alen (D := D) (cl := am_cl) (tys := am_tys dA) (ws := am_ws A B dA w) hx hb hE.K hR.1 a 3 hws rfl (v := Int32.ofInt (n : Int)) rfl hdg h
        · rw [am_cc_int h3] at hws
          obtain ⟨ty, hty⟩ := am_tag4 (dA := dA) ht3
          exact va_alen (D := D) (cl := am_cl) (tys := am_tys dA) (ws := am_ws A B dA w) hx hb hE.K hR.1 a t hws hty (v := Int32.ofInt (n : Int)) rfl hdg h
      · cases hm
    · rename_i t n g hw
      split at hm
      · rename_i hn
        cases hm
        have hws := am_ws_at (A := A) (B := B) (dA := dA) hw
        have h := kk.same rfl rfl hR (fun u hu => by cases hu; exact hok n hn)
        obtain ⟨htt, hg⟩ := hR.2.2.2 _ (List.mem_of_getElem? hw)
        rcases htt with rfl | rfl | rfl | rfl
        · exact va_alen (D := D) (cl := am_cl) (tys := am_tys dA) (ws := am_ws A B dA w) hx hb hE.K hR.1 a 7 hws rfl (v := Int32.ofInt (n : Int)) rfl hdg h
        · exact va_alen (D := D) (cl := am_cl) (tys := am_tys dA) (ws := am_ws A B dA w) hx hb hE.K hR.1 a 4 hws rfl (v := Int32.ofInt (n : Int)) rfl hdg h
        · exact va_alen (D := D) (cl := am_cl) (tys := am_tys dA) (ws := am_ws A B dA w) hx hb hE.K hR.1 a 5 hws rfl (v := Int32.ofInt (n : Int)) rfl hdg h
        · exact va_alen (D := D) (cl := am_cl) (tys := am_tys dA) (ws := am_ws A B dA w) hx hb hE.K hR.1 a 6 hws rfl (v := Int32.ofInt (n : Int)) rfl hdg h
      · cases hm
    · cases hm
  · rename_i j
    split at hm
    · rename_i hc
      obtain ⟨rfl, hn⟩ := hc
      cases hm
      have h := kk.same rfl rfl hR (fun u hu => by cases hu; exact hok sl hn)
      exact va_slen hx hb hE.2.1.1 hE.2.1.2.1 hE.2.1.2.2 hR.2.2.1 hdg h
    · split at hm
      · rename_i hj
        split at hm
        · rename_i bs hbs
          split at hm
          · rename_i hn
            cases hm
            obtain ⟨t1, t2, t3⟩ := am_text hbs
            have h := kk.same rfl rfl hR (fun u hu => by cases hu; exact hok _ hn)
            have hT := (hE.2.2.1.1 (j - 1001) t1).2.2.2
            rw [t2] at hT
            have hBj : B (1001 + (j - 1001)) = B j := by rw [show 1001 + (j - 1001) = j by omega]
            simp only [hBj] at hT
            exact va_tlen hx hb hT hR.2.2.1 (v := Int32.ofInt (bs.length : Int)) rfl hdg h
          · cases hm
        · cases hm
      · cases hm
  · cases hm
theorem am_m_tf (hx : p.tables.exec = Jvm.exec) (hb : c.code = cc) (hown : s.vm.findClass (am_nm (am_o k)) = some m.cls) (hts : ∀ w ∈ am_gw, w.before args s = true) (hE : am_E D dA B sl xs Af s s.heap) (hR : am_R D dA A B Af s.heap H locs w)
    {i : Nat} (hfs : am_fs (am_o k) i = some idx) (hdg : decode cc pc = .ok (.getfield i, 3)) (hm : m1_tf am_T idx as w = some (rv, w'))
    (kk : am_K p l e R s m args below meth c cells slots Q D dA A B Af w w' rv (pc + 3) ls S2) : W p l e R s m args below meth c H locs cells slots Q (F0 m pc ls ((as.reverse ++ S2).map (am_cv A B))) := by
  obtain ⟨q, hC⟩ := am_fs_ok hfs
  unfold m1_tf at hm
  split at hm
  · rename_i j
    split at hm
    · rename_i hj
      obtain ⟨j1, j2⟩ := hj
      rw [am_T_len] at j2
      obtain ⟨o1, o2, o3, o4⟩ := hE.2.2.1.1 (j - 1) (by omega)
      have hBj : B (j - 1 + 1) = B j := by rw [show j - 1 + 1 = j by omega]
      have hBv : B (1001 + (j - 1)) = B (1000 + j) := by rw [show 1001 + (j - 1) = 1000 + j by omega]
      simp only [hBj, hBv] at o2 o3
      split at hm
      · cases hm
        have h := kk.same rfl rfl hR (fun u hu => by cases hu; trivial)
        exact vk_getf hx hb o3 hR.2.2.1 hown (hts _ (am_at_mem hC)) (fun _ h => h) hdg h
      · cases hm
        have h := kk.same rfl rfl hR (fun u hu => by cases hu; show (Int32.ofInt 0).toInt = 0; decide)
        exact vk_getf hx hb o2 hR.2.2.1 hown (hts _ (am_at_mem hC)) (fun _ h => h) hdg h
      · cases hm
    · cases hm
  · cases hm
theorem am_m_gs (hx : p.tables.exec = Jvm.exec) (hb : c.code = cc) (hown : s.vm.findClass (am_nm (am_o k)) = some m.cls) (hts : ∀ w ∈ am_gw, w.before args s = true) (hE : am_E D dA B sl xs Af s s.heap) (hR : am_R D dA A B Af s.heap H locs w)
    {i : Nat} (hgs : am_gs (am_o k) i = some idx) (hdg : decode cc pc = .ok (.getstatic i, 3)) (hm : m1_gs (fun j => (xs j).toInt) idx as w = some (rv, w'))
    (kk : am_K p l e R s m args below meth c cells slots Q D dA A B Af w w' rv (pc + 3) ls S2) : W p l e R s m args below meth c H locs cells slots Q (F0 m pc ls ((as.reverse ++ S2).map (am_cv A B))) := by
  obtain ⟨q, hC⟩ := am_gs_ok hgs
  unfold m1_gs at hm
  split at hm
  · split at hm
    · cases hm
      have h := kk.same rfl rfl hR (fun u hu => by cases hu; show (Int32.ofInt 1).toInt = 1; decide)
      exact va_gets hx hb hE.2.2.2.1 hR.2.2.1 hown (hts _ (am_at_mem hC)) (fun _ h => h) hdg h
    · cases hm
      rcases hE.2.2.2.2 with ⟨z, hZ⟩ | ⟨z, hZ⟩
      · have z2 : (xs 1000000).toInt = 0 := by rw [z]; decide
        simp only [if_pos z2] at kk
        have h := kk.same rfl rfl hR (fun u hu => by cases hu; trivial)
        exact va_gets hx hb hZ hR.2.2.1 hown (hts _ (am_at_mem hC)) (fun _ h => h) hdg h
      · have z2 : ¬ (xs 1000000).toInt = 0 := fun q => z (by rw [← Int32.toInt_inj, q]; decide)
        simp only [if_neg z2] at kk
        have h := kk.same rfl rfl hR (fun u hu => by cases hu; trivial)
        exact va_gets hx hb hZ hR.2.2.1 hown (hts _ (am_at_mem hC)) (fun _ h => h) hdg h
    · cases hm
  · cases hm
end AMM
end
section
/-! MAKING CELLS; what the library does -/
theorem am_nat_arr : Cond.native arraycopyName ∈ am_gw := List.mem_filter.mpr ⟨by decide +kernel, by decide +kernel⟩
theorem am_stat_arr : Cond.static arraycopyName ∈ am_gw := List.mem_filter.mpr ⟨by decide +kernel, by decide +kernel⟩
theorem am_init_sys : Cond.initialized "java/lang/System" ∈ am_gw := List.mem_filter.mpr ⟨by decide +kernel, by decide +kernel⟩
theorem am_init_math : Cond.initialized "java/lang/Math" ∈ am_gw := List.mem_filter.mpr ⟨by decide +kernel, by decide +kernel⟩
theorem am_stat_max : Cond.static Lib.Math.max.name ∈ am_gw := List.mem_filter.mpr ⟨by decide +kernel, by decide +kernel⟩
theorem am_stat_min : Cond.static Lib.Math.min.name ∈ am_gw := List.mem_filter.mpr ⟨by decide +kernel, by decide +kernel⟩
theorem am_code_max : Cond.code Lib.Math.max.name Lib.Math.max.code 2 (some .int) ∈ am_gw := List.mem_filter.mpr ⟨by decide +kernel, by decide +kernel⟩
theorem am_code_min : Cond.code Lib.Math.min.name Lib.Math.min.code 2 (some .int) ∈ am_gw := List.mem_filter.mpr ⟨by decide +kernel, by decide +kernel⟩
theorem am_inst_obj : Cond.instanceMethod Lib.objectInit ∈ am_gw := List.mem_filter.mpr ⟨by decide +kernel, by decide +kernel⟩
theorem am_code_obj : Cond.code Lib.objectInit ⟨#[0xb1]⟩ 1 none ∈ am_gw := List.mem_filter.mpr ⟨by decide +kernel, by decide +kernel⟩
theorem am_arr_int : Cond.arrayClass .int ∈ am_gw := List.mem_filter.mpr ⟨by decide +kernel, by decide +kernel⟩
theorem am_arr_byte : Cond.arrayClass .byte ∈ am_gw := List.mem_filter.mpr ⟨by decide +kernel, by decide +kernel⟩
theorem am_arr_bool : Cond.arrayClass .boolean ∈ am_gw := List.mem_filter.mpr ⟨by decide +kernel, by decide +kernel⟩
theorem am_arr_long : Cond.arrayClass .long ∈ am_gw := List.mem_filter.mpr ⟨by decide +kernel, by decide +kernel⟩
theorem am_link_mna : Cond.classLink "WashingLines$Trials" 9 "[[I" ∈ am_gw := List.mem_filter.mpr ⟨by decide +kernel, by decide +kernel⟩
theorem am_nfw : nativeFrameWords "java/lang/System" "arraycopy" 5 ≤ 60 := by decide +kernel
theorem am_def_ok (n t : Nat) : am_ok n (am_def t : AV R1) := by
  unfold am_def
  split
  · trivial
  · show (Int32.ofInt 0).toInt = 0; decide
theorem am_def_cv (A A' B : Nat → Nat) (t : Nat) : am_cv A' B (am_def t) = am_cv A B (am_def t) := by
  unfold am_def
  split <;> rfl
theorem am_R_app {D : va_G} {dA : Nat → ClassId} {A B : Nat → Nat} {Af : Nat → Prop} {H0 H1 : Heap} {locs1 : List Loc} {w : W1} {c : C1} {q : Nat} {e : va_E} (hw : ∀ c ∈ w, am_okc w.length c) (hc : am_okc (w.length + 1) c) (p1 : va_P D am_cl (am_ws A B dA w ++ [(q, e)]) H1) (p2 : va_D Af (am_ws A B dA w ++ [(q, e)])) (p3 : va_S Af H0 H1 locs1)
    (he : e = am_cc (fun a => if a = w.length then q else A a) B dA c) : am_R D dA (fun a => if a = w.length then q else A a) B Af H0 H1 locs1 (w ++ [c]) := by
  have e1 : am_ws (fun a => if a = w.length then q else A a) B dA (w ++ [c]) = am_ws A B dA w ++ [(q, e)] := by
    rw [am_ws_app (A := A) (fun a ha => if_neg (by omega)) hw, he]
    simp
  refine ⟨by rw [e1]; exact p1, by rw [e1]; exact p2, p3, fun x hx => ?_⟩
  rw [List.length_append, List.length_singleton]
  rcases List.mem_append.mp hx with h | h
  · exact am_okc_mono (by omega) (hw x h)
  · rw [List.mem_singleton.mp h]; exact hc
section AMN
variable {p : Program} {l : Launch} {e : Env} {R : Room} {s : State} {m : MethodId} {args : Array Value} {below : List Frame} {meth : Method} {c : Code} {H : Heap} {locs : List Loc} {cells slots : Nat} {Q : State → Prop}
variable {cc : ByteArray} {pc : Nat} {ls : Array Slot} {D : va_G} {dA : Nat → ClassId} {A B : Nat → Nat} {sl : Nat} {xs : Nat → Int32} {Af : Nat → Prop} {w w' : W1} {S2 : List (AV R1)} {rv : Option (AV R1)} {as : List (AV R1)} {k idx nx : Nat}
theorem am_K.made {c1 : C1} {q : Nat} (kk : am_K p l e R s m args below meth c cells slots Q D dA A B Af w (w ++ [c1]) (some (vR (.inl w.length))) nx ls S2) (hS2 : ∀ v ∈ S2, am_ok w.length v) {H' : Heap} {locs' : List Loc} (hR : am_R D dA (fun a => if a = w.length then q else A a) B Af s.heap H' locs' (w ++ [c1])) :
    W p l e R s m args below meth c H' locs' (cells + 1) (slots + am_szc am_ft c1) Q (F0 m nx ls (.ref q :: S2.map (am_cv A B))) := by
  have h := kk _ H' locs' (fun a ha => if_neg (by omega)) hR (fun v hv => by cases hv; show w.length < (w ++ [c1]).length; simp) (by simp)
  have e1 : (w ++ [c1]).length - w.length = 1 := by simp
  have e2 : am_sl am_ft (w ++ [c1]) - am_sl am_ft w = am_szc am_ft c1 := by rw [am_sl_app]; omega
  rw [e1, e2] at h
  have e3 : (((some (vR (Sum.inl w.length) : AV R1)).toList ++ S2).map (am_cv (fun a => if a = w.length then q else A a) B)) = .ref q :: S2.map (am_cv A B) := by
    show am_cv _ B (vR (Sum.inl w.length)) :: S2.map _ = _
    rw [am_map_congr (n := w.length) (A := A) (fun a ha => if_neg (by omega)) hS2]
    show Value.ref (if w.length = w.length then q else A w.length) :: _ = _
    rw [if_pos rfl]
  rw [e3] at h
  exact h
theorem am_m_new (hx : p.tables.exec = Jvm.exec) (hb : c.code = cc) (hown : s.vm.findClass (am_nm (am_o k)) = some m.cls) (hts : ∀ w ∈ am_gw, w.before args s = true) (hE : am_E D dA B sl xs Af s s.heap) (hA : ∀ q, s.heap.size ≤ q → Af q) (hR : am_R D dA A B Af s.heap H locs w)
    {i : Nat} (hcl : am_clk (am_o k) i = some idx) (hdg : decode cc pc = .ok (.new i, 3)) (hm : m1_new am_ft idx as w = some (rv, w')) (hS2 : ∀ v ∈ S2, am_ok w.length v)
    (hcells : cells + (w'.length - w.length) ≤ R.cells) (hslots : slots + (am_sl am_ft w' - am_sl am_ft w) ≤ R.slots)
    (kk : am_K p l e R s m args below meth c cells slots Q D dA A B Af w w' rv (pc + 3) ls S2) : W p l e R s m args below meth c H locs cells slots Q (F0 m pc ls ((as.reverse ++ S2).map (am_cv A B))) := by
  unfold m1_new at hm
  split at hm
  · split at hm
    · rename_i hlt
      cases hm
      obtain ⟨q, hq⟩ : ∃ q, am_cl[idx]? = some q := ⟨_, List.getElem?_eq_getElem hlt⟩
      obtain ⟨g1, g2, g3, g4⟩ := am_cl_ok hq
      obtain ⟨k1, k2, k3⟩ := am_clk_ok hcl hq
      rw [am_sl_app, Nat.add_sub_cancel_left] at hslots
      have hslots : slots + (am_ft idx).length ≤ R.slots := hslots
      rw [show (w ++ [(Sum.inl (idx, (am_ft idx).map am_def) : C1)]).length - w.length = 1 by simp] at hcells
      obtain ⟨C, T, N⟩ := q
      simp only at g1 g2 g3 g4 k1 k2 k3
      refine va_new (D := D) (cl := am_cl) (tys := am_tys dA) (ws := am_ws A B dA w) (C := C) (T := T) (N := N) (ci := idx) (fs := ((am_ft idx).map am_def).map (am_cv A B)) hx hb hts g1 (am_fty idx) g2 hown (hts _ k1) (hts _ k2) (hts _ k3) hE.K hR.1 hR.2.1 hR.2.2.1 hA hq (fun j hj => ?_) hcells (by rw [← g4]; exact hslots) hdg (fun q H1 p1 p2 p3 => ?_)
      · have h3 := g3 j hj
        unfold vp_V
        rw [List.getD_eq_getElem?_getD] at h3
        rw [List.getD_eq_getElem?_getD, List.getElem?_map, List.getElem?_map]
        have hj2 : j < (am_ft idx).length := by omega
        rw [List.getElem?_eq_getElem hj2] at h3 ⊢
        simp only [Option.map_some, Option.getD_some] at h3 ⊢
        generalize (am_ft idx)[j] = t at h3 ⊢
        generalize am_fty idx j = ty at h3 ⊢
        match t, ty, h3 with
        | 0, .int, _ => rfl
        | 1, .boolean, _ => rfl
        | 2, .object _, _ => rfl
        | 2, .array _, _ => rfl
      · have h := am_K.made kk hS2 (am_R_app (c := .inl (idx, (am_ft idx).map am_def)) hR.2.2.2 (fun v hv => by obtain ⟨t, -, rfl⟩ := List.mem_map.mp hv; exact am_def_ok _ t) p1 p2 p3 (by
          show _ = (Sum.inr (idx, ((am_ft idx).map am_def).map (am_cv (fun a => if a = w.length then q else A a) B)) : va_E)
          congr 2
          apply List.map_congr_left
          intro v hv
          obtain ⟨t, -, rfl⟩ := List.mem_map.mp hv
          exact (am_def_cv _ _ _ t).symm))
        rw [← g4]
        exact h
    · cases hm
  · cases hm
theorem am_m_newa (hx : p.tables.exec = Jvm.exec) (hb : c.code = cc) (hts : ∀ w ∈ am_gw, w.before args s = true) (hE : am_E D dA B sl xs Af s s.heap) (hA : ∀ q, s.heap.size ≤ q → Af q) (hR : am_R D dA A B Af s.heap H locs w)
    {t : Jvm.ClassFile.ArrayType} (ht : (t = .int ∧ idx = 0) ∨ (t = .byte ∧ idx = 1) ∨ (t = .boolean ∧ idx = 2) ∨ (t = .long ∧ idx = 3)) (hdg : decode cc pc = .ok (.newarray t, 2)) (hm : m1_newa idx as w = some (rv, w')) (has : ∀ v ∈ as, am_ok w.length v) (hS2 : ∀ v ∈ S2, am_ok w.length v)
    (hcells : cells + (w'.length - w.length) ≤ R.cells) (hslots : slots + (am_sl am_ft w' - am_sl am_ft w) ≤ R.slots)
    (kk : am_K p l e R s m args below meth c cells slots Q D dA A B Af w w' rv (pc + 2) ls S2) : W p l e R s m args below meth c H locs cells slots Q (F0 m pc ls ((as.reverse ++ S2).map (am_cv A B))) := by
  unfold m1_newa at hm
  split at hm
  · rename_i n
    have hn : (Int32.ofInt n).toInt = n := has (.inl n) (by simp)
    split at hm
    · rename_i hc
      obtain ⟨c1, c2, c3⟩ := hc
      cases hm
      rw [am_sl_app, Nat.add_sub_cancel_left] at hslots
      have hslots : slots + n.toNat ≤ R.slots := hslots
      rw [show (w ++ [(Sum.inr (Sum.inl (idx, n.toNat, fun _ => 0)) : C1)]).length - w.length = 1 by simp] at hcells
      have hneg : ¬ Int32.ofInt n < 0 := fun q => by rw [am_ilt0 hn] at q; omega
      have okn : am_okc (w.length + 1) (.inr (.inl (idx, n.toNat, fun _ => 0))) := ⟨c3, fun j => by
        split
        · show (Int64.ofInt 0).toInt = 0; decide
        · show (Int32.ofInt 0).toInt = 0; decide⟩
      have hbytes : ∀ z : Nat, z ≤ 8 → n.toNat * z ≤ 536870912 := fun z hz => by
        have h1 : n.toNat ≤ 100000 := by omega
        calc n.toNat * z ≤ 100000 * 8 := Nat.mul_le_mul h1 hz
          _ ≤ 536870912 := by decide
      rcases ht with ⟨rfl, rfl⟩ | ⟨rfl, rfl⟩ | ⟨rfl, rfl⟩ | ⟨rfl, rfl⟩
      · refine va_newa (atype := .int) (ty := .int) (D := D) (cl := am_cl) (tys := am_tys dA) (ws := am_ws A B dA w) (a0 := (n.toNat, .inl (fun _ => Int32.ofInt 0))) hx hb (hts _ am_arr_int) rfl hE.K hR.1 hR.2.1 hR.2.2.1 hA (fun cA => rfl) hneg (am_clamp hn) (hbytes _ (by decide)) hcells hslots hdg (fun q cA H1 kK p1 p2 p3 => ?_)
        have hcA : cA = dA 0 := by
          have h1 := (kK.2 8 (cA, .int) rfl).2
          have h2 := (hE.K.2 0 _ rfl).2
          exact Option.some.inj (h1.symm.trans h2)
        subst hcA
        exact am_K.made kk hS2 (am_R_app hR.2.2.2 okn p1 p2 p3 rfl)
      · refine va_newa (atype := .byte) (ty := .byte) (D := D) (cl := am_cl) (tys := am_tys dA) (ws := am_ws A B dA w) (a0 := (n.toNat, .inl (fun _ => Int32.ofInt 0))) hx hb (hts _ am_arr_byte) rfl hE.K hR.1 hR.2.1 hR.2.2.1 hA (fun cA => rfl) hneg (am_clamp hn) (hbytes _ (by decide)) hcells hslots hdg (fun q cA H1 kK p1 p2 p3 => ?_)
        have hcA : cA = dA 1 := by
          have h1 := (kK.2 8 (cA, .byte) rfl).2
          have h2 := (hE.K.2 1 _ rfl).2
          exact Option.some.inj (h1.symm.trans h2)
        subst hcA
        exact am_K.made kk hS2 (am_R_app hR.2.2.2 okn p1 p2 p3 rfl)
      · refine va_newa (atype := .boolean) (ty := .boolean) (D := D) (cl := am_cl) (tys := am_tys dA) (ws := am_ws A B dA w) (a0 := (n.toNat, .inl (fun _ => Int32.ofInt 0))) hx hb (hts _ am_arr_bool) rfl hE.K hR.1 hR.2.1 hR.2.2.1 hA (fun cA => rfl) hneg (am_clamp hn) (hbytes _ (by decide)) hcells hslots hdg (fun q cA H1 kK p1 p2 p3 => ?_)
        have hcA : cA = dA 2 := by
          have h1 := (kK.2 8 (cA, .boolean) rfl).2
          have h2 := (hE.K.2 2 _ rfl).2
          exact Option.some.inj (h1.symm.trans h2)
        subst hcA
        exact am_K.made kk hS2 (am_R_app hR.2.2.2 okn p1 p2 p3 rfl)
      · refine va_newa (atype := .long) (ty := .long) (D := D) (cl := am_cl) (tys := am_tys dA) (ws := am_ws A B dA w) (a0 := (n.toNat, .inr (.inl (fun _ => Int64.ofInt 0)))) hx hb (hts _ am_arr_long) rfl hE.K hR.1 hR.2.1 hR.2.2.1 hA (fun cA => rfl) hneg (am_clamp hn) (hbytes _ (by decide)) hcells hslots hdg (fun q cA H1 kK p1 p2 p3 => ?_)
        have hcA : cA = dA 3 := by
          have h1 := (kK.2 8 (cA, .long) rfl).2
          have h2 := (hE.K.2 3 _ rfl).2
          exact Option.some.inj (h1.symm.trans h2)
        subst hcA
        exact am_K.made kk hS2 (am_R_app hR.2.2.2 okn p1 p2 p3 rfl)
    · cases hm
  · cases hm
theorem am_m_newq (hx : p.tables.exec = Jvm.exec) (hb : c.code = cc) (hown : s.vm.findClass (am_nm (am_o k)) = some m.cls) (hts : ∀ w ∈ am_gw, w.before args s = true) (hE : am_E D dA B sl xs Af s s.heap) (hA : ∀ q, s.heap.size ≤ q → Af q) (hR : am_R D dA A B Af s.heap H locs w)
    {i : Nat} (hcl : am_clk (am_o k) i = some idx) (hdg : decode cc pc = .ok (.anewarray i, 3)) (hm : m1_newq idx as w = some (rv, w')) (has : ∀ v ∈ as, am_ok w.length v) (hS2 : ∀ v ∈ S2, am_ok w.length v)
    (hcells : cells + (w'.length - w.length) ≤ R.cells) (hslots : slots + (am_sl am_ft w' - am_sl am_ft w) ≤ R.slots)
    (kk : am_K p l e R s m args below meth c cells slots Q D dA A B Af w w' rv (pc + 3) ls S2) : W p l e R s m args below meth c H locs cells slots Q (F0 m pc ls ((as.reverse ++ S2).map (am_cv A B))) := by
  unfold m1_newq at hm
  split at hm
  · rename_i n
    have hn : (Int32.ofInt n).toInt = n := has (.inl n) (by simp)
    split at hm
    · rename_i hc
      obtain ⟨c1, c2, c3⟩ := hc
      cases hm
      rw [am_sl_app, Nat.add_sub_cancel_left] at hslots
      have hslots : slots + n.toNat ≤ R.slots := hslots
      rw [show (w ++ [(Sum.inr (Sum.inr (100 + idx, n.toNat, fun _ => none)) : C1)]).length - w.length = 1 by simp] at hcells
      have hneg : ¬ Int32.ofInt n < 0 := fun q => by rw [am_ilt0 hn] at q; omega
      have okn : am_okc (w.length + 1) (.inr (.inr (100 + idx, n.toNat, fun _ => none))) := ⟨by omega, fun j a h => by cases h⟩
      have row : ∀ (C : String) (t0 : Nat), C ∈ am_ao → (am_tys dA)[t0]? = some (dA (100 + idx), .object C) → Cond.classLink (am_nm (am_o k)) i C ∈ am_gw → W p l e R s m args below meth c H locs cells slots Q (F0 m pc ls (.int (Int32.ofInt n) :: S2.map (am_cv A B))) := by
        intro C t0 hC ht hl
        refine va_newq (D := D) (cl := am_cl) (tys := am_tys dA) (ws := am_ws A B dA w) hx hb hown (hts _ hl) (hE.1.2.2.1 C hC) hE.K hR.1 hR.2.1 hR.2.2.1 hA hneg (am_clamp hn) (by omega) hcells hslots hdg (fun q cA H1 kK p1 p2 p3 => ?_)
        have hcA : cA = dA (100 + idx) := by
          obtain ⟨k1, m1, a1, a2, a3, a4⟩ := (kK.2 8 (cA, .object C) rfl).2
          obtain ⟨k2, m2, b1, b2, b3, b4⟩ := (hE.K.2 t0 _ ht).2
          exact Option.some.inj (a4.symm.trans b4)
        subst hcA
        exact am_K.made kk hS2 (am_R_app hR.2.2.2 okn p1 p2 p3 rfl)
      rcases c3 with rfl | rfl | rfl
      · exact row "WashingLines$Yard" 4 (by decide) rfl (am_clk_ok hcl rfl).1
      · exact row "WashingLines$Law" 5 (by decide) rfl (am_clk_ok hcl rfl).1
      · exact row "WashingLines$World" 6 (by decide) rfl (am_clk_ok hcl rfl).1
    · cases hm
  · cases hm
end AMN
end
section
/-! COPIES, the library's small ones, texts -/
section AMO
variable {p : Program} {l : Launch} {e : Env} {R : Room} {s : State} {m : MethodId} {args : Array Value} {below : List Frame} {meth : Method} {c : Code} {H : Heap} {locs : List Loc} {cells slots : Nat} {Q : State → Prop}
variable {cc : ByteArray} {pc : Nat} {ls : Array Slot} {D : va_G} {dA : Nat → ClassId} {A B : Nat → Nat} {sl : Nat} {xs : Nat → Int32} {Af : Nat → Prop} {w w' : W1} {S2 : List (AV R1)} {rv : Option (AV R1)} {as : List (AV R1)} {k idx nx : Nat}
theorem am_cats_le {A B : Nat → Nat} {S2 : List (AV R1)} (h : am_small S2 = true) : ((S2.map (am_cv A B)).map fun v => v.category).sum ≤ 8 := by
  rw [am_cats]
  unfold am_small at h
  simpa using h
theorem am_cp_cv {f g : Nat → Int} {sp dp n : Nat} : (fun j => Int32.ofInt (am_cp f g sp dp n j)) = va_cpy (fun j => Int32.ofInt (f j)) (fun j => Int32.ofInt (g j)) sp dp n := by
  funext j
  unfold am_cp va_cpy
  split <;> rfl
theorem am_m_cpy (hx : p.tables.exec = Jvm.exec) (hb : c.code = cc) (hml : c.maxLocals = ls.size) (hown : s.vm.findClass (am_nm (am_o k)) = some m.cls) (hts : ∀ w ∈ am_gw, w.before args s = true) (hE : am_E D dA B sl xs Af s s.heap) (hR : am_R D dA A B Af s.heap H locs w)
    (hf : 1 ≤ R.frames) (hlo : 100 ≤ R.locals) (hsm : am_small S2 = true)
    {i : Nat} (hl : Cond.methodLink (am_nm (am_o k)) i arraycopyName ∈ am_gw) (hdg : decode cc pc = .ok (.invokestatic i, 3)) (hm : m1_cpy as w = some (rv, w')) (has : ∀ v ∈ as, am_ok w.length v)
    (kk : am_K p l e R s m args below meth c cells slots Q D dA A B Af w w' rv (pc + 3) ls S2) : W p l e R s m args below meth c H locs cells slots Q (F0 m pc ls ((as.reverse ++ S2).map (am_cv A B))) := by
  unfold m1_cpy at hm
  split at hm
  · rename_i a sp b dp n
    have h1 : (Int32.ofInt sp).toInt = sp := has (.inl sp) (by simp)
    have h2 : (Int32.ofInt dp).toInt = dp := has (.inl dp) (by simp)
    have h3 : (Int32.ofInt n).toInt = n := has (.inl n) (by simp)
    split at hm
    · rename_i t n0 f u n1 g hwa hwb
      split at hm
      · rename_i hc
        obtain ⟨rfl, rfl, c1, c2, c3, c4, c5⟩ := hc
        cases hm
        have hwsa := am_ws_at (A := A) (B := B) (dA := dA) hwa
        have hwsb := am_ws_at (A := A) (B := B) (dA := dA) hwb
        rw [am_cc_int (by decide)] at hwsa hwsb
        have hcat := am_cats_le (A := A) (B := B) hsm
        have hnf := am_nfw
        refine va_copyi (D := D) (cl := am_cl) (tys := am_tys dA) (ws := am_ws A B dA w) (ty := .int) hx hb hml hown (hts _ hl) (hts _ am_nat_arr) (hts _ am_stat_arr) (hts _ am_init_sys) hE.K hR.1 hR.2.1 hR.2.2.1 a b 0 0 hwsa hwsb rfl rfl rfl (fun q => by rw [am_ilt0 h1] at q; omega) (fun q => by rw [am_ilt0 h2] at q; omega) (fun q => by rw [am_ilt0 h3] at q; omega) (by rw [am_clamp h1, am_clamp h3]; exact c4) (by rw [am_clamp h2, am_clamp h3]; exact c5) (fun _ _ => rfl) hf (by omega : ((S2.map (am_cv A B)).map fun v => v.category).sum + (nativeFrameWords "java/lang/System" "arraycopy" 5 + 11) ≤ R.locals) hdg (fun H1 locs1 p1 p2 p3 => ?_)
        obtain ⟨-, hf0⟩ := hR.2.2.2 _ (List.mem_of_getElem? hwa)
        obtain ⟨-, hg0⟩ := hR.2.2.2 _ (List.mem_of_getElem? hwb)
        have e1 : (am_ws A B dA w).set b (A b, .inl (dA 0, n1, .inl (va_cpy (fun j => Int32.ofInt (f j)) (fun j => Int32.ofInt (g j)) (Int32.ofInt sp).toNatClampNeg (Int32.ofInt dp).toNatClampNeg (Int32.ofInt n).toNatClampNeg))) = am_ws A B dA (w.set b (.inr (.inl (0, n1, am_cp f g sp.toNat dp.toNat n.toNat)))) := by
          rw [← am_ws_set, am_cc_int (by decide), am_cp_cv, am_clamp h1, am_clamp h2, am_clamp h3]
        rw [e1] at p1 p2
        refine kk.same (by rw [List.length_set]) (am_sl_set (by rfl) _ _ hwb) ⟨p1, p2, p3, am_okc_set hR.2.2.2 ⟨by decide, fun j => ?_⟩⟩ (fun u hu => by cases hu)
        rw [if_neg (by decide)]
        unfold am_cp
        split
        · exact am_iok hf0 (by decide) _
        · exact am_iok hg0 (by decide) _
      · cases hm
    · cases hm
  · cases hm
theorem am_m_max (hx : p.tables.exec = Jvm.exec) (hb : c.code = cc) (hml : c.maxLocals = ls.size) (hown : s.vm.findClass (am_nm (am_o k)) = some m.cls) (hts : ∀ w ∈ am_gw, w.before args s = true) (hR : am_R D dA A B Af s.heap H locs w)
    (hf : 1 ≤ R.frames) (hlo : 100 ≤ R.locals) (hc0 : cells ≤ R.cells) (hs0 : slots ≤ R.slots) (hsm : am_small S2 = true) {x y : Int} (hxo : (Int32.ofInt x).toInt = x) (hyo : (Int32.ofInt y).toInt = y)
    {i : Nat} (hl : Cond.methodLink (am_nm (am_o k)) i Lib.Math.max.name ∈ am_gw) (hdg : decode cc pc = .ok (.invokestatic i, 3))
    (kk : am_K p l e R s m args below meth c cells slots Q D dA A B Af w w (some (vI (if x < y then y else x))) (pc + 3) ls S2) : W p l e R s m args below meth c H locs cells slots Q (F0 m pc ls ((([vI x, vI y] : List (AV R1)).reverse ++ S2).map (am_cv A B))) := by
  have hcat := am_cats_le (A := A) (B := B) hsm
  have hok : (Int32.ofInt (if x < y then y else x)).toInt = (if x < y then y else x) := by split <;> assumption
  have h := kk.same rfl rfl hR (fun u hu => by cases hu; exact hok)
  have h : W p l e R s m args below meth c H locs cells slots Q (F0 m (pc + 3) ls (.int (Int32.ofInt (if x < y then y else x)) :: S2.map (am_cv A B))) := h
  have e1 : Int32.ofInt (if x < y then y else x) = if Int32.ofInt x < Int32.ofInt y then Int32.ofInt y else Int32.ofInt x := by
    simp only [am_iLt hxo hyo]
    split <;> rfl
  rw [e1] at h
  exact va_mmax hx hb hml hown (hts _ hl) (hts _ am_stat_max) (hts _ am_init_math) (hts _ am_code_max) hf (by omega : ((S2.map (am_cv A B)).map fun v => v.category).sum + 13 ≤ R.locals) hc0 hs0 hdg h
theorem am_m_min (hx : p.tables.exec = Jvm.exec) (hb : c.code = cc) (hml : c.maxLocals = ls.size) (hown : s.vm.findClass (am_nm (am_o k)) = some m.cls) (hts : ∀ w ∈ am_gw, w.before args s = true) (hR : am_R D dA A B Af s.heap H locs w)
    (hf : 1 ≤ R.frames) (hlo : 100 ≤ R.locals) (hc0 : cells ≤ R.cells) (hs0 : slots ≤ R.slots) (hsm : am_small S2 = true) {x y : Int} (hxo : (Int32.ofInt x).toInt = x) (hyo : (Int32.ofInt y).toInt = y)
    {i : Nat} (hl : Cond.methodLink (am_nm (am_o k)) i Lib.Math.min.name ∈ am_gw) (hdg : decode cc pc = .ok (.invokestatic i, 3))
    (kk : am_K p l e R s m args below meth c cells slots Q D dA A B Af w w (some (vI (if y < x then y else x))) (pc + 3) ls S2) : W p l e R s m args below meth c H locs cells slots Q (F0 m pc ls ((([vI x, vI y] : List (AV R1)).reverse ++ S2).map (am_cv A B))) := by
  have hcat := am_cats_le (A := A) (B := B) hsm
  have hok : (Int32.ofInt (if y < x then y else x)).toInt = (if y < x then y else x) := by split <;> assumption
  have h := kk.same rfl rfl hR (fun u hu => by cases hu; exact hok)
  have h : W p l e R s m args below meth c H locs cells slots Q (F0 m (pc + 3) ls (.int (Int32.ofInt (if y < x then y else x)) :: S2.map (am_cv A B))) := h
  have e1 : Int32.ofInt (if y < x then y else x) = if Int32.ofInt y < Int32.ofInt x then Int32.ofInt y else Int32.ofInt x := by
    simp only [am_iLt hyo hxo]
    split <;> rfl
  rw [e1] at h
  exact va_mmin hx hb hml hown (hts _ hl) (hts _ am_stat_min) (hts _ am_init_math) (hts _ am_code_min) hf (by omega : ((S2.map (am_cv A B)).map fun v => v.category).sum + 13 ≤ R.locals) hc0 hs0 hdg h
theorem am_m_obj (hx : p.tables.exec = Jvm.exec) (hb : c.code = cc) (hml : c.maxLocals = ls.size) (hown : s.vm.findClass (am_nm (am_o k)) = some m.cls) (hts : ∀ w ∈ am_gw, w.before args s = true) (hR : am_R D dA A B Af s.heap H locs w)
    (hf : 1 ≤ R.frames) (hlo : 100 ≤ R.locals) (hsm : am_small S2 = true) {a : Nat}
    {i : Nat} (hl : Cond.methodLink (am_nm (am_o k)) i Lib.objectInit ∈ am_gw) (hdg : decode cc pc = .ok (.invokespecial i, 3))
    (kk : am_K p l e R s m args below meth c cells slots Q D dA A B Af w w none (pc + 3) ls S2) : W p l e R s m args below meth c H locs cells slots Q (F0 m pc ls ((([vR (Sum.inl a)] : List (AV R1)).reverse ++ S2).map (am_cv A B))) := by
  have hcat := am_cats_le (A := A) (B := B) hsm
  have h := kk.same rfl rfl hR (fun u hu => by cases hu)
  exact W.objInit hx hb hown (hts _ hl) (hts _ am_inst_obj) (hts _ am_code_obj) (g := F0 m pc ls (.ref (A a) :: S2.map (am_cv A B))) rfl hml.symm rfl hdg hf (by show 2 * 0 + _ + 12 ≤ _; omega) h
theorem am_ldcwS (hexec : p.tables.exec = Jvm.exec) (hb : c.code = cc) {own tx : String} {index q : Nat} {rest : List Value} (hown : s.vm.findClass own = some m.cls) (hZ : vk_R own index tx q s) (hdg : decode cc pc = .ok (.ldc_w index, 3))
    (kk : W p l e R s m args below meth c H locs cells slots Q (F0 m (pc + 3) ls (.ref q :: rest))) : W p l e R s m args below meth c H locs cells slots Q (F0 m pc ls rest) := by
  intro T hT X
  obtain ⟨t, a1, b1⟩ := kk T hT X
  refine ⟨t, ?_, b1⟩
  have hdg : decode c.code pc = .ok (.ldc_w index, 3) := by rw [hb]; exact hdg
  obtain ⟨k, cf, i, a', hk, hcf, hcp, -, hr, hev'⟩ := Cond.stringRef_spec hown hZ.1
  cases hZ.2.symm.trans hev'
  obtain ⟨k', hk', he⟩ := X.warmed.alike.2.2 _ _ hk
  have hr' : k'.resolved[index]? = some (some (.string q)) := by
    rcases X.warmed.entry hk hk' index with h | ⟨h, -⟩
    · rw [h]; exact hr
    · rw [hr] at h; cases h
  jvm_step X.here [hexec, hdg, ldc_w.wp_string (e := e) (s := T) (f := F0 m pc ls rest) X.here.top hk' (by rw [he]; exact hcf) hcp hr']
  exact a1
theorem am_m_ldc {Wi : Jvm.ClassFile.Instr} {len i : Nat} (hx : p.tables.exec = Jvm.exec) (hb : c.code = cc) (hown : s.vm.findClass (am_nm (am_o k)) = some m.cls) (hE : am_E D dA B sl xs Af s s.heap) (hR : am_R D dA A B Af s.heap H locs w)
    (hWi : (Wi = .ldc i ∧ len = 2) ∨ (Wi = .ldc_w i ∧ len = 3)) (htx : am_txk (am_o k) i = some idx) (hdg : decode cc pc = .ok (Wi, len))
    (kk : am_K p l e R s m args below meth c cells slots Q D dA A B Af w w (some (vR (.inr (idx + 1)))) (pc + len) ls S2) : W p l e R s m args below meth c H locs cells slots Q (F0 m pc ls (S2.map (am_cv A B))) := by
  have h := kk.same rfl rfl hR (fun u hu => by cases hu; trivial)
  obtain ⟨h1, q, h2⟩ := am_tx_ok htx
  have hZ := hE.1.2.2.2.2 idx h1
  unfold am_txo am_txi at hZ
  rw [h2] at hZ
  rcases hWi with ⟨rfl, rfl⟩ | ⟨rfl, rfl⟩
  · exact va_ldcS hx hb hown hZ hdg h
  · exact am_ldcwS hx hb hown hZ hdg h
end AMO
end
section
/-! new T[n][k], of ints -/
theorem am_ws_app2 {A B : Nat → Nat} {dA : Nat → ClassId} {u v : W1} : am_ws A B dA (u ++ v) = am_ws A B dA u ++ v.mapIdx (fun i c => (A (i + u.length), am_cc A B dA c)) := by
  unfold am_ws
  rw [List.mapIdx_append]
theorem am_clk_none {o i : Nat} (h : am_clk o i = some 99) : Cond.classLink (am_nm o) i "[[I" ∈ am_gw := by
  unfold am_clk at h
  obtain ⟨e, he, h⟩ := Option.map_eq_some_iff.mp h
  have h1 := List.find?_some he
  have h2 := List.all_eq_true.mp am_clkAll e (List.mem_of_find?_eq_some he)
  simp only [Bool.and_eq_true] at h1
  obtain ⟨a, b, d, p⟩ := e
  cases h
  have e1 := Nat.eq_of_beq_eq_true h1.1
  have e2 := Nat.eq_of_beq_eq_true h1.2
  simp only at e1 e2
  subst e1; subst e2
  exact am_at_mem h2
section AMNA
variable {p : Program} {l : Launch} {e : Env} {R : Room} {s : State} {m : MethodId} {args : Array Value} {below : List Frame} {meth : Method} {c : Code} {H : Heap} {locs : List Loc} {cells slots : Nat} {Q : State → Prop}
variable {cc : ByteArray} {pc : Nat} {ls : Array Slot} {D : va_G} {dA : Nat → ClassId} {A B : Nat → Nat} {sl : Nat} {xs : Nat → Int32} {Af : Nat → Prop} {w w' : W1} {S2 : List (AV R1)} {rv : Option (AV R1)} {as : List (AV R1)} {k idx nx : Nat}
theorem am_m_mna (hx : p.tables.exec = Jvm.exec) (hb : c.code = cc) (hown : s.vm.findClass (am_nm (am_o k)) = some m.cls) (hts : ∀ w ∈ am_gw, w.before args s = true) (hE : am_E D dA B sl xs Af s s.heap) (hA : ∀ q, s.heap.size ≤ q → Af q) (hR : am_R D dA A B Af s.heap H locs w)
    {i : Nat} (hcl : am_clk (am_o k) i = some 99) (hdg : decode cc pc = .ok (.multianewarray i 2, 4)) (hm : m1_mna as w = some (rv, w')) (has : ∀ v ∈ as, am_ok w.length v) (hS2 : ∀ v ∈ S2, am_ok w.length v)
    (hcells : cells + (w'.length - w.length) ≤ R.cells) (hslots : slots + (am_sl am_ft w' - am_sl am_ft w) ≤ R.slots)
    (kk : am_K p l e R s m args below meth c cells slots Q D dA A B Af w w' rv (pc + 4) ls S2) : W p l e R s m args below meth c H locs cells slots Q (F0 m pc ls ((as.reverse ++ S2).map (am_cv A B))) := by
  unfold m1_mna at hm
  split at hm
  · rename_i n j
    have hn : (Int32.ofInt n).toInt = n := has (.inl n) (by simp)
    have hj : (Int32.ofInt j).toInt = j := has (.inl j) (by simp)
    split at hm
    · rename_i hc
      obtain ⟨c1, c2, c3, c4⟩ := hc
      cases hm
      generalize hN : n.toNat = N at *
      generalize hK : j.toNat = K at *
      have hN2 : N ≤ 100 := by omega
      have hK2 : K ≤ 100 := by omega
      have hsum : am_sl am_ft (List.replicate N (Sum.inr (Sum.inl (0, K, fun _ => 0)) : C1)) = N * K := by
        unfold am_sl
        rw [List.map_replicate, List.sum_replicate_nat]
        rfl
      have d1 : (w ++ (Sum.inr (Sum.inr (99, N, fun q => if q < N then some (w.length + 1 + q) else none)) : C1) :: List.replicate N (Sum.inr (Sum.inl (0, K, fun _ => 0)) : C1)).length - w.length = 1 + N := by
        simp only [List.length_append, List.length_cons, List.length_replicate]; omega
      have d2 : am_sl am_ft (w ++ (Sum.inr (Sum.inr (99, N, fun q => if q < N then some (w.length + 1 + q) else none)) : C1) :: List.replicate N (Sum.inr (Sum.inl (0, K, fun _ => 0)) : C1)) - am_sl am_ft w = N + N * K := by
        have e0 : am_sl am_ft ((Sum.inr (Sum.inr (99, N, fun q => if q < N then some (w.length + 1 + q) else none)) : C1) :: List.replicate N (Sum.inr (Sum.inl (0, K, fun _ => 0)) : C1)) = N + N * K := by
          rw [← hsum]; rfl
        have e1 : ∀ u v : W1, am_sl am_ft (u ++ v) = am_sl am_ft u + am_sl am_ft v := fun u v => by unfold am_sl; simp
        rw [e1, e0]; omega
      rw [d1] at hcells
      rw [d2] at hslots
      have hnn : ¬ Int32.ofInt n < 0 := fun q => by rw [am_ilt0 hn] at q; omega
      have hjn : ¬ Int32.ofInt j < 0 := fun q => by rw [am_ilt0 hj] at q; omega
      have e9 : "[" ++ (FieldType.array .int).toString = "[[I" := by decide
      have hint : s.vm.findClass (FieldType.array .int).toString = some (dA 0) := (hE.K.2 0 _ rfl).2
      have hP0 : va_P D am_cl (am_ws A B dA w ++ va_pl [] (fun _ => Sum.inr (0, []))) H := by
        show va_P D am_cl (am_ws A B dA w ++ []) H
        rw [List.append_nil]; exact hR.1
      have hD0 : va_D Af (am_ws A B dA w ++ va_pl [] (fun _ => Sum.inr (0, []))) := by
        show va_D Af (am_ws A B dA w ++ [])
        rw [List.append_nil]; exact hR.2.1
      refine va_mna (D := D) (cl := am_cl) (tys := am_tys dA) (X := am_ws A B dA w) (L := []) (f := fun _ => Sum.inr (0, [])) (ty := .int) (z := (K, .inl (fun _ => Int32.ofInt 0))) hx hb hown (by rw [e9]; exact hts _ (am_clk_none hcl)) hE.1.2.2.2.1 (hts _ am_arr_int) hint hE.K hP0 hD0 hR.2.2.1 hA hnn hjn ((am_clamp hn).trans hN) ((am_clamp hj).trans hK) (by omega) (by show K * 4 ≤ _; omega) (by omega) rfl rfl hcells hslots (fun cX => ?_) hdg (fun q r cA H1 hinj hnew kK p1 p2 p3 => ?_)
      · exact arrV_new _ _ _
      · have hcA : cA = dA 99 := by
          have h1 := (kK.2 8 (cA, .array .int) rfl).2
          have h2 := (hE.K.2 7 _ rfl).2
          exact Option.some.inj (h1.symm.trans h2)
        subst hcA
        let A' : Nat → Nat := fun a => if a = w.length then q else if w.length < a ∧ a < w.length + 1 + N then r (a - (w.length + 1)) else A a
        have hAA : ∀ a, a < w.length → A' a = A a := fun a ha => by
          show (if a = w.length then q else if w.length < a ∧ a < w.length + 1 + N then r (a - (w.length + 1)) else A a) = A a
          rw [if_neg (by omega), if_neg (by omega)]
        have hAq : A' w.length = q := if_pos rfl
        have hAr : ∀ i, i < N → A' (w.length + 1 + i) = r i := fun i hi => by
          show (if w.length + 1 + i = w.length then q else if w.length < w.length + 1 + i ∧ w.length + 1 + i < w.length + 1 + N then r (w.length + 1 + i - (w.length + 1)) else A (w.length + 1 + i)) = r i
          rw [if_neg (by omega), if_pos (by omega), show w.length + 1 + i - (w.length + 1) = i by omega]
        have hworld : am_ws A' B dA (w ++ (Sum.inr (Sum.inr (99, N, fun q => if q < N then some (w.length + 1 + q) else none)) : C1) :: List.replicate N (Sum.inr (Sum.inl (0, K, fun _ => 0)) : C1)) = (am_ws A B dA w ++ [(q, .inl (dA 99, N, .inr (.inr (.inr (.inr (fun i => if i < N then some (r i) else none))))))]) ++ va_pl ([] ++ (List.range N).map r) (vr_up (fun _ => Sum.inr (0, [])) ((List.range N).map r) (.inl (dA 0, (K, .inl (fun _ => Int32.ofInt 0))))) := by
          rw [am_ws_app2, am_ws_same hAA hR.2.2.2, List.append_assoc]
          congr 1
          rw [List.mapIdx_cons]
          show (A' (0 + w.length), _) :: _ = (q, _) :: _
          rw [Nat.zero_add, hAq]
          congr 1
          · have : (fun j => (if j < N then some (w.length + 1 + j) else none : Option Nat).map A') = fun i => if i < N then some (r i) else none := funext fun i => by
              by_cases hi : i < N
              · rw [if_pos hi, if_pos hi]; show some (A' (w.length + 1 + i)) = _; rw [hAr i hi]
              · rw [if_neg hi, if_neg hi]; rfl
            show (q, (Sum.inl (dA 99, N, .inr (.inr (.inr (.inr (fun j => (if j < N then some (w.length + 1 + j) else none : Option Nat).map A'))))) : va_E)) = _
            rw [this]
          · unfold va_pl
            apply List.ext_getElem?
            intro i
            rw [List.getElem?_mapIdx, List.getElem?_replicate]
            show _ = ((((List.range N).map r).map (fun a => (a, vr_up (fun _ => (Sum.inr (0, []) : va_E)) ((List.range N).map r) (Sum.inl (dA 0, (K, Sum.inl (fun _ => Int32.ofInt 0)))) a))))[i]?
            rw [List.getElem?_map, List.getElem?_map]
            by_cases hi : i < N
            · rw [if_pos hi, List.getElem?_range hi]
              simp only [Option.map_some]
              rw [show i + 1 + w.length = w.length + 1 + i by omega, hAr i hi, vr_up_in (List.mem_map.mpr ⟨i, List.mem_range.mpr hi, rfl⟩)]
              rfl
            · rw [if_neg hi, List.getElem?_eq_none (by rw [List.length_range]; omega)]
              rfl
        have hok' : ∀ x ∈ w ++ (Sum.inr (Sum.inr (99, N, fun q => if q < N then some (w.length + 1 + q) else none)) : C1) :: List.replicate N (Sum.inr (Sum.inl (0, K, fun _ => 0)) : C1), am_okc (w ++ (Sum.inr (Sum.inr (99, N, fun q => if q < N then some (w.length + 1 + q) else none)) : C1) :: List.replicate N (Sum.inr (Sum.inl (0, K, fun _ => 0)) : C1)).length x := by
          intro x hx
          simp only [List.length_append, List.length_cons, List.length_replicate]
          rcases List.mem_append.mp hx with h | h
          · exact am_okc_mono (by omega) (hR.2.2.2 x h)
          · rcases List.mem_cons.mp h with h | h
            · rw [h]
              refine ⟨Or.inl rfl, fun j2 a2 h2 => ?_⟩
              by_cases hj2 : j2 < N
              · simp only [if_pos hj2, Option.some.injEq] at h2; omega
              · simp only [if_neg hj2] at h2; cases h2
            · rw [List.eq_of_mem_replicate h]
              exact ⟨by decide, fun j2 => by rw [if_neg (by decide)]; show (Int32.ofInt 0).toInt = 0; decide⟩
        have h := kk A' H1 locs hAA ⟨by rw [hworld]; exact p1, by rw [hworld]; exact p2, p3, hok'⟩ (fun v hv => by cases hv; show w.length < _; simp) (by simp)
        rw [d1, d2] at h
        have e3 : (((some (vR (Sum.inl w.length) : AV R1)).toList ++ S2).map (am_cv A' B)) = .ref q :: S2.map (am_cv A B) := by
          show am_cv _ B (vR (Sum.inl w.length)) :: S2.map _ = _
          rw [am_map_congr (n := w.length) (A := A) hAA hS2]
          show Value.ref (A' w.length) :: _ = _
          rw [hAq]
        rw [e3] at h
        rw [show cells + 1 + N = cells + (1 + N) by omega, show slots + N + N * K = slots + (N + N * K) by omega]
        exact h
    · cases hm
  · cases hm
end AMNA
end
section
/-! cells are never given back -/
def am_le (w w' : W1) : Prop := w.length ≤ w'.length ∧ am_sl am_ft w ≤ am_sl am_ft w'
theorem am_le_rf {w : W1} : am_le w w := ⟨Nat.le_refl _, Nat.le_refl _⟩
theorem am_le_tr {a b c : W1} (h1 : am_le a b) (h2 : am_le b c) : am_le a c := ⟨Nat.le_trans h1.1 h2.1, Nat.le_trans h1.2 h2.2⟩
theorem am_le_set {w : W1} {a : Nat} {c c0 : C1} (h : w[a]? = some c0) (hs : am_szc am_ft c = am_szc am_ft c0) : am_le w (w.set a c) := ⟨by rw [List.length_set]; exact Nat.le_refl _, by rw [am_sl_set hs _ _ h]; exact Nat.le_refl _⟩
theorem am_sl_app2 {u v : W1} : am_sl am_ft (u ++ v) = am_sl am_ft u + am_sl am_ft v := by unfold am_sl; simp
theorem am_le_app {w v : W1} : am_le w (w ++ v) := ⟨by simp, by rw [am_sl_app2]; omega⟩
theorem m1_mono {sl : Nat} {sx : Nat → Int} {kind idx : Nat} {as : List (AV R1)} {w w' : W1} {rv : Option (AV R1)} (h : m1 am_ft am_T sl sx kind idx as w = some (rv, w')) : am_le w w' := by
  unfold m1 at h
  split at h
  · unfold m1_get at h
    repeat' split at h
    all_goals first | (cases h; done) | (cases h; exact am_le_rf)
  · unfold m1_put at h
    split at h
    · split at h
      · rename_i hw
        repeat' split at h
        all_goals first | (cases h; done) | (cases h; exact am_le_set hw rfl)
      · cases h
    · cases h
  · unfold m1_ald at h
    repeat' split at h
    all_goals first | (cases h; done) | (cases h; exact am_le_rf)
  · unfold m1_ast at h
    split at h
    · split at h
      · rename_i hw
        repeat' split at h
        all_goals first | (cases h; done) | (cases h; exact am_le_set hw rfl)
      · cases h
    · split at h
      · rename_i hw
        repeat' split at h
        all_goals first | (cases h; done) | (cases h; exact am_le_set hw rfl)
      · cases h
    · split at h
      · rename_i hw
        repeat' split at h
        all_goals first | (cases h; done) | (cases h; exact am_le_set hw rfl)
      · cases h
    · cases h
  · unfold m1_len at h
    repeat' split at h
    all_goals first | (cases h; done) | (cases h; exact am_le_rf)
  · unfold m1_new at h
    repeat' split at h
    all_goals first | (cases h; done) | (cases h; exact am_le_app)
  · unfold m1_newa at h
    repeat' split at h
    all_goals first | (cases h; done) | (cases h; exact am_le_app)
  · unfold m1_newq at h
    repeat' split at h
    all_goals first | (cases h; done) | (cases h; exact am_le_app)
  · unfold m1_mna at h
    repeat' split at h
    all_goals first | (cases h; done) | (cases h; exact am_le_app)
  · repeat' split at h
    all_goals first | (cases h; done) | (cases h; exact am_le_rf)
  · unfold m1_cpy at h
    split at h
    · split at h
      · rename_i hwa hwb
        repeat' split at h
        all_goals first | (cases h; done) | (cases h; exact am_le_set hwb rfl)
      · cases h
    · cases h
  · repeat' split at h
    all_goals first | (cases h; done) | (cases h; exact am_le_rf)
  · repeat' split at h
    all_goals first | (cases h; done) | (cases h; exact am_le_rf)
  · repeat' split at h
    all_goals first | (cases h; done) | (cases h; exact am_le_rf)
  · repeat' split at h
    all_goals first | (cases h; done) | (cases h; exact am_le_rf)
  · unfold m1_gs at h
    repeat' split at h
    all_goals first | (cases h; done) | (cases h; exact am_le_rf)
  · unfold m1_tf at h
    repeat' split at h
    all_goals first | (cases h; done) | (cases h; exact am_le_rf)
  · cases h
theorem am_mono {P : Nat → Nat → Option (am_I × Nat)} {NL : Nat → Nat} {sl : Nat} {sx : Nat → Int} : ∀ (n d k pc : Nat) (L : am_L R1) (S : List (AV R1)) (w w' : W1) (rv : Option (AV R1)), am_run P NL (m1 am_ft am_T sl sx) n d k pc L S w = some (rv, w') → am_le w w'
  | 0, _, _, _, _, _, _, _, _, h => by cases h
  | n + 1, d, k, pc, L, S, w, w', rv, h => by
    unfold am_run at h
    split at h
    · cases h
    · split at h
      · split at h
        · cases h
        · split at h
          · split at h
            · cases h
            · rename_i hr
              exact am_le_tr (am_mono n _ _ _ _ _ _ _ _ hr) (am_mono n _ _ _ _ _ _ _ _ h)
          · cases h
      · split at h
        · repeat' split at h
          all_goals first | (cases h; done) | (cases h; exact am_le_rf)
        · cases h
      · split at h
        · cases h; exact am_le_rf
        · cases h
      · split at h
        · cases h
        · split at h
          · split at h
            · cases h
            · rename_i hr
              exact am_le_tr (m1_mono hr) (am_mono n _ _ _ _ _ _ _ _ h)
          · cases h
      · split at h
        · cases h
        · exact am_mono n _ _ _ _ _ _ _ _ h
end
section
/-! METHODS AS CONTRACTS over the small machine's runs -/
def am_ws1 (k : Nat) : List Cond := Cond.code (am_y k) (am_bc k) (am_nl k) (am_rt k) :: am_gw
def am_rm (d mc ms : Nat) : Room := { frames := d, cells := mc, slots := ms, locals := 100 * d }
def am_Pc (D : va_G) (dA : Nat → ClassId) (A B : Nat → Nat) (sl : Nat) (xs : Nat → Int32) (w : W1) (sz : Nat) (as : List (AV R1)) : Array Value → State → Prop :=
  va_Pc (as.map (am_cv A B)) (fun U => U.heap.size = sz ∧ va_P D am_cl (am_ws A B dA w) U.heap ∧ va_D (fun _ => True) (am_ws A B dA w) ∧ am_E D dA B sl xs (va_A (am_ws A B dA w) sz) U U.heap)
def am_Qc (D : va_G) (dA : Nat → ClassId) (A B : Nat → Nat) (w w' : W1) (sz : Nat) (rv : Option (AV R1)) : Array Value → State → Outcome → State → Prop := fun _ st oc t =>
  (∃ A' : Nat → Nat, (∀ a, a < w.length → A' a = A a) ∧ oc = .returned (rv.map (am_cv A' B)) ∧ va_P D am_cl (am_ws A' B dA w') t.heap ∧ va_D (va_A (am_ws A B dA w) sz) (am_ws A' B dA w') ∧ (∀ c ∈ w', am_okc w'.length c) ∧ ∀ v, rv = some v → am_ok w'.length v) ∧ va_F (va_A (am_ws A B dA w) sz) st t
theorem am_blind {D : va_G} {dA : Nat → ClassId} {A B : Nat → Nat} {sl : Nat} {xs : Nat → Int32} {w : W1} {sz : Nat} {as : List (AV R1)} : FrameBlind (am_Pc D dA A B sl xs w sz as) := fun a U g mk h => by
  obtain ⟨h1, h2, h3, h4, h5⟩ := h
  have h6 : am_E D dA B sl xs (va_A (am_ws A B dA w) sz) (U.calling g mk a) U.heap := am_E.same (s := U) (U := U.calling g mk a) rfl h5
  exact ⟨h1, h2, h3, h4, h6⟩
theorem am_ws1_good {k : Nat} (h : k < am_NM) : GoodIn am_gw (am_ws1 k) := fun w hw => by
  rcases List.mem_cons.mp hw with rfl | hw
  · exact ⟨am_m_code h, (am_gw_good _ (am_m_code h)).2⟩
  · exact am_gw_good w hw
/-- how a method may end at pc -/
def am_Ret (k : Nat) (rv : Option (AV R1)) (pc : Nat) : Prop :=
  (decode (am_bc k) pc = .ok (.ireturn, 1) ∧ am_rt k = some .int ∧ ∃ x, rv = some (vI x)) ∨
  (decode (am_bc k) pc = .ok (.ireturn, 1) ∧ am_rt k = some .boolean ∧ ∃ x, rv = some (vI x) ∧ (x = 0 ∨ x = 1)) ∨
  (decode (am_bc k) pc = .ok (.lreturn, 1) ∧ am_rt k = some .long ∧ ∃ x, rv = some (vL x)) ∨
  (decode (am_bc k) pc = .ok (.areturn, 1) ∧ (∃ C, am_rt k = some (.object C)) ∧ ∃ x, rv = some (.inr (.inr x))) ∨
  (decode (am_bc k) pc = .ok (.return_, 1) ∧ am_rt k = none ∧ rv = none) ∨
  (decode (am_bc k) pc = .ok (.ireturn, 1) ∧ (am_rt k = some .byte ∨ am_rt k = some .char) ∧ ∃ x, rv = some (vI x) ∧ 0 ≤ x ∧ x ≤ 127)
/-- what a run of n steps means for the machine -/
def am_Sim (sl : Nat) (xs : Nat → Int32) (n : Nat) : Prop :=
  ∀ (d k pc : Nat) (L : am_L R1) (S : List (AV R1)) (w w' : W1) (rv : Option (AV R1)), am_run am_P am_nl (m1 am_ft am_T sl (fun j => (xs j).toInt)) n d k pc L S w = some (rv, w') →
  ∀ (p : Program) (l : Launch) (e : Env) (R : Room) (s : State) (m : MethodId) (args : Array Value) (below : List Frame) (meth : Method) (c : Code) (H : Heap) (locs : List Loc) (cells slots : Nat) (Q : State → Prop) (ls : Array Slot) (D : va_G) (dA : Nat → ClassId) (A B : Nat → Nat) (Af : Nat → Prop),
    p.tables.exec = Jvm.exec → c.code = am_bc k → c.maxLocals = am_nl k → s.vm.findClass (am_nm (am_o k)) = some m.cls → (∀ w ∈ am_gw, w.before args s = true) → am_E D dA B sl xs Af s s.heap → (∀ q, s.heap.size ≤ q → Af q) → ((am_y k).name = "<init>" → meth.name = "<init>") →
    am_R D dA A B Af s.heap H locs w → am_LR A B (am_nl k) ls L → L.length ≤ am_nl k → am_Lok w.length L → (∀ v ∈ S, am_ok w.length v) → d ≤ R.frames → 100 * d ≤ R.locals → cells + (w'.length - w.length) ≤ R.cells → slots + (am_sl am_ft w' - am_sl am_ft w) ≤ R.slots →
    (∀ (A' : Nat → Nat) (H' : Heap) (locs' : List Loc) (pc' : Nat) (ls' : Array Slot), (∀ a, a < w.length → A' a = A a) → am_R D dA A' B Af s.heap H' locs' w' → (∀ v, rv = some v → am_ok w'.length v) → am_Ret k rv pc' →
      W p l e R s m args below meth c H' locs' (cells + (w'.length - w.length)) (slots + (am_sl am_ft w' - am_sl am_ft w)) Q (F0 m pc' ls' (rv.toList.map (am_cv A' B)))) →
    W p l e R s m args below meth c H locs cells slots Q (F0 m pc ls (S.map (am_cv A B)))
theorem am_loc_len : ∀ (as : List (AV R1)) (n : Nat), (as.map am_cat).sum ≤ n → (am_loc n as).length = n
  | [], n, _ => by simp [am_loc]
  | v :: r, n, h => by
    simp only [List.map_cons, List.sum_cons] at h
    unfold am_loc
    unfold am_cat at h
    split
    · rename_i hv
      rw [if_pos hv] at h
      have := am_loc_len r (n - 2) (by unfold am_cat; omega)
      simp only [List.length_cons, this]
      omega
    · rename_i hv
      rw [if_neg hv] at h
      have := am_loc_len r (n - 1) (by unfold am_cat; omega)
      simp only [List.length_cons, this]
      omega
theorem am_loc_get {A B : Nat → Nat} : ∀ (as : List (AV R1)) (n o j : Nat) (v : AV R1), (am_loc n as)[j]? = some (some v) → (o + j, am_cv A B v) ∈ lv_args o (as.map (am_cv A B)) ∧ v ∈ as
  | [], n, o, j, v, h => by
    unfold am_loc at h
    rw [List.getElem?_replicate] at h
    split at h
    · simp at h
    · cases h
  | u :: r, n, o, j, v, h => by
    unfold am_loc at h
    have hcat := am_cat_cv (A := A) (B := B) u
    unfold am_cat at hcat
    split at h
    · rename_i hu
      rw [if_pos hu] at hcat
      match j, h with
      | 0, h =>
        have h : some u = some v := by simpa using h
        cases h
        simp only [List.map_cons]
        unfold lv_args
        exact ⟨List.mem_cons_self, List.mem_cons_self⟩
      | 1, h => simp at h
      | j + 2, h =>
        have h : (am_loc (n - 2) r)[j]? = some (some v) := by simpa using h
        obtain ⟨h1, h2⟩ := am_loc_get r (n - 2) (o + 2) j v h
        simp only [List.map_cons]
        unfold lv_args
        refine ⟨List.mem_cons_of_mem _ ?_, List.mem_cons_of_mem _ h2⟩
        have e1 : o + 2 + j = o + (j + 2) := by omega
        rw [e1] at h1
        simpa [hcat] using h1
    · rename_i hu
      rw [if_neg hu] at hcat
      match j, h with
      | 0, h =>
        have h : some u = some v := by simpa using h
        cases h
        simp only [List.map_cons]
        unfold lv_args
        exact ⟨List.mem_cons_self, List.mem_cons_self⟩
      | j + 1, h =>
        have h : (am_loc (n - 1) r)[j]? = some (some v) := by simpa using h
        obtain ⟨h1, h2⟩ := am_loc_get r (n - 1) (o + 1) j v h
        simp only [List.map_cons]
        unfold lv_args
        refine ⟨List.mem_cons_of_mem _ ?_, List.mem_cons_of_mem _ h2⟩
        have e1 : o + 1 + j = o + (j + 1) := by omega
        rw [e1] at h1
        simpa [hcat] using h1
theorem am_narB : ∀ q, q < 128 → narrow .byte (.int (Int32.ofInt (Int.ofNat q))) = .int (Int32.ofInt (Int.ofNat q)) := by decide +kernel
theorem am_narC : ∀ q, q < 128 → narrow .char (.int (Int32.ofInt (Int.ofNat q))) = .int (Int32.ofInt (Int.ofNat q)) := by decide +kernel
theorem am_yclA : (List.range (am_NM + 1)).all (fun k => decide ((am_y k).cls = am_nm (am_o k))) = true := by decide +kernel
theorem am_ycl {k : Nat} (h : k < am_NM + 1) : (am_y k).cls = am_nm (am_o k) := by
  have := List.all_eq_true.mp am_yclA k (List.mem_range.mpr h)
  simpa using this
theorem am_slw : ∀ (vs : List Value), (lg_sl vs).length = (vs.map fun v => v.category).sum
  | [] => rfl
  | v :: r => by
    have ih := am_slw r
    unfold lg_sl at ih ⊢
    rw [List.flatMap_cons, List.length_append, ih, List.map_cons, List.sum_cons]
    rcases lv_cat v with h | h
    · rw [if_neg (by omega), h]; rfl
    · rw [if_pos h, h]; rfl
theorem am_ofW {l : Launch} {y : MethodName} {ws ws' : List Cond} {rm : Room} {Pc : Array Value → State → Prop} {Qc : Array Value → State → Outcome → State → Prop} {mc ms : Nat} {free : Addr → Prop} {cc : ByteArray} {maxL : Nat} {ret : Option FieldType}
    (hy : plainFor y = true) (hw : ws = Cond.code y cc maxL ret :: ws')
    (body : ∀ p e s m args below meth c s₁, BodyLoose p l y (headSpec ws rm) cc maxL ret e s m args below meth c s₁ → c.maxLocals = maxL → Pc args s →
      W p l e (headSpec ws rm).room s m args below meth c s.heap [] 0 0 (MQ below Qc args s mc ms free) (entryFrame m args maxL)) : Met l y ws rm Pc Qc mc ms free := by
  refine MetFree.of_bodySF (code := cc) (maxLocals := maxL) (ret := ret) hy ?_ ?_
  · intro args s m h hn
    obtain ⟨meth, c, h1, h2, h3, h4, h5, h6, -, -⟩ := Cond.code_spec hn (atoms_spec (ws := ws) h _ (by rw [hw]; exact List.mem_cons_self))
    exact ⟨meth, c, h1, h2, h3, h4, h5, h6⟩
  · intro p e s m args below meth c s₁ B hml hP _
    have hh0 : s₁.heap = s.heap := by rw [B.state]; rfl
    obtain ⟨t, a1, o, b1, b2, b3⟩ := body p e s m args below meth c s₁ B hml hP s₁ hh0 (Stand.of_body B)
    exact ⟨t, o, a1, b1, b2, ⟨b3.1, b3.2⟩⟩
set_option maxHeartbeats 4000000 in
theorem am_met {sl : Nat} {xs : Nat → Int32} {n : Nat} (hS : am_Sim sl xs n) {d k : Nat} {as : List (AV R1)} {w w' : W1} {rv : Option (AV R1)} (hk : k < am_NM) (hrun : am_run am_P am_nl (m1 am_ft am_T sl (fun j => (xs j).toInt)) n d k 0 (am_loc (am_nl k) as) [] w = some (rv, w')) (hcat : (as.map am_cat).sum ≤ am_nl k) (has : ∀ v ∈ as, am_ok w.length v) (hw : ∀ c ∈ w, am_okc w.length c)
    (l : Launch) (D : va_G) (dA : Nat → ClassId) (A B : Nat → Nat) (sz : Nat) :
    Met l (am_y k) (am_ws1 k) (am_rm d (w'.length - w.length) (am_sl am_ft w' - am_sl am_ft w)) (am_Pc D dA A B sl xs w sz as) (am_Qc D dA A B w w' sz rv) (w'.length - w.length) (am_sl am_ft w' - am_sl am_ft w) (va_A (am_ws A B dA w) sz) := by
  refine am_ofW (cc := am_bc k) (maxL := am_nl k) (ret := am_rt k) (am_m_ok hk).2.2.2.1 rfl ?_
  intro p e s m args below meth c s₁ B0 hml hv
  obtain ⟨rfl, hsz, hP, hD0, hE⟩ := hv
  have hx := B0.exec
  have hb := B0.bytes
  have hr := B0.returns
  have hlk := B0.notSynchronized
  have hts0 := atoms_spec (ws := am_ws1 k) B0.pre
  have hts : ∀ w ∈ am_gw, w.before ((as.map (am_cv A B)).toArray) s = true := fun w hw => hts0 w (List.mem_cons_of_mem _ hw)
  have hown : s.vm.findClass (am_nm (am_o k)) = some m.cls := by rw [← am_ycl (by omega)]; exact findClass_of_methodNamed B0.named
  have hin : (am_y k).name = "<init>" → meth.name = "<init>" := fun h => by rw [← h]; exact (name_of_methodNamed B0.named B0.method).1
  subst hsz
  have hD := hD0.self (sz := s.heap.size)
  have hl := lv_entry (as.map (am_cv A B)) (n := am_nl k) (by rw [am_slw, am_cats]; exact hcat)
  rw [lg_entry_eq]
  generalize (lg_sl (as.map (am_cv A B)) ++ List.replicate (am_nl k - (lg_sl (as.map (am_cv A B))).length) Slot.unset).toArray = ls at hl ⊢
  have hLR : am_LR A B (am_nl k) ls (am_loc (am_nl k) as) := ⟨hl.1, hl.2.1, fun j v hj => by
    have h1 := (am_loc_get (A := A) (B := B) as (am_nl k) 0 j v hj).1
    rw [Nat.zero_add] at h1
    exact hl.2.2 _ h1⟩
  refine hS d k 0 (am_loc (am_nl k) as) [] w w' rv hrun p l e _ s m _ below meth c s.heap [] 0 0 _ ls D dA A B (va_A (am_ws A B dA w) s.heap.size) hx hb hml hown hts hE (fun q h => Or.inr h) hin ⟨hP, hD, va_S.rf, hw⟩ hLR (by rw [am_loc_len _ _ hcat]; exact Nat.le_refl _) (fun j u hj => has u (am_loc_get (A := A) (B := B) as (am_nl k) 0 j u hj).2) (fun v hv => by cases hv) (Nat.le_refl d) (Nat.le_refl (100 * d)) (by show 0 + _ ≤ w'.length - w.length; omega) (by show 0 + _ ≤ am_sl am_ft w' - am_sl am_ft w; omega) ?_
  intro A' H' locs' pc' ls' hA' hR' hv' hret
  rw [Nat.zero_add, Nat.zero_add]
  have post : ∀ (t : State), t.heap = H' → am_Qc D dA A B w w' s.heap.size rv ((as.map (am_cv A B)).toArray) s (.returned (rv.map (am_cv A' B))) t := fun t ht => ⟨⟨A', hA', rfl, by rw [ht]; exact hR'.1, hR'.2.1, hR'.2.2.2, hv'⟩, hR'.2.2.1.F ht⟩
  rcases hret with ⟨hdg, hrt, x, rfl⟩ | ⟨hdg, hrt, x, rfl, h01⟩ | ⟨hdg, hrt, x, rfl⟩ | ⟨hdg, ⟨C, hrt⟩, x, rfl⟩ | ⟨hdg, hrt, rfl⟩ | ⟨hdg, hrt, x, rfl, b1, b2⟩
  · exact W.iret hx hb (hr.trans hrt) (fun t ht _ => post t ht) hR'.2.2.1.2.2 hdg hlk
  · exact W.zret hx hb (hr.trans hrt) (by rcases h01 with rfl | rfl <;> rfl) (fun t ht _ => post t ht) hR'.2.2.1.2.2 hdg hlk
  · exact W.lret hx hb (hr.trans hrt) (fun t ht _ => post t ht) hR'.2.2.1.2.2 hdg hlk
  · exact W.aret hx hb (hr.trans hrt) (Or.inl ⟨C, rfl⟩) (by
      match x with
      | none => exact Or.inl rfl
      | some (.inl a) => exact Or.inr ⟨_, rfl⟩
      | some (.inr a) => exact Or.inr ⟨_, rfl⟩) (fun t ht _ => post t ht) hR'.2.2.1.2.2 hdg hlk
  · exact W.vret hx hb (hr.trans hrt) (fun t ht _ => post t ht) hR'.2.2.1.2.2 hdg hlk
  · obtain ⟨q, hq, rfl⟩ : ∃ q : Nat, q < 128 ∧ x = Int.ofNat q := ⟨x.toNat, by omega, by show x = (x.toNat : Int); omega⟩
    rcases hrt with hrt | hrt
    · exact W.zret hx hb (hr.trans hrt) (am_narB q hq) (fun t ht _ => post t ht) hR'.2.2.1.2.2 hdg hlk
    · exact W.zret hx hb (hr.trans hrt) (am_narC q hq) (fun t ht _ => post t ht) hR'.2.2.1.2.2 hdg hlk
section AMC
variable {p : Program} {l : Launch} {e : Env} {R : Room} {s : State} {m : MethodId} {args : Array Value} {below : List Frame} {meth : Method} {c : Code} {H : Heap} {locs : List Loc} {cells slots : Nat} {Q : State → Prop}
variable {cc : ByteArray} {pc : Nat} {ls : Array Slot} {D : va_G} {dA : Nat → ClassId} {A B : Nat → Nat} {sl : Nat} {xs : Nat → Int32} {Af : Nat → Prop} {w w' w1 : W1} {S2 : List (AV R1)} {rv rv1 : Option (AV R1)} {as : List (AV R1)} {k idx nx n d : Nat} {L : am_L R1}
/-- what goes on behind a request or a call, out of the shorter runs -/
theorem am_K_of (hS : am_Sim sl xs n) (hrun : am_run am_P am_nl (m1 am_ft am_T sl (fun j => (xs j).toInt)) n d k nx L (rv1.toList ++ S2) w1 = some (rv, w')) (hle1 : am_le w w1) (hle2 : am_le w1 w')
    (hx : p.tables.exec = Jvm.exec) (hb : c.code = am_bc k) (hml : c.maxLocals = am_nl k) (hown : s.vm.findClass (am_nm (am_o k)) = some m.cls) (hts : ∀ w ∈ am_gw, w.before args s = true) (hE : am_E D dA B sl xs Af s s.heap) (hA : ∀ q, s.heap.size ≤ q → Af q) (hini : (am_y k).name = "<init>" → meth.name = "<init>")
    (hL : am_LR A B (am_nl k) ls L) (hlen : L.length ≤ am_nl k) (hLo : am_Lok w.length L) (hS2 : ∀ v ∈ S2, am_ok w.length v) (hfr : d ≤ R.frames) (hlo : 100 * d ≤ R.locals) (hce : cells + (w'.length - w.length) ≤ R.cells) (hsl : slots + (am_sl am_ft w' - am_sl am_ft w) ≤ R.slots)
    (hret : ∀ (A' : Nat → Nat) (H' : Heap) (locs' : List Loc) (pc' : Nat) (ls' : Array Slot), (∀ a, a < w.length → A' a = A a) → am_R D dA A' B Af s.heap H' locs' w' → (∀ v, rv = some v → am_ok w'.length v) → am_Ret k rv pc' →
      W p l e R s m args below meth c H' locs' (cells + (w'.length - w.length)) (slots + (am_sl am_ft w' - am_sl am_ft w)) Q (F0 m pc' ls' (rv.toList.map (am_cv A' B)))) :
    am_K p l e R s m args below meth c cells slots Q D dA A B Af w w1 rv1 nx ls S2 := by
  intro A' H' locs' hA' hR' hv hle
  obtain ⟨a1, a2⟩ := hle1
  obtain ⟨b1, b2⟩ := hle2
  have e1 : cells + (w1.length - w.length) + (w'.length - w1.length) = cells + (w'.length - w.length) := by omega
  have e2 : slots + (am_sl am_ft w1 - am_sl am_ft w) + (am_sl am_ft w' - am_sl am_ft w1) = slots + (am_sl am_ft w' - am_sl am_ft w) := by omega
  refine hS d k nx L (rv1.toList ++ S2) w1 w' rv hrun p l e R s m args below meth c H' locs' _ _ Q ls D dA A' B Af hx hb hml hown hts hE hA hini hR' ⟨hL.1, hL.2.1, fun j v hj => by rw [am_cv_congr hA' (hLo j v hj)]; exact hL.2.2 j v hj⟩ hlen (fun j u hj => am_ok_mono a1 (hLo j u hj)) (fun v hv' => ?_) hfr hlo (by omega) (by omega) ?_
  · rcases List.mem_append.mp hv' with h | h
    · exact hv v (by cases rv1 with
        | none => cases h
        | some z => rw [List.mem_singleton.mp h])
    · exact am_ok_mono a1 (hS2 v h)
  · intro A2 H2 locs2 pc2 ls2 hA2 hR2 hv2 hr2
    rw [e1, e2]
    exact hret A2 H2 locs2 pc2 ls2 (fun a ha => (hA2 a (by omega)).trans (hA' a ha)) hR2 hv2 hr2
/-- behind a call -/
theorem am_callR {mc ms : Nat} {a : Array Value} {st0 : List Value} (hmc : mc = w1.length - w.length) (hms : ms = am_sl am_ft w1 - am_sl am_ft w) (hr : va_Run p l e R s m args below meth c H locs cells slots mc ms (F0 m pc ls st0) (S2.map (am_cv A B)) (am_Qc D dA A B w w1 H.size rv1 a) (va_A (am_ws A B dA w) H.size))
    (hR : am_R D dA A B Af s.heap H locs w) (hA : ∀ q, s.heap.size ≤ q → Af q) (hS2 : ∀ v ∈ S2, am_ok w.length v) (hle : w.length ≤ w1.length)
    (kk : am_K p l e R s m args below meth c cells slots Q D dA A B Af w w1 rv1 (pc + 3) ls S2) : W p l e R s m args below meth c H locs cells slots Q (F0 m pc ls st0) := by
  have hF : ∀ q, va_A (am_ws A B dA w) H.size q → Af q := fun q h => by
    rcases h with ⟨k9, e9, h⟩ | h
    · exact hR.2.1.2 k9 _ h
    · exact hA q (Nat.le_trans hR.2.2.1.1 h)
  intro T hT X
  obtain ⟨v, st₀, t, T', L, h0, X', hL, e1, e2, ⟨⟨A', hA', hv, hP', hD', hok', hvo⟩, hz, hk⟩, st⟩ := hr T hT X
  have hv : v = rv1.map (am_cv A' B) := by cases hv; rfl
  subst hv
  rw [h0] at hz hk
  subst hmc; subst hms
  have hSn : va_S Af s.heap t.heap (locs ++ L) := ⟨Nat.le_trans hR.2.2.1.1 hz, fun q h1 h2 => by
      rw [hk q (Nat.lt_of_lt_of_le h1 hR.2.2.1.1) (fun z => h2 (hF q z))]
      exact hR.2.2.1.2.1 q h1 h2, fun q hq => by
      rcases List.mem_append.mp hq with h | h
      · exact hR.2.2.1.2.2 q h
      · exact hF _ (hL q h)⟩
  obtain ⟨t2, a1, b1⟩ := kk A' t.heap (locs ++ L) hA' ⟨hP', hD'.weaken (fun _ q _ h => hF q.1 h), hSn, hok'⟩ hvo hle T' e1 X'
  refine ⟨t2, st t2 ?_, b1⟩
  have e3 : (rv1.toList ++ S2).map (am_cv A' B) = (rv1.map (am_cv A' B)).toList ++ S2.map (am_cv A B) := by
    rw [List.map_append, am_map_congr hA' hS2]
    cases rv1 <;> rfl
  rw [e3] at a1
  exact a1
end AMC
end
section
/-! THE MACHINE DOES WHAT THE SMALL MACHINE DOES -/
theorem am_trp_op {ins : Jvm.ClassFile.Instr} {pc len op x y : Nat} {im : Int} {tb : List (Int × Nat)} (h : am_trp ins pc len = some (op, x, y, im, tb)) : op ≤ 19 := by
  unfold am_trp at h
  split at h
  all_goals first
    | (cases h; decide)
    | (obtain ⟨t, -, h⟩ := Option.map_eq_some_iff.mp h; cases h; decide)
    | (split at h
       · cases h; decide
       · cases h)
    | cases h
theorem am_take_split {S : List (AV R1)} {y : Nat} : S = (S.take y).reverse.reverse ++ S.drop y := by
  rw [List.reverse_reverse, List.take_append_drop]
theorem am_oks_take {n y : Nat} {S : List (AV R1)} (h : ∀ v ∈ S, am_ok n v) : ∀ v ∈ (S.take y).reverse, am_ok n v := fun v hv => h v (List.mem_of_mem_take (List.mem_reverse.mp hv))
theorem am_oks_drop {n y : Nat} {S : List (AV R1)} (h : ∀ v ∈ S, am_ok n v) : ∀ v ∈ S.drop y, am_ok n v := fun v hv => h v (List.mem_of_mem_drop hv)
/-- a request, taken apart -/
theorem am_run_mem {sl : Nat} {sx : Nat → Int} {n d k pc nx x y : Nat} {im : Int} {tb : List (Int × Nat)} {L : am_L R1} {S : List (AV R1)} {w w' : W1} {rv : Option (AV R1)} (hP : am_P k pc = some ((24, x, y, im, tb), nx)) (h : am_run am_P am_nl (m1 am_ft am_T sl sx) (n + 1) d k pc L S w = some (rv, w')) :
    1 ≤ d ∧ y ≤ S.length ∧ am_small (S.drop y) = true ∧ ∃ rv1 w1, m1 am_ft am_T sl sx x im.toNat (S.take y).reverse w = some (rv1, w1) ∧ am_run am_P am_nl (m1 am_ft am_T sl sx) n d k nx L (rv1.toList ++ S.drop y) w1 = some (rv, w') := by
  unfold am_run at h
  rw [hP] at h
  simp only at h
  split at h
  · cases h
  · split at h
    · rename_i hc
      split at h
      · cases h
      · rename_i rv1 w1 hm
        exact ⟨by omega, hc.1, hc.2, rv1, w1, hm, h⟩
    · cases h
theorem am_run_call {sl : Nat} {sx : Nat → Int} {n d k pc nx x y : Nat} {im : Int} {tb : List (Int × Nat)} {L : am_L R1} {S : List (AV R1)} {w w' : W1} {rv : Option (AV R1)} (hP : am_P k pc = some ((21, x, y, im, tb), nx)) (h : am_run am_P am_nl (m1 am_ft am_T sl sx) (n + 1) d k pc L S w = some (rv, w')) :
    ∃ d', d = d' + 1 ∧ y ≤ S.length ∧ am_small (S.drop y) = true ∧ ((S.take y).map am_cat).sum ≤ am_nl x ∧ (im = 1 ∨ (m1 am_ft am_T sl sx 17 x ((S.take y).reverse.take 1) w).isSome = true) ∧ ∃ rv1 w1, am_run am_P am_nl (m1 am_ft am_T sl sx) n d' x 0 (am_loc (am_nl x) (S.take y).reverse) [] w = some (rv1, w1) ∧ am_run am_P am_nl (m1 am_ft am_T sl sx) n d k nx L (rv1.toList ++ S.drop y) w1 = some (rv, w') := by
  unfold am_run at h
  rw [hP] at h
  simp only at h
  split at h
  · cases h
  · rename_i d'
    split at h
    · rename_i hc
      split at h
      · cases h
      · rename_i rv1 w1 hm
        exact ⟨d', rfl, hc.1, hc.2.1, hc.2.2.1, hc.2.2.2, rv1, w1, hm, h⟩
    · cases h
theorem am_run_p {sl : Nat} {sx : Nat → Int} {n d k pc nx op x y : Nat} {im : Int} {tb : List (Int × Nat)} {L : am_L R1} {S : List (AV R1)} {w w' : W1} {rv : Option (AV R1)} (hP : am_P k pc = some ((op, x, y, im, tb), nx)) (hop : op ≤ 19) (h : am_run am_P am_nl (m1 am_ft am_T sl sx) (n + 1) d k pc L S w = some (rv, w')) :
    ∃ pc' L' S', am_p op x y im tb nx L S = some (pc', L', S') ∧ am_run am_P am_nl (m1 am_ft am_T sl sx) n d k pc' L' S' w = some (rv, w') := by
  unfold am_run at h
  rw [hP] at h
  simp only at h
  split at h
  · omega
  · omega
  · omega
  · omega
  · split at h
    · cases h
    · rename_i pc' L' S' hp
      exact ⟨pc', L', S', hp, h⟩
def am_retOk (x : Nat) (v : AV R1) : Bool := match x, v with
  | 0, .inl _ => true
  | 1, .inl z => decide (z = 0 ∨ z = 1)
  | 2, .inr (.inl _) => true
  | 3, .inr (.inr _) => true
  | 4, .inl z => decide (0 ≤ z ∧ z ≤ 127)
  | _, _ => false
theorem am_run_ret {sl : Nat} {sx : Nat → Int} {n d k pc nx x y : Nat} {im : Int} {tb : List (Int × Nat)} {L : am_L R1} {S : List (AV R1)} {w w' : W1} {rv : Option (AV R1)} (hP : am_P k pc = some ((22, x, y, im, tb), nx)) (h : am_run am_P am_nl (m1 am_ft am_T sl sx) (n + 1) d k pc L S w = some (rv, w')) :
    ∃ v, S = [v] ∧ rv = some v ∧ w' = w ∧ am_retOk x v = true := by
  unfold am_run at h
  rw [hP] at h
  simp only at h
  split at h
  · split at h
    · rw [if_pos rfl] at h
      cases h
      exact ⟨_, rfl, rfl, rfl, rfl⟩
    · split at h
      · rename_i hc
        cases h
        exact ⟨_, rfl, rfl, rfl, hc⟩
      · cases h
    · rw [if_pos rfl] at h
      cases h
      exact ⟨_, rfl, rfl, rfl, rfl⟩
    · rw [if_pos rfl] at h
      cases h
      exact ⟨_, rfl, rfl, rfl, rfl⟩
    · split at h
      · rename_i hc
        cases h
        exact ⟨_, rfl, rfl, rfl, hc⟩
      · cases h
    · rw [if_neg (by decide)] at h
      cases h
  · cases h
theorem am_run_retv {sl : Nat} {sx : Nat → Int} {n d k pc nx x y : Nat} {im : Int} {tb : List (Int × Nat)} {L : am_L R1} {S : List (AV R1)} {w w' : W1} {rv : Option (AV R1)} (hP : am_P k pc = some ((23, x, y, im, tb), nx)) (h : am_run am_P am_nl (m1 am_ft am_T sl sx) (n + 1) d k pc L S w = some (rv, w')) : S = [] ∧ rv = none ∧ w' = w := by
  unfold am_run at h
  rw [hP] at h
  simp only at h
  split at h
  · cases h
    exact ⟨rfl, rfl, rfl⟩
  · cases h
/-- the receiver of a call: a cell of its method's class, or a text -/
theorem am_recv {sl : Nat} {sx : Nat → Int} {x : Nat} {as : List (AV R1)} {w : W1} (h : (m1 am_ft am_T sl sx 17 x (as.take 1) w).isSome = true) : (∃ a r fs, as = vR (.inl a) :: r ∧ w[a]? = some (.inl (am_o x, fs))) ∨ ∃ j r, as = vR (.inr j) :: r ∧ 1 ≤ j ∧ j ≤ 23 ∧ am_o x = 16 := by
  have h : (match as.take 1 with
    | [.inr (.inr (some (.inl a)))] => match w[a]? with
      | some (.inl (c, _)) => if c = am_o x then some ((none : Option (AV R1)), w) else none
      | _ => none
    | [.inr (.inr (some (.inr j)))] => if 1 ≤ j ∧ j ≤ am_T.length ∧ am_o x = 16 then some (none, w) else none
    | _ => none : Option (Option (AV R1) × W1)).isSome = true := h
  split at h
  · rename_i a ha
    split at h
    · rename_i c fs hw
      split at h
      · rename_i hc
        subst hc
        match as, ha with
        | v :: r, ha =>
          have : v = vR (.inl a) := by simpa using ha
          subst this
          exact Or.inl ⟨a, r, fs, rfl, hw⟩
      · cases h
    · cases h
  · rename_i j ha
    split at h
    · rename_i hc
      obtain ⟨h1, h2, h3⟩ := hc
      rw [am_T_len] at h2
      match as, ha with
      | v :: r, ha =>
        have : v = vR (.inr j) := by simpa using ha
        subst this
        exact Or.inr ⟨j, r, rfl, h1, h2, h3⟩
    · cases h
  · cases h
theorem am_ocA : (List.range am_NM).all (fun t => Nat.beq (am_stat t) 1 || (decide (am_o t < 13) || (Nat.beq (am_o t) 16 && decide ((am_y t).name ≠ "<init>")))) = true := by decide +kernel
theorem am_oc_lt {t : Nat} (h : t < am_NM) (hs : ¬ am_stat t = 1) : am_o t < 13 ∨ (am_o t = 16 ∧ (am_y t).name ≠ "<init>") := by
  have h1 := List.all_eq_true.mp am_ocA t (List.mem_range.mpr h)
  simp only [Bool.or_eq_true, Bool.and_eq_true, decide_eq_true_eq] at h1
  rcases h1 with q | q | ⟨q, q2⟩
  · exact absurd (Nat.eq_of_beq_eq_true q) hs
  · exact Or.inl q
  · exact Or.inr ⟨Nat.eq_of_beq_eq_true q, q2⟩
theorem am_cl_nmq {c : Nat} (h : c < 13) : ∃ q, am_cl[c]? = some q ∧ q.1 = am_nm c := by
  match c, h with
  | 0, _ => exact ⟨_, rfl, rfl⟩
  | 1, _ => exact ⟨_, rfl, rfl⟩
  | 2, _ => exact ⟨_, rfl, rfl⟩
  | 3, _ => exact ⟨_, rfl, rfl⟩
  | 4, _ => exact ⟨_, rfl, rfl⟩
  | 5, _ => exact ⟨_, rfl, rfl⟩
  | 6, _ => exact ⟨_, rfl, rfl⟩
  | 7, _ => exact ⟨_, rfl, rfl⟩
  | 8, _ => exact ⟨_, rfl, rfl⟩
  | 9, _ => exact ⟨_, rfl, rfl⟩
  | 10, _ => exact ⟨_, rfl, rfl⟩
  | 11, _ => exact ⟨_, rfl, rfl⟩
  | 12, _ => exact ⟨_, rfl, rfl⟩
  | n + 13, h => omega
theorem am_R_cls {D : va_G} {dA : Nat → ClassId} {A B : Nat → Nat} {Af : Nat → Prop} {H0 H : Heap} {locs : List Loc} {w : W1} {a c : Nat} {fs : List (AV R1)} (hR : am_R D dA A B Af H0 H locs w) (h : w[a]? = some (.inl (c, fs))) : c < 13 := by
  obtain ⟨r, h1, -⟩ := hR.1 a _ (am_ws_at h)
  exact am_cl_lt h1
section AMCC
variable {p : Program} {l : Launch} {e : Env} {R : Room} {s : State} {m : MethodId} {args : Array Value} {below : List Frame} {meth : Method} {c : Code} {H : Heap} {locs : List Loc} {cells slots : Nat} {Q : State → Prop}
variable {pc : Nat} {ls : Array Slot} {D : va_G} {dA : Nat → ClassId} {A B : Nat → Nat} {sl : Nat} {xs : Nat → Int32} {Af : Nat → Prop} {w w' : W1} {rv : Option (AV R1)} {k n d : Nat} {L : am_L R1} {S : List (AV R1)}
/-- what a callee's start asks -/
theorem am_pre {as : List (AV R1)} {U : State} (hE : am_E D dA B sl xs Af s s.heap) (hA : ∀ q, s.heap.size ≤ q → Af q) (hR : am_R D dA A B Af s.heap H locs w) (hU : U.heap = H) (hW : s.WarmedH U.vm) : am_Pc D dA A B sl xs w H.size as ((as.map (am_cv A B)).toArray) U := by
  have hF : ∀ q, va_A (am_ws A B dA w) H.size q → Af q := fun q h => by
    rcases h with ⟨k9, e9, h⟩ | h
    · exact hR.2.1.2 k9 _ h
    · exact hA q (Nat.le_trans hR.2.2.1.1 h)
  have h1 := ((hE.kept hR.2.2.1).narrow hF).moved hW
  exact ⟨rfl, by rw [hU], by rw [hU]; exact hR.1, hR.2.1.weaken (fun _ _ _ _ => trivial), by rw [hU]; exact h1⟩
theorem am_c_virtual (hS : am_Sim sl xs n) (hx : p.tables.exec = Jvm.exec) (hb : c.code = am_bc k) (hml : c.maxLocals = am_nl k) (hown : s.vm.findClass (am_nm (am_o k)) = some m.cls) (hts : ∀ w ∈ am_gw, w.before args s = true) (hE : am_E D dA B sl xs Af s s.heap) (hA : ∀ q, s.heap.size ≤ q → Af q) (hR : am_R D dA A B Af s.heap H locs w)
    (hL : am_LR A B (am_nl k) ls L) (hSo : ∀ v ∈ S, am_ok w.length v) (hfr : d ≤ R.frames) (hlo : 100 * d ≤ R.locals) {i t : Nat} (hl : am_ml (am_o k) i = some (0, t)) (hdg : decode (am_bc k) pc = .ok (.invokevirtual i, 3))
    (hc : ∃ d', d = d' + 1 ∧ am_np t + 1 ≤ S.length ∧ am_small (S.drop (am_np t + 1)) = true ∧ ((S.take (am_np t + 1)).map am_cat).sum ≤ am_nl t ∧ ((0 : Int) = 1 ∨ (m1 am_ft am_T sl (fun j => (xs j).toInt) 17 t ((S.take (am_np t + 1)).reverse.take 1) w).isSome = true) ∧ ∃ rv1 w1, am_run am_P am_nl (m1 am_ft am_T sl (fun j => (xs j).toInt)) n d' t 0 (am_loc (am_nl t) (S.take (am_np t + 1)).reverse) [] w = some (rv1, w1) ∧ am_run am_P am_nl (m1 am_ft am_T sl (fun j => (xs j).toInt)) n d k (pc + 3) L (rv1.toList ++ S.drop (am_np t + 1)) w1 = some (rv, w'))
    (room : ∀ {w1 : W1} {S1 : List (AV R1)}, am_le w w1 → am_run am_P am_nl (m1 am_ft am_T sl (fun j => (xs j).toInt)) n d k (pc + 3) L S1 w1 = some (rv, w') → cells + (w1.length - w.length) ≤ R.cells ∧ slots + (am_sl am_ft w1 - am_sl am_ft w) ≤ R.slots)
    (go : ∀ {rv1 : Option (AV R1)} {w1 : W1} {y : Nat}, am_le w w1 → am_run am_P am_nl (m1 am_ft am_T sl (fun j => (xs j).toInt)) n d k (pc + 3) L (rv1.toList ++ S.drop y) w1 = some (rv, w') → am_K p l e R s m args below meth c cells slots Q D dA A B Af w w1 rv1 (pc + 3) ls (S.drop y)) :
    W p l e R s m args below meth c H locs cells slots Q (F0 m pc ls (S.map (am_cv A B))) := by
  obtain ⟨d', rfl, hy, hsm, hcat, hrc, rv1, w1, hr1, hr2⟩ := hc
  obtain ⟨pos, hC, -⟩ := am_ml_ok hl
  unfold am_mlC at hC
  simp only [Bool.and_eq_true, decide_eq_true_eq, Bool.not_eq_true'] at hC
  obtain ⟨c1, ht, c3, c4⟩ := hC
  have hsel : ¬ am_selp t = 0 := fun q => by rw [q] at c3; cases c3
  have hst : ¬ am_stat t = 1 := fun q => by rw [q] at c4; cases c4
  obtain ⟨g1, g2, g3, g4, g5, g6, g7, g8⟩ := am_m_ok ht
  rw [if_neg hst] at g2
  obtain ⟨v0, r, b0, has, hcv, hcell⟩ : ∃ (v0 : AV R1) (r : List (AV R1)) (b0 : Nat), (S.take (am_np t + 1)).reverse = v0 :: r ∧ am_cv A B v0 = .ref b0 ∧ ∃ cellB : Cell, H[b0]? = some cellB ∧ cellB.vm.isStatics = false ∧ s.vm.findClass (am_y t).cls = some cellB.cls := by
    rw [am_ycl (by omega)]
    rcases am_recv (hrc.resolve_left (by decide)) with ⟨a, r, fs, has, hwa⟩ | ⟨j, r, has, j1, j2, j3⟩
    · rcases am_oc_lt ht hst with ho | ⟨ho, -⟩
      · obtain ⟨q, hq, hqn⟩ := am_cl_nmq ho
        exact ⟨_, r, A a, has, rfl, by rw [← hqn]; exact va_recv hE.K hR.1 hq (am_ws_at hwa)⟩
      · exact absurd (am_R_cls hR hwa) (by omega)
    · have h1 := vk_recv hE.2.2.1 (i := j - 1) (by omega) hR.2.2.1
      rw [show j - 1 + 1 = j by omega] at h1
      exact ⟨_, r, B j, has, rfl, by rw [j3]; exact h1⟩
  have hle1 := am_mono _ _ _ _ _ _ _ _ _ hr1
  obtain ⟨r1, r2⟩ := room hle1 hr2
  have hso2 := am_oks_take (y := am_np t + 1) hSo
  have hM := am_met hS ht hr1 (by rw [List.map_reverse, List.sum_reverse]; exact hcat) hso2 hR.2.2.2 l D dA A B H.size
  rw [has] at hM
  have hlen : r.length = am_np t := by
    have := congrArg List.length has
    simp only [List.length_reverse, List.length_take, List.length_cons] at this
    omega
  have hcats := am_cats_le (A := A) (B := B) hsm
  have hstack : S.map (am_cv A B) = (r.map (am_cv A B)).reverse ++ .ref b0 :: (S.drop (am_np t + 1)).map (am_cv A B) := by
    have e1 := am_take_split (S := S) (y := am_np t + 1)
    rw [has] at e1
    conv => lhs; rw [e1]
    simp [List.map_append, List.map_reverse, hcv]
  have hrun := va_runV (l := l) (e := e) (below := below) (meth := meth) (locs := locs) (cells := cells) (slots := slots) (g := F0 m pc ls (S.map (am_cv A B))) (As := r.map (am_cv A B)) (rest := (S.drop (am_np t + 1)).map (am_cv A B)) (C := (am_y t).cls) (b := b0) (n := am_np t) (Ts := am_gw) ⟨hx, hb, hml, hown, hts⟩ hM
    ⟨callB_of (am_np t) hts (am_ws1_good ht) rfl rfl rfl (hts _ g1) (hts _ (am_at_mem c1)) ⟨g5, g6, g7⟩ ⟨by show d' + 1 ≤ R.frames; omega, by show 8 + (am_nl t + 11) + 100 * d' ≤ R.locals; omega⟩, hts _ g2, hts _ (g3 hsel)⟩
    ⟨am_blind, hcell, fun U hU hW => by have q := am_pre (as := v0 :: r) hE hA hR hU hW; rw [List.map_cons, hcv] at q; exact q⟩ rfl (by rw [List.length_map]; exact hlen) hL.1 hstack (lv_room hcats) hdg ⟨r1, r2⟩
  exact am_callR rfl rfl hrun hR hA (am_oks_drop hSo) hle1.1 (go hle1 hr2)
theorem am_c_static (hS : am_Sim sl xs n) (hx : p.tables.exec = Jvm.exec) (hb : c.code = am_bc k) (hml : c.maxLocals = am_nl k) (hown : s.vm.findClass (am_nm (am_o k)) = some m.cls) (hts : ∀ w ∈ am_gw, w.before args s = true) (hE : am_E D dA B sl xs Af s s.heap) (hA : ∀ q, s.heap.size ≤ q → Af q) (hR : am_R D dA A B Af s.heap H locs w)
    (hL : am_LR A B (am_nl k) ls L) (hSo : ∀ v ∈ S, am_ok w.length v) (hfr : d ≤ R.frames) (hlo : 100 * d ≤ R.locals) {i t : Nat} (hl : am_ml (am_o k) i = some (1, t)) (hdg : decode (am_bc k) pc = .ok (.invokestatic i, 3))
    (hc : ∃ d', d = d' + 1 ∧ am_np t ≤ S.length ∧ am_small (S.drop (am_np t)) = true ∧ ((S.take (am_np t)).map am_cat).sum ≤ am_nl t ∧ ((1 : Int) = 1 ∨ (m1 am_ft am_T sl (fun j => (xs j).toInt) 17 t ((S.take (am_np t)).reverse.take 1) w).isSome = true) ∧ ∃ rv1 w1, am_run am_P am_nl (m1 am_ft am_T sl (fun j => (xs j).toInt)) n d' t 0 (am_loc (am_nl t) (S.take (am_np t)).reverse) [] w = some (rv1, w1) ∧ am_run am_P am_nl (m1 am_ft am_T sl (fun j => (xs j).toInt)) n d k (pc + 3) L (rv1.toList ++ S.drop (am_np t)) w1 = some (rv, w'))
    (room : ∀ {w1 : W1} {S1 : List (AV R1)}, am_le w w1 → am_run am_P am_nl (m1 am_ft am_T sl (fun j => (xs j).toInt)) n d k (pc + 3) L S1 w1 = some (rv, w') → cells + (w1.length - w.length) ≤ R.cells ∧ slots + (am_sl am_ft w1 - am_sl am_ft w) ≤ R.slots)
    (go : ∀ {rv1 : Option (AV R1)} {w1 : W1} {y : Nat}, am_le w w1 → am_run am_P am_nl (m1 am_ft am_T sl (fun j => (xs j).toInt)) n d k (pc + 3) L (rv1.toList ++ S.drop y) w1 = some (rv, w') → am_K p l e R s m args below meth c cells slots Q D dA A B Af w w1 rv1 (pc + 3) ls (S.drop y)) :
    W p l e R s m args below meth c H locs cells slots Q (F0 m pc ls (S.map (am_cv A B))) := by
  obtain ⟨d', rfl, hy, hsm, hcat, -, rv1, w1, hr1, hr2⟩ := hc
  obtain ⟨pos, hC, -⟩ := am_ml_ok hl
  unfold am_mlC at hC
  simp only [Bool.and_eq_true, decide_eq_true_eq] at hC
  obtain ⟨c1, ht, c4⟩ := hC
  have hst : am_stat t = 1 := Nat.eq_of_beq_eq_true c4
  obtain ⟨g1, g2, g3, g4, g5, g6, g7, g8⟩ := am_m_ok ht
  rw [if_pos hst] at g2
  have hle1 := am_mono _ _ _ _ _ _ _ _ _ hr1
  obtain ⟨r1, r2⟩ := room hle1 hr2
  have hso2 := am_oks_take (y := am_np t) hSo
  have hM := am_met hS ht hr1 (by rw [List.map_reverse, List.sum_reverse]; exact hcat) hso2 hR.2.2.2 l D dA A B H.size
  have hlen : (S.take (am_np t)).reverse.length = am_np t := by
    simp only [List.length_reverse, List.length_take]
    omega
  have hcats := am_cats_le (A := A) (B := B) hsm
  have hstack : S.map (am_cv A B) = ((S.take (am_np t)).reverse.map (am_cv A B)).reverse ++ (S.drop (am_np t)).map (am_cv A B) := by
    rw [← List.map_reverse, List.reverse_reverse, ← List.map_append, List.take_append_drop]
  have hrun := va_runS (l := l) (e := e) (below := below) (meth := meth) (locs := locs) (cells := cells) (slots := slots) (g := F0 m pc ls (S.map (am_cv A B))) (As := (S.take (am_np t)).reverse.map (am_cv A B)) (rest := (S.drop (am_np t)).map (am_cv A B)) (n := am_np t) (Ts := am_gw) ⟨hx, hb, hml, hown, hts⟩ hM
    ⟨callB_of (am_np t) hts (am_ws1_good ht) rfl rfl rfl (hts _ g1) (hts _ (am_at_mem c1)) ⟨g5, g6, g7⟩ ⟨by show d' + 1 ≤ R.frames; omega, by show 8 + (am_nl t + 11) + 100 * d' ≤ R.locals; omega⟩, hts _ g2⟩
    ⟨am_blind, fun U hU hW => am_pre hE hA hR hU hW⟩ rfl (by rw [List.length_map]; exact hlen) hL.1 hstack (lv_room hcats) hdg ⟨r1, r2⟩
  exact am_callR rfl rfl hrun hR hA (am_oks_drop hSo) hle1.1 (go hle1 hr2)
theorem am_c_special (hS : am_Sim sl xs n) (hx : p.tables.exec = Jvm.exec) (hb : c.code = am_bc k) (hml : c.maxLocals = am_nl k) (hown : s.vm.findClass (am_nm (am_o k)) = some m.cls) (hts : ∀ w ∈ am_gw, w.before args s = true) (hE : am_E D dA B sl xs Af s s.heap) (hA : ∀ q, s.heap.size ≤ q → Af q) (hR : am_R D dA A B Af s.heap H locs w)
    (hL : am_LR A B (am_nl k) ls L) (hSo : ∀ v ∈ S, am_ok w.length v) (hfr : d ≤ R.frames) (hlo : 100 * d ≤ R.locals) {i t : Nat} {im : Int} (hl : am_ml (am_o k) i = some (2, t) ∨ am_ml (am_o k) i = some (3, t)) (him : ¬ im = 1) (hdg : decode (am_bc k) pc = .ok (.invokespecial i, 3))
    (hc : ∃ d', d = d' + 1 ∧ am_np t + 1 ≤ S.length ∧ am_small (S.drop (am_np t + 1)) = true ∧ ((S.take (am_np t + 1)).map am_cat).sum ≤ am_nl t ∧ (im = 1 ∨ (m1 am_ft am_T sl (fun j => (xs j).toInt) 17 t ((S.take (am_np t + 1)).reverse.take 1) w).isSome = true) ∧ ∃ rv1 w1, am_run am_P am_nl (m1 am_ft am_T sl (fun j => (xs j).toInt)) n d' t 0 (am_loc (am_nl t) (S.take (am_np t + 1)).reverse) [] w = some (rv1, w1) ∧ am_run am_P am_nl (m1 am_ft am_T sl (fun j => (xs j).toInt)) n d k (pc + 3) L (rv1.toList ++ S.drop (am_np t + 1)) w1 = some (rv, w'))
    (room : ∀ {w1 : W1} {S1 : List (AV R1)}, am_le w w1 → am_run am_P am_nl (m1 am_ft am_T sl (fun j => (xs j).toInt)) n d k (pc + 3) L S1 w1 = some (rv, w') → cells + (w1.length - w.length) ≤ R.cells ∧ slots + (am_sl am_ft w1 - am_sl am_ft w) ≤ R.slots)
    (go : ∀ {rv1 : Option (AV R1)} {w1 : W1} {y : Nat}, am_le w w1 → am_run am_P am_nl (m1 am_ft am_T sl (fun j => (xs j).toInt)) n d k (pc + 3) L (rv1.toList ++ S.drop y) w1 = some (rv, w') → am_K p l e R s m args below meth c cells slots Q D dA A B Af w w1 rv1 (pc + 3) ls (S.drop y)) :
    W p l e R s m args below meth c H locs cells slots Q (F0 m pc ls (S.map (am_cv A B))) := by
  obtain ⟨d', rfl, hy, hsm, hcat, hrc, rv1, w1, hr1, hr2⟩ := hc
  have hcom : t < am_NM ∧ (am_y t).name = "<init>" ∧ ¬ am_stat t = 1 ∧ am_rt t = none := by
    rcases hl with hl | hl
    · obtain ⟨pos, hC, -⟩ := am_ml_ok hl
      unfold am_mlC at hC
      simp only [Bool.and_eq_true, decide_eq_true_eq, Bool.not_eq_true'] at hC
      exact ⟨hC.2.1, hC.2.2.1, (fun q => by have := hC.2.2.2.1; rw [q] at this; cases this), hC.2.2.2.2⟩
    · obtain ⟨pos, hC, -⟩ := am_ml_ok hl
      unfold am_mlC at hC
      simp only [Bool.and_eq_true, decide_eq_true_eq, Bool.not_eq_true'] at hC
      exact ⟨hC.1, hC.2.1, (fun q => by have := hC.2.2.1; rw [q] at this; cases this), hC.2.2.2⟩
  obtain ⟨ht, hname, hst, hrt⟩ := hcom
  obtain ⟨g1, g2, g3, g4, g5, g6, g7, g8⟩ := am_m_ok ht
  rw [if_neg hst] at g2
  obtain ⟨a, r, fs, has, hwa⟩ : ∃ a r fs, (S.take (am_np t + 1)).reverse = vR (.inl a) :: r ∧ w[a]? = some (.inl (am_o t, fs)) := by
    rcases am_recv (hrc.resolve_left him) with h | ⟨j, r, has, j1, j2, j3⟩
    · exact h
    · rcases am_oc_lt ht hst with ho | ⟨ho, hn⟩
      · omega
      · exact absurd hname hn
  have hle1 := am_mono _ _ _ _ _ _ _ _ _ hr1
  obtain ⟨r1, r2⟩ := room hle1 hr2
  have hso2 := am_oks_take (y := am_np t + 1) hSo
  have hM := am_met hS ht hr1 (by rw [List.map_reverse, List.sum_reverse]; exact hcat) hso2 hR.2.2.2 l D dA A B H.size
  rw [has] at hM
  have hlen : r.length = am_np t := by
    have := congrArg List.length has
    simp only [List.length_reverse, List.length_take, List.length_cons] at this
    omega
  have hcats := am_cats_le (A := A) (B := B) hsm
  have hstack : S.map (am_cv A B) = (r.map (am_cv A B)).reverse ++ .ref (A a) :: (S.drop (am_np t + 1)).map (am_cv A B) := by
    have e1 := am_take_split (S := S) (y := am_np t + 1)
    rw [has] at e1
    conv => lhs; rw [e1]
    simp [List.map_append, List.map_reverse, am_cv]
  have hwsn : am_ws1 t = Cond.code (am_y t) (am_bc t) (am_nl t) none :: am_gw := by unfold am_ws1; rw [hrt]
  have hRm : (am_rm d' (w1.length - w.length) (am_sl am_ft w1 - am_sl am_ft w)).frames + 1 ≤ R.frames ∧ 8 + (am_nl t + 11) + (am_rm d' (w1.length - w.length) (am_sl am_ft w1 - am_sl am_ft w)).locals ≤ R.locals := ⟨by show d' + 1 ≤ R.frames; omega, by show 8 + (am_nl t + 11) + 100 * d' ≤ R.locals; omega⟩
  rcases hl with hl | hl
  · obtain ⟨pos, hC, -⟩ := am_ml_ok hl
    unfold am_mlC at hC
    simp only [Bool.and_eq_true] at hC
    have hrun := va_runI (l := l) (e := e) (below := below) (meth := meth) (locs := locs) (cells := cells) (slots := slots) (g := F0 m pc ls (S.map (am_cv A B))) (As := r.map (am_cv A B)) (rest := (S.drop (am_np t + 1)).map (am_cv A B)) (b := A a) (n := am_np t) (Ts := am_gw) ⟨hx, hb, hml, hown, hts⟩ hM
      ⟨callB_of (am_np t) hts (am_ws1_good ht) hwsn rfl rfl (hts _ g1) (hts _ (am_at_mem hC.1)) ⟨g5, g6, g7⟩ hRm, hname, hts _ g2⟩
      ⟨am_blind, fun U hU hW => am_pre (as := vR (.inl a) :: r) hE hA hR hU hW⟩ rfl (by rw [List.length_map]; exact hlen) hL.1 hstack (lv_room hcats) hdg ⟨r1, r2⟩
    exact am_callR rfl rfl hrun hR hA (am_oks_drop hSo) hle1.1 (go hle1 hr2)
  · obtain ⟨pos, hC, hmem⟩ := am_ml_ok hl
    have hnest : va_Nw (.methodLinkNest (am_nm (am_o k)) i (am_y t) "WashingLines") s := hE.1.2.1 _ (List.mem_map.mpr ⟨_, List.mem_filter.mpr ⟨hmem, rfl⟩, rfl⟩)
    have hrun := va_runIN (l := l) (e := e) (below := below) (meth := meth) (locs := locs) (cells := cells) (slots := slots) (g := F0 m pc ls (S.map (am_cv A B))) (As := r.map (am_cv A B)) (rest := (S.drop (am_np t + 1)).map (am_cv A B)) (b := A a) (n := am_np t) (Ts := am_gw) ⟨hx, hb, hml, hown, hts⟩ hM
      ⟨va_cnB (am_np t) hts (am_ws1_good ht) hwsn rfl rfl hnest (hts _ g1) ⟨g5, g6, g7⟩ hRm, hname, hts _ g2⟩
      ⟨am_blind, fun U hU hW => am_pre (as := vR (.inl a) :: r) hE hA hR hU hW⟩ rfl (by rw [List.length_map]; exact hlen) hL.1 hstack (lv_room hcats) hdg ⟨r1, r2⟩
    exact am_callR rfl rfl hrun hR hA (am_oks_drop hSo) hle1.1 (go hle1 hr2)
end AMCC
set_option maxHeartbeats 8000000 in
theorem am_sim (sl : Nat) (xs : Nat → Int32) : ∀ n, am_Sim sl xs n
  | 0 => fun d k pc L S w w' rv h => by cases h
  | n + 1 => by
    have hS := am_sim sl xs n
    intro d k pc L S w w' rv h p l e R s m args below meth c H locs cells slots Q ls D dA A B Af hx hb hml hown hts hE hA hini hR hL hlen hLo hSo hfr hlo hce hsl hret
    have hlsz : c.maxLocals = ls.size := hml.trans hL.1.symm
    have h0 := h
    cases hP0 : am_P k pc with
    | none =>
      unfold am_run at h
      rw [hP0] at h
      cases h
    | some q9 => ?_
    obtain ⟨⟨op, x, y, im, tb⟩, nx⟩ := q9
    have hP := hP0
    obtain ⟨ins, len, hdg, htr, hnx⟩ := am_P_ok hP
    subst hnx
    -- a request's own end
    have go : ∀ {rv1 : Option (AV R1)} {w1 : W1} {y : Nat}, am_le w w1 → am_run am_P am_nl (m1 am_ft am_T sl (fun j => (xs j).toInt)) n d k (pc + len) L (rv1.toList ++ S.drop y) w1 = some (rv, w') → am_K p l e R s m args below meth c cells slots Q D dA A B Af w w1 rv1 (pc + len) ls (S.drop y) :=
      fun hle hr => am_K_of hS hr hle (am_mono _ _ _ _ _ _ _ _ _ hr) hx hb hml hown hts hE hA hini hL hlen hLo (am_oks_drop hSo) hfr hlo hce hsl hret
    have room : ∀ {rv1 : Option (AV R1)} {w1 : W1} {S1 : List (AV R1)}, am_le w w1 → am_run am_P am_nl (m1 am_ft am_T sl (fun j => (xs j).toInt)) n d k (pc + len) L S1 w1 = some (rv, w') → cells + (w1.length - w.length) ≤ R.cells ∧ slots + (am_sl am_ft w1 - am_sl am_ft w) ≤ R.slots := by
      intro rv1 w1 S1 hle hr
      obtain ⟨a1, a2⟩ := hle
      obtain ⟨b1, b2⟩ := am_mono _ _ _ _ _ _ _ _ _ hr
      constructor <;> omega
    unfold am_tr at htr
    split at htr
    · -- getfield
      split at htr
      · rename_i f hf
        cases htr
        obtain ⟨hd, hy, hsm, rv1, w1, hm, hr⟩ := am_run_mem hP h0
        have hle := m1_mono hm
        rw [am_take_split (S := S) (y := 1)]
        exact am_m_get hx hb hown hts hE hR hf hdg hm (am_oks_take hSo) (go hle hr)
      · split at htr
        · rename_i f hf
          cases htr
          obtain ⟨hd, hy, hsm, rv1, w1, hm, hr⟩ := am_run_mem hP h0
          rw [am_take_split (S := S) (y := 1)]
          exact am_m_tf hx hb hown hts hE hR hf hdg hm (go (m1_mono hm) hr)
        · cases htr
    · -- getstatic
      split at htr
      · rename_i f hf
        cases htr
        obtain ⟨hd, hy, hsm, rv1, w1, hm, hr⟩ := am_run_mem hP h0
        rw [am_take_split (S := S) (y := 0)]
        exact am_m_gs hx hb hown hts hE hR hf hdg hm (go (m1_mono hm) hr)
      · cases htr
    · -- putfield
      split at htr
      · rename_i f hf
        split at htr
        · rename_i hc
          cases htr
          obtain ⟨hd, hy, hsm, rv1, w1, hm, hr⟩ := am_run_mem hP h0
          have hle := m1_mono hm
          rw [am_take_split (S := S) (y := 2)]
          refine am_m_put hx hb hown hts hE hR ?_ hf hdg hm (am_oks_take hSo) (go hle hr)
          rcases hc with hc | ⟨h1, h2⟩
          · exact Or.inl hc
          · exact Or.inr ⟨h1, hini h2⟩
        · cases htr
      · cases htr
    · cases htr
      obtain ⟨hd, hy, hsm, rv1, w1, hm, hr⟩ := am_run_mem hP h0
      rw [am_take_split (S := S) (y := 2)]
      exact am_m_ald hx hb hE hR (Or.inl ⟨rfl, rfl⟩) hdg hm (am_oks_take hSo) (go (m1_mono hm) hr)
    · cases htr
      obtain ⟨hd, hy, hsm, rv1, w1, hm, hr⟩ := am_run_mem hP h0
      rw [am_take_split (S := S) (y := 2)]
      exact am_m_ald hx hb hE hR (Or.inr (Or.inl ⟨rfl, rfl⟩)) hdg hm (am_oks_take hSo) (go (m1_mono hm) hr)
    · cases htr
      obtain ⟨hd, hy, hsm, rv1, w1, hm, hr⟩ := am_run_mem hP h0
      rw [am_take_split (S := S) (y := 2)]
      exact am_m_ald hx hb hE hR (Or.inr (Or.inr (Or.inl ⟨rfl, rfl⟩))) hdg hm (am_oks_take hSo) (go (m1_mono hm) hr)
    · cases htr
      obtain ⟨hd, hy, hsm, rv1, w1, hm, hr⟩ := am_run_mem hP h0
      rw [am_take_split (S := S) (y := 2)]
      exact am_m_ald hx hb hE hR (Or.inr (Or.inr (Or.inr ⟨rfl, rfl⟩))) hdg hm (am_oks_take hSo) (go (m1_mono hm) hr)
    · cases htr
      obtain ⟨hd, hy, hsm, rv1, w1, hm, hr⟩ := am_run_mem hP h0
      rw [am_take_split (S := S) (y := 3)]
      exact am_m_ast hx hb hE hR (Or.inl ⟨rfl, rfl⟩) hdg hm (am_oks_take hSo) (go (m1_mono hm) hr)
    · cases htr
      obtain ⟨hd, hy, hsm, rv1, w1, hm, hr⟩ := am_run_mem hP h0
      rw [am_take_split (S := S) (y := 3)]
      exact am_m_ast hx hb hE hR (Or.inr (Or.inl ⟨rfl, rfl⟩)) hdg hm (am_oks_take hSo) (go (m1_mono hm) hr)
    · cases htr
      obtain ⟨hd, hy, hsm, rv1, w1, hm, hr⟩ := am_run_mem hP h0
      rw [am_take_split (S := S) (y := 3)]
      exact am_m_ast hx hb hE hR (Or.inr (Or.inr (Or.inl ⟨rfl, rfl⟩))) hdg hm (am_oks_take hSo) (go (m1_mono hm) hr)
    · cases htr
      obtain ⟨hd, hy, hsm, rv1, w1, hm, hr⟩ := am_run_mem hP h0
      rw [am_take_split (S := S) (y := 3)]
      exact am_m_ast hx hb hE hR (Or.inr (Or.inr (Or.inr ⟨rfl, rfl⟩))) hdg hm (am_oks_take hSo) (go (m1_mono hm) hr)
    · -- arraylength
      cases htr
      obtain ⟨hd, hy, hsm, rv1, w1, hm, hr⟩ := am_run_mem hP h0
      rw [am_take_split (S := S) (y := 1)]
      exact am_m_len hx hb hE hR hdg hm (go (m1_mono hm) hr)
    · -- new
      split at htr
      · rename_i f hf
        cases htr
        obtain ⟨hd, hy, hsm, rv1, w1, hm, hr⟩ := am_run_mem hP h0
        obtain ⟨r1, r2⟩ := room (rv1 := rv1) (m1_mono hm) hr
        rw [am_take_split (S := S) (y := 0)]
        exact am_m_new hx hb hown hts hE hA hR hf hdg hm (am_oks_drop hSo) r1 r2 (go (m1_mono hm) hr)
      · cases htr
    · -- newarray
      split at htr
      all_goals first
        | (cases htr
           obtain ⟨hd, hy, hsm, rv1, w1, hm, hr⟩ := am_run_mem hP h0
           obtain ⟨r1, r2⟩ := room (rv1 := rv1) (m1_mono hm) hr
           rw [am_take_split (S := S) (y := 1)]
           exact am_m_newa hx hb hts hE hA hR (by first | exact Or.inl ⟨rfl, rfl⟩ | exact Or.inr (Or.inl ⟨rfl, rfl⟩) | exact Or.inr (Or.inr (Or.inl ⟨rfl, rfl⟩)) | exact Or.inr (Or.inr (Or.inr ⟨rfl, rfl⟩))) hdg hm (am_oks_take hSo) (am_oks_drop hSo) r1 r2 (go (m1_mono hm) hr))
        | (cases htr; done)
    · -- anewarray
      split at htr
      · rename_i f hf
        cases htr
        obtain ⟨hd, hy, hsm, rv1, w1, hm, hr⟩ := am_run_mem hP h0
        obtain ⟨r1, r2⟩ := room (rv1 := rv1) (m1_mono hm) hr
        rw [am_take_split (S := S) (y := 1)]
        exact am_m_newq hx hb hown hts hE hA hR hf hdg hm (am_oks_take hSo) (am_oks_drop hSo) r1 r2 (go (m1_mono hm) hr)
      · cases htr
    · -- multianewarray
      split at htr
      · rename_i hcl
        cases htr
        obtain ⟨hd, hy, hsm, rv1, w1, hm, hr⟩ := am_run_mem hP h0
        obtain ⟨r1, r2⟩ := room (rv1 := rv1) (m1_mono hm) hr
        rw [am_take_split (S := S) (y := 2)]
        exact am_m_mna hx hb hown hts hE hA hR hcl hdg hm (am_oks_take hSo) (am_oks_drop hSo) r1 r2 (go (m1_mono hm) hr)
      · cases htr
    · -- ldc
      split at htr
      · rename_i v hv
        cases htr
        obtain ⟨k1, k2⟩ := am_ct_ok hv
        obtain ⟨pc', L', S', hp, h⟩ := am_run_p hP (by decide) h0
        · have hp : some (pc + 2, L, vI im :: S) = some (pc', L', S') := hp
          cases hp
          refine lv_ldc hx hb hown (hts _ k1) hdg ?_
          exact hS d k (pc + 2) L (vI im :: S) w w' rv h p l e R s m args below meth c H locs cells slots Q ls D dA A B Af hx hb hml hown hts hE hA hini hR hL hlen hLo (am_cons_oks k2 hSo) hfr hlo hce hsl hret
      · split at htr
        · rename_i j hj
          cases htr
          obtain ⟨hd, hy, hsm, rv1, w1, hm, hr⟩ := am_run_mem hP h0
          have hm : (if j < am_T.length then some (some (vR (.inr (j + 1)) : AV R1), w) else none) = some (rv1, w1) := hm
          split at hm
          · cases hm
            exact am_m_ldc (len := 2) hx hb hown hE hR (Or.inl ⟨rfl, rfl⟩) hj hdg (go (y := 0) am_le_rf hr)
          · cases hm
        · cases htr
    · -- ldc_w
      split at htr
      · rename_i v hv
        cases htr
        obtain ⟨k1, k2⟩ := am_ct_ok hv
        obtain ⟨pc', L', S', hp, h⟩ := am_run_p hP (by decide) h0
        · have hp : some (pc + 3, L, vI im :: S) = some (pc', L', S') := hp
          cases hp
          refine lv_ldcw hx hb hown (hts _ k1) hdg ?_
          exact hS d k (pc + 3) L (vI im :: S) w w' rv h p l e R s m args below meth c H locs cells slots Q ls D dA A B Af hx hb hml hown hts hE hA hini hR hL hlen hLo (am_cons_oks k2 hSo) hfr hlo hce hsl hret
      · split at htr
        · rename_i j hj
          cases htr
          obtain ⟨hd, hy, hsm, rv1, w1, hm, hr⟩ := am_run_mem hP h0
          have hm : (if j < am_T.length then some (some (vR (.inr (j + 1)) : AV R1), w) else none) = some (rv1, w1) := hm
          split at hm
          · cases hm
            exact am_m_ldc (len := 3) hx hb hown hE hR (Or.inr ⟨rfl, rfl⟩) hj hdg (go (y := 0) am_le_rf hr)
          · cases hm
        · cases htr
    · -- ldc2_w
      obtain ⟨v, hv, htr⟩ := Option.map_eq_some_iff.mp htr
      cases htr
      obtain ⟨k1, k2⟩ := am_lt_ok hv
      obtain ⟨pc', L', S', hp, h⟩ := am_run_p hP (by decide) h0
      · have hp : some (pc + 3, L, vL im :: S) = some (pc', L', S') := hp
        cases hp
        refine lv_ldc2 hx hb hown (hts _ k1) hdg ?_
        exact hS d k (pc + 3) L (vL im :: S) w w' rv h p l e R s m args below meth c H locs cells slots Q ls D dA A B Af hx hb hml hown hts hE hA hini hR hL hlen hLo (am_cons_oks k2 hSo) hfr hlo hce hsl hret
    · -- invokevirtual
      split at htr
      · rename_i t hml2
        cases htr
        exact am_c_virtual hS hx hb hml hown hts hE hA hR hL hSo hfr hlo hml2 hdg (am_run_call hP h0) (fun hle hr => room (rv1 := none) hle hr) (fun hle hr => go hle hr)
      · cases htr
    · -- invokestatic
      split at htr
      · rename_i t hml2
        cases htr
        exact am_c_static hS hx hb hml hown hts hE hA hR hL hSo hfr hlo hml2 hdg (am_run_call hP h0) (fun hle hr => room (rv1 := none) hle hr) (fun hle hr => go hle hr)
      · rename_i t hml2
        split at htr
        · rename_i ht
          cases htr
          obtain ⟨pos, hC, -⟩ := am_ml_ok hml2
          obtain ⟨hd, hy, hsm, rv1, w1, hm, hr⟩ := am_run_mem hP h0
          obtain ⟨r1, r2⟩ := room (rv1 := rv1) (m1_mono hm) hr
          rcases ht with rfl | rfl | rfl
          · rw [am_take_split (S := S) (y := 5)]
            exact am_m_cpy hx hb hlsz hown hts hE hR (by omega) (by omega) hsm (am_at_mem hC) hdg hm (am_oks_take hSo) (go (m1_mono hm) hr)
          · have hm : (match (S.take 2).reverse with
              | [.inl x, .inl y] => some (some (vI (if x < y then y else x) : AV R1), w)
              | _ => none) = some (rv1, w1) := hm
            split at hm
            · rename_i u v huv
              cases hm
              have ho := am_oks_take (y := 2) hSo
              rw [huv] at ho
              have q := am_m_max (S2 := S.drop 2) hx hb hlsz hown hts hR (by omega) (by omega) (by omega) (by omega) hsm (show am_ok w.length (vI u : AV R1) from ho (.inl u) (by simp)) (show am_ok w.length (vI v : AV R1) from ho (.inl v) (by simp)) (am_at_mem hC) hdg (go (y := 2) am_le_rf hr)
              rw [← huv, ← am_take_split] at q
              exact q
            · cases hm
          · have hm : (match (S.take 2).reverse with
              | [.inl x, .inl y] => some (some (vI (if y < x then y else x) : AV R1), w)
              | _ => none) = some (rv1, w1) := hm
            split at hm
            · rename_i u v huv
              cases hm
              have ho := am_oks_take (y := 2) hSo
              rw [huv] at ho
              have q := am_m_min (S2 := S.drop 2) hx hb hlsz hown hts hR (by omega) (by omega) (by omega) (by omega) hsm (show am_ok w.length (vI u : AV R1) from ho (.inl u) (by simp)) (show am_ok w.length (vI v : AV R1) from ho (.inl v) (by simp)) (am_at_mem hC) hdg (go (y := 2) am_le_rf hr)
              rw [← huv, ← am_take_split] at q
              exact q
            · cases hm
        · cases htr
      · cases htr
    · -- invokespecial
      split at htr
      · rename_i t hml2
        cases htr
        exact am_c_special hS hx hb hml hown hts hE hA hR hL hSo hfr hlo (Or.inl hml2) (by decide) hdg (am_run_call hP h0) (fun hle hr => room (rv1 := none) hle hr) (fun hle hr => go hle hr)
      · rename_i t hml2
        cases htr
        exact am_c_special hS hx hb hml hown hts hE hA hR hL hSo hfr hlo (Or.inr hml2) (by decide) hdg (am_run_call hP h0) (fun hle hr => room (rv1 := none) hle hr) (fun hle hr => go hle hr)
      · rename_i t hml2
        split at htr
        · rename_i ht
          subst ht
          cases htr
          obtain ⟨pos, hC, -⟩ := am_ml_ok hml2
          obtain ⟨hd, hy, hsm, rv1, w1, hm, hr⟩ := am_run_mem hP h0
          have hm : (match (S.take 1).reverse with
              | [.inr (.inr (some (.inl _)))] => some ((none : Option (AV R1)), w)
              | _ => none) = some (rv1, w1) := hm
          split at hm
          · rename_i u huv
            cases hm
            have q := am_m_obj (S2 := S.drop 1) (a := u) hx hb hlsz hown hts hR (by omega) (by omega) hsm (am_at_mem hC) hdg (go (y := 1) am_le_rf hr)
            rw [← huv, ← am_take_split] at q
            exact q
          · cases hm
        · cases htr
      · cases htr
    · -- ireturn
      split at htr
      · rename_i hrt
        cases htr
        obtain ⟨v, rfl, rfl, rfl, hc⟩ := am_run_ret hP h0
        match v, hc with
        | .inl z, hc =>
          have q := hret A H locs pc ls (fun _ _ => rfl) hR (fun u hu => by cases hu; exact hSo _ (by simp)) (Or.inl ⟨hdg, hrt, z, rfl⟩)
          rw [Nat.sub_self, Nat.sub_self] at q
          exact q
      · rename_i hrt
        cases htr
        obtain ⟨v, rfl, rfl, rfl, hc⟩ := am_run_ret hP h0
        match v, hc with
        | .inl z, hc =>
          have q := hret A H locs pc ls (fun _ _ => rfl) hR (fun u hu => by cases hu; exact hSo _ (by simp)) (Or.inr (Or.inl ⟨hdg, hrt, z, rfl, by have hc : decide (z = 0 ∨ z = 1) = true := hc; simpa using hc⟩))
          rw [Nat.sub_self, Nat.sub_self] at q
          exact q
      · rename_i hrt
        cases htr
        obtain ⟨v, rfl, rfl, rfl, hc⟩ := am_run_ret hP h0
        match v, hc with
        | .inl z, hc =>
          have hc : decide (0 ≤ z ∧ z ≤ 127) = true := hc
          simp only [decide_eq_true_eq] at hc
          have q := hret A H locs pc ls (fun _ _ => rfl) hR (fun u hu => by cases hu; exact hSo _ (by simp)) (Or.inr (Or.inr (Or.inr (Or.inr (Or.inr ⟨hdg, Or.inl hrt, z, rfl, hc⟩)))))
          rw [Nat.sub_self, Nat.sub_self] at q
          exact q
      · rename_i hrt
        cases htr
        obtain ⟨v, rfl, rfl, rfl, hc⟩ := am_run_ret hP h0
        match v, hc with
        | .inl z, hc =>
          have hc : decide (0 ≤ z ∧ z ≤ 127) = true := hc
          simp only [decide_eq_true_eq] at hc
          have q := hret A H locs pc ls (fun _ _ => rfl) hR (fun u hu => by cases hu; exact hSo _ (by simp)) (Or.inr (Or.inr (Or.inr (Or.inr (Or.inr ⟨hdg, Or.inr hrt, z, rfl, hc⟩)))))
          rw [Nat.sub_self, Nat.sub_self] at q
          exact q
      · cases htr
    · -- lreturn
      split at htr
      · rename_i hrt
        cases htr
        obtain ⟨v, rfl, rfl, rfl, hc⟩ := am_run_ret hP h0
        match v, hc with
        | .inr (.inl z), hc =>
          have q := hret A H locs pc ls (fun _ _ => rfl) hR (fun u hu => by cases hu; exact hSo _ (by simp)) (Or.inr (Or.inr (Or.inl ⟨hdg, hrt, z, rfl⟩)))
          rw [Nat.sub_self, Nat.sub_self] at q
          exact q
      · cases htr
    · -- areturn
      split at htr
      · rename_i C hrt
        cases htr
        obtain ⟨v, rfl, rfl, rfl, hc⟩ := am_run_ret hP h0
        match v, hc with
        | .inr (.inr z), hc =>
          have q := hret A H locs pc ls (fun _ _ => rfl) hR (fun u hu => by cases hu; exact hSo _ (by simp)) (Or.inr (Or.inr (Or.inr (Or.inl ⟨hdg, ⟨C, hrt⟩, z, rfl⟩))))
          rw [Nat.sub_self, Nat.sub_self] at q
          exact q
      · cases htr
    · -- return
      split at htr
      · rename_i hrt
        cases htr
        obtain ⟨rfl, rfl, rfl⟩ := am_run_retv hP h0
        have q := hret A H locs pc ls (fun _ _ => rfl) hR (fun u hu => by cases hu) (Or.inr (Or.inr (Or.inr (Or.inr (Or.inl ⟨hdg, hrt, rfl⟩)))))
        rw [Nat.sub_self, Nat.sub_self] at q
        exact q
      · cases htr
    · -- pure
      obtain ⟨pc', L', S', hp, h⟩ := am_run_p hP (am_trp_op htr) h0
      exact am_sim_p hx hb htr hdg hp hL hlen hLo hSo (fun ls' h1 h2 h3 h4 => hS d k pc' L' S' w w' rv h p l e R s m args below meth c H locs cells slots Q ls' D dA A B Af hx hb hml hown hts hE hA hini hR h1 h2 h3 h4 hfr hlo hce hsl hret)
end
section
/-! THE LAW'S ENTRY: what the Statement gives there -/
def am_tmk (i : Nat) : Term := .string (am_txo i) (am_txi i)
abbrev am_giv : Cond := Jvm.Cond.and given_1 narrow_1
def am_fl0 : List Cond := flatC am_giv
theorem am_g_ex : ∀ i, i < 23 → Cond.exactly (am_tmk i) "java/lang/String" ∈ am_fl0 := by decide +kernel
theorem am_g_co : ∀ i, i < 23 → Cond.eq (.field (am_tmk i) "java/lang/String" "coder" "B") (.int 0) ∈ am_fl0 := by decide +kernel
theorem am_g_ar : ∀ i, i < 23 → Cond.arrayOf (.field (am_tmk i) "java/lang/String" "value" "[B") .byte ∈ am_fl0 := by decide +kernel
theorem am_g_le : ∀ i, i < 23 → Cond.eq (.length (.field (am_tmk i) "java/lang/String" "value" "[B")) (.int (Int32.ofNat (am_txl.getD i 0))) ∈ am_fl0 := by decide +kernel
/-- a list's rows among another's, in the same order: one pass -/
def am_subl : List Cond → List Cond → Bool
  | [], _ => true
  | _ :: _, [] => false
  | a :: r, b :: t => if a = b then am_subl r t else am_subl (a :: r) t
theorem am_subl_mem : ∀ {l m : List Cond}, am_subl l m = true → ∀ x ∈ l, x ∈ m
  | [], _, _, x, hx => by cases hx
  | a :: r, [], h, _, _ => by cases h
  | a :: r, b :: t, h, x, hx => by
    unfold am_subl at h
    by_cases e : a = b
    · rw [if_pos e] at h
      rcases List.mem_cons.mp hx with q | q
      · rw [q, e]; exact List.mem_cons_self
      · exact List.mem_cons_of_mem _ (am_subl_mem h x q)
    · rw [if_neg e] at h
      exact List.mem_cons_of_mem _ (am_subl_mem h x hx)
def am_elO : List (Nat × Nat) := [(0, 0), (0, 1), (0, 2), (0, 3), (0, 4), (0, 5), (0, 6), (0, 7), (0, 8), (0, 9), (0, 10), (0, 11), (0, 12), (0, 13), (0, 14), (0, 15), (0, 16), (0, 17), (0, 18), (0, 19), (0, 20), (0, 21), (0, 22), (0, 23), (0, 24), (0, 25), (0, 26), (0, 27), (0, 28), (0, 29), (0, 30), (0, 31), (0, 32), (0, 33), (0, 34), (0, 35), (0, 36), (0, 37), (0, 38), (0, 39), (0, 40), (0, 41), (0, 42), (0, 43), (0, 44), (0, 45), (0, 46), (0, 47), (0, 48), (0, 49), (0, 50), (0, 51), (0, 52), (0, 53), (0, 54), (0, 55), (0, 56), (0, 57), (0, 58), (0, 59), (0, 60), (0, 61), (0, 62), (0, 63), (0, 64), (0, 65), (0, 66), (0, 67), (0, 68), (0, 69), (0, 70), (0, 71), (0, 72), (0, 73), (0, 74), (0, 75), (0, 76), (0, 77), (0, 78), (0, 79), (0, 80), (0, 81), (0, 82), (0, 83), (0, 84), (0, 85), (0, 86), (0, 87), (0, 88), (0, 89), (0, 90), (0, 91), (0, 92), (0, 93), (0, 94), (0, 95), (0, 96), (0, 97), (0, 98), (0, 99), (0, 100), (0, 101), (0, 102), (0, 103), (0, 104), (0, 105), (0, 106), (0, 107), (0, 108), (1, 0), (1, 1), (1, 2), (1, 3), (1, 4), (1, 5), (1, 6), (1, 7), (1, 8), (1, 9), (1, 10), (2, 0), (2, 1), (2, 2), (2, 3), (2, 4), (3, 0), (3, 1), (3, 2), (3, 3), (3, 4), (3, 5), (4, 0), (4, 1), (4, 2), (4, 3), (4, 4), (5, 0), (5, 1), (5, 2), (5, 3), (6, 0), (6, 1), (6, 2), (6, 3), (7, 0), (7, 1), (7, 2), (7, 3), (8, 0), (8, 1), (8, 2), (8, 3), (8, 4), (9, 0), (9, 1), (9, 2), (9, 3), (9, 4), (9, 5), (10, 0), (10, 1), (10, 2), (10, 3), (10, 4), (11, 0), (11, 1), (11, 2), (12, 0), (12, 1), (12, 2), (12, 3), (12, 4), (12, 5), (12, 6), (13, 0), (13, 1), (13, 2), (14, 0), (14, 1), (14, 2), (14, 3), (14, 4), (14, 5), (15, 0), (15, 1), (15, 2), (15, 3), (16, 0), (16, 1), (16, 2), (16, 3), (17, 0), (17, 1), (17, 2), (18, 0), (18, 1), (18, 2), (18, 3), (19, 0), (19, 1), (20, 0), (20, 1), (20, 2), (21, 0), (21, 1), (21, 2), (22, 0), (22, 1)]
def am_neO : List (Nat × Nat) := [(0, 1), (0, 2), (1, 2), (0, 3), (1, 3), (2, 3), (0, 4), (1, 4), (2, 4), (3, 4), (0, 5), (1, 5), (2, 5), (3, 5), (4, 5), (0, 6), (1, 6), (2, 6), (3, 6), (4, 6), (5, 6), (0, 7), (1, 7), (2, 7), (3, 7), (4, 7), (5, 7), (6, 7), (0, 8), (1, 8), (2, 8), (3, 8), (4, 8), (5, 8), (6, 8), (7, 8), (0, 9), (1, 9), (2, 9), (3, 9), (4, 9), (5, 9), (6, 9), (7, 9), (8, 9), (0, 10), (1, 10), (2, 10), (3, 10), (4, 10), (5, 10), (6, 10), (7, 10), (8, 10), (9, 10), (0, 11), (1, 11), (2, 11), (3, 11), (4, 11), (5, 11), (6, 11), (7, 11), (8, 11), (9, 11), (10, 11), (0, 12), (1, 12), (2, 12), (3, 12), (4, 12), (5, 12), (6, 12), (7, 12), (8, 12), (9, 12), (10, 12), (11, 12), (0, 13), (1, 13), (2, 13), (3, 13), (4, 13), (5, 13), (6, 13), (7, 13), (8, 13), (9, 13), (10, 13), (11, 13), (12, 13), (0, 14), (1, 14), (2, 14), (3, 14), (4, 14), (5, 14), (6, 14), (7, 14), (8, 14), (9, 14), (10, 14), (11, 14), (12, 14), (13, 14), (0, 15), (1, 15), (2, 15), (3, 15), (4, 15), (5, 15), (6, 15), (7, 15), (8, 15), (9, 15), (10, 15), (11, 15), (12, 15), (13, 15), (14, 15), (0, 16), (1, 16), (2, 16), (3, 16), (4, 16), (5, 16), (6, 16), (7, 16), (8, 16), (9, 16), (10, 16), (11, 16), (12, 16), (13, 16), (14, 16), (15, 16), (0, 17), (1, 17), (2, 17), (3, 17), (4, 17), (5, 17), (6, 17), (7, 17), (8, 17), (9, 17), (10, 17), (11, 17), (12, 17), (13, 17), (14, 17), (15, 17), (16, 17), (0, 18), (1, 18), (2, 18), (3, 18), (4, 18), (5, 18), (6, 18), (7, 18), (8, 18), (9, 18), (10, 18), (11, 18), (12, 18), (13, 18), (14, 18), (15, 18), (16, 18), (17, 18), (0, 19), (1, 19), (2, 19), (3, 19), (4, 19), (5, 19), (6, 19), (7, 19), (8, 19), (9, 19), (10, 19), (11, 19), (12, 19), (13, 19), (14, 19), (15, 19), (16, 19), (17, 19), (18, 19), (0, 20), (1, 20), (2, 20), (3, 20), (4, 20), (5, 20), (6, 20), (7, 20), (8, 20), (9, 20), (10, 20), (11, 20), (12, 20), (13, 20), (14, 20), (15, 20), (16, 20), (17, 20), (18, 20), (19, 20), (0, 21), (1, 21), (2, 21), (3, 21), (4, 21), (5, 21), (6, 21), (7, 21), (8, 21), (9, 21), (10, 21), (11, 21), (12, 21), (13, 21), (14, 21), (15, 21), (16, 21), (17, 21), (18, 21), (19, 21), (20, 21), (0, 22), (1, 22), (2, 22), (3, 22), (4, 22), (5, 22), (6, 22), (7, 22), (8, 22), (9, 22), (10, 22), (11, 22), (12, 22), (13, 22), (14, 22), (15, 22), (16, 22), (17, 22), (18, 22), (19, 22), (20, 22), (21, 22)]
theorem am_elS : am_subl (am_elO.map fun q => Cond.eq (.elem (.field (am_tmk q.1) "java/lang/String" "value" "[B") (.int (Int32.ofNat q.2))) (.int ((am_txb.getD q.1 []).getD q.2 0))) am_fl0 = true := by decide +kernel
theorem am_neS : am_subl (am_neO.map fun q => Cond.not (Cond.eq (am_tmk q.1) (am_tmk q.2))) am_fl0 = true := by decide +kernel
theorem am_elM : ∀ i, i < 23 → ∀ j, j < am_txl.getD i 0 → (i, j) ∈ am_elO := by decide +kernel
theorem am_neM : ∀ i, i < 23 → ∀ j, j < 23 → i = j ∨ (i, j) ∈ am_neO ∨ (j, i) ∈ am_neO := by decide +kernel
theorem am_g_el (i : Nat) (hi : i < 23) (j : Nat) (hj : j < am_txl.getD i 0) : Cond.eq (.elem (.field (am_tmk i) "java/lang/String" "value" "[B") (.int (Int32.ofNat j))) (.int ((am_txb.getD i []).getD j 0)) ∈ am_fl0 :=
  am_subl_mem am_elS _ (List.mem_map.mpr ⟨(i, j), am_elM i hi j hj, rfl⟩)
theorem am_g_ne (i : Nat) (hi : i < 23) (j : Nat) (hj : j < 23) (hij : i ≠ j) : Cond.not (Cond.eq (am_tmk i) (am_tmk j)) ∈ am_fl0 ∨ Cond.not (Cond.eq (am_tmk j) (am_tmk i)) ∈ am_fl0 :=
  ((am_neM i hi j hj).resolve_left hij).imp (fun h => am_subl_mem am_neS _ (List.mem_map.mpr ⟨(i, j), h, rfl⟩)) (fun h => am_subl_mem am_neS _ (List.mem_map.mpr ⟨(j, i), h, rfl⟩))
theorem am_g_cs : Cond.eq (.static "java/lang/String" "COMPACT_STRINGS" "Z") (.int 1) ∈ am_fl0 := by decide +kernel
theorem am_g_si : Cond.isRef (.static "jdk/internal/util/Preconditions" "SIOOBE_FORMATTER" "Ljava/util/function/BiFunction;") ∈ am_fl0 := by decide +kernel
theorem am_w_cs : Cond.laysStatic "java/lang/String" "COMPACT_STRINGS" "Z" ∈ lw_tbl := by decide +kernel
theorem am_w_si : Cond.laysStatic "jdk/internal/util/Preconditions" "SIOOBE_FORMATTER" "Ljava/util/function/BiFunction;" ∈ lw_tbl := by decide +kernel
theorem am_w_i1 : Cond.initialized "java/lang/String" ∈ lw_tbl := by decide +kernel
theorem am_w_i2 : Cond.initialized "jdk/internal/util/Preconditions" ∈ lw_tbl := by decide +kernel
theorem am_w_sr : ∀ i, i < 23 → Cond.stringRef (am_txo i) (am_txi i) (am_tx.getD i "") ∈ lw_tbl := by decide +kernel
theorem am_w_nw : ∀ w ∈ am_nw, w ∈ lw_tbl := by decide +kernel
theorem am_w_ao : ∀ C ∈ am_ao, Cond.arrayOver (.object C) ∈ lw_tbl := by decide +kernel
theorem am_w_aoa : Cond.arrayOver (.array .int) ∈ lw_tbl := by decide +kernel
theorem am_w_in : ∀ c, c < 13 → Cond.instantiable (am_cl.getD c am_dq).1 (am_cl.getD c am_dq).2.2 ∈ lw_tbl := by decide +kernel
theorem am_pick {P : Nat → Nat → Prop} {N : Nat} (h : ∀ i, i < N → ∃ a, P i a) : ∃ f : Nat → Nat, ∀ i, i < N → P i (f i) := by
  have h2 : ∀ i, ∃ a, i < N → P i a := fun i => by
    by_cases hi : i < N
    · obtain ⟨a, ha⟩ := h i hi
      exact ⟨a, fun _ => ha⟩
    · exact ⟨0, fun q => absurd q hi⟩
  exact ⟨fun i => Classical.choose (h2 i), fun i hi => Classical.choose_spec (h2 i) hi⟩
theorem am_prim {s : State} {args : Array Value} {ty : FieldType} (hp : ty.isReference = false) (h : (Cond.arrayClass ty).before args s = true) : ∃ cA : ClassId, ArrOfT s cA ty ∧ va_RA s cA ty := by
  obtain ⟨c, k, comp, h1, h2, h3⟩ := Cond.arrayClass_spec h
  refine ⟨c, fun N z => ⟨(fun k' hk' => by cases hk'), k, h2, comp, h3⟩, ?_⟩
  cases ty with
  | object C => cases hp
  | _ => exact h1
/-- the classes, as the tables have them -/
theorem am_D {s : State} {args : Array Value} (hts : ∀ w ∈ lw_tbl, w.before args s = true) : ∃ D : va_G, ∀ (c : Nat) (q : vw_C), am_cl[c]? = some q → u_Kn s q.1 q.2.1 q.2.2 (D.1 c) (D.2 c) := by
  have h : ∀ c : Nat, ∃ z : ClassId × (Nat → Nat), ∀ q : vw_C, am_cl[c]? = some q → u_Kn s q.1 q.2.1 q.2.2 z.1 z.2 := fun c => by
    cases hq : am_cl[c]? with
    | none => exact ⟨(0, fun _ => 0), fun q h => by cases h⟩
    | some q =>
      have hlt := am_cl_lt hq
      have hin := hts _ (am_w_in c hlt)
      rw [List.getD_eq_getElem?_getD, hq, Option.getD_some] at hin
      obtain ⟨cC, iS, hK⟩ := u_known (C := q.1) (T := q.2.1) (N := q.2.2) (n := q.2.2) (ws := am_gw) (fun w hw => hts w (List.mem_filter.mp hw).1) (am_cl_ok hq).1 hin
      exact ⟨(cC, iS), fun q' h => by cases h; exact hK⟩
  exact ⟨(fun c => (Classical.choose (h c)).1, fun c => (Classical.choose (h c)).2), fun c q hq => Classical.choose_spec (h c) q hq⟩
/-- the rows' classes -/
theorem am_dA {s : State} {args : Array Value} (hts : ∀ w ∈ lw_tbl, w.before args s = true) : ∃ dA : Nat → ClassId, ∀ (k : Nat) (q : ClassId × FieldType), (am_tys dA)[k]? = some q → ArrOfT s q.1 q.2 ∧ va_RA s q.1 q.2 := by
  have g : ∀ {w : Cond}, w ∈ am_gw → w.before args s = true := fun hw => hts _ (List.mem_filter.mp hw).1
  obtain ⟨c0, a0⟩ := am_prim rfl (g am_arr_int)
  obtain ⟨c1, a1⟩ := am_prim rfl (g am_arr_byte)
  obtain ⟨c2, a2⟩ := am_prim rfl (g am_arr_bool)
  obtain ⟨c3, a3⟩ := am_prim rfl (g am_arr_long)
  have ob : ∀ C ∈ am_ao, ∃ cA : ClassId, ArrOfT s cA (.object C) ∧ va_RA s cA (.object C) := fun C hC => by
    obtain ⟨comp, c, k, h1, h2, h3, h4, h5⟩ := Cond.arrayOver_spec (hts _ (am_w_ao C hC))
    exact ⟨c, fun N z => ⟨(fun k' hk' => by cases hk'), k, h3, comp, h4⟩, k, comp, h3, h4, h1, h5⟩
  obtain ⟨c4, a4⟩ := ob "WashingLines$Yard" (by decide)
  obtain ⟨c5, a5⟩ := ob "WashingLines$Law" (by decide)
  obtain ⟨c6, a6⟩ := ob "WashingLines$World" (by decide)
  obtain ⟨c7, a7⟩ : ∃ cA : ClassId, ArrOfT s cA (.array .int) ∧ va_RA s cA (.array .int) := by
    obtain ⟨comp, c, k, h1, h2, h3, h4, h5⟩ := arrayOver_specB (hts _ am_w_aoa)
    exact ⟨c, fun N z => ⟨(fun k' hk' => by cases hk'), k, h3, comp, h4⟩, h5⟩
  refine ⟨fun t => if t = 0 then c0 else if t = 1 then c1 else if t = 2 then c2 else if t = 3 then c3 else if t = 104 then c4 else if t = 106 then c5 else if t = 108 then c6 else c7, fun k q hq => ?_⟩
  match k, hq with
  | 0, hq => cases hq; exact a0
  | 1, hq => cases hq; exact a1
  | 2, hq => cases hq; exact a2
  | 3, hq => cases hq; exact a3
  | 4, hq => cases hq; exact a4
  | 5, hq => cases hq; exact a5
  | 6, hq => cases hq; exact a6
  | 7, hq => cases hq; exact a7
  | n + 8, hq => simp [am_tys] at hq
theorem am_isref {args : Array Value} {s : State} {t : Term} (h : (Cond.isRef t).before args s = true) : t.eval args s none [] s = some .null ∨ ∃ a, t.eval args s none [] s = some (.ref a) := by
  cases he : t.eval args s none [] s with
  | none => simp [Cond.before, Cond.holds, Cond.value, he] at h
  | some v =>
    cases v with
    | ref a => exact Or.inr ⟨a, rfl⟩
    | null => exact Or.inl rfl
    | _ => simp [Cond.before, Cond.holds, Cond.value, he, Value.isRef] at h
/-- all that stands round the cells, at the law's entry -/
theorem am_E0 {s : State} {b L : Nat} {xs : Nat → Int32} (hts : ∀ w ∈ lw_tbl, w.before #[Value.ref b] s = true) (hL : L ≤ 3072) (hX : va_X b L xs s s.heap) (hbl : b < s.heap.size) (hgv : am_giv.before #[Value.ref b] s = true) :
    ∃ (D : va_G) (dA : Nat → ClassId) (B : Nat → Nat) (xs' : Nat → Int32), B 0 = b ∧ (∀ j, j < L → xs' j = xs j) ∧ am_E D dA B L xs' (fun q => s.heap.size ≤ q) s s.heap := by
  obtain ⟨D, hD⟩ := am_D hts
  obtain ⟨dA, hdA⟩ := am_dA hts
  have hq := flat_of_before _ hgv
  have hA : ∀ a : Nat, a < s.heap.size → ¬ (fun q : Nat => s.heap.size ≤ q) a := fun a h1 h2 => Nat.not_le.mpr h1 h2
  obtain ⟨adK, adV, hS, hev⟩ := vk_Sof (args := #[Value.ref b]) (s := s) (N := 23) (tm := am_tmk) (len := am_txl) (byt := am_txb) (A := fun q => s.heap.size ≤ q) (by decide +kernel) (fun i hi => hq _ (am_g_ex i hi)) (fun i hi => hq _ (am_g_co i hi)) (fun i hi => hq _ (am_g_ar i hi)) (fun i hi => hq _ (am_g_le i hi)) (fun i hi j hj => hq _ (am_g_el i hi j hj)) (fun i j hi hj hij => (am_g_ne i hi j hj hij).imp (fun h => hq _ h) (fun h => hq _ h)) hA
  obtain ⟨aS, fS, hSv⟩ : ∃ (aS : Nat) (fS : Int32), (fS = 0 ∧ va_Z "jdk/internal/util/Preconditions" "SIOOBE_FORMATTER" "Ljava/util/function/BiFunction;" .null (fun q => s.heap.size ≤ q) s s.heap) ∨ (¬ fS = 0 ∧ va_Z "jdk/internal/util/Preconditions" "SIOOBE_FORMATTER" "Ljava/util/function/BiFunction;" (.ref aS) (fun q => s.heap.size ≤ q) s s.heap) := by
    rcases am_isref (hq _ am_g_si) with h | ⟨a, h⟩
    · exact ⟨0, 0, Or.inl ⟨rfl, va_Zof (hts _ am_w_si) (hts _ am_w_i2) h hA⟩⟩
    · exact ⟨a, 1, Or.inr ⟨by decide, va_Zof (hts _ am_w_si) (hts _ am_w_i2) h hA⟩⟩
  have hX' : va_X b L (fun j => if j = 1000000 then fS else xs j) s s.heap := by
    obtain ⟨scr, x1, x2, x3, x4, x5⟩ := hX
    exact ⟨scr, x1, x2, x3, x4, fun j hj => by
      show _ = some (Value.int (if j = 1000000 then fS else xs j))
      rw [if_neg (by omega)]
      exact x5 j hj⟩
  refine ⟨D, dA, fun j => if j = 0 then b else if j = 5000 then aS else if j < 1001 then adK (j - 1) else adV (j - 1001), fun j => if j = 1000000 then fS else xs j, rfl, fun j hj => if_neg (by omega), ⟨⟨hD, hdA⟩, fun w hw => ?_, fun C hC => hts _ (am_w_ao C hC), hts _ am_w_aoa, fun j hj => ?_⟩, ⟨hX', hbl, fun h => Nat.not_le.mpr hbl h⟩, ?_, ?_, ?_⟩
  · obtain ⟨a, i, c, h, rfl⟩ := am_nw_nest w hw
    exact va_Nw.of rfl (hts _ (am_w_nw _ hw))
  · have e1 : (if j + 1 = 0 then b else if j + 1 = 5000 then aS else if j + 1 < 1001 then adK (j + 1 - 1) else adV (j + 1 - 1001)) = adK j := by
      rw [if_neg (by omega), if_neg (by omega), if_pos (by omega), Nat.add_sub_cancel]
    show vk_R _ _ _ (if j + 1 = 0 then b else if j + 1 = 5000 then aS else if j + 1 < 1001 then adK (j + 1 - 1) else adV (j + 1 - 1001)) s
    rw [e1]
    exact vk_R.of (hts _ (am_w_sr j hj)) (hev j hj)
  · have hB1 : ∀ i, i < 23 → (if i + 1 = 0 then b else if i + 1 = 5000 then aS else if i + 1 < 1001 then adK (i + 1 - 1) else adV (i + 1 - 1001)) = adK i := fun i hi => by
      rw [if_neg (by omega), if_neg (by omega), if_pos (by omega), Nat.add_sub_cancel]
    have hB2 : ∀ i, i < 23 → (if 1001 + i = 0 then b else if 1001 + i = 5000 then aS else if 1001 + i < 1001 then adK (1001 + i - 1) else adV (1001 + i - 1001)) = adV i := fun i hi => by
      rw [if_neg (by omega), if_neg (by omega), if_neg (by omega), Nat.add_sub_cancel_left]
    refine ⟨fun i hi => ?_, fun i j hi hj hij => ?_⟩
    · have h1 := hS.1 i hi
      simp only [hB1 i hi, hB2 i hi]
      exact h1
    · simp only [hB1 i hi, hB1 j hj] at hij
      exact hS.2 i j hi hj hij
  · exact va_Zof (hts _ am_w_cs) (hts _ am_w_i1) (va_eqi (hq _ am_g_cs)) hA
  · exact hSv
end
section
-- ===== end of PART A; then your names; then what follows =====
/-! THE CLAIM OUT OF ONE WALK OF THE LAW'S BODY. Your part is whole_start (and what it stands on); all else here is the same for every law, but numbers. -/
def R_law : String := "WashingLinesLaw"
def lw_P (b : Addr) (xs : List Int32) (args : Array Value) (s : State) : Prop := args = #[.ref b] ∧ s.IntsAt b xs ∧ xs.length ≤ 3072 ∧ (Jvm.Cond.and given_1 narrow_1).before args s = true
def lw_Q (_ : Array Value) (s : State) (o : Outcome) (t : State) : Prop := o = .returned (some (.int 1)) ∧ Framed s o t [] 600000 7302250
def lw_Z (below : List Frame) (a : Array Value) (s : State) : State → Prop := fun t => ∃ o, t.status = .running ∧ Ended t below o ∧ lw_Q a s o t
/-- the law's own end, with 1 on the stack, nothing written that was there before, its room as the claim has it -/
theorem lw_ret {p : Program} {l : Launch} {e : Env} {s : State} {m : MethodId} {below : List Frame} {meth : Method} {c : Code} {b : Nat} (hx : p.tables.exec = Jvm.exec) (hb : c.code = code) (hr : meth.sig.returnType = ret) (hlocks : meth.locks = false) {pc : Nat} {H : Heap} {ls : Array Slot} (hdg : decode code pc = .ok (.ireturn, 1)) : W p l e room_1 s m #[Value.ref b] below meth c H [] 600000 7302250 (lw_Z below #[Value.ref b] s) (F0 m pc ls [.int 1]) := by
  intro T hT X
  obtain ⟨fs, hret, hrun, hended, hW, hframe⟩ := X.leave (v := some (.int 1)) (hlocks := hlocks) (fun h => by rw [hr] at h; cases h)
  have hmeth' : T.vm.method? m = some meth := X.method'
  refine ⟨T.setFrames fs, ?_, .returned (some (.int 1)), hrun, hended, rfl, ⟨_, rfl⟩, hW, hframe⟩
  jvm_step X.here [X.here.top, hx, hb, hdg, hmeth', hr, ret, narrow_b1]
  (try refine ⟨rfl, ?_⟩); (try refine ⟨rfl, ?_⟩)
  first | (intro acts; rw [hret _ acts rfl rfl rfl]) | rw [hret _ _ rfl rfl rfl]
  exact Steps.refl _
/-- what holds at the law's entry: the machine, the code, the tables' words (any of lw_tbl by 'hts w (by decide +kernel)'), the script of L ints xs at the cell b, what the Statement gives of the start (any of its parts by flat_of_before) -/
def lw_At (p : Program) (s : State) (m : MethodId) (meth : Method) (c : Code) (b L : Nat) (xs : Nat → Int32) : Prop :=
  p.tables.exec = Jvm.exec ∧ c.code = code ∧ meth.sig.returnType = ret ∧ c.maxLocals = 4 ∧ s.vm.findClass R_law = some m.cls ∧ (∀ w ∈ lw_tbl, w.before #[Value.ref b] s = true) ∧ va_X b L xs s s.heap ∧ b < s.heap.size ∧ meth.locks = false ∧ (Jvm.Cond.and given_1 narrow_1).before #[Value.ref b] s = true
/-- the law's walk, out of the small machine's run of it -/
theorem am_start {p : Program} {e : Env} {s : State} {m : MethodId} {below : List Frame} {meth : Method} {c : Code} (l : Launch) {b L : Nat} {xs : Nat → Int32} (hL : L ≤ 3072) (C0 : lw_At p s m meth c b L xs)
    (hrun : ∀ xs' : Nat → Int32, ∃ (n d : Nat) (w' : W1), am_run am_P am_nl (m1 am_ft am_T L (fun j => (xs' j).toInt)) n d am_NM 0 (am_loc 4 [vR (.inr 0)]) [] [] = some (some (vI 1), w') ∧ d ≤ 840 ∧ w'.length ≤ 600000 ∧ am_sl am_ft w' ≤ 7302250) :
    W p l e room_1 s m #[Value.ref b] below meth c s.heap [] 0 0 (lw_Z below #[Value.ref b] s) (entryFrame m ([Value.ref b] : List Value).toArray 4) := by
  obtain ⟨hx, hb, hr, hml, hown, hts, hX, hbl, hlocks, hgv⟩ := C0
  obtain ⟨D, dA, B, xs', hB, hxs, hE⟩ := am_E0 hts hL hX hbl hgv
  obtain ⟨n, d, w', hr1, hd, hw1, hw2⟩ := hrun xs'
  have hl := lv_entry ([.ref b]) (n := 4) (Nat.le_of_ble_eq_true rfl)
  rw [lg_entry_eq]
  generalize (lg_sl ([.ref b]) ++ List.replicate (4 - (lg_sl ([.ref b])).length) Slot.unset).toArray = ls at hl ⊢
  have hLR : am_LR (fun _ => 0) B (am_nl am_NM) ls (am_loc 4 [vR (.inr 0)]) := ⟨hl.1, hl.2.1, fun j v hj => by
    match j, hj with
    | 0, hj =>
      have hj : some (some (vR (.inr 0) : AV R1)) = some (some v) := hj
      cases hj
      have h1 := hl.2.2 (0, .ref b) List.mem_cons_self
      show ls[0]? = some (Slot.val (.ref (B 0)))
      rw [hB]
      exact h1
    | 1, hj => cases hj
    | 2, hj => cases hj
    | 3, hj => cases hj
    | j + 4, hj => cases hj⟩
  have hbc : am_bc am_NM = code := rfl
  refine am_sim L xs' n d am_NM 0 (am_loc 4 [vR (.inr 0)]) [] [] w' (some (vI 1)) hr1 p l e room_1 s m _ below meth c s.heap [] 0 0 _ ls D dA (fun _ => 0) B (fun q => s.heap.size ≤ q) hx (hb.trans hbc.symm) hml (by exact hown) (fun w hw => hts w (List.mem_filter.mp hw).1) hE (fun q h => h) (fun h => absurd h (by decide)) ⟨fun k q h => by simp [am_ws] at h, ⟨fun i j p q h => by simp [am_ws] at h, fun k q h => by simp [am_ws] at h⟩, va_S.rf, fun c hc => by cases hc⟩ hLR (Nat.le_refl 4) (fun j u hj => by
    match j, hj with
    | 0, hj =>
      have hj : some (some (vR (.inr 0) : AV R1)) = some (some u) := hj
      cases hj
      trivial
    | 1, hj => cases hj
    | 2, hj => cases hj
    | 3, hj => cases hj
    | j + 4, hj => cases hj) (fun v hv => by cases hv) (by show d ≤ 2048; omega) (by show 100 * d ≤ 84000; omega) (by show 0 + (w'.length - 0) ≤ 600000; omega) (by show 0 + (am_sl am_ft w' - am_sl am_ft []) ≤ 7302250; omega) ?_
  intro A' H' locs' pc' ls' hA' hR' hv' hret
  have hdg : decode code pc' = .ok (.ireturn, 1) := by
    unfold am_Ret at hret
    rw [hbc] at hret
    rcases hret with ⟨h, -⟩ | ⟨h, -⟩ | ⟨-, h, -⟩ | ⟨-, ⟨C, h⟩, -⟩ | ⟨-, h, -⟩ | ⟨h, -⟩
    · exact h
    · exact h
    · cases h
    · cases h
    · cases h
    · exact h
  refine va_forget hR'.2.2.1.2.2 ?_
  refine W.widen (k := 600000) (n := 7302250) (by show 0 + (w'.length - 0) ≤ 600000; omega) (by show 0 + (am_sl am_ft w' - am_sl am_ft []) ≤ 7302250; omega) ?_
  exact lw_ret hx hb hr hlocks hdg
end
section
/-! THE SECOND MEMORY: field, object, place -> whole number. Its tables, written by a program. Kinds of a field: 0 int, 1 boolean, 2 a row (kind, length), 3 an object that is always the same (class, a, b: number a*i+b), 4 one that changes (class), 5 a row of objects always the same (class, length), 6 rows of 6 ints (length), 7 the row of images (class, length) -/
def am_fkT : List (Nat × Nat × Nat × Nat × Nat) := [(0, 3, 1, 0, 0), (1, 3, 2, 0, 0), (2, 3, 5, 0, 0), (3, 3, 7, 0, 0), (4, 3, 8, 0, 0), (5, 7, 8, 4, 0), (6, 3, 9, 0, 0), (7, 3, 10, 0, 0), (8, 3, 11, 0, 0), (128, 2, 0, 400, 0), (129, 0, 0, 0, 0), (130, 2, 0, 401, 0), (131, 2, 0, 401, 0), (132, 2, 0, 401, 0), (133, 0, 0, 0, 0), (134, 0, 0, 0, 0), (135, 0, 0, 0, 0), (256, 3, 3, 0, 5), (384, 1, 0, 0, 0), (385, 0, 0, 0, 0), (386, 0, 0, 0, 0), (387, 0, 0, 0, 0), (388, 0, 0, 0, 0), (389, 0, 0, 0, 0), (390, 0, 0, 0, 0), (391, 2, 0, 6, 0), (392, 2, 0, 6, 0), (393, 2, 0, 6, 0), (394, 2, 0, 6, 0), (395, 2, 0, 10, 0), (396, 2, 0, 10, 0), (397, 2, 0, 10, 0), (398, 2, 0, 3, 0), (399, 2, 0, 3, 0), (400, 3, 4, 32, 1), (512, 0, 0, 0, 0), (513, 2, 0, 6, 0), (514, 2, 0, 6, 0), (515, 2, 0, 10, 0), (516, 2, 0, 10, 0), (517, 2, 0, 4, 0), (518, 2, 0, 4, 0), (640, 3, 6, 0, 7), (641, 0, 0, 0, 0), (768, 2, 0, 400, 0), (769, 0, 0, 0, 0), (770, 2, 3, 64, 0), (771, 0, 0, 0, 0), (896, 5, 6, 6, 0), (897, 3, 6, 0, 6), (898, 0, 0, 0, 0), (1024, 3, 3, 1, 0), (1025, 3, 4, 32, 0), (1026, 5, 4, 20, 0), (1027, 0, 0, 0, 0), (1028, 0, 0, 0, 0), (1029, 2, 0, 10, 0), (1030, 2, 0, 10, 0), (1031, 2, 0, 10, 0), (1032, 0, 0, 0, 0), (1033, 0, 0, 0, 0), (1034, 0, 0, 0, 0), (1152, 3, 4, 0, 160), (1153, 4, 3, 0, 0), (1154, 4, 6, 0, 0), (1155, 1, 0, 0, 0), (1156, 2, 0, 24, 0), (1157, 2, 0, 24, 0), (1158, 2, 0, 24, 0), (1159, 2, 0, 24, 0), (1160, 2, 0, 6, 0), (1161, 2, 0, 6, 0), (1280, 0, 0, 0, 0), (1281, 0, 0, 0, 0), (1282, 0, 0, 0, 0), (1283, 2, 0, 4, 0), (1284, 2, 0, 4, 0), (1285, 2, 0, 4, 0), (1286, 0, 0, 0, 0), (1287, 5, 4, 3, 0), (1288, 0, 0, 0, 0), (1289, 0, 0, 0, 0), (1290, 0, 0, 0, 0), (1291, 2, 0, 8, 0), (1408, 0, 0, 0, 0), (1409, 0, 0, 0, 0), (1410, 6, 0, 7, 0), (1536, 0, 0, 0, 0), (1537, 2, 0, 11, 0), (1538, 2, 0, 4, 0), (1539, 2, 0, 4, 0), (1540, 2, 0, 6, 0), (1541, 2, 0, 6, 0), (1542, 2, 0, 6, 0), (1543, 2, 0, 6, 0), (1544, 2, 0, 6, 0), (1545, 2, 0, 10, 0), (1546, 2, 0, 10, 0), (1547, 2, 0, 10, 0), (1548, 2, 0, 10, 0), (1549, 2, 0, 3, 0), (1550, 2, 0, 3, 0), (1551, 2, 0, 10, 0), (1552, 2, 0, 10, 0), (1553, 2, 0, 10, 0), (1554, 2, 0, 4, 0), (1555, 2, 0, 10, 0), (1556, 2, 0, 10, 0), (1557, 2, 0, 7, 0), (1558, 2, 0, 4, 0), (1559, 2, 0, 6, 0), (1560, 2, 0, 6, 0), (1561, 2, 0, 6, 0), (1562, 2, 0, 6, 0), (1563, 2, 0, 10, 0), (1564, 2, 0, 10, 0), (1565, 2, 0, 10, 0), (1566, 2, 0, 10, 0), (1567, 2, 0, 3, 0), (1568, 2, 0, 3, 0), (1569, 0, 0, 0, 0), (1570, 0, 0, 0, 0), (1571, 0, 0, 0, 0), (1572, 0, 0, 0, 0), (1573, 0, 0, 0, 0), (1574, 0, 0, 0, 0), (1575, 0, 0, 0, 0), (1576, 0, 0, 0, 0), (1577, 0, 0, 0, 0), (1578, 0, 0, 0, 0), (1579, 2, 1, 400, 0), (1580, 2, 0, 1800, 0), (1581, 2, 0, 1800, 0), (1582, 2, 0, 6, 0), (1583, 2, 0, 72, 0), (1584, 2, 0, 72, 0), (1585, 2, 0, 72, 0), (1586, 2, 0, 402, 0), (1587, 2, 3, 13, 0), (1588, 2, 3, 300, 0), (1589, 1, 0, 0, 0), (1590, 2, 0, 6, 0), (1591, 2, 0, 720, 0), (1592, 2, 0, 1, 0), (1593, 0, 0, 0, 0), (1594, 0, 0, 0, 0), (1595, 1, 0, 0, 0), (1596, 2, 0, 4, 0), (1597, 2, 0, 4, 0), (1598, 2, 0, 4, 0), (1599, 0, 0, 0, 0), (1600, 2, 0, 4, 0), (1601, 2, 0, 4, 0), (1602, 0, 0, 0, 0), (1603, 2, 0, 8, 0), (1604, 2, 0, 6, 0), (1605, 2, 0, 30, 0), (1606, 2, 0, 5500, 0), (1607, 2, 2, 4, 0), (1608, 0, 0, 0, 0), (1609, 1, 0, 0, 0)]
def am_fkL (f : Nat) : List (Nat × Nat × Nat × Nat × Nat) → Nat × Nat × Nat × Nat
  | [] => (9, 0, 0, 0)
  | (g, r) :: t => bif Nat.beq g f then r else am_fkL f t
def am_fk (f : Nat) : Nat × Nat × Nat × Nat := am_fkL f am_fkT
/-- rows of objects: element j of the row of object i has the number a*i + b + j -/
def am_elT : List (Nat × Nat × Nat) := [(896, 0, 0), (1026, 32, 2), (1287, 0, 194)]
def am_el (f i j : Nat) : Nat := match am_elT.find? (fun e => Nat.beq e.1 f) with
  | some (_, a, b) => a * i + b + j
  | none => 0
abbrev am_N0 : Nat := 347
abbrev am_NW : Nat := 169
def am_lay0 : List (Nat × Nat) := [(0, 0), (1, 0), (2128, 0), (2130, 0), (2131, 0), (2132, 0), (2, 0), (3, 5), (2391, 5), (2392, 5), (2393, 5), (2394, 5), (2395, 5), (2396, 5), (2397, 5), (2398, 5), (2399, 5), (4, 161), (2513, 161), (2514, 161), (2515, 161), (2516, 161), (2517, 161), (2518, 161), (5, 0), (6, 7), (2768, 7), (2770, 7), (7, 0), (2896, 0), (6, 6), (2768, 6), (2770, 6), (6, 0), (2768, 0), (2770, 0), (6, 1), (2768, 1), (2770, 1), (6, 2), (2768, 2), (2770, 2), (6, 3), (2768, 3), (2770, 3), (6, 4), (2768, 4), (2770, 4), (6, 5), (2768, 5), (2770, 5), (8, 0), (3, 0), (2391, 0), (2392, 0), (2393, 0), (2394, 0), (2395, 0), (2396, 0), (2397, 0), (2398, 0), (2399, 0), (4, 1), (2513, 1), (2514, 1), (2515, 1), (2516, 1), (2517, 1), (2518, 1), (4, 0), (2513, 0), (2514, 0), (2515, 0), (2516, 0), (2517, 0), (2518, 0), (3026, 0), (3029, 0), (3030, 0), (3031, 0), (4, 2), (2513, 2), (2514, 2), (2515, 2), (2516, 2), (2517, 2), (2518, 2), (4, 3), (2513, 3), (2514, 3), (2515, 3), (2516, 3), (2517, 3), (2518, 3), (4, 4), (2513, 4), (2514, 4), (2515, 4), (2516, 4), (2517, 4), (2518, 4), (4, 5), (2513, 5), (2514, 5), (2515, 5), (2516, 5), (2517, 5), (2518, 5), (4, 6), (2513, 6), (2514, 6), (2515, 6), (2516, 6), (2517, 6), (2518, 6), (4, 7), (2513, 7), (2514, 7), (2515, 7), (2516, 7), (2517, 7), (2518, 7), (4, 8), (2513, 8), (2514, 8), (2515, 8), (2516, 8), (2517, 8), (2518, 8), (4, 9), (2513, 9), (2514, 9), (2515, 9), (2516, 9), (2517, 9), (2518, 9), (4, 10), (2513, 10), (2514, 10), (2515, 10), (2516, 10), (2517, 10), (2518, 10), (4, 11), (2513, 11), (2514, 11), (2515, 11), (2516, 11), (2517, 11), (2518, 11), (4, 12), (2513, 12), (2514, 12), (2515, 12), (2516, 12), (2517, 12), (2518, 12), (4, 13), (2513, 13), (2514, 13), (2515, 13), (2516, 13), (2517, 13), (2518, 13), (4, 14), (2513, 14), (2514, 14), (2515, 14), (2516, 14), (2517, 14), (2518, 14), (4, 15), (2513, 15), (2514, 15), (2515, 15), (2516, 15), (2517, 15), (2518, 15), (4, 16), (2513, 16), (2514, 16), (2515, 16), (2516, 16), (2517, 16), (2518, 16), (4, 17), (2513, 17), (2514, 17), (2515, 17), (2516, 17), (2517, 17), (2518, 17), (4, 18), (2513, 18), (2514, 18), (2515, 18), (2516, 18), (2517, 18), (2518, 18), (4, 19)]
def am_lay1 : List (Nat × Nat) := [(2513, 19), (2514, 19), (2515, 19), (2516, 19), (2517, 19), (2518, 19), (4, 20), (2513, 20), (2514, 20), (2515, 20), (2516, 20), (2517, 20), (2518, 20), (4, 21), (2513, 21), (2514, 21), (2515, 21), (2516, 21), (2517, 21), (2518, 21), (2005, 0), (9, 0), (4, 160), (2513, 160), (2514, 160), (2515, 160), (2516, 160), (2517, 160), (2518, 160), (3, 6), (2391, 6), (2392, 6), (2393, 6), (2394, 6), (2395, 6), (2396, 6), (2397, 6), (2398, 6), (2399, 6), (4, 193), (2513, 193), (2514, 193), (2515, 193), (2516, 193), (2517, 193), (2518, 193), (6, 8), (2768, 8), (2770, 8), (3156, 0), (3157, 0), (3158, 0), (3159, 0), (3160, 0), (3161, 0), (10, 0), (3283, 0), (3284, 0), (3285, 0), (3287, 0), (3291, 0), (4, 194), (2513, 194), (2514, 194), (2515, 194), (2516, 194), (2517, 194), (2518, 194), (4, 195), (2513, 195), (2514, 195), (2515, 195), (2516, 195), (2517, 195), (2518, 195), (4, 196), (2513, 196), (2514, 196), (2515, 196), (2516, 196), (2517, 196), (2518, 196), (11, 0), (3410, 0), (5000, 0), (5000, 1), (5000, 2), (5000, 3), (5000, 4), (5000, 5), (5000, 6), (12, 0), (3537, 0), (3538, 0), (3539, 0), (3540, 0), (3541, 0), (3542, 0), (3543, 0), (3544, 0), (3545, 0), (3546, 0), (3547, 0), (3548, 0), (3549, 0), (3550, 0), (3551, 0), (3552, 0), (3553, 0), (3554, 0), (3555, 0), (3556, 0), (3557, 0), (3558, 0), (3559, 0), (3560, 0), (3561, 0), (3562, 0), (3563, 0), (3564, 0), (3565, 0), (3566, 0), (3567, 0), (3568, 0), (3579, 0), (3580, 0), (3581, 0), (3582, 0), (3583, 0), (3584, 0), (3585, 0), (3586, 0), (3587, 0), (3588, 0), (3590, 0), (3591, 0), (3592, 0), (3596, 0), (3597, 0), (3598, 0), (3600, 0), (3601, 0), (3603, 0), (3604, 0), (3605, 0), (3606, 0), (3607, 0), (8, 1), (3, 1), (2391, 1), (2392, 1), (2393, 1), (2394, 1), (2395, 1), (2396, 1), (2397, 1), (2398, 1), (2399, 1), (4, 33), (2513, 33), (2514, 33), (2515, 33), (2516, 33), (2517, 33), (2518, 33), (4, 32), (2513, 32), (2514, 32), (2515, 32), (2516, 32), (2517, 32), (2518, 32), (3026, 1), (3029, 1), (3030, 1), (3031, 1), (4, 34), (2513, 34), (2514, 34), (2515, 34), (2516, 34), (2517, 34), (2518, 34), (4, 35), (2513, 35), (2514, 35), (2515, 35), (2516, 35), (2517, 35), (2518, 35), (4, 36), (2513, 36), (2514, 36), (2515, 36), (2516, 36), (2517, 36), (2518, 36), (4, 37), (2513, 37), (2514, 37)]
def am_lay2 : List (Nat × Nat) := [(2515, 37), (2516, 37), (2517, 37), (2518, 37), (4, 38), (2513, 38), (2514, 38), (2515, 38), (2516, 38), (2517, 38), (2518, 38), (4, 39), (2513, 39), (2514, 39), (2515, 39), (2516, 39), (2517, 39), (2518, 39), (4, 40), (2513, 40), (2514, 40), (2515, 40), (2516, 40), (2517, 40), (2518, 40), (4, 41), (2513, 41), (2514, 41), (2515, 41), (2516, 41), (2517, 41), (2518, 41), (4, 42), (2513, 42), (2514, 42), (2515, 42), (2516, 42), (2517, 42), (2518, 42), (4, 43), (2513, 43), (2514, 43), (2515, 43), (2516, 43), (2517, 43), (2518, 43), (4, 44), (2513, 44), (2514, 44), (2515, 44), (2516, 44), (2517, 44), (2518, 44), (4, 45), (2513, 45), (2514, 45), (2515, 45), (2516, 45), (2517, 45), (2518, 45), (4, 46), (2513, 46), (2514, 46), (2515, 46), (2516, 46), (2517, 46), (2518, 46), (4, 47), (2513, 47), (2514, 47), (2515, 47), (2516, 47), (2517, 47), (2518, 47), (4, 48), (2513, 48), (2514, 48), (2515, 48), (2516, 48), (2517, 48), (2518, 48), (4, 49), (2513, 49), (2514, 49), (2515, 49), (2516, 49), (2517, 49), (2518, 49), (4, 50), (2513, 50), (2514, 50), (2515, 50), (2516, 50), (2517, 50), (2518, 50), (4, 51), (2513, 51), (2514, 51), (2515, 51), (2516, 51), (2517, 51), (2518, 51), (4, 52), (2513, 52), (2514, 52), (2515, 52), (2516, 52), (2517, 52), (2518, 52), (4, 53), (2513, 53), (2514, 53), (2515, 53), (2516, 53), (2517, 53), (2518, 53), (8, 2), (3, 2), (2391, 2), (2392, 2), (2393, 2), (2394, 2), (2395, 2), (2396, 2), (2397, 2), (2398, 2), (2399, 2), (4, 65), (2513, 65), (2514, 65), (2515, 65), (2516, 65), (2517, 65), (2518, 65), (4, 64), (2513, 64), (2514, 64), (2515, 64), (2516, 64), (2517, 64), (2518, 64), (3026, 2), (3029, 2), (3030, 2), (3031, 2), (4, 66), (2513, 66), (2514, 66), (2515, 66), (2516, 66), (2517, 66), (2518, 66), (4, 67), (2513, 67), (2514, 67), (2515, 67), (2516, 67), (2517, 67), (2518, 67), (4, 68), (2513, 68), (2514, 68), (2515, 68), (2516, 68), (2517, 68), (2518, 68), (4, 69), (2513, 69), (2514, 69), (2515, 69), (2516, 69), (2517, 69), (2518, 69), (4, 70), (2513, 70), (2514, 70), (2515, 70), (2516, 70), (2517, 70), (2518, 70), (4, 71), (2513, 71), (2514, 71), (2515, 71), (2516, 71), (2517, 71), (2518, 71), (4, 72), (2513, 72), (2514, 72), (2515, 72), (2516, 72), (2517, 72), (2518, 72), (4, 73), (2513, 73), (2514, 73), (2515, 73), (2516, 73), (2517, 73)]
def am_lay3 : List (Nat × Nat) := [(2518, 73), (4, 74), (2513, 74), (2514, 74), (2515, 74), (2516, 74), (2517, 74), (2518, 74), (4, 75), (2513, 75), (2514, 75), (2515, 75), (2516, 75), (2517, 75), (2518, 75), (4, 76), (2513, 76), (2514, 76), (2515, 76), (2516, 76), (2517, 76), (2518, 76), (4, 77), (2513, 77), (2514, 77), (2515, 77), (2516, 77), (2517, 77), (2518, 77), (4, 78), (2513, 78), (2514, 78), (2515, 78), (2516, 78), (2517, 78), (2518, 78), (4, 79), (2513, 79), (2514, 79), (2515, 79), (2516, 79), (2517, 79), (2518, 79), (4, 80), (2513, 80), (2514, 80), (2515, 80), (2516, 80), (2517, 80), (2518, 80), (4, 81), (2513, 81), (2514, 81), (2515, 81), (2516, 81), (2517, 81), (2518, 81), (4, 82), (2513, 82), (2514, 82), (2515, 82), (2516, 82), (2517, 82), (2518, 82), (4, 83), (2513, 83), (2514, 83), (2515, 83), (2516, 83), (2517, 83), (2518, 83), (4, 84), (2513, 84), (2514, 84), (2515, 84), (2516, 84), (2517, 84), (2518, 84), (4, 85), (2513, 85), (2514, 85), (2515, 85), (2516, 85), (2517, 85), (2518, 85), (8, 3), (3, 3), (2391, 3), (2392, 3), (2393, 3), (2394, 3), (2395, 3), (2396, 3), (2397, 3), (2398, 3), (2399, 3), (4, 97), (2513, 97), (2514, 97), (2515, 97), (2516, 97), (2517, 97), (2518, 97), (4, 96), (2513, 96), (2514, 96), (2515, 96), (2516, 96), (2517, 96), (2518, 96), (3026, 3), (3029, 3), (3030, 3), (3031, 3), (4, 98), (2513, 98), (2514, 98), (2515, 98), (2516, 98), (2517, 98), (2518, 98), (4, 99), (2513, 99), (2514, 99), (2515, 99), (2516, 99), (2517, 99), (2518, 99), (4, 100), (2513, 100), (2514, 100), (2515, 100), (2516, 100), (2517, 100), (2518, 100), (4, 101), (2513, 101), (2514, 101), (2515, 101), (2516, 101), (2517, 101), (2518, 101), (4, 102), (2513, 102), (2514, 102), (2515, 102), (2516, 102), (2517, 102), (2518, 102), (4, 103), (2513, 103), (2514, 103), (2515, 103), (2516, 103), (2517, 103), (2518, 103), (4, 104), (2513, 104), (2514, 104), (2515, 104), (2516, 104), (2517, 104), (2518, 104), (4, 105), (2513, 105), (2514, 105), (2515, 105), (2516, 105), (2517, 105), (2518, 105), (4, 106), (2513, 106), (2514, 106), (2515, 106), (2516, 106), (2517, 106), (2518, 106), (4, 107), (2513, 107), (2514, 107), (2515, 107), (2516, 107), (2517, 107), (2518, 107), (4, 108), (2513, 108), (2514, 108), (2515, 108), (2516, 108), (2517, 108), (2518, 108), (4, 109), (2513, 109), (2514, 109), (2515, 109), (2516, 109), (2517, 109), (2518, 109), (4, 110), (2513, 110)]
def am_lay4 : List (Nat × Nat) := [(2514, 110), (2515, 110), (2516, 110), (2517, 110), (2518, 110), (4, 111), (2513, 111), (2514, 111), (2515, 111), (2516, 111), (2517, 111), (2518, 111), (4, 112), (2513, 112), (2514, 112), (2515, 112), (2516, 112), (2517, 112), (2518, 112), (4, 113), (2513, 113), (2514, 113), (2515, 113), (2516, 113), (2517, 113), (2518, 113), (4, 114), (2513, 114), (2514, 114), (2515, 114), (2516, 114), (2517, 114), (2518, 114), (4, 115), (2513, 115), (2514, 115), (2515, 115), (2516, 115), (2517, 115), (2518, 115), (4, 116), (2513, 116), (2514, 116), (2515, 116), (2516, 116), (2517, 116), (2518, 116), (4, 117), (2513, 117), (2514, 117), (2515, 117), (2516, 117), (2517, 117), (2518, 117), (8, 4), (3, 4), (2391, 4), (2392, 4), (2393, 4), (2394, 4), (2395, 4), (2396, 4), (2397, 4), (2398, 4), (2399, 4), (4, 129), (2513, 129), (2514, 129), (2515, 129), (2516, 129), (2517, 129), (2518, 129), (4, 128), (2513, 128), (2514, 128), (2515, 128), (2516, 128), (2517, 128), (2518, 128), (3026, 4), (3029, 4), (3030, 4), (3031, 4), (4, 130), (2513, 130), (2514, 130), (2515, 130), (2516, 130), (2517, 130), (2518, 130), (4, 131), (2513, 131), (2514, 131), (2515, 131), (2516, 131), (2517, 131), (2518, 131), (4, 132), (2513, 132), (2514, 132), (2515, 132), (2516, 132), (2517, 132), (2518, 132), (4, 133), (2513, 133), (2514, 133), (2515, 133), (2516, 133), (2517, 133), (2518, 133), (4, 134), (2513, 134), (2514, 134), (2515, 134), (2516, 134), (2517, 134), (2518, 134), (4, 135), (2513, 135), (2514, 135), (2515, 135), (2516, 135), (2517, 135), (2518, 135), (4, 136), (2513, 136), (2514, 136), (2515, 136), (2516, 136), (2517, 136), (2518, 136), (4, 137), (2513, 137), (2514, 137), (2515, 137), (2516, 137), (2517, 137), (2518, 137), (4, 138), (2513, 138), (2514, 138), (2515, 138), (2516, 138), (2517, 138), (2518, 138), (4, 139), (2513, 139), (2514, 139), (2515, 139), (2516, 139), (2517, 139), (2518, 139), (4, 140), (2513, 140), (2514, 140), (2515, 140), (2516, 140), (2517, 140), (2518, 140), (4, 141), (2513, 141), (2514, 141), (2515, 141), (2516, 141), (2517, 141), (2518, 141), (4, 142), (2513, 142), (2514, 142), (2515, 142), (2516, 142), (2517, 142), (2518, 142), (4, 143), (2513, 143), (2514, 143), (2515, 143), (2516, 143), (2517, 143), (2518, 143), (4, 144), (2513, 144), (2514, 144), (2515, 144), (2516, 144), (2517, 144), (2518, 144), (4, 145), (2513, 145), (2514, 145), (2515, 145), (2516, 145), (2517, 145), (2518, 145), (4, 146), (2513, 146), (2514, 146), (2515, 146), (2516, 146)]
def am_lay5 : List (Nat × Nat) := [(2517, 146), (2518, 146), (4, 147), (2513, 147), (2514, 147), (2515, 147), (2516, 147), (2517, 147), (2518, 147), (4, 148), (2513, 148), (2514, 148), (2515, 148), (2516, 148), (2517, 148), (2518, 148), (4, 149), (2513, 149), (2514, 149), (2515, 149), (2516, 149), (2517, 149), (2518, 149)]
def am_lay : List (Nat × Nat) := am_lay0 ++ am_lay1 ++ am_lay2 ++ am_lay3 ++ am_lay4 ++ am_lay5
abbrev R2 : Type := Nat × Nat
abbrev S2 : Type := Nat → Nat → Nat → Int
def st2 (s : S2) (f i k : Nat) (v : Int) : S2 := fun f' i' k' => if f' = f ∧ i' = i ∧ k' = k then v else s f' i' k'
def cp2 (s : S2) (f i sp g j dp n : Nat) : S2 := fun f' i' k' => if f' = g ∧ i' = j ∧ dp ≤ k' ∧ k' < dp + n then s f i (sp + (k' - dp)) else s f' i' k'
/-- what stands in a field -/
def m2_fld (s : S2) (f i : Nat) : Option (AV R2) := match am_fk f with
  | (0, _) => some (vI (s f i 0))
  | (1, _) => some (vI (s f i 0))
  | (2, _) => some (vR (2000 + f, i))
  | (3, c, a, b) => some (vR (c, a * i + b))
  | (4, c, _) => if 0 ≤ s f i 0 ∧ s f i 0 ≤ 8 then some (vR (c, (s f i 0).toNat)) else none
  | (5, _) => some (vR (2000 + f, i))
  | (6, _) => some (vR (2000 + f, i))
  | (7, _) => some (vR (2000 + f, i))
  | _ => none
def m2_get (f : Nat) (as : List (AV R2)) (s : S2) : Option (Option (AV R2) × S2) := match as with
  | [.inr (.inr (some (c, i)))] => if c = f / 128 then match m2_fld s f i with
    | some v => some (some v, s)
    | none => none
    else none
  | _ => none
def m2_put (f : Nat) (as : List (AV R2)) (s : S2) : Option (Option (AV R2) × S2) := match as with
  | [.inr (.inr (some (c, i))), .inl v] => if c = f / 128 then match am_fk f with
    | (0, _) => some (none, st2 s f i 0 v)
    | (1, _) => if v = 0 ∨ v = 1 then some (none, st2 s f i 0 v) else none
    | _ => none
    else none
  | [.inr (.inr (some (c, i))), .inr (.inr (some (d, j)))] => if c = f / 128 then match am_fk f with
    | (4, d', _) => if d = d' then some (none, st2 s f i 0 (j : Int)) else none
    | _ => none
    else none
  | _ => none
end
