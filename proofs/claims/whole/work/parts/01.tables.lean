-- ===== PART A: goes FIRST, ahead of the names: the tables' words, and 'selects' of the private methods out of them =====
/-- a private method of a class that the tables say can be made, by its rows of tables_1 -/
def lw_okq (q : MethodName × Nat) : Prop := (q.1.cls ≠ "java/lang/invoke/MethodHandle" ∧ q.1.cls ≠ "java/lang/invoke/VarHandle") ∧ Cond.instantiable q.1.cls q.2 ∈ tables_1 ∧ Cond.privateMethod q.1 ∈ tables_1 ∧ Cond.instanceMethod q.1 ∈ tables_1
theorem lw_p0 : lw_okq (⟨"RegularSequences", "operandFault", "(I)I"⟩, 11) := ⟨⟨by decide +kernel, by decide +kernel⟩, List.mem_of_getElem? (i := 16) (by decide +kernel), List.mem_of_getElem? (i := 337) (by decide +kernel), List.mem_of_getElem? (i := 338) (by decide +kernel)⟩
theorem lw_p1 : lw_okq (⟨"RegularSequences", "isDigit", "(I)Z"⟩, 11) := ⟨⟨by decide +kernel, by decide +kernel⟩, List.mem_of_getElem? (i := 16) (by decide +kernel), List.mem_of_getElem? (i := 356) (by decide +kernel), List.mem_of_getElem? (i := 357) (by decide +kernel)⟩
theorem lw_p2 : lw_okq (⟨"RegularSequences", "valueOfNumber", "(LRegularSequences$Representation;J)I"⟩, 11) := ⟨⟨by decide +kernel, by decide +kernel⟩, List.mem_of_getElem? (i := 16) (by decide +kernel), List.mem_of_getElem? (i := 388) (by decide +kernel), List.mem_of_getElem? (i := 389) (by decide +kernel)⟩
theorem lw_p3 : lw_okq (⟨"RegularSequences$Evaluator", "fillColumns", "([[ILRegularSequences$Representation;II)I"⟩, 6) := ⟨⟨by decide +kernel, by decide +kernel⟩, List.mem_of_getElem? (i := 157) (by decide +kernel), List.mem_of_getElem? (i := 464) (by decide +kernel), List.mem_of_getElem? (i := 465) (by decide +kernel)⟩
theorem lw_p4 : lw_okq (⟨"RegularSequences$Evaluator", "fillRowsOfNumbers", "(LRegularSequences$Representation;I)V"⟩, 6) := ⟨⟨by decide +kernel, by decide +kernel⟩, List.mem_of_getElem? (i := 157) (by decide +kernel), List.mem_of_getElem? (i := 476) (by decide +kernel), List.mem_of_getElem? (i := 477) (by decide +kernel)⟩
theorem lw_p5 : lw_okq (⟨"RegularSequences", "unaryFault", "(II)I"⟩, 11) := ⟨⟨by decide +kernel, by decide +kernel⟩, List.mem_of_getElem? (i := 16) (by decide +kernel), List.mem_of_getElem? (i := 484) (by decide +kernel), List.mem_of_getElem? (i := 485) (by decide +kernel)⟩
theorem lw_p6 : lw_okq (⟨"RegularSequences", "storeResult", "(I)I"⟩, 11) := ⟨⟨by decide +kernel, by decide +kernel⟩, List.mem_of_getElem? (i := 16) (by decide +kernel), List.mem_of_getElem? (i := 493) (by decide +kernel), List.mem_of_getElem? (i := 494) (by decide +kernel)⟩
theorem lw_p7 : lw_okq (⟨"RegularSequences", "combine", "(IIII)I"⟩, 11) := ⟨⟨by decide +kernel, by decide +kernel⟩, List.mem_of_getElem? (i := 16) (by decide +kernel), List.mem_of_getElem? (i := 501) (by decide +kernel), List.mem_of_getElem? (i := 502) (by decide +kernel)⟩
theorem lw_p8 : lw_okq (⟨"RegularSequences", "binaryFault", "(III)I"⟩, 11) := ⟨⟨by decide +kernel, by decide +kernel⟩, List.mem_of_getElem? (i := 16) (by decide +kernel), List.mem_of_getElem? (i := 505) (by decide +kernel), List.mem_of_getElem? (i := 506) (by decide +kernel)⟩
theorem lw_p9 : lw_okq (⟨"RegularSequences$Representation", "putPart", "(LRegularSequences$Representation;II)V"⟩, 6) := ⟨⟨by decide +kernel, by decide +kernel⟩, List.mem_of_getElem? (i := 31) (by decide +kernel), List.mem_of_getElem? (i := 514) (by decide +kernel), List.mem_of_getElem? (i := 515) (by decide +kernel)⟩
theorem lw_p10 : lw_okq (⟨"RegularSequences$Matrix", "putMultiple", "(LRegularSequences$Matrix;IIII)V"⟩, 1) := ⟨⟨by decide +kernel, by decide +kernel⟩, List.mem_of_getElem? (i := 38) (by decide +kernel), List.mem_of_getElem? (i := 538) (by decide +kernel), List.mem_of_getElem? (i := 539) (by decide +kernel)⟩
theorem lw_p11 : lw_okq (⟨"RegularSequences", "buildMinimized", "(LRegularSequences$Representation;)V"⟩, 11) := ⟨⟨by decide +kernel, by decide +kernel⟩, List.mem_of_getElem? (i := 16) (by decide +kernel), List.mem_of_getElem? (i := 577) (by decide +kernel), List.mem_of_getElem? (i := 578) (by decide +kernel)⟩
theorem lw_p12 : lw_okq (⟨"RegularSequences$Span", "keepRemainder", "(I)V"⟩, 8) := ⟨⟨by decide +kernel, by decide +kernel⟩, List.mem_of_getElem? (i := 192) (by decide +kernel), List.mem_of_getElem? (i := 601) (by decide +kernel), List.mem_of_getElem? (i := 602) (by decide +kernel)⟩
theorem lw_p13 : lw_okq (⟨"RegularSequences$Representation", "drawVector", "([I)V"⟩, 6) := ⟨⟨by decide +kernel, by decide +kernel⟩, List.mem_of_getElem? (i := 31) (by decide +kernel), List.mem_of_getElem? (i := 649) (by decide +kernel), List.mem_of_getElem? (i := 650) (by decide +kernel)⟩
theorem lw_p14 : lw_okq (⟨"RegularSequences$Representation", "draw", "()I"⟩, 6) := ⟨⟨by decide +kernel, by decide +kernel⟩, List.mem_of_getElem? (i := 31) (by decide +kernel), List.mem_of_getElem? (i := 653) (by decide +kernel), List.mem_of_getElem? (i := 654) (by decide +kernel)⟩
theorem lw_p15 : lw_okq (⟨"RegularSequences", "findDifference", "(LRegularSequences$Representation;LRegularSequences$Representation;)I"⟩, 11) := ⟨⟨by decide +kernel, by decide +kernel⟩, List.mem_of_getElem? (i := 16) (by decide +kernel), List.mem_of_getElem? (i := 677) (by decide +kernel), List.mem_of_getElem? (i := 678) (by decide +kernel)⟩
def lw_privs_1 : List (MethodName × Nat) := [(⟨"RegularSequences", "operandFault", "(I)I"⟩, 11), (⟨"RegularSequences", "isDigit", "(I)Z"⟩, 11), (⟨"RegularSequences", "valueOfNumber", "(LRegularSequences$Representation;J)I"⟩, 11), (⟨"RegularSequences$Evaluator", "fillColumns", "([[ILRegularSequences$Representation;II)I"⟩, 6), (⟨"RegularSequences$Evaluator", "fillRowsOfNumbers", "(LRegularSequences$Representation;I)V"⟩, 6), (⟨"RegularSequences", "unaryFault", "(II)I"⟩, 11), (⟨"RegularSequences", "storeResult", "(I)I"⟩, 11), (⟨"RegularSequences", "combine", "(IIII)I"⟩, 11), (⟨"RegularSequences", "binaryFault", "(III)I"⟩, 11), (⟨"RegularSequences$Representation", "putPart", "(LRegularSequences$Representation;II)V"⟩, 6), (⟨"RegularSequences$Matrix", "putMultiple", "(LRegularSequences$Matrix;IIII)V"⟩, 1), (⟨"RegularSequences", "buildMinimized", "(LRegularSequences$Representation;)V"⟩, 11), (⟨"RegularSequences$Span", "keepRemainder", "(I)V"⟩, 8), (⟨"RegularSequences$Representation", "drawVector", "([I)V"⟩, 6), (⟨"RegularSequences$Representation", "draw", "()I"⟩, 6), (⟨"RegularSequences", "findDifference", "(LRegularSequences$Representation;LRegularSequences$Representation;)I"⟩, 11)]
theorem lw_r1 : ∀ q ∈ lw_privs_1, lw_okq q := List.forall_mem_cons.mpr ⟨lw_p0, List.forall_mem_cons.mpr ⟨lw_p1, List.forall_mem_cons.mpr ⟨lw_p2, List.forall_mem_cons.mpr ⟨lw_p3, List.forall_mem_cons.mpr ⟨lw_p4, List.forall_mem_cons.mpr ⟨lw_p5, List.forall_mem_cons.mpr ⟨lw_p6, List.forall_mem_cons.mpr ⟨lw_p7, List.forall_mem_cons.mpr ⟨lw_p8, List.forall_mem_cons.mpr ⟨lw_p9, List.forall_mem_cons.mpr ⟨lw_p10, List.forall_mem_cons.mpr ⟨lw_p11, List.forall_mem_cons.mpr ⟨lw_p12, List.forall_mem_cons.mpr ⟨lw_p13, List.forall_mem_cons.mpr ⟨lw_p14, List.forall_mem_cons.mpr ⟨lw_p15, fun _ h => absurd h List.not_mem_nil⟩⟩⟩⟩⟩⟩⟩⟩⟩⟩⟩⟩⟩⟩⟩⟩
theorem lw_p16 : lw_okq (⟨"RegularSequences", "executeStatement", "(I)I"⟩, 11) := ⟨⟨by decide +kernel, by decide +kernel⟩, List.mem_of_getElem? (i := 16) (by decide +kernel), List.mem_of_getElem? (i := 760) (by decide +kernel), List.mem_of_getElem? (i := 761) (by decide +kernel)⟩
theorem lw_p17 : lw_okq (⟨"RegularSequencesModel", "emptySlots", "()V"⟩, 37) := ⟨⟨by decide +kernel, by decide +kernel⟩, List.mem_of_getElem? (i := 809) (by decide +kernel), List.mem_of_getElem? (i := 818) (by decide +kernel), List.mem_of_getElem? (i := 819) (by decide +kernel)⟩
theorem lw_p18 : lw_okq (⟨"RegularSequencesModel", "clearResult", "(I)V"⟩, 37) := ⟨⟨by decide +kernel, by decide +kernel⟩, List.mem_of_getElem? (i := 809) (by decide +kernel), List.mem_of_getElem? (i := 952) (by decide +kernel), List.mem_of_getElem? (i := 953) (by decide +kernel)⟩
theorem lw_p19 : lw_okq (⟨"RegularSequencesModel", "storeResult", "(I)I"⟩, 37) := ⟨⟨by decide +kernel, by decide +kernel⟩, List.mem_of_getElem? (i := 809) (by decide +kernel), List.mem_of_getElem? (i := 956) (by decide +kernel), List.mem_of_getElem? (i := 957) (by decide +kernel)⟩
theorem lw_p20 : lw_okq (⟨"RegularSequencesModel", "slotError", "(I)I"⟩, 37) := ⟨⟨by decide +kernel, by decide +kernel⟩, List.mem_of_getElem? (i := 809) (by decide +kernel), List.mem_of_getElem? (i := 971) (by decide +kernel), List.mem_of_getElem? (i := 972) (by decide +kernel)⟩
theorem lw_p21 : lw_okq (⟨"RegularSequencesModel", "isIndex", "(II)Z"⟩, 37) := ⟨⟨by decide +kernel, by decide +kernel⟩, List.mem_of_getElem? (i := 809) (by decide +kernel), List.mem_of_getElem? (i := 975) (by decide +kernel), List.mem_of_getElem? (i := 976) (by decide +kernel)⟩
theorem lw_p22 : lw_okq (⟨"RegularSequencesModel", "change", "(IZII)I"⟩, 37) := ⟨⟨by decide +kernel, by decide +kernel⟩, List.mem_of_getElem? (i := 809) (by decide +kernel), List.mem_of_getElem? (i := 979) (by decide +kernel), List.mem_of_getElem? (i := 980) (by decide +kernel)⟩
theorem lw_p23 : lw_okq (⟨"RegularSequencesModel", "isEntry", "(IIII)Z"⟩, 37) := ⟨⟨by decide +kernel, by decide +kernel⟩, List.mem_of_getElem? (i := 809) (by decide +kernel), List.mem_of_getElem? (i := 995) (by decide +kernel), List.mem_of_getElem? (i := 996) (by decide +kernel)⟩
theorem lw_p24 : lw_okq (⟨"RegularSequencesModel", "isDigit", "(I)Z"⟩, 37) := ⟨⟨by decide +kernel, by decide +kernel⟩, List.mem_of_getElem? (i := 809) (by decide +kernel), List.mem_of_getElem? (i := 999) (by decide +kernel), List.mem_of_getElem? (i := 1000) (by decide +kernel)⟩
theorem lw_p25 : lw_okq (⟨"RegularSequencesModel", "digitsOf", "(J)I"⟩, 37) := ⟨⟨by decide +kernel, by decide +kernel⟩, List.mem_of_getElem? (i := 809) (by decide +kernel), List.mem_of_getElem? (i := 1026) (by decide +kernel), List.mem_of_getElem? (i := 1027) (by decide +kernel)⟩
theorem lw_p26 : lw_okq (⟨"RegularSequencesModel", "valueOn", "([IJI)I"⟩, 37) := ⟨⟨by decide +kernel, by decide +kernel⟩, List.mem_of_getElem? (i := 809) (by decide +kernel), List.mem_of_getElem? (i := 1030) (by decide +kernel), List.mem_of_getElem? (i := 1031) (by decide +kernel)⟩
theorem lw_p27 : lw_okq (⟨"RegularSequencesModel", "startVector", "([I)V"⟩, 37) := ⟨⟨by decide +kernel, by decide +kernel⟩, List.mem_of_getElem? (i := 809) (by decide +kernel), List.mem_of_getElem? (i := 1034) (by decide +kernel), List.mem_of_getElem? (i := 1035) (by decide +kernel)⟩
theorem lw_p28 : lw_okq (⟨"RegularSequencesModel", "stepVector", "([II)V"⟩, 37) := ⟨⟨by decide +kernel, by decide +kernel⟩, List.mem_of_getElem? (i := 809) (by decide +kernel), List.mem_of_getElem? (i := 1038) (by decide +kernel), List.mem_of_getElem? (i := 1039) (by decide +kernel)⟩
theorem lw_p29 : lw_okq (⟨"RegularSequencesModel", "closeVector", "([I)I"⟩, 37) := ⟨⟨by decide +kernel, by decide +kernel⟩, List.mem_of_getElem? (i := 809) (by decide +kernel), List.mem_of_getElem? (i := 1043) (by decide +kernel), List.mem_of_getElem? (i := 1044) (by decide +kernel)⟩
theorem lw_p30 : lw_okq (⟨"RegularSequencesModel", "multiplyInto", "([I[I[I)V"⟩, 37) := ⟨⟨by decide +kernel, by decide +kernel⟩, List.mem_of_getElem? (i := 809) (by decide +kernel), List.mem_of_getElem? (i := 1057) (by decide +kernel), List.mem_of_getElem? (i := 1058) (by decide +kernel)⟩
theorem lw_p31 : lw_okq (⟨"RegularSequencesModel", "zerosBelow", "([III)I"⟩, 37) := ⟨⟨by decide +kernel, by decide +kernel⟩, List.mem_of_getElem? (i := 809) (by decide +kernel), List.mem_of_getElem? (i := 1065) (by decide +kernel), List.mem_of_getElem? (i := 1066) (by decide +kernel)⟩
def lw_privs_2 : List (MethodName × Nat) := [(⟨"RegularSequences", "executeStatement", "(I)I"⟩, 11), (⟨"RegularSequencesModel", "emptySlots", "()V"⟩, 37), (⟨"RegularSequencesModel", "clearResult", "(I)V"⟩, 37), (⟨"RegularSequencesModel", "storeResult", "(I)I"⟩, 37), (⟨"RegularSequencesModel", "slotError", "(I)I"⟩, 37), (⟨"RegularSequencesModel", "isIndex", "(II)Z"⟩, 37), (⟨"RegularSequencesModel", "change", "(IZII)I"⟩, 37), (⟨"RegularSequencesModel", "isEntry", "(IIII)Z"⟩, 37), (⟨"RegularSequencesModel", "isDigit", "(I)Z"⟩, 37), (⟨"RegularSequencesModel", "digitsOf", "(J)I"⟩, 37), (⟨"RegularSequencesModel", "valueOn", "([IJI)I"⟩, 37), (⟨"RegularSequencesModel", "startVector", "([I)V"⟩, 37), (⟨"RegularSequencesModel", "stepVector", "([II)V"⟩, 37), (⟨"RegularSequencesModel", "closeVector", "([I)I"⟩, 37), (⟨"RegularSequencesModel", "multiplyInto", "([I[I[I)V"⟩, 37), (⟨"RegularSequencesModel", "zerosBelow", "([III)I"⟩, 37)]
theorem lw_r2 : ∀ q ∈ lw_privs_2, lw_okq q := List.forall_mem_cons.mpr ⟨lw_p16, List.forall_mem_cons.mpr ⟨lw_p17, List.forall_mem_cons.mpr ⟨lw_p18, List.forall_mem_cons.mpr ⟨lw_p19, List.forall_mem_cons.mpr ⟨lw_p20, List.forall_mem_cons.mpr ⟨lw_p21, List.forall_mem_cons.mpr ⟨lw_p22, List.forall_mem_cons.mpr ⟨lw_p23, List.forall_mem_cons.mpr ⟨lw_p24, List.forall_mem_cons.mpr ⟨lw_p25, List.forall_mem_cons.mpr ⟨lw_p26, List.forall_mem_cons.mpr ⟨lw_p27, List.forall_mem_cons.mpr ⟨lw_p28, List.forall_mem_cons.mpr ⟨lw_p29, List.forall_mem_cons.mpr ⟨lw_p30, List.forall_mem_cons.mpr ⟨lw_p31, fun _ h => absurd h List.not_mem_nil⟩⟩⟩⟩⟩⟩⟩⟩⟩⟩⟩⟩⟩⟩⟩⟩
theorem lw_p32 : lw_okq (⟨"RegularSequencesModel", "operandError", "(III)I"⟩, 37) := ⟨⟨by decide +kernel, by decide +kernel⟩, List.mem_of_getElem? (i := 809) (by decide +kernel), List.mem_of_getElem? (i := 1077) (by decide +kernel), List.mem_of_getElem? (i := 1078) (by decide +kernel)⟩
theorem lw_p33 : lw_okq (⟨"RegularSequencesModel", "combine", "(IIII)I"⟩, 37) := ⟨⟨by decide +kernel, by decide +kernel⟩, List.mem_of_getElem? (i := 809) (by decide +kernel), List.mem_of_getElem? (i := 1085) (by decide +kernel), List.mem_of_getElem? (i := 1086) (by decide +kernel)⟩
theorem lw_p34 : lw_okq (⟨"RegularSequencesModel", "reverseResult", "()V"⟩, 37) := ⟨⟨by decide +kernel, by decide +kernel⟩, List.mem_of_getElem? (i := 809) (by decide +kernel), List.mem_of_getElem? (i := 1113) (by decide +kernel), List.mem_of_getElem? (i := 1114) (by decide +kernel)⟩
theorem lw_p35 : lw_okq (⟨"RegularSequencesModel", "minimizeResult", "()V"⟩, 37) := ⟨⟨by decide +kernel, by decide +kernel⟩, List.mem_of_getElem? (i := 809) (by decide +kernel), List.mem_of_getElem? (i := 1121) (by decide +kernel), List.mem_of_getElem? (i := 1122) (by decide +kernel)⟩
theorem lw_p36 : lw_okq (⟨"RegularSequencesModel", "reduceLeft", "()V"⟩, 37) := ⟨⟨by decide +kernel, by decide +kernel⟩, List.mem_of_getElem? (i := 809) (by decide +kernel), List.mem_of_getElem? (i := 1125) (by decide +kernel), List.mem_of_getElem? (i := 1126) (by decide +kernel)⟩
theorem lw_p37 : lw_okq (⟨"RegularSequencesModel", "isCombination", "([II)Z"⟩, 37) := ⟨⟨by decide +kernel, by decide +kernel⟩, List.mem_of_getElem? (i := 809) (by decide +kernel), List.mem_of_getElem? (i := 1129) (by decide +kernel), List.mem_of_getElem? (i := 1130) (by decide +kernel)⟩
theorem lw_p38 : lw_okq (⟨"RegularSequencesModel", "keepCandidate", "(I)V"⟩, 37) := ⟨⟨by decide +kernel, by decide +kernel⟩, List.mem_of_getElem? (i := 809) (by decide +kernel), List.mem_of_getElem? (i := 1136) (by decide +kernel), List.mem_of_getElem? (i := 1137) (by decide +kernel)⟩
theorem lw_p39 : lw_okq (⟨"RegularSequencesModel", "multiplyKept", "(I[III)V"⟩, 37) := ⟨⟨by decide +kernel, by decide +kernel⟩, List.mem_of_getElem? (i := 809) (by decide +kernel), List.mem_of_getElem? (i := 1140) (by decide +kernel), List.mem_of_getElem? (i := 1141) (by decide +kernel)⟩
theorem lw_p40 : lw_okq (⟨"RegularSequencesModel", "draw", "()I"⟩, 37) := ⟨⟨by decide +kernel, by decide +kernel⟩, List.mem_of_getElem? (i := 809) (by decide +kernel), List.mem_of_getElem? (i := 1164) (by decide +kernel), List.mem_of_getElem? (i := 1165) (by decide +kernel)⟩
theorem lw_p41 : lw_okq (⟨"RegularSequencesModel", "fillHankel", "([II)V"⟩, 37) := ⟨⟨by decide +kernel, by decide +kernel⟩, List.mem_of_getElem? (i := 809) (by decide +kernel), List.mem_of_getElem? (i := 1173) (by decide +kernel), List.mem_of_getElem? (i := 1174) (by decide +kernel)⟩
theorem lw_p42 : lw_okq (⟨"RegularSequencesModel", "strings", "(I)I"⟩, 37) := ⟨⟨by decide +kernel, by decide +kernel⟩, List.mem_of_getElem? (i := 809) (by decide +kernel), List.mem_of_getElem? (i := 1177) (by decide +kernel), List.mem_of_getElem? (i := 1178) (by decide +kernel)⟩
theorem lw_p43 : lw_okq (⟨"RegularSequencesModel", "eliminate", "(III)V"⟩, 37) := ⟨⟨by decide +kernel, by decide +kernel⟩, List.mem_of_getElem? (i := 809) (by decide +kernel), List.mem_of_getElem? (i := 1181) (by decide +kernel), List.mem_of_getElem? (i := 1182) (by decide +kernel)⟩
theorem lw_p44 : lw_okq (⟨"RegularSequencesModel", "difference", "([I[I)I"⟩, 37) := ⟨⟨by decide +kernel, by decide +kernel⟩, List.mem_of_getElem? (i := 809) (by decide +kernel), List.mem_of_getElem? (i := 1189) (by decide +kernel), List.mem_of_getElem? (i := 1190) (by decide +kernel)⟩
theorem lw_p45 : lw_okq (⟨"RegularSequencesModel", "keptValue", "(I[I[I)I"⟩, 37) := ⟨⟨by decide +kernel, by decide +kernel⟩, List.mem_of_getElem? (i := 809) (by decide +kernel), List.mem_of_getElem? (i := 1193) (by decide +kernel), List.mem_of_getElem? (i := 1194) (by decide +kernel)⟩
theorem lw_p46 : lw_okq (⟨"RegularSequencesModel", "isProgram", "()Z"⟩, 37) := ⟨⟨by decide +kernel, by decide +kernel⟩, List.mem_of_getElem? (i := 809) (by decide +kernel), List.mem_of_getElem? (i := 1227) (by decide +kernel), List.mem_of_getElem? (i := 1228) (by decide +kernel)⟩
theorem lw_p47 : lw_okq (⟨"RegularSequencesModel", "readsStatement", "()Z"⟩, 37) := ⟨⟨by decide +kernel, by decide +kernel⟩, List.mem_of_getElem? (i := 809) (by decide +kernel), List.mem_of_getElem? (i := 1231) (by decide +kernel), List.mem_of_getElem? (i := 1232) (by decide +kernel)⟩
def lw_privs_3 : List (MethodName × Nat) := [(⟨"RegularSequencesModel", "operandError", "(III)I"⟩, 37), (⟨"RegularSequencesModel", "combine", "(IIII)I"⟩, 37), (⟨"RegularSequencesModel", "reverseResult", "()V"⟩, 37), (⟨"RegularSequencesModel", "minimizeResult", "()V"⟩, 37), (⟨"RegularSequencesModel", "reduceLeft", "()V"⟩, 37), (⟨"RegularSequencesModel", "isCombination", "([II)Z"⟩, 37), (⟨"RegularSequencesModel", "keepCandidate", "(I)V"⟩, 37), (⟨"RegularSequencesModel", "multiplyKept", "(I[III)V"⟩, 37), (⟨"RegularSequencesModel", "draw", "()I"⟩, 37), (⟨"RegularSequencesModel", "fillHankel", "([II)V"⟩, 37), (⟨"RegularSequencesModel", "strings", "(I)I"⟩, 37), (⟨"RegularSequencesModel", "eliminate", "(III)V"⟩, 37), (⟨"RegularSequencesModel", "difference", "([I[I)I"⟩, 37), (⟨"RegularSequencesModel", "keptValue", "(I[I[I)I"⟩, 37), (⟨"RegularSequencesModel", "isProgram", "()Z"⟩, 37), (⟨"RegularSequencesModel", "readsStatement", "()Z"⟩, 37)]
theorem lw_r3 : ∀ q ∈ lw_privs_3, lw_okq q := List.forall_mem_cons.mpr ⟨lw_p32, List.forall_mem_cons.mpr ⟨lw_p33, List.forall_mem_cons.mpr ⟨lw_p34, List.forall_mem_cons.mpr ⟨lw_p35, List.forall_mem_cons.mpr ⟨lw_p36, List.forall_mem_cons.mpr ⟨lw_p37, List.forall_mem_cons.mpr ⟨lw_p38, List.forall_mem_cons.mpr ⟨lw_p39, List.forall_mem_cons.mpr ⟨lw_p40, List.forall_mem_cons.mpr ⟨lw_p41, List.forall_mem_cons.mpr ⟨lw_p42, List.forall_mem_cons.mpr ⟨lw_p43, List.forall_mem_cons.mpr ⟨lw_p44, List.forall_mem_cons.mpr ⟨lw_p45, List.forall_mem_cons.mpr ⟨lw_p46, List.forall_mem_cons.mpr ⟨lw_p47, fun _ h => absurd h List.not_mem_nil⟩⟩⟩⟩⟩⟩⟩⟩⟩⟩⟩⟩⟩⟩⟩⟩
theorem lw_p48 : lw_okq (⟨"RegularSequencesModel", "readDecimal", "()I"⟩, 37) := ⟨⟨by decide +kernel, by decide +kernel⟩, List.mem_of_getElem? (i := 809) (by decide +kernel), List.mem_of_getElem? (i := 1235) (by decide +kernel), List.mem_of_getElem? (i := 1236) (by decide +kernel)⟩
theorem lw_p49 : lw_okq (⟨"RegularSequencesModel", "current", "()I"⟩, 37) := ⟨⟨by decide +kernel, by decide +kernel⟩, List.mem_of_getElem? (i := 809) (by decide +kernel), List.mem_of_getElem? (i := 1239) (by decide +kernel), List.mem_of_getElem? (i := 1240) (by decide +kernel)⟩
theorem lw_p50 : lw_okq (⟨"RegularSequencesModel", "readsSlots", "()Z"⟩, 37) := ⟨⟨by decide +kernel, by decide +kernel⟩, List.mem_of_getElem? (i := 809) (by decide +kernel), List.mem_of_getElem? (i := 1245) (by decide +kernel), List.mem_of_getElem? (i := 1246) (by decide +kernel)⟩
theorem lw_p51 : lw_okq (⟨"RegularSequencesModel", "readsNumber", "()Z"⟩, 37) := ⟨⟨by decide +kernel, by decide +kernel⟩, List.mem_of_getElem? (i := 809) (by decide +kernel), List.mem_of_getElem? (i := 1251) (by decide +kernel), List.mem_of_getElem? (i := 1252) (by decide +kernel)⟩
theorem lw_p52 : lw_okq (⟨"RegularSequencesModel", "execute", "()I"⟩, 37) := ⟨⟨by decide +kernel, by decide +kernel⟩, List.mem_of_getElem? (i := 809) (by decide +kernel), List.mem_of_getElem? (i := 1255) (by decide +kernel), List.mem_of_getElem? (i := 1256) (by decide +kernel)⟩
theorem lw_p53 : lw_okq (⟨"RegularSequencesModel", "fail", "(III)V"⟩, 37) := ⟨⟨by decide +kernel, by decide +kernel⟩, List.mem_of_getElem? (i := 809) (by decide +kernel), List.mem_of_getElem? (i := 1270) (by decide +kernel), List.mem_of_getElem? (i := 1271) (by decide +kernel)⟩
def lw_privs_4 : List (MethodName × Nat) := [(⟨"RegularSequencesModel", "readDecimal", "()I"⟩, 37), (⟨"RegularSequencesModel", "current", "()I"⟩, 37), (⟨"RegularSequencesModel", "readsSlots", "()Z"⟩, 37), (⟨"RegularSequencesModel", "readsNumber", "()Z"⟩, 37), (⟨"RegularSequencesModel", "execute", "()I"⟩, 37), (⟨"RegularSequencesModel", "fail", "(III)V"⟩, 37)]
theorem lw_r4 : ∀ q ∈ lw_privs_4, lw_okq q := List.forall_mem_cons.mpr ⟨lw_p48, List.forall_mem_cons.mpr ⟨lw_p49, List.forall_mem_cons.mpr ⟨lw_p50, List.forall_mem_cons.mpr ⟨lw_p51, List.forall_mem_cons.mpr ⟨lw_p52, List.forall_mem_cons.mpr ⟨lw_p53, fun _ h => absurd h List.not_mem_nil⟩⟩⟩⟩⟩⟩
def lw_privs : List (MethodName × Nat) := lw_privs_1 ++ (lw_privs_2 ++ (lw_privs_3 ++ (lw_privs_4)))
def lw_tbl : List Cond := k2_sels lw_privs ++ tables_1
theorem lw_privs_ok : ∀ q ∈ lw_privs, lw_okq q := by
  show ∀ q ∈ lw_privs_1 ++ (lw_privs_2 ++ (lw_privs_3 ++ (lw_privs_4))), lw_okq q
  exact List.forall_mem_append.mpr ⟨lw_r1, List.forall_mem_append.mpr ⟨lw_r2, List.forall_mem_append.mpr ⟨lw_r3, lw_r4⟩⟩⟩
-- ===== end of PART A =====
def R_law : String := "RegularSequencesLaw"
def RX0 : String := "RegularSequences$ErrorChain"
def TX0 : u_T := fun k => match k with
  | 0 => ("RegularSequences$ErrorChain", "codes", "[I", true)
  | 1 => ("RegularSequences$ErrorChain", "positions", "[I", true)
  | _ => ("RegularSequences$ErrorChain", "depth", "I", false)
def tyX0 : Nat → FieldType := fun k => match k with
  | 0 => .array .int
  | 1 => .array .int
  | _ => .int
theorem nmX0 : ∀ a, a < 3 → ∀ b, b < 3 → a ≠ b → (TX0 a).2.1 ≠ (TX0 b).2.1 := by decide +kernel
theorem tyX0_ok : ∀ k, k < 3 → parseFieldDescriptor (TX0 k).2.2.1 = some (tyX0 k) := by decide +kernel
set_option maxRecDepth 100000 in
theorem wsX0_in : ∀ w ∈ u_ws RX0 TX0 3, w ∈ lw_tbl := by
  have h : u_ws RX0 TX0 3 = ([203, 205, 207] : List Nat).filterMap (fun i => lw_tbl[i]?) := by decide +kernel
  intro w hw
  rw [h] at hw
  obtain ⟨i, -, hi⟩ := List.mem_filterMap.mp hw
  exact List.mem_of_getElem? hi
def RX1 : String := "RegularSequences$Evaluator"
def TX1 : u_T := fun k => match k with
  | 0 => ("RegularSequences$Evaluator", "vector", "[I", true)
  | 1 => ("RegularSequences$Evaluator", "spare", "[I", true)
  | 2 => ("RegularSequences$Evaluator", "power", "LRegularSequences$Matrix;", true)
  | 3 => ("RegularSequences$Evaluator", "spareMatrix", "LRegularSequences$Matrix;", true)
  | 4 => ("RegularSequences$Evaluator", "beginnings", "[[I", true)
  | _ => ("RegularSequences$Evaluator", "endings", "[[I", true)
def tyX1 : Nat → FieldType := fun k => match k with
  | 0 => .array .int
  | 1 => .array .int
  | 2 => .object "RegularSequences$Matrix"
  | 3 => .object "RegularSequences$Matrix"
  | 4 => .array (.array .int)
  | _ => .array (.array .int)
theorem nmX1 : ∀ a, a < 6 → ∀ b, b < 6 → a ≠ b → (TX1 a).2.1 ≠ (TX1 b).2.1 := by decide +kernel
theorem tyX1_ok : ∀ k, k < 6 → parseFieldDescriptor (TX1 k).2.2.1 = some (tyX1 k) := by decide +kernel
set_option maxRecDepth 100000 in
theorem wsX1_in : ∀ w ∈ u_ws RX1 TX1 6, w ∈ lw_tbl := by
  have h : u_ws RX1 TX1 6 = ([226, 228, 230, 232, 234, 236] : List Nat).filterMap (fun i => lw_tbl[i]?) := by decide +kernel
  intro w hw
  rw [h] at hw
  obtain ⟨i, -, hi⟩ := List.mem_filterMap.mp hw
  exact List.mem_of_getElem? hi
def RX2 : String := "RegularSequences$Matrix"
def TX2 : u_T := fun k => match k with
  | _ => ("RegularSequences$Matrix", "cells", "[I", true)
def tyX2 : Nat → FieldType := fun k => match k with
  | _ => .array .int
theorem nmX2 : ∀ a, a < 1 → ∀ b, b < 1 → a ≠ b → (TX2 a).2.1 ≠ (TX2 b).2.1 := by decide +kernel
theorem tyX2_ok : ∀ k, k < 1 → parseFieldDescriptor (TX2 k).2.2.1 = some (tyX2 k) := by decide +kernel
set_option maxRecDepth 100000 in
theorem wsX2_in : ∀ w ∈ u_ws RX2 TX2 1, w ∈ lw_tbl := by
  have h : u_ws RX2 TX2 1 = ([99] : List Nat).filterMap (fun i => lw_tbl[i]?) := by decide +kernel
  intro w hw
  rw [h] at hw
  obtain ⟨i, -, hi⟩ := List.mem_filterMap.mp hw
  exact List.mem_of_getElem? hi
def RX3 : String := "RegularSequences$Observations"
def TX3 : u_T := fun k => match k with
  | 0 => ("RegularSequences$Observations", "places", "[J", true)
  | 1 => ("RegularSequences$Observations", "expected", "[I", true)
  | _ => ("RegularSequences$Observations", "count", "I", false)
def tyX3 : Nat → FieldType := fun k => match k with
  | 0 => .array .long
  | 1 => .array .int
  | _ => .int
theorem nmX3 : ∀ a, a < 3 → ∀ b, b < 3 → a ≠ b → (TX3 a).2.1 ≠ (TX3 b).2.1 := by decide +kernel
theorem tyX3_ok : ∀ k, k < 3 → parseFieldDescriptor (TX3 k).2.2.1 = some (tyX3 k) := by decide +kernel
set_option maxRecDepth 100000 in
theorem wsX3_in : ∀ w ∈ u_ws RX3 TX3 3, w ∈ lw_tbl := by
  have h : u_ws RX3 TX3 3 = ([157, 159, 161] : List Nat).filterMap (fun i => lw_tbl[i]?) := by decide +kernel
  intro w hw
  rw [h] at hw
  obtain ⟨i, -, hi⟩ := List.mem_filterMap.mp hw
  exact List.mem_of_getElem? hi
def RX4 : String := "RegularSequences$ProgramText"
def TX4 : u_T := fun k => match k with
  | 0 => ("RegularSequences$ProgramText", "signs", "[C", true)
  | 1 => ("RegularSequences$ProgramText", "starts", "[I", true)
  | 2 => ("RegularSequences$ProgramText", "length", "I", false)
  | 3 => ("RegularSequences$ProgramText", "programLength", "I", false)
  | _ => ("RegularSequences$ProgramText", "statements", "I", false)
def tyX4 : Nat → FieldType := fun k => match k with
  | 0 => .array .char
  | 1 => .array .int
  | 2 => .int
  | 3 => .int
  | _ => .int
theorem nmX4 : ∀ a, a < 5 → ∀ b, b < 5 → a ≠ b → (TX4 a).2.1 ≠ (TX4 b).2.1 := by decide +kernel
theorem tyX4_ok : ∀ k, k < 5 → parseFieldDescriptor (TX4 k).2.2.1 = some (tyX4 k) := by decide +kernel
set_option maxRecDepth 100000 in
theorem wsX4_in : ∀ w ∈ u_ws RX4 TX4 5, w ∈ lw_tbl := by
  have h : u_ws RX4 TX4 5 = ([179, 181, 183, 185, 187] : List Nat).filterMap (fun i => lw_tbl[i]?) := by decide +kernel
  intro w hw
  rw [h] at hw
  obtain ⟨i, -, hi⟩ := List.mem_filterMap.mp hw
  exact List.mem_of_getElem? hi
def RX5 : String := "RegularSequences$Reach"
def TX5 : u_T := fun k => match k with
  | 0 => ("RegularSequences$Reach", "span", "LRegularSequences$Span;", true)
  | 1 => ("RegularSequences$Reach", "successors", "[[I", true)
  | 2 => ("RegularSequences$Reach", "lengths", "[I", true)
  | 3 => ("RegularSequences$Reach", "numberValues", "[I", true)
  | 4 => ("RegularSequences$Reach", "candidate", "[I", true)
  | 5 => ("RegularSequences$Reach", "nothing", "LRegularSequences$Representation;", true)
  | 6 => ("RegularSequences$Reach", "keptRows", "LRegularSequences$Matrix;", true)
  | 7 => ("RegularSequences$Reach", "image", "[I", true)
  | _ => ("RegularSequences$Reach", "images", "LRegularSequences$Span;", true)
def tyX5 : Nat → FieldType := fun k => match k with
  | 0 => .object "RegularSequences$Span"
  | 1 => .array (.array .int)
  | 2 => .array .int
  | 3 => .array .int
  | 4 => .array .int
  | 5 => .object "RegularSequences$Representation"
  | 6 => .object "RegularSequences$Matrix"
  | 7 => .array .int
  | _ => .object "RegularSequences$Span"
theorem nmX5 : ∀ a, a < 9 → ∀ b, b < 9 → a ≠ b → (TX5 a).2.1 ≠ (TX5 b).2.1 := by decide +kernel
theorem tyX5_ok : ∀ k, k < 9 → parseFieldDescriptor (TX5 k).2.2.1 = some (tyX5 k) := by decide +kernel
set_option maxRecDepth 100000 in
theorem wsX5_in : ∀ w ∈ u_ws RX5 TX5 9, w ∈ lw_tbl := by
  have h : u_ws RX5 TX5 9 = ([300, 302, 304, 306, 308, 310, 312, 314, 316] : List Nat).filterMap (fun i => lw_tbl[i]?) := by decide +kernel
  intro w hw
  rw [h] at hw
  obtain ⟨i, -, hi⟩ := List.mem_filterMap.mp hw
  exact List.mem_of_getElem? hi
def RX6 : String := "RegularSequences$Representation"
def TX6 : u_T := fun k => match k with
  | 0 => ("RegularSequences$Representation", "rowVector", "[I", true)
  | 1 => ("RegularSequences$Representation", "columnVector", "[I", true)
  | 2 => ("RegularSequences$Representation", "matrices", "[LRegularSequences$Matrix;", true)
  | 3 => ("RegularSequences$Representation", "held", "Z", false)
  | 4 => ("RegularSequences$Representation", "size", "I", false)
  | _ => ("RegularSequences$Representation", "drawState", "I", false)
def tyX6 : Nat → FieldType := fun k => match k with
  | 0 => .array .int
  | 1 => .array .int
  | 2 => .array (.object "RegularSequences$Matrix")
  | 3 => .boolean
  | 4 => .int
  | _ => .int
theorem nmX6 : ∀ a, a < 6 → ∀ b, b < 6 → a ≠ b → (TX6 a).2.1 ≠ (TX6 b).2.1 := by decide +kernel
theorem tyX6_ok : ∀ k, k < 6 → parseFieldDescriptor (TX6 k).2.2.1 = some (tyX6 k) := by decide +kernel
set_option maxRecDepth 100000 in
theorem wsX6_in : ∀ w ∈ u_ws RX6 TX6 6, w ∈ lw_tbl := by
  have h : u_ws RX6 TX6 6 = ([122, 124, 126, 128, 130, 132] : List Nat).filterMap (fun i => lw_tbl[i]?) := by decide +kernel
  intro w hw
  rw [h] at hw
  obtain ⟨i, -, hi⟩ := List.mem_filterMap.mp hw
  exact List.mem_of_getElem? hi
def RX7 : String := "RegularSequences$Span"
def TX7 : u_T := fun k => match k with
  | 0 => ("RegularSequences$Span", "members", "[[I", true)
  | 1 => ("RegularSequences$Span", "echelon", "[[I", true)
  | 2 => ("RegularSequences$Span", "combinations", "[[I", true)
  | 3 => ("RegularSequences$Span", "pivots", "[I", true)
  | 4 => ("RegularSequences$Span", "remainder", "[I", true)
  | 5 => ("RegularSequences$Span", "coefficients", "[I", true)
  | 6 => ("RegularSequences$Span", "width", "I", false)
  | _ => ("RegularSequences$Span", "rank", "I", false)
def tyX7 : Nat → FieldType := fun k => match k with
  | 0 => .array (.array .int)
  | 1 => .array (.array .int)
  | 2 => .array (.array .int)
  | 3 => .array .int
  | 4 => .array .int
  | 5 => .array .int
  | 6 => .int
  | _ => .int
theorem nmX7 : ∀ a, a < 8 → ∀ b, b < 8 → a ≠ b → (TX7 a).2.1 ≠ (TX7 b).2.1 := by decide +kernel
theorem tyX7_ok : ∀ k, k < 8 → parseFieldDescriptor (TX7 k).2.2.1 = some (tyX7 k) := by decide +kernel
set_option maxRecDepth 100000 in
theorem wsX7_in : ∀ w ∈ u_ws RX7 TX7 8, w ∈ lw_tbl := by
  have h : u_ws RX7 TX7 8 = ([265, 267, 269, 271, 273, 275, 277, 279] : List Nat).filterMap (fun i => lw_tbl[i]?) := by decide +kernel
  intro w hw
  rw [h] at hw
  obtain ⟨i, -, hi⟩ := List.mem_filterMap.mp hw
  exact List.mem_of_getElem? hi
def RX8 : String := "RegularSequences$State"
def TX8 : u_T := fun k => match k with
  | 0 => ("RegularSequences$State", "base", "I", false)
  | _ => ("RegularSequences$State", "slots", "[LRegularSequences$Representation;", true)
def tyX8 : Nat → FieldType := fun k => match k with
  | 0 => .int
  | _ => .array (.object "RegularSequences$Representation")
theorem nmX8 : ∀ a, a < 2 → ∀ b, b < 2 → a ≠ b → (TX8 a).2.1 ≠ (TX8 b).2.1 := by decide +kernel
theorem tyX8_ok : ∀ k, k < 2 → parseFieldDescriptor (TX8 k).2.2.1 = some (tyX8 k) := by decide +kernel
set_option maxRecDepth 100000 in
theorem wsX8_in : ∀ w ∈ u_ws RX8 TX8 2, w ∈ lw_tbl := by
  have h : u_ws RX8 TX8 2 = ([139, 141] : List Nat).filterMap (fun i => lw_tbl[i]?) := by decide +kernel
  intro w hw
  rw [h] at hw
  obtain ⟨i, -, hi⟩ := List.mem_filterMap.mp hw
  exact List.mem_of_getElem? hi
def RX9 : String := "RegularSequences"
def TX9 : u_T := fun k => match k with
  | 0 => ("RegularSequences", "state", "LRegularSequences$State;", true)
  | 1 => ("RegularSequences", "stateBeforeProgram", "LRegularSequences$State;", true)
  | 2 => ("RegularSequences", "saved", "[LRegularSequences$State;", true)
  | 3 => ("RegularSequences", "savedCount", "I", false)
  | 4 => ("RegularSequences", "observations", "LRegularSequences$Observations;", true)
  | 5 => ("RegularSequences", "text", "LRegularSequences$ProgramText;", true)
  | 6 => ("RegularSequences", "errors", "LRegularSequences$ErrorChain;", true)
  | 7 => ("RegularSequences", "evaluator", "LRegularSequences$Evaluator;", true)
  | 8 => ("RegularSequences", "reach", "LRegularSequences$Reach;", true)
  | 9 => ("RegularSequences", "result", "LRegularSequences$Representation;", true)
  | _ => ("RegularSequences", "halfway", "LRegularSequences$Representation;", true)
def tyX9 : Nat → FieldType := fun k => match k with
  | 0 => .object "RegularSequences$State"
  | 1 => .object "RegularSequences$State"
  | 2 => .array (.object "RegularSequences$State")
  | 3 => .int
  | 4 => .object "RegularSequences$Observations"
  | 5 => .object "RegularSequences$ProgramText"
  | 6 => .object "RegularSequences$ErrorChain"
  | 7 => .object "RegularSequences$Evaluator"
  | 8 => .object "RegularSequences$Reach"
  | 9 => .object "RegularSequences$Representation"
  | _ => .object "RegularSequences$Representation"
theorem nmX9 : ∀ a, a < 11 → ∀ b, b < 11 → a ≠ b → (TX9 a).2.1 ≠ (TX9 b).2.1 := by decide +kernel
theorem tyX9_ok : ∀ k, k < 11 → parseFieldDescriptor (TX9 k).2.2.1 = some (tyX9 k) := by decide +kernel
set_option maxRecDepth 100000 in
theorem wsX9_in : ∀ w ∈ u_ws RX9 TX9 11, w ∈ lw_tbl := by
  have h : u_ws RX9 TX9 11 = ([332, 334, 336, 338, 340, 342, 344, 346, 348, 350, 352] : List Nat).filterMap (fun i => lw_tbl[i]?) := by decide +kernel
  intro w hw
  rw [h] at hw
  obtain ⟨i, -, hi⟩ := List.mem_filterMap.mp hw
  exact List.mem_of_getElem? hi
def RX10 : String := "RegularSequencesModel"
def TX10 : u_T := fun k => match k with
  | 0 => ("RegularSequencesModel", "base", "I", false)
  | 1 => ("RegularSequencesModel", "slots", "[[I", true)
  | 2 => ("RegularSequencesModel", "result", "[I", true)
  | 3 => ("RegularSequencesModel", "scratch", "[I", true)
  | 4 => ("RegularSequencesModel", "vector", "[I", true)
  | 5 => ("RegularSequencesModel", "product", "[I", true)
  | 6 => ("RegularSequencesModel", "power", "[I", true)
  | 7 => ("RegularSequencesModel", "square", "[I", true)
  | 8 => ("RegularSequencesModel", "both", "[I", true)
  | 9 => ("RegularSequencesModel", "levels", "[[I", true)
  | 10 => ("RegularSequencesModel", "kept", "[[I", true)
  | 11 => ("RegularSequencesModel", "keptCount", "I", false)
  | 12 => ("RegularSequencesModel", "table", "[[I", true)
  | 13 => ("RegularSequencesModel", "coefficients", "[I", true)
  | 14 => ("RegularSequencesModel", "candidate", "[I", true)
  | 15 => ("RegularSequencesModel", "drawn", "I", false)
  | 16 => ("RegularSequencesModel", "hankel", "[[I", true)
  | 17 => ("RegularSequencesModel", "hankelSize", "I", false)
  | 18 => ("RegularSequencesModel", "keptLength", "[I", true)
  | 19 => ("RegularSequencesModel", "keptNumber", "[I", true)
  | 20 => ("RegularSequencesModel", "observed", "[J", true)
  | 21 => ("RegularSequencesModel", "expected", "[I", true)
  | 22 => ("RegularSequencesModel", "observations", "I", false)
  | 23 => ("RegularSequencesModel", "buffer", "[I", true)
  | 24 => ("RegularSequencesModel", "length", "I", false)
  | 25 => ("RegularSequencesModel", "position", "I", false)
  | 26 => ("RegularSequencesModel", "chainCode", "[I", true)
  | 27 => ("RegularSequencesModel", "chainPosition", "[I", true)
  | 28 => ("RegularSequencesModel", "chainLength", "I", false)
  | 29 => ("RegularSequencesModel", "before", "[[I", true)
  | 30 => ("RegularSequencesModel", "dest", "I", false)
  | 31 => ("RegularSequencesModel", "form", "I", false)
  | 32 => ("RegularSequencesModel", "first", "I", false)
  | 33 => ("RegularSequencesModel", "second", "I", false)
  | 34 => ("RegularSequencesModel", "saved", "[[[I", true)
  | 35 => ("RegularSequencesModel", "savedBase", "[I", true)
  | _ => ("RegularSequencesModel", "states", "I", false)
def tyX10 : Nat → FieldType := fun k => match k with
  | 0 => .int
  | 1 => .array (.array .int)
  | 2 => .array .int
  | 3 => .array .int
  | 4 => .array .int
  | 5 => .array .int
  | 6 => .array .int
  | 7 => .array .int
  | 8 => .array .int
  | 9 => .array (.array .int)
  | 10 => .array (.array .int)
  | 11 => .int
  | 12 => .array (.array .int)
  | 13 => .array .int
  | 14 => .array .int
  | 15 => .int
  | 16 => .array (.array .int)
  | 17 => .int
  | 18 => .array .int
  | 19 => .array .int
  | 20 => .array .long
  | 21 => .array .int
  | 22 => .int
  | 23 => .array .int
  | 24 => .int
  | 25 => .int
  | 26 => .array .int
  | 27 => .array .int
  | 28 => .int
  | 29 => .array (.array .int)
  | 30 => .int
  | 31 => .int
  | 32 => .int
  | 33 => .int
  | 34 => .array (.array (.array .int))
  | 35 => .array .int
  | _ => .int
theorem nmX10 : ∀ a, a < 37 → ∀ b, b < 37 → a ≠ b → (TX10 a).2.1 ≠ (TX10 b).2.1 := by decide +kernel
theorem tyX10_ok : ∀ k, k < 37 → parseFieldDescriptor (TX10 k).2.2.1 = some (tyX10 k) := by decide +kernel
set_option maxRecDepth 100000 in
theorem wsX10_in : ∀ w ∈ u_ws RX10 TX10 37, w ∈ lw_tbl := by
  have h : u_ws RX10 TX10 37 = ([912, 914, 916, 918, 920, 922, 924, 926, 928, 930, 932, 934, 936, 938, 940, 942, 944, 946, 948, 950, 952, 954, 956, 958, 960, 962, 964, 966, 968, 970, 972, 974, 976, 978, 980, 982, 984] : List Nat).filterMap (fun i => lw_tbl[i]?) := by decide +kernel
  intro w hw
  rw [h] at hw
  obtain ⟨i, -, hi⟩ := List.mem_filterMap.mp hw
  exact List.mem_of_getElem? hi
abbrev vwCl : List vw_C := [(RX0, TX0, 3), (RX1, TX1, 6), (RX2, TX2, 1), (RX3, TX3, 3), (RX4, TX4, 5), (RX5, TX5, 9), (RX6, TX6, 6), (RX7, TX7, 8), (RX8, TX8, 2), (RX9, TX9, 11), (RX10, TX10, 37)]
/-- class names by number: objects, law, Arrays -/
def RC (c : Nat) : String := ([RX0, RX1, RX2, RX3, RX4, RX5, RX6, RX7, RX8, RX9, RX10, R_law, "java/util/Arrays"] : List String).getD c ""
def NFc (c : Nat) : Nat := ([3, 6, 1, 3, 5, 9, 6, 8, 2, 11, 37] : List Nat).getD c 0
/-- is field f of class c a reference -/
def isR (c f : Nat) : Bool := ([[true, true, false], [true, true, true, true, true, true], [true], [true, true, false], [true, true, false, false, false], [true, true, true, true, true, true, true, true, true], [true, true, true, false, false, false], [true, true, true, true, true, true, false, false], [false, true], [true, true, true, false, true, true, true, true, true, true, true], [false, true, true, true, true, true, true, true, true, true, true, false, true, true, true, false, true, false, true, true, true, true, false, true, false, false, true, true, false, true, false, false, false, false, true, true, false]] : List (List Bool)).getD c [] |>.getD f false
/-- a method's full name, read out of the table's own word of its code -/
def Yt (i : Nat) : MethodName := match lw_tbl[i]? with | some (.code y _ _ _) => y | _ => ⟨"", "", ""⟩
/-- methods: name, bytes, locals, answer, class, parameters -/
def YL : List (MethodName × Nat × Nat × Option FieldType × Nat × Nat) := [
  (⟨"RegularSequences", "<init>", "()V"⟩, 73, 2, none, 9, 0),
  (⟨"RegularSequences$State", "<init>", "()V"⟩, 81, 2, none, 8, 0),
  (⟨"RegularSequences$Representation", "<init>", "()V"⟩, 88, 2, none, 6, 0),
  (⟨"RegularSequences$Matrix", "<init>", "()V"⟩, 95, 1, none, 2, 0),
  (⟨"RegularSequences$Observations", "<init>", "()V"⟩, 149, 1, none, 3, 0),
  (⟨"RegularSequences$ProgramText", "<init>", "()V"⟩, 169, 1, none, 4, 0),
  (⟨"RegularSequences$ErrorChain", "<init>", "()V"⟩, 195, 1, none, 0, 0),
  (⟨"RegularSequences$Evaluator", "<init>", "()V"⟩, 214, 1, none, 1, 0),
  (⟨"RegularSequences$Reach", "<init>", "()V"⟩, 243, 1, none, 5, 0),
  (⟨"RegularSequences$Span", "<init>", "()V"⟩, 249, 1, none, 7, 0),
  (⟨"RegularSequences", "setBase", "(I)I"⟩, 358, 4, (some .int), 9, 1),
  (⟨"RegularSequences", "define", "(II)I"⟩, 362, 3, (some .int), 9, 2),
  (⟨"RegularSequences", "isSlot", "(I)Z"⟩, 365, 1, (some .boolean), 9, 1),
  (⟨"RegularSequences", "isDimension", "(I)Z"⟩, 368, 1, (some .boolean), 9, 1),
  (⟨"RegularSequences$Representation", "makeZero", "(I)V"⟩, 372, 3, none, 6, 1),
  (⟨"java/util/Arrays", "fill", "([II)V"⟩, 381, 4, none, 12, 2),
  (⟨"RegularSequences", "clear", "(I)I"⟩, 385, 3, (some .int), 9, 1),
  (⟨"RegularSequences", "setRow", "(III)I"⟩, 389, 7, (some .int), 9, 3),
  (⟨"RegularSequences", "operandFault", "(I)I"⟩, 393, 2, (some .int), 9, 1),
  (⟨"RegularSequences$Representation", "hasIndex", "(I)Z"⟩, 397, 2, (some .boolean), 6, 1),
  (⟨"RegularSequences", "isResidue", "(I)Z"⟩, 400, 1, (some .boolean), 9, 1),
  (⟨"RegularSequences", "setColumn", "(III)I"⟩, 404, 7, (some .int), 9, 3),
  (⟨"RegularSequences", "setEntry", "(IIIII)I"⟩, 408, 9, (some .int), 9, 5),
  (⟨"RegularSequences", "isDigit", "(I)Z"⟩, 412, 2, (some .boolean), 9, 1),
  (⟨"RegularSequences$Matrix", "get", "(II)I"⟩, 416, 3, (some .int), 2, 2),
  (⟨"RegularSequences$Matrix", "put", "(III)V"⟩, 420, 4, none, 2, 3),
  (⟨"RegularSequences", "dimension", "(I)I"⟩, 424, 3, (some .int), 9, 1),
  (⟨"RegularSequences", "row", "(II)I"⟩, 428, 5, (some .int), 9, 2),
  (⟨"RegularSequences", "column", "(II)I"⟩, 432, 5, (some .int), 9, 2),
  (⟨"RegularSequences", "entry", "(IIII)I"⟩, 436, 7, (some .int), 9, 4),
  (⟨"RegularSequences", "value", "(IJ)I"⟩, 440, 5, (some .int), 9, 2),
  (⟨"RegularSequences", "valueOfNumber", "(LRegularSequences$Representation;J)I"⟩, 444, 4, (some .int), 9, 2),
  (⟨"RegularSequences", "digitsOf", "(JI)I"⟩, 447, 6, (some .int), 9, 2),
  (⟨"RegularSequences$Evaluator", "valueOfDigits", "(LRegularSequences$Representation;IJI)I"⟩, 451, 10, (some .int), 1, 4),
  (⟨"RegularSequences$Matrix", "applyToColumn", "([II[I)V"⟩, 458, 5, none, 2, 3),
  (⟨"RegularSequences", "dot", "([II[II)I"⟩, 461, 6, (some .int), 9, 4),
  (⟨"RegularSequences", "paddedValue", "(IJI)I"⟩, 466, 6, (some .int), 9, 3),
  (⟨"RegularSequences", "sumOfLength", "(II)I"⟩, 470, 4, (some .int), 9, 2),
  (⟨"RegularSequences$Evaluator", "sumOfStrings", "(LRegularSequences$Representation;II)I"⟩, 475, 5, (some .int), 1, 3),
  (⟨"RegularSequences$Matrix", "makeSum", "([LRegularSequences$Matrix;I)V"⟩, 479, 5, none, 2, 2),
  (⟨"RegularSequences$Matrix", "wipe", "()V"⟩, 483, 1, none, 2, 0),
  (⟨"RegularSequences$Matrix", "applyToRow", "([III[I)V"⟩, 488, 8, none, 2, 4),
  (⟨"RegularSequences$Matrix", "makeSquare", "(LRegularSequences$Matrix;I)V"⟩, 492, 7, none, 2, 2),
  (⟨"RegularSequences$Matrix", "take", "(LRegularSequences$Matrix;)V"⟩, 498, 2, none, 2, 1),
  (⟨"RegularSequences", "countZeros", "(II)I"⟩, 503, 5, (some .int), 9, 2),
  (⟨"RegularSequences$Representation", "makeReverse", "(LRegularSequences$Representation;)V"⟩, 507, 3, none, 6, 1),
  (⟨"RegularSequences$Matrix", "makeTransposed", "(LRegularSequences$Matrix;)V"⟩, 512, 4, none, 2, 1),
  (⟨"RegularSequences$Evaluator", "zerosOfLength", "(LRegularSequences$Representation;LRegularSequences$Representation;II)I"⟩, 516, 11, (some .int), 1, 4),
  (⟨"RegularSequences$Evaluator", "fillColumns", "([[ILRegularSequences$Representation;II)I"⟩, 520, 9, (some .int), 1, 4),
  (⟨"RegularSequences", "firstZero", "(I)I"⟩, 524, 3, (some .int), 9, 1),
  (⟨"RegularSequences$Evaluator", "lowestZero", "(LRegularSequences$Representation;I)I"⟩, 528, 6, (some .int), 1, 2),
  (⟨"RegularSequences$Evaluator", "fillRowsOfNumbers", "(LRegularSequences$Representation;I)V"⟩, 532, 4, none, 1, 2),
  (⟨"RegularSequences", "copy", "(II)I"⟩, 536, 4, (some .int), 9, 2),
  (⟨"RegularSequences", "unaryFault", "(II)I"⟩, 540, 3, (some .int), 9, 2),
  (⟨"RegularSequences$Representation", "take", "(LRegularSequences$Representation;)V"⟩, 544, 3, none, 6, 1),
  (⟨"RegularSequences", "storeResult", "(I)I"⟩, 549, 2, (some .int), 9, 1),
  (⟨"RegularSequences", "add", "(III)I"⟩, 553, 4, (some .int), 9, 3),
  (⟨"RegularSequences", "combine", "(IIII)I"⟩, 557, 6, (some .int), 9, 4),
  (⟨"RegularSequences", "binaryFault", "(III)I"⟩, 561, 4, (some .int), 9, 3),
  (⟨"RegularSequences$Representation", "makeSum", "(LRegularSequences$Representation;LRegularSequences$Representation;I)V"⟩, 565, 4, none, 6, 3),
  (⟨"RegularSequences$Representation", "putPart", "(LRegularSequences$Representation;II)V"⟩, 570, 5, none, 6, 3),
  (⟨"RegularSequences$Matrix", "putBlock", "(LRegularSequences$Matrix;II)V"⟩, 574, 6, none, 2, 3),
  (⟨"RegularSequences", "subtract", "(III)I"⟩, 578, 4, (some .int), 9, 3),
  (⟨"RegularSequences", "multiply", "(III)I"⟩, 582, 5, (some .int), 9, 3),
  (⟨"RegularSequences$Representation", "makeProduct", "(LRegularSequences$Representation;LRegularSequences$Representation;)V"⟩, 586, 6, none, 6, 2),
  (⟨"RegularSequences$Matrix", "putProducts", "(LRegularSequences$Matrix;ILRegularSequences$Matrix;I)V"⟩, 590, 7, none, 2, 4),
  (⟨"RegularSequences$Matrix", "putMultiple", "(LRegularSequences$Matrix;IIII)V"⟩, 594, 8, none, 2, 5),
  (⟨"RegularSequences", "scale", "(III)I"⟩, 598, 5, (some .int), 9, 3),
  (⟨"RegularSequences$Representation", "makeMultiple", "(LRegularSequences$Representation;I)V"⟩, 602, 4, none, 6, 2),
  (⟨"RegularSequences", "trailingSection", "(III)I"⟩, 607, 5, (some .int), 9, 3),
  (⟨"RegularSequences$Representation", "makeTrailingSection", "(LRegularSequences$Representation;I)V"⟩, 611, 3, none, 6, 2),
  (⟨"RegularSequences", "leadingSection", "(III)I"⟩, 616, 5, (some .int), 9, 3),
  (⟨"RegularSequences$Representation", "makeLeadingSection", "(LRegularSequences$Representation;I)V"⟩, 620, 3, none, 6, 2),
  (⟨"RegularSequences", "reverse", "(II)I"⟩, 625, 4, (some .int), 9, 2),
  (⟨"RegularSequences", "minimize", "(II)I"⟩, 629, 4, (some .int), 9, 2),
  (⟨"RegularSequences", "buildMinimized", "(LRegularSequences$Representation;)V"⟩, 633, 2, none, 9, 1),
  (⟨"RegularSequences$Reach", "explore", "(LRegularSequences$Representation;LRegularSequences$Representation;II)V"⟩, 637, 8, none, 5, 4),
  (⟨"RegularSequences$Span", "reset", "(I)V"⟩, 641, 2, none, 7, 1),
  (Yt 648, 648, 4, (some .boolean), 7, 1),
  (⟨"RegularSequences$Span", "addMultiple", "([I[III)V"⟩, 653, 5, none, 7, 4),
  (⟨"RegularSequences$Span", "keepRemainder", "(I)V"⟩, 657, 4, none, 7, 1),
  (⟨"RegularSequences", "inverse", "(I)I"⟩, 660, 4, (some .int), 9, 1),
  (⟨"RegularSequences$Reach", "writeReduction", "(LRegularSequences$Representation;ILRegularSequences$Representation;)V"⟩, 665, 7, none, 5, 3),
  (⟨"RegularSequences", "constant", "(II)I"⟩, 672, 3, (some .int), 9, 2),
  (⟨"RegularSequences$Representation", "makeConstant", "(II)V"⟩, 676, 4, none, 6, 2),
  (⟨"RegularSequences", "digitCount", "(II)I"⟩, 681, 3, (some .int), 9, 2),
  (⟨"RegularSequences$Representation", "makeDigitCount", "(II)V"⟩, 685, 4, none, 6, 2),
  (⟨"RegularSequences", "numbers", "(I)I"⟩, 689, 2, (some .int), 9, 1),
  (⟨"RegularSequences$Representation", "makeNumbers", "(I)V"⟩, 693, 3, none, 6, 1),
  (⟨"RegularSequences", "randomize", "(III)I"⟩, 697, 4, (some .int), 9, 3),
  (⟨"RegularSequences$Representation", "makeRandom", "(III)V"⟩, 701, 7, none, 6, 3),
  (⟨"RegularSequences$Representation", "drawVector", "([I)V"⟩, 705, 3, none, 6, 1),
  (⟨"RegularSequences$Representation", "draw", "()I"⟩, 709, 1, (some .int), 6, 0),
  (⟨"RegularSequences", "minimalDimension", "(I)I"⟩, 714, 3, (some .int), 9, 1),
  (⟨"RegularSequences", "hankelRank", "(II)I"⟩, 718, 5, (some .int), 9, 2),
  (⟨"RegularSequences$Reach", "rankOfHankel", "(LRegularSequences$Representation;LRegularSequences$Representation;II)I"⟩, 722, 7, (some .int), 5, 4),
  (⟨"RegularSequences", "areEqual", "(II)I"⟩, 729, 4, (some .int), 9, 2),
  (⟨"RegularSequences", "findDifference", "(LRegularSequences$Representation;LRegularSequences$Representation;)I"⟩, 733, 6, (some .int), 9, 2),
  (⟨"RegularSequences", "firstDifference", "(III)I"⟩, 738, 6, (some .int), 9, 3),
  (⟨"RegularSequences", "ignoresLeadingZeros", "(I)I"⟩, 742, 4, (some .int), 9, 1),
  (⟨"RegularSequences", "observe", "(JI)I"⟩, 746, 4, (some .int), 9, 2),
  (⟨"RegularSequences$Observations", "note", "(JI)Z"⟩, 750, 4, (some .boolean), 3, 2),
  (⟨"RegularSequences", "forgetObservations", "()I"⟩, 754, 2, (some .int), 9, 0),
  (⟨"RegularSequences", "firstMismatch", "(I)I"⟩, 758, 5, (some .int), 9, 1),
  (⟨"RegularSequences", "append", "(I)I"⟩, 762, 2, (some .int), 9, 1),
  (⟨"RegularSequences$ProgramText", "addSign", "(C)Z"⟩, 766, 2, (some .boolean), 4, 1),
  (⟨"RegularSequences", "run", "()I"⟩, 770, 4, (some .int), 9, 0),
  (⟨"RegularSequences$ProgramText", "moveToProgram", "()V"⟩, 774, 1, none, 4, 0),
  (⟨"RegularSequences$ProgramText", "findFault", "()I"⟩, 778, 3, (some .int), 4, 0),
  (⟨"RegularSequences$ProgramText", "signAt", "(I)C"⟩, 782, 2, (some .char), 4, 1),
  (⟨"RegularSequences$ProgramText", "nextStage", "(IC)I"⟩, 785, 2, (some .int), 4, 2),
  (⟨"RegularSequences$ProgramText", "isDecimal", "(C)Z"⟩, 788, 1, (some .boolean), 4, 1),
  (⟨"RegularSequences$ProgramText", "stageAfterHead", "(C)I"⟩, 791, 1, (some .int), 4, 1),
  (⟨"RegularSequences$ProgramText", "isOperator", "(C)Z"⟩, 794, 1, (some .boolean), 4, 1),
  (⟨"RegularSequences$ProgramText", "stageAfterStatement", "(C)I"⟩, 797, 1, (some .int), 4, 1),
  (⟨"RegularSequences$ProgramText", "stageInNumber", "(IC)I"⟩, 800, 2, (some .int), 4, 2),
  (⟨"RegularSequences$ProgramText", "mayEnd", "(I)Z"⟩, 803, 1, (some .boolean), 4, 1),
  (⟨"RegularSequences$ErrorChain", "push", "(II)V"⟩, 807, 3, none, 0, 2),
  (⟨"RegularSequences$State", "take", "(LRegularSequences$State;)V"⟩, 811, 3, none, 8, 1),
  (⟨"RegularSequences", "executeStatement", "(I)I"⟩, 816, 8, (some .int), 9, 1),
  (⟨"RegularSequences$ProgramText", "digitAt", "(I)I"⟩, 820, 2, (some .int), 4, 1),
  (⟨"RegularSequences$ProgramText", "numberAt", "(I)I"⟩, 829, 4, (some .int), 4, 1),
  (⟨"RegularSequences", "errorDepth", "()I"⟩, 841, 1, (some .int), 9, 0),
  (⟨"RegularSequences", "errorCode", "(I)I"⟩, 845, 2, (some .int), 9, 1),
  (⟨"RegularSequences$ErrorChain", "hasLevel", "(I)Z"⟩, 849, 2, (some .boolean), 0, 1),
  (⟨"RegularSequences", "errorPosition", "(I)I"⟩, 853, 2, (some .int), 9, 1),
  (⟨"RegularSequences", "save", "()I"⟩, 857, 1, (some .int), 9, 0),
  (⟨"RegularSequences", "restore", "()I"⟩, 861, 1, (some .int), 9, 0),
  (⟨"RegularSequencesModel", "<init>", "()V"⟩, 866, 1, none, 10, 0),
  (⟨"RegularSequencesModel", "emptySlots", "()V"⟩, 874, 2, none, 10, 0),
  (⟨"RegularSequencesModel", "setBase", "(I)I"⟩, 990, 3, (some .int), 10, 1),
  (⟨"RegularSequencesModel", "isBetween", "(JJJ)Z"⟩, 995, 6, (some .boolean), 10, 3),
  (⟨"RegularSequencesModel", "define", "(II)I"⟩, 999, 3, (some .int), 10, 2),
  (⟨"RegularSequencesModel", "isSlot", "(I)Z"⟩, 1002, 1, (some .boolean), 10, 1),
  (⟨"RegularSequencesModel", "clearResult", "(I)V"⟩, 1008, 3, none, 10, 1),
  (⟨"RegularSequencesModel", "storeResult", "(I)I"⟩, 1012, 2, (some .int), 10, 1),
  (⟨"RegularSequencesModel", "copyAll", "([I[I)V"⟩, 1015, 3, none, 10, 2),
  (⟨"RegularSequencesModel", "clear", "(I)I"⟩, 1019, 3, (some .int), 10, 1),
  (⟨"RegularSequencesModel", "setRow", "(III)I"⟩, 1023, 4, (some .int), 10, 3),
  (⟨"RegularSequencesModel", "slotError", "(I)I"⟩, 1027, 2, (some .int), 10, 1),
  (⟨"RegularSequencesModel", "isIndex", "(II)Z"⟩, 1031, 3, (some .boolean), 10, 2),
  (⟨"RegularSequencesModel", "change", "(IZII)I"⟩, 1035, 7, (some .int), 10, 4),
  (⟨"RegularSequencesModel", "isEntryValue", "(I)Z"⟩, 1038, 1, (some .boolean), 10, 1),
  (⟨"RegularSequencesModel", "setColumn", "(III)I"⟩, 1043, 4, (some .int), 10, 3),
  (⟨"RegularSequencesModel", "setEntry", "(IIIII)I"⟩, 1047, 6, (some .int), 10, 5),
  (⟨"RegularSequencesModel", "isEntry", "(IIII)Z"⟩, 1051, 5, (some .boolean), 10, 4),
  (⟨"RegularSequencesModel", "isDigit", "(I)Z"⟩, 1055, 2, (some .boolean), 10, 1),
  (⟨"RegularSequencesModel", "at", "(III)I"⟩, 1058, 3, (some .int), 10, 3),
  (⟨"RegularSequencesModel", "dimension", "(I)I"⟩, 1062, 3, (some .int), 10, 1),
  (⟨"RegularSequencesModel", "row", "(II)I"⟩, 1066, 4, (some .int), 10, 2),
  (⟨"RegularSequencesModel", "column", "(II)I"⟩, 1070, 4, (some .int), 10, 2),
  (⟨"RegularSequencesModel", "entry", "(IIII)I"⟩, 1074, 6, (some .int), 10, 4),
  (⟨"RegularSequencesModel", "value", "(IJ)I"⟩, 1078, 5, (some .int), 10, 2),
  (⟨"RegularSequencesModel", "digitsOf", "(J)I"⟩, 1082, 6, (some .int), 10, 1),
  (⟨"RegularSequencesModel", "valueOn", "([IJI)I"⟩, 1086, 9, (some .int), 10, 3),
  (⟨"RegularSequencesModel", "startVector", "([I)V"⟩, 1090, 3, none, 10, 1),
  (⟨"RegularSequencesModel", "stepVector", "([II)V"⟩, 1094, 8, none, 10, 2),
  (⟨"RegularSequencesModel", "closeVector", "([I)I"⟩, 1099, 5, (some .int), 10, 1),
  (⟨"RegularSequencesModel", "paddedValue", "(IJI)I"⟩, 1103, 6, (some .int), 10, 3),
  (⟨"RegularSequencesModel", "sumOfLength", "(II)I"⟩, 1108, 9, (some .int), 10, 2),
  (⟨"RegularSequencesModel", "multiplyInto", "([I[I[I)V"⟩, 1113, 9, none, 10, 3),
  (⟨"RegularSequencesModel", "countZeros", "(II)I"⟩, 1117, 5, (some .int), 10, 2),
  (⟨"RegularSequencesModel", "zerosBelow", "([III)I"⟩, 1121, 7, (some .int), 10, 3),
  (⟨"RegularSequencesModel", "firstZero", "(I)I"⟩, 1125, 4, (some .int), 10, 1),
  (⟨"RegularSequencesModel", "copy", "(II)I"⟩, 1129, 4, (some .int), 10, 2),
  (⟨"RegularSequencesModel", "operandError", "(III)I"⟩, 1133, 4, (some .int), 10, 3),
  (⟨"RegularSequencesModel", "add", "(III)I"⟩, 1137, 4, (some .int), 10, 3),
  (⟨"RegularSequencesModel", "combine", "(IIII)I"⟩, 1141, 14, (some .int), 10, 4),
  (⟨"RegularSequencesModel", "subtract", "(III)I"⟩, 1145, 4, (some .int), 10, 3),
  (⟨"RegularSequencesModel", "multiply", "(III)I"⟩, 1149, 11, (some .int), 10, 3),
  (⟨"RegularSequencesModel", "scale", "(III)I"⟩, 1153, 6, (some .int), 10, 3),
  (⟨"RegularSequencesModel", "trailingSection", "(III)I"⟩, 1157, 10, (some .int), 10, 3),
  (⟨"RegularSequencesModel", "leadingSection", "(III)I"⟩, 1161, 6, (some .int), 10, 3),
  (⟨"RegularSequencesModel", "reverse", "(II)I"⟩, 1165, 4, (some .int), 10, 2),
  (⟨"RegularSequencesModel", "reverseResult", "()V"⟩, 1169, 4, none, 10, 0),
  (⟨"RegularSequencesModel", "minimize", "(II)I"⟩, 1173, 4, (some .int), 10, 2),
  (⟨"RegularSequencesModel", "minimizeResult", "()V"⟩, 1177, 1, none, 10, 0),
  (⟨"RegularSequencesModel", "reduceLeft", "()V"⟩, 1181, 7, none, 10, 0),
  (⟨"RegularSequencesModel", "isCombination", "([II)Z"⟩, 1185, 10, (some .boolean), 10, 2),
  (⟨"RegularSequencesModel", "inverse", "(I)I"⟩, 1188, 6, (some .int), 10, 1),
  (⟨"RegularSequencesModel", "keepCandidate", "(I)V"⟩, 1192, 3, none, 10, 1),
  (⟨"RegularSequencesModel", "multiplyKept", "(I[III)V"⟩, 1196, 10, none, 10, 4),
  (⟨"RegularSequencesModel", "minimalDimension", "(I)I"⟩, 1200, 3, (some .int), 10, 1),
  (⟨"RegularSequencesModel", "constant", "(II)I"⟩, 1204, 4, (some .int), 10, 2),
  (⟨"RegularSequencesModel", "digitCount", "(II)I"⟩, 1208, 4, (some .int), 10, 2),
  (⟨"RegularSequencesModel", "numbers", "(I)I"⟩, 1212, 3, (some .int), 10, 1),
  (⟨"RegularSequencesModel", "randomize", "(III)I"⟩, 1216, 7, (some .int), 10, 3),
  (⟨"RegularSequencesModel", "draw", "()I"⟩, 1220, 1, (some .int), 10, 0),
  (⟨"RegularSequencesModel", "hankelRank", "(II)I"⟩, 1225, 7, (some .int), 10, 2),
  (⟨"RegularSequencesModel", "fillHankel", "([II)V"⟩, 1229, 9, none, 10, 2),
  (⟨"RegularSequencesModel", "strings", "(I)I"⟩, 1233, 4, (some .int), 10, 1),
  (⟨"RegularSequencesModel", "eliminate", "(III)V"⟩, 1237, 8, none, 10, 3),
  (⟨"RegularSequencesModel", "areEqual", "(II)I"⟩, 1241, 4, (some .int), 10, 2),
  (⟨"RegularSequencesModel", "difference", "([I[I)I"⟩, 1245, 6, (some .int), 10, 2),
  (⟨"RegularSequencesModel", "keptValue", "(I[I[I)I"⟩, 1249, 7, (some .int), 10, 3),
  (⟨"RegularSequencesModel", "firstDifference", "(III)I"⟩, 1253, 6, (some .int), 10, 3),
  (⟨"RegularSequencesModel", "ignoresLeadingZeros", "(I)I"⟩, 1257, 4, (some .int), 10, 1),
  (⟨"RegularSequencesModel", "observe", "(JI)I"⟩, 1261, 4, (some .int), 10, 2),
  (⟨"RegularSequencesModel", "forgetObservations", "()I"⟩, 1265, 2, (some .int), 10, 0),
  (⟨"RegularSequencesModel", "firstMismatch", "(I)I"⟩, 1269, 4, (some .int), 10, 1),
  (⟨"RegularSequencesModel", "append", "(I)I"⟩, 1273, 2, (some .int), 10, 1),
  (⟨"RegularSequencesModel", "run", "()I"⟩, 1279, 5, (some .int), 10, 0),
  (⟨"RegularSequencesModel", "isProgram", "()Z"⟩, 1283, 2, (some .boolean), 10, 0),
  (⟨"RegularSequencesModel", "readsStatement", "()Z"⟩, 1287, 1, (some .boolean), 10, 0),
  (⟨"RegularSequencesModel", "readDecimal", "()I"⟩, 1291, 1, (some .int), 10, 0),
  (⟨"RegularSequencesModel", "current", "()I"⟩, 1295, 1, (some .int), 10, 0),
  (⟨"RegularSequencesModel", "readsSlots", "()Z"⟩, 1301, 1, (some .boolean), 10, 0),
  (⟨"RegularSequencesModel", "readsNumber", "()Z"⟩, 1307, 2, (some .boolean), 10, 0),
  (⟨"RegularSequencesModel", "execute", "()I"⟩, 1311, 1, (some .int), 10, 0),
  (⟨"RegularSequencesModel", "fail", "(III)V"⟩, 1326, 5, none, 10, 3),
  (⟨"RegularSequencesModel", "errorDepth", "()I"⟩, 1330, 1, (some .int), 10, 0),
  (⟨"RegularSequencesModel", "errorCode", "(I)I"⟩, 1334, 2, (some .int), 10, 1),
  (⟨"RegularSequencesModel", "errorPosition", "(I)I"⟩, 1338, 2, (some .int), 10, 1),
  (⟨"RegularSequencesModel", "save", "()I"⟩, 1342, 2, (some .int), 10, 0),
  (⟨"RegularSequencesModel", "restore", "()I"⟩, 1346, 2, (some .int), 10, 0),
  (⟨"RegularSequencesLaw", "law", "([I)Z"⟩, 0, 4, (some .boolean), 11, 1)]
def Ye (j : Nat) : MethodName × Nat × Nat × Option FieldType × Nat × Nat := YL.getD j (⟨"", "", ""⟩, 0, 0, none, 0, 0)
def Yn (j : Nat) : MethodName := (Ye j).1
def cbO (w : Option Cond) : ByteArray := match w with | some (.code _ b _ _) => b | _ => ⟨#[]⟩
def Yb (j : Nat) : ByteArray := if j = 215 then code else cbO (lw_tbl[(Ye j).2.1]?)
def Yl (j : Nat) : Nat := (Ye j).2.2.1
def Yr (j : Nat) : Option FieldType := (Ye j).2.2.2.1
def Yc (j : Nat) : Nat := (Ye j).2.2.2.2.1
def Yp (j : Nat) : Nat := (Ye j).2.2.2.2.2
/-- field links: own class, index, class, field, nest, place -/
def FPl : List (Nat × Nat × Nat × Nat × Nat × Nat) := [(2, 9, 2, 0, 0, 97), (6, 51, 2, 0, 1, 98), (6, 9, 6, 0, 0, 103), (5, 61, 6, 0, 1, 104), (1, 59, 6, 0, 1, 105), (9, 104, 6, 0, 1, 106), (6, 15, 6, 1, 0, 107), (1, 36, 6, 1, 1, 108), (5, 94, 6, 1, 1, 109), (9, 108, 6, 1, 1, 110), (6, 20, 6, 2, 0, 111), (1, 47, 6, 2, 1, 112), (5, 77, 6, 2, 1, 113), (9, 114, 6, 2, 1, 114), (6, 24, 6, 3, 0, 115), (9, 79, 6, 3, 1, 116), (6, 28, 6, 4, 0, 117), (5, 53, 6, 4, 1, 118), (1, 51, 6, 4, 1, 119), (9, 128, 6, 4, 1, 120), (6, 32, 6, 5, 0, 121), (8, 9, 8, 0, 0, 135), (9, 72, 8, 0, 1, 136), (8, 17, 8, 1, 0, 137), (9, 75, 8, 1, 1, 138), (3, 9, 3, 0, 0, 151), (9, 227, 3, 0, 1, 152), (3, 13, 3, 1, 0, 153), (9, 231, 3, 1, 1, 154), (3, 17, 3, 2, 0, 155), (9, 224, 3, 2, 1, 156), (4, 9, 4, 0, 0, 171), (4, 13, 4, 1, 0, 172), (9, 260, 4, 1, 1, 173), (4, 17, 4, 2, 0, 174), (9, 238, 4, 2, 1, 175), (4, 21, 4, 3, 0, 176), (4, 24, 4, 4, 0, 177), (9, 257, 4, 4, 1, 178), (0, 9, 0, 0, 0, 197), (9, 269, 0, 0, 1, 198), (0, 13, 0, 1, 0, 199), (9, 272, 0, 1, 1, 200), (0, 16, 0, 2, 0, 201), (9, 241, 0, 2, 1, 202), (1, 9, 1, 0, 0, 220), (1, 15, 1, 1, 0, 221), (1, 21, 1, 2, 0, 222), (1, 25, 1, 3, 0, 223), (1, 30, 1, 4, 0, 224), (1, 33, 1, 5, 0, 225), (7, 13, 7, 0, 0, 252), (5, 81, 7, 0, 1, 253), (9, 299, 7, 0, 1, 254), (7, 16, 7, 1, 0, 255), (7, 19, 7, 2, 0, 256), (7, 22, 7, 3, 0, 257), (7, 26, 7, 4, 0, 258), (7, 29, 7, 5, 0, 259), (5, 88, 7, 5, 1, 260), (7, 32, 7, 6, 0, 261), (7, 36, 7, 7, 0, 262), (5, 74, 7, 7, 1, 263), (9, 294, 7, 7, 1, 264), (5, 12, 5, 0, 0, 287), (9, 290, 5, 0, 1, 288), (5, 20, 5, 1, 0, 289), (5, 23, 5, 2, 0, 290), (9, 214, 5, 2, 1, 291), (5, 27, 5, 3, 0, 292), (9, 217, 5, 3, 1, 293), (5, 30, 5, 4, 0, 294), (5, 36, 5, 5, 0, 295), (9, 279, 5, 5, 1, 296), (5, 43, 5, 6, 0, 297), (5, 47, 5, 7, 0, 298), (5, 50, 5, 8, 0, 299), (9, 10, 9, 0, 0, 321), (9, 16, 9, 1, 0, 322), (9, 19, 9, 2, 0, 323), (9, 23, 9, 3, 0, 324), (9, 30, 9, 4, 0, 325), (9, 37, 9, 5, 0, 326), (9, 44, 9, 6, 0, 327), (9, 51, 9, 7, 0, 328), (9, 58, 9, 8, 0, 329), (9, 65, 9, 9, 0, 330), (9, 69, 9, 10, 0, 331), (10, 7, 10, 0, 0, 875), (10, 15, 10, 1, 0, 876), (10, 18, 10, 2, 0, 877), (10, 22, 10, 3, 0, 878), (10, 25, 10, 4, 0, 879), (10, 28, 10, 5, 0, 880), (10, 31, 10, 6, 0, 881), (10, 34, 10, 7, 0, 882), (10, 37, 10, 8, 0, 883), (10, 40, 10, 9, 0, 884), (10, 43, 10, 10, 0, 885), (10, 193, 10, 11, 0, 886), (10, 46, 10, 12, 0, 887), (10, 49, 10, 13, 0, 888), (10, 52, 10, 14, 0, 889), (10, 216, 10, 15, 0, 890), (10, 55, 10, 16, 0, 891), (10, 227, 10, 17, 0, 892), (10, 58, 10, 18, 0, 893), (10, 61, 10, 19, 0, 894), (10, 64, 10, 20, 0, 895), (10, 68, 10, 21, 0, 896), (10, 245, 10, 22, 0, 897), (10, 71, 10, 23, 0, 898), (10, 252, 10, 24, 0, 899), (10, 255, 10, 25, 0, 900), (10, 74, 10, 26, 0, 901), (10, 77, 10, 27, 0, 902), (10, 328, 10, 28, 0, 903), (10, 80, 10, 29, 0, 904), (10, 277, 10, 30, 0, 905), (10, 271, 10, 31, 0, 906), (10, 265, 10, 32, 0, 907), (10, 274, 10, 33, 0, 908), (10, 85, 10, 34, 0, 909), (10, 88, 10, 35, 0, 910), (10, 340, 10, 36, 0, 911)]
/-- method links: own class, index, method, kind, place -/
def MPl : List (Nat × Nat × Nat × Nat × Nat) := [(11, 9, 0, 4, 71), (9, 1, 0, 6, 74), (9, 9, 1, 4, 79), (8, 3, 0, 6, 82), (8, 21, 2, 4, 86), (6, 3, 0, 6, 89), (6, 35, 3, 5, 93), (2, 3, 0, 6, 96), (9, 29, 4, 5, 147), (3, 1, 0, 6, 150), (9, 36, 5, 5, 167), (4, 3, 0, 6, 170), (9, 43, 6, 5, 193), (0, 1, 0, 6, 196), (9, 50, 7, 5, 212), (1, 3, 0, 6, 215), (1, 20, 3, 5, 217), (9, 57, 8, 5, 241), (5, 5, 0, 6, 244), (5, 11, 9, 5, 247), (7, 3, 0, 6, 250), (5, 35, 2, 4, 284), (5, 42, 3, 5, 286), (9, 64, 2, 4, 320), (11, 13, 10, 0, 355), (11, 18, 11, 0, 359), (9, 83, 12, 2, 363), (9, 87, 13, 2, 366), (9, 90, 14, 0, 369), (6, 36, 0, 9, 373), (6, 42, 0, 8, 376), (6, 45, 15, 2, 379), (11, 23, 16, 0, 382), (11, 27, 17, 0, 386), (9, 94, 18, 0, 390), (9, 98, 19, 0, 394), (9, 101, 20, 2, 398), (11, 32, 21, 0, 401), (11, 36, 22, 0, 405), (9, 111, 23, 0, 409), (9, 118, 24, 0, 413), (9, 124, 25, 0, 417), (11, 41, 26, 0, 421), (11, 45, 27, 0, 425), (11, 49, 28, 0, 429), (11, 53, 29, 0, 433), (11, 60, 30, 0, 437), (9, 131, 31, 0, 441), (9, 135, 32, 2, 445), (9, 139, 33, 0, 448), (1, 41, 0, 7, 452), (1, 55, 34, 0, 455), (2, 27, 35, 3, 459), (1, 62, 35, 3, 462), (11, 65, 36, 0, 463), (11, 70, 37, 0, 467), (9, 144, 38, 0, 472), (1, 66, 39, 0, 476), (2, 31, 40, 0, 480), (2, 15, 15, 2, 484), (1, 70, 41, 0, 485), (1, 74, 42, 0, 489), (2, 34, 24, 0, 493), (2, 38, 25, 0, 494), (1, 78, 43, 0, 495), (2, 21, 0, 7, 499), (11, 74, 44, 0, 500), (9, 148, 45, 0, 504), (6, 54, 0, 7, 508), (6, 91, 46, 0, 509), (9, 152, 47, 0, 513), (1, 82, 48, 0, 517), (11, 78, 49, 0, 521), (9, 156, 50, 0, 525), (1, 86, 51, 0, 529), (11, 82, 52, 0, 533), (9, 160, 53, 0, 537), (9, 163, 54, 0, 541), (6, 60, 43, 0, 545), (9, 166, 55, 0, 546), (11, 86, 56, 0, 550), (9, 169, 57, 0, 554), (9, 173, 58, 0, 558), (9, 275, 59, 0, 562), (6, 64, 14, 0, 566), (6, 68, 60, 0, 567), (6, 72, 61, 0, 571), (11, 90, 62, 0, 575), (11, 94, 63, 0, 579), (9, 177, 64, 0, 583), (6, 76, 65, 0, 587), (2, 42, 66, 0, 591), (11, 98, 67, 0, 595), (9, 181, 68, 0, 599), (6, 80, 54, 0, 603), (11, 102, 69, 0, 604), (9, 185, 70, 0, 608), (6, 83, 34, 0, 612), (11, 106, 71, 0, 613), (9, 188, 72, 0, 617), (6, 87, 41, 0, 621), (11, 110, 73, 0, 622), (11, 114, 74, 0, 626), (9, 191, 75, 0, 630), (9, 282, 76, 0, 634), (5, 57, 77, 0, 638), (7, 39, 0, 9, 642), (7, 45, 0, 8, 643), (5, 64, 0, 7, 644), (5, 70, 78, 0, 645), (7, 48, 0, 7, 649), (7, 54, 15, 2, 650), (7, 60, 79, 2, 651), (7, 64, 80, 0, 654), (7, 68, 81, 3, 658), (5, 84, 41, 0, 661), (9, 286, 82, 0, 662), (5, 91, 14, 0, 666), (5, 97, 35, 3, 667), (5, 101, 25, 0, 668), (11, 118, 83, 0, 669), (9, 194, 84, 0, 673), (6, 94, 25, 0, 677), (11, 122, 85, 0, 678), (9, 198, 86, 0, 682), (11, 126, 87, 0, 686), (9, 201, 88, 0, 690), (11, 130, 89, 0, 694), (9, 204, 90, 0, 698), (6, 98, 91, 0, 702), (6, 102, 92, 0, 706), (11, 134, 93, 0, 711), (11, 138, 94, 0, 715), (9, 207, 95, 0, 719), (5, 105, 76, 0, 723), (5, 109, 40, 0, 724), (5, 112, 34, 0, 725), (11, 142, 96, 0, 726), (9, 210, 97, 0, 730), (9, 303, 35, 2, 734), (11, 146, 98, 0, 735), (11, 150, 99, 0, 739), (11, 154, 100, 0, 743), (9, 220, 101, 0, 747), (11, 159, 102, 0, 751), (11, 164, 103, 0, 755), (11, 168, 104, 0, 759), (9, 234, 105, 0, 763), (11, 172, 106, 0, 767), (9, 244, 107, 0, 771), (9, 247, 108, 0, 775), (4, 27, 109, 0, 779), (4, 39, 110, 2, 783), (4, 31, 111, 2, 786), (4, 47, 112, 2, 789), (4, 51, 113, 2, 792), (4, 54, 114, 2, 795), (4, 57, 115, 2, 798), (4, 43, 116, 2, 801), (9, 251, 117, 0, 804), (9, 254, 118, 0, 808), (8, 22, 54, 0, 812), (9, 263, 119, 0, 813), (9, 307, 120, 0, 817), (9, 310, 109, 0, 821), (9, 314, 74, 0, 822), (9, 317, 73, 0, 823), (9, 320, 69, 0, 824), (9, 323, 71, 0, 825), (9, 326, 121, 0, 826), (4, 35, 120, 0, 830), (9, 329, 83, 0, 831), (9, 332, 85, 0, 832), (9, 335, 87, 0, 833), (9, 338, 56, 0, 834), (9, 341, 62, 0, 835), (9, 344, 63, 0, 836), (9, 347, 52, 0, 837), (11, 176, 122, 0, 838), (11, 180, 123, 0, 842), (9, 266, 124, 0, 846), (11, 184, 125, 0, 850), (11, 188, 126, 0, 854), (11, 192, 127, 0, 858), (11, 12, 128, 4, 864), (10, 1, 0, 6, 867), (10, 91, 129, 0, 871), (11, 17, 130, 0, 987), (10, 96, 131, 2, 993), (11, 22, 132, 0, 996), (10, 110, 133, 2, 1000), (10, 116, 134, 0, 1005), (10, 120, 135, 0, 1009), (10, 102, 136, 2, 1013), (11, 26, 137, 0, 1016), (11, 31, 138, 0, 1020), (10, 124, 139, 0, 1024), (10, 130, 140, 0, 1028), (10, 134, 141, 0, 1032), (10, 127, 142, 2, 1036), (11, 35, 143, 0, 1040), (11, 40, 144, 0, 1044), (10, 141, 145, 0, 1048), (10, 138, 146, 0, 1052), (10, 145, 147, 2, 1056), (11, 44, 148, 0, 1059), (11, 48, 149, 0, 1063), (11, 52, 150, 0, 1067), (11, 57, 151, 0, 1071), (11, 64, 152, 0, 1075), (10, 163, 153, 0, 1079), (10, 167, 154, 0, 1083), (10, 151, 155, 0, 1087), (10, 155, 156, 0, 1091), (10, 159, 157, 0, 1096), (11, 69, 158, 0, 1100), (11, 73, 159, 0, 1105), (10, 175, 160, 0, 1110), (11, 77, 161, 0, 1114), (10, 179, 162, 0, 1118), (11, 81, 163, 0, 1122), (11, 85, 164, 0, 1126), (10, 183, 165, 0, 1130), (11, 89, 166, 0, 1134), (10, 186, 167, 0, 1138), (11, 93, 168, 0, 1142), (11, 97, 169, 0, 1146), (11, 101, 170, 0, 1150), (11, 105, 171, 0, 1154), (11, 109, 172, 0, 1158), (11, 113, 173, 0, 1162), (10, 190, 174, 0, 1166), (11, 117, 175, 0, 1170), (10, 213, 176, 0, 1174), (10, 210, 177, 0, 1178), (10, 199, 178, 0, 1182), (10, 196, 179, 2, 1186), (10, 203, 180, 0, 1189), (10, 206, 181, 0, 1193), (11, 137, 182, 0, 1197), (11, 121, 183, 0, 1201), (11, 125, 184, 0, 1205), (11, 129, 185, 0, 1209), (11, 133, 186, 0, 1213), (10, 220, 187, 0, 1217), (11, 141, 188, 0, 1222), (10, 230, 189, 0, 1226), (10, 224, 190, 0, 1230), (10, 233, 191, 0, 1234), (11, 145, 192, 0, 1238), (10, 241, 193, 0, 1242), (10, 237, 194, 0, 1246), (11, 149, 195, 0, 1250), (11, 153, 196, 0, 1254), (11, 158, 197, 0, 1258), (11, 163, 198, 0, 1262), (11, 167, 199, 0, 1266), (11, 171, 200, 0, 1270), (11, 175, 201, 0, 1276), (10, 331, 202, 0, 1280), (10, 325, 203, 0, 1284), (10, 268, 204, 0, 1288), (10, 258, 205, 0, 1292), (10, 280, 206, 0, 1298), (10, 288, 207, 0, 1304), (10, 334, 208, 0, 1308), (10, 291, 185, 0, 1312), (10, 294, 183, 0, 1313), (10, 298, 184, 0, 1314), (10, 301, 175, 0, 1315), (10, 304, 173, 0, 1316), (10, 307, 171, 0, 1317), (10, 310, 172, 0, 1318), (10, 313, 166, 0, 1319), (10, 316, 168, 0, 1320), (10, 319, 169, 0, 1321), (10, 322, 164, 0, 1322), (10, 337, 209, 0, 1323), (11, 179, 210, 0, 1327), (11, 183, 211, 0, 1331), (11, 187, 212, 0, 1335), (11, 191, 213, 0, 1339), (11, 195, 214, 0, 1343)]
/-- class links -/
def CPl : List (Nat × Nat × String × Nat) := [(11, 7, "RegularSequences", 69), (9, 7, "RegularSequences$State", 77), (8, 15, "RegularSequences$Representation", 83), (6, 18, "RegularSequences$Matrix", 90), (9, 27, "RegularSequences$Observations", 145), (9, 34, "RegularSequences$ProgramText", 165), (9, 41, "RegularSequences$ErrorChain", 191), (9, 48, "RegularSequences$Evaluator", 210), (1, 18, "RegularSequences$Matrix", 216), (1, 28, "[[I", 218), (9, 55, "RegularSequences$Reach", 239), (5, 1, "RegularSequences$Span", 245), (7, 11, "[[I", 251), (5, 18, "[[I", 282), (5, 33, "RegularSequences$Representation", 283), (5, 40, "RegularSequences$Matrix", 285), (9, 62, "RegularSequences$Representation", 319), (11, 10, "RegularSequencesModel", 862), (10, 13, "[[I", 868), (10, 83, "[[[I", 869)]
/-- constants: own class, index, long, value, place -/
def KPl : List (Nat × Nat × Nat × Int × Nat) := [(9, 143, 0, 1000000000, 471), (6, 106, 0, 1103515245, 710), (10, 106, 1, 2, 991), (10, 108, 1, 4, 992), (10, 94, 1, 3, 1003), (10, 114, 1, 8, 1004), (10, 100, 1, 10006, 1039), (10, 149, 1, 10007, 1095), (10, 171, 1, 20, 1104), (10, 173, 1, 1000000000, 1109), (10, 219, 0, 1103515245, 1221), (10, 248, 1, 32, 1274), (10, 250, 1, 126, 1275), (10, 261, 1, 48, 1296), (10, 263, 1, 57, 1297), (10, 284, 1, 97, 1302), (10, 286, 1, 122, 1303), (11, 58, 1, 4294967295, 1347)]
/-- a method's words in the tables: code, instance method, selects, static, initialized -/
def MWl : List (Nat × Nat × Nat × Nat × Nat) := [(73, 72, 0, 0, 55), (81, 80, 0, 0, 56), (88, 87, 0, 0, 57), (95, 94, 0, 0, 58), (149, 148, 0, 0, 59), (169, 168, 0, 0, 60), (195, 194, 0, 0, 61), (214, 213, 0, 0, 62), (243, 242, 0, 0, 63), (249, 248, 0, 0, 64), (358, 356, 357, 0, 55), (362, 360, 361, 0, 55), (365, 0, 0, 364, 55), (368, 0, 0, 367, 55), (372, 370, 371, 0, 57), (381, 0, 0, 380, 67), (385, 383, 384, 0, 55), (389, 387, 388, 0, 55), (393, 392, 0, 0, 55), (397, 395, 396, 0, 57), (400, 0, 0, 399, 55), (404, 402, 403, 0, 55), (408, 406, 407, 0, 55), (412, 411, 1, 0, 55), (416, 414, 415, 0, 58), (420, 418, 419, 0, 58), (424, 422, 423, 0, 55), (428, 426, 427, 0, 55), (432, 430, 431, 0, 55), (436, 434, 435, 0, 55), (440, 438, 439, 0, 55), (444, 443, 2, 0, 55), (447, 0, 0, 446, 55), (451, 449, 450, 0, 62), (458, 456, 457, 0, 58), (461, 0, 0, 460, 55), (466, 464, 465, 0, 55), (470, 468, 469, 0, 55), (475, 473, 474, 0, 62), (479, 477, 478, 0, 58), (483, 481, 482, 0, 58), (488, 486, 487, 0, 58), (492, 490, 491, 0, 58), (498, 496, 497, 0, 58), (503, 501, 502, 0, 55), (507, 505, 506, 0, 57), (512, 510, 511, 0, 58), (516, 514, 515, 0, 62), (520, 519, 3, 0, 62), (524, 522, 523, 0, 55), (528, 526, 527, 0, 62), (532, 531, 4, 0, 62), (536, 534, 535, 0, 55), (540, 539, 5, 0, 55), (544, 542, 543, 0, 57), (549, 548, 6, 0, 55), (553, 551, 552, 0, 55), (557, 556, 7, 0, 55), (561, 560, 8, 0, 55), (565, 563, 564, 0, 57), (570, 569, 9, 0, 57), (574, 572, 573, 0, 58), (578, 576, 577, 0, 55), (582, 580, 581, 0, 55), (586, 584, 585, 0, 57), (590, 588, 589, 0, 58), (594, 593, 10, 0, 58), (598, 596, 597, 0, 55), (602, 600, 601, 0, 57), (607, 605, 606, 0, 55), (611, 609, 610, 0, 57), (616, 614, 615, 0, 55), (620, 618, 619, 0, 57), (625, 623, 624, 0, 55), (629, 627, 628, 0, 55), (633, 632, 11, 0, 55), (637, 635, 636, 0, 63), (641, 639, 640, 0, 64), (648, 646, 647, 0, 64), (653, 0, 0, 652, 64), (657, 656, 12, 0, 64), (660, 0, 0, 659, 55), (665, 663, 664, 0, 63), (672, 670, 671, 0, 55), (676, 674, 675, 0, 57), (681, 679, 680, 0, 55), (685, 683, 684, 0, 57), (689, 687, 688, 0, 55), (693, 691, 692, 0, 57), (697, 695, 696, 0, 55), (701, 699, 700, 0, 57), (705, 704, 13, 0, 57), (709, 708, 14, 0, 57), (714, 712, 713, 0, 55), (718, 716, 717, 0, 55), (722, 720, 721, 0, 63), (729, 727, 728, 0, 55), (733, 732, 15, 0, 55), (738, 736, 737, 0, 55), (742, 740, 741, 0, 55), (746, 744, 745, 0, 55), (750, 748, 749, 0, 59), (754, 752, 753, 0, 55), (758, 756, 757, 0, 55), (762, 760, 761, 0, 55), (766, 764, 765, 0, 60), (770, 768, 769, 0, 55), (774, 772, 773, 0, 60), (778, 776, 777, 0, 60), (782, 780, 781, 0, 60), (785, 0, 0, 784, 60), (788, 0, 0, 787, 60), (791, 0, 0, 790, 60), (794, 0, 0, 793, 60), (797, 0, 0, 796, 60), (800, 0, 0, 799, 60), (803, 0, 0, 802, 60), (807, 805, 806, 0, 61), (811, 809, 810, 0, 56), (816, 815, 16, 0, 55), (820, 818, 819, 0, 60), (829, 827, 828, 0, 60), (841, 839, 840, 0, 55), (845, 843, 844, 0, 55), (849, 847, 848, 0, 61), (853, 851, 852, 0, 55), (857, 855, 856, 0, 55), (861, 859, 860, 0, 55), (866, 865, 0, 0, 65), (874, 873, 17, 0, 65), (990, 988, 989, 0, 65), (995, 0, 0, 994, 65), (999, 997, 998, 0, 65), (1002, 0, 0, 1001, 65), (1008, 1007, 18, 0, 65), (1012, 1011, 19, 0, 65), (1015, 0, 0, 1014, 65), (1019, 1017, 1018, 0, 65), (1023, 1021, 1022, 0, 65), (1027, 1026, 20, 0, 65), (1031, 1030, 21, 0, 65), (1035, 1034, 22, 0, 65), (1038, 0, 0, 1037, 65), (1043, 1041, 1042, 0, 65), (1047, 1045, 1046, 0, 65), (1051, 1050, 23, 0, 65), (1055, 1054, 24, 0, 65), (1058, 0, 0, 1057, 65), (1062, 1060, 1061, 0, 65), (1066, 1064, 1065, 0, 65), (1070, 1068, 1069, 0, 65), (1074, 1072, 1073, 0, 65), (1078, 1076, 1077, 0, 65), (1082, 1081, 25, 0, 65), (1086, 1085, 26, 0, 65), (1090, 1089, 27, 0, 65), (1094, 1093, 28, 0, 65), (1099, 1098, 29, 0, 65), (1103, 1101, 1102, 0, 65), (1108, 1106, 1107, 0, 65), (1113, 1112, 30, 0, 65), (1117, 1115, 1116, 0, 65), (1121, 1120, 31, 0, 65), (1125, 1123, 1124, 0, 65), (1129, 1127, 1128, 0, 65), (1133, 1132, 32, 0, 65), (1137, 1135, 1136, 0, 65), (1141, 1140, 33, 0, 65), (1145, 1143, 1144, 0, 65), (1149, 1147, 1148, 0, 65), (1153, 1151, 1152, 0, 65), (1157, 1155, 1156, 0, 65), (1161, 1159, 1160, 0, 65), (1165, 1163, 1164, 0, 65), (1169, 1168, 34, 0, 65), (1173, 1171, 1172, 0, 65), (1177, 1176, 35, 0, 65), (1181, 1180, 36, 0, 65), (1185, 1184, 37, 0, 65), (1188, 0, 0, 1187, 65), (1192, 1191, 38, 0, 65), (1196, 1195, 39, 0, 65), (1200, 1198, 1199, 0, 65), (1204, 1202, 1203, 0, 65), (1208, 1206, 1207, 0, 65), (1212, 1210, 1211, 0, 65), (1216, 1214, 1215, 0, 65), (1220, 1219, 40, 0, 65), (1225, 1223, 1224, 0, 65), (1229, 1228, 41, 0, 65), (1233, 1232, 42, 0, 65), (1237, 1236, 43, 0, 65), (1241, 1239, 1240, 0, 65), (1245, 1244, 44, 0, 65), (1249, 1248, 45, 0, 65), (1253, 1251, 1252, 0, 65), (1257, 1255, 1256, 0, 65), (1261, 1259, 1260, 0, 65), (1265, 1263, 1264, 0, 65), (1269, 1267, 1268, 0, 65), (1273, 1271, 1272, 0, 65), (1279, 1277, 1278, 0, 65), (1283, 1282, 46, 0, 65), (1287, 1286, 47, 0, 65), (1291, 1290, 48, 0, 65), (1295, 1294, 49, 0, 65), (1301, 1300, 50, 0, 65), (1307, 1306, 51, 0, 65), (1311, 1310, 52, 0, 65), (1326, 1325, 53, 0, 65), (1330, 1328, 1329, 0, 65), (1334, 1332, 1333, 0, 65), (1338, 1336, 1337, 0, 65), (1342, 1340, 1341, 0, 65), (1346, 1344, 1345, 0, 65), (0, 0, 0, 0, 54)]
/-- a class of objects: instantiable, initialized -/
def CWl : List (Nat × Nat) := [(192, 61), (211, 62), (92, 58), (146, 59), (166, 60), (240, 63), (85, 57), (246, 64), (78, 56), (70, 55), (863, 65)]
/-- places: arrays of int, long, char; arrays over State, Representation, Matrix, int[], int[][] -/
def AWl : List Nat := [102, 164, 190, 144, 84, 91, 219, 870]
/-- places: arraycopy native, static, initialized; max static, code; min static, code; Math initialized; Object.<init> instance method, code -/
def NWl : List Nat := [454, 453, 68, 377, 378, 374, 375, 66, 75, 76]
