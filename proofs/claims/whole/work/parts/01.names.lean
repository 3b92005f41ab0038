-- ===== PART A: goes FIRST, ahead of the names: the tables' words, and 'selects' of the private methods out of them =====
/-- a private method of a class that the tables say can be made, by its rows of tables_1 -/
def lw_okq (q : MethodName × Nat) : Prop := (q.1.cls ≠ "java/lang/invoke/MethodHandle" ∧ q.1.cls ≠ "java/lang/invoke/VarHandle") ∧ Cond.instantiable q.1.cls q.2 ∈ tables_1 ∧ Cond.privateMethod q.1 ∈ tables_1 ∧ Cond.instanceMethod q.1 ∈ tables_1
theorem lw_p0 : lw_okq (⟨"CamelParts$Tape", "takeName", "()V"⟩, 6) := ⟨⟨by decide +kernel, by decide +kernel⟩, List.mem_of_getElem? (i := 117) (by decide +kernel), List.mem_of_getElem? (i := 323) (by decide +kernel), List.mem_of_getElem? (i := 324) (by decide +kernel)⟩
theorem lw_p1 : lw_okq (⟨"CamelParts$Tape", "takeNumber", "()V"⟩, 6) := ⟨⟨by decide +kernel, by decide +kernel⟩, List.mem_of_getElem? (i := 117) (by decide +kernel), List.mem_of_getElem? (i := 330) (by decide +kernel), List.mem_of_getElem? (i := 331) (by decide +kernel)⟩
theorem lw_p2 : lw_okq (⟨"CamelParts$Script", "takeToken", "()V"⟩, 9) := ⟨⟨by decide +kernel, by decide +kernel⟩, List.mem_of_getElem? (i := 111) (by decide +kernel), List.mem_of_getElem? (i := 334) (by decide +kernel), List.mem_of_getElem? (i := 335) (by decide +kernel)⟩
theorem lw_p3 : lw_okq (⟨"CamelParts$Script", "refuse", "(I)V"⟩, 9) := ⟨⟨by decide +kernel, by decide +kernel⟩, List.mem_of_getElem? (i := 111) (by decide +kernel), List.mem_of_getElem? (i := 338) (by decide +kernel), List.mem_of_getElem? (i := 339) (by decide +kernel)⟩
theorem lw_p4 : lw_okq (⟨"CamelParts$Script", "takeSemicolon", "()V"⟩, 9) := ⟨⟨by decide +kernel, by decide +kernel⟩, List.mem_of_getElem? (i := 111) (by decide +kernel), List.mem_of_getElem? (i := 342) (by decide +kernel), List.mem_of_getElem? (i := 343) (by decide +kernel)⟩
theorem lw_p5 : lw_okq (⟨"CamelParts$Script", "takeNumber", "()V"⟩, 9) := ⟨⟨by decide +kernel, by decide +kernel⟩, List.mem_of_getElem? (i := 111) (by decide +kernel), List.mem_of_getElem? (i := 346) (by decide +kernel), List.mem_of_getElem? (i := 347) (by decide +kernel)⟩
theorem lw_p6 : lw_okq (⟨"CamelParts$Script", "isInBounds", "(I)Z"⟩, 9) := ⟨⟨by decide +kernel, by decide +kernel⟩, List.mem_of_getElem? (i := 111) (by decide +kernel), List.mem_of_getElem? (i := 350) (by decide +kernel), List.mem_of_getElem? (i := 351) (by decide +kernel)⟩
theorem lw_p7 : lw_okq (⟨"CamelParts$Script", "takeWord", "()V"⟩, 9) := ⟨⟨by decide +kernel, by decide +kernel⟩, List.mem_of_getElem? (i := 111) (by decide +kernel), List.mem_of_getElem? (i := 363) (by decide +kernel), List.mem_of_getElem? (i := 364) (by decide +kernel)⟩
theorem lw_p8 : lw_okq (⟨"CamelParts$Script", "wordOfLine", "()I"⟩, 9) := ⟨⟨by decide +kernel, by decide +kernel⟩, List.mem_of_getElem? (i := 111) (by decide +kernel), List.mem_of_getElem? (i := 367) (by decide +kernel), List.mem_of_getElem? (i := 368) (by decide +kernel)⟩
theorem lw_p9 : lw_okq (⟨"CamelParts$Script", "begin", "(IZI)V"⟩, 9) := ⟨⟨by decide +kernel, by decide +kernel⟩, List.mem_of_getElem? (i := 111) (by decide +kernel), List.mem_of_getElem? (i := 429) (by decide +kernel), List.mem_of_getElem? (i := 430) (by decide +kernel)⟩
theorem lw_p10 : lw_okq (⟨"CamelParts", "partNow", "()LCamelParts$Parting;"⟩, 12) := ⟨⟨by decide +kernel, by decide +kernel⟩, List.mem_of_getElem? (i := 17) (by decide +kernel), List.mem_of_getElem? (i := 458) (by decide +kernel), List.mem_of_getElem? (i := 459) (by decide +kernel)⟩
theorem lw_p11 : lw_okq (⟨"CamelParts", "partOf", "(I)LCamelParts$Parting;"⟩, 12) := ⟨⟨by decide +kernel, by decide +kernel⟩, List.mem_of_getElem? (i := 17) (by decide +kernel), List.mem_of_getElem? (i := 462) (by decide +kernel), List.mem_of_getElem? (i := 463) (by decide +kernel)⟩
theorem lw_p12 : lw_okq (⟨"CamelParts$Parting", "giveTold", "()V"⟩, 9) := ⟨⟨by decide +kernel, by decide +kernel⟩, List.mem_of_getElem? (i := 73) (by decide +kernel), List.mem_of_getElem? (i := 470) (by decide +kernel), List.mem_of_getElem? (i := 471) (by decide +kernel)⟩
theorem lw_p13 : lw_okq (⟨"CamelParts$Parting", "giveByRests", "()V"⟩, 9) := ⟨⟨by decide +kernel, by decide +kernel⟩, List.mem_of_getElem? (i := 73) (by decide +kernel), List.mem_of_getElem? (i := 477) (by decide +kernel), List.mem_of_getElem? (i := 478) (by decide +kernel)⟩
theorem lw_p14 : lw_okq (⟨"CamelParts$Parting", "giveQuotasLess", "(I)V"⟩, 9) := ⟨⟨by decide +kernel, by decide +kernel⟩, List.mem_of_getElem? (i := 73) (by decide +kernel), List.mem_of_getElem? (i := 481) (by decide +kernel), List.mem_of_getElem? (i := 482) (by decide +kernel)⟩
theorem lw_p15 : lw_okq (⟨"CamelParts$Parting", "giveByGreatestRest", "()V"⟩, 9) := ⟨⟨by decide +kernel, by decide +kernel⟩, List.mem_of_getElem? (i := 73) (by decide +kernel), List.mem_of_getElem? (i := 495) (by decide +kernel), List.mem_of_getElem? (i := 496) (by decide +kernel)⟩
def lw_privs_1 : List (MethodName × Nat) := [(⟨"CamelParts$Tape", "takeName", "()V"⟩, 6), (⟨"CamelParts$Tape", "takeNumber", "()V"⟩, 6), (⟨"CamelParts$Script", "takeToken", "()V"⟩, 9), (⟨"CamelParts$Script", "refuse", "(I)V"⟩, 9), (⟨"CamelParts$Script", "takeSemicolon", "()V"⟩, 9), (⟨"CamelParts$Script", "takeNumber", "()V"⟩, 9), (⟨"CamelParts$Script", "isInBounds", "(I)Z"⟩, 9), (⟨"CamelParts$Script", "takeWord", "()V"⟩, 9), (⟨"CamelParts$Script", "wordOfLine", "()I"⟩, 9), (⟨"CamelParts$Script", "begin", "(IZI)V"⟩, 9), (⟨"CamelParts", "partNow", "()LCamelParts$Parting;"⟩, 12), (⟨"CamelParts", "partOf", "(I)LCamelParts$Parting;"⟩, 12), (⟨"CamelParts$Parting", "giveTold", "()V"⟩, 9), (⟨"CamelParts$Parting", "giveByRests", "()V"⟩, 9), (⟨"CamelParts$Parting", "giveQuotasLess", "(I)V"⟩, 9), (⟨"CamelParts$Parting", "giveByGreatestRest", "()V"⟩, 9)]
theorem lw_r1 : ∀ q ∈ lw_privs_1, lw_okq q := List.forall_mem_cons.mpr ⟨lw_p0, List.forall_mem_cons.mpr ⟨lw_p1, List.forall_mem_cons.mpr ⟨lw_p2, List.forall_mem_cons.mpr ⟨lw_p3, List.forall_mem_cons.mpr ⟨lw_p4, List.forall_mem_cons.mpr ⟨lw_p5, List.forall_mem_cons.mpr ⟨lw_p6, List.forall_mem_cons.mpr ⟨lw_p7, List.forall_mem_cons.mpr ⟨lw_p8, List.forall_mem_cons.mpr ⟨lw_p9, List.forall_mem_cons.mpr ⟨lw_p10, List.forall_mem_cons.mpr ⟨lw_p11, List.forall_mem_cons.mpr ⟨lw_p12, List.forall_mem_cons.mpr ⟨lw_p13, List.forall_mem_cons.mpr ⟨lw_p14, List.forall_mem_cons.mpr ⟨lw_p15, fun _ h => absurd h List.not_mem_nil⟩⟩⟩⟩⟩⟩⟩⟩⟩⟩⟩⟩⟩⟩⟩⟩
theorem lw_p16 : lw_okq (⟨"CamelParts$Parting", "giveByRow", "()V"⟩, 9) := ⟨⟨by decide +kernel, by decide +kernel⟩, List.mem_of_getElem? (i := 73) (by decide +kernel), List.mem_of_getElem? (i := 500) (by decide +kernel), List.mem_of_getElem? (i := 501) (by decide +kernel)⟩
theorem lw_p17 : lw_okq (⟨"CamelParts$Parting", "giveNext", "()V"⟩, 9) := ⟨⟨by decide +kernel, by decide +kernel⟩, List.mem_of_getElem? (i := 73) (by decide +kernel), List.mem_of_getElem? (i := 504) (by decide +kernel), List.mem_of_getElem? (i := 505) (by decide +kernel)⟩
theorem lw_p18 : lw_okq (⟨"CamelParts$Parting", "rowDivisor", "(I)I"⟩, 9) := ⟨⟨by decide +kernel, by decide +kernel⟩, List.mem_of_getElem? (i := 73) (by decide +kernel), List.mem_of_getElem? (i := 508) (by decide +kernel), List.mem_of_getElem? (i := 509) (by decide +kernel)⟩
theorem lw_p19 : lw_okq (⟨"CamelParts", "sharedWhole", "(I)I"⟩, 12) := ⟨⟨by decide +kernel, by decide +kernel⟩, List.mem_of_getElem? (i := 17) (by decide +kernel), List.mem_of_getElem? (i := 586) (by decide +kernel), List.mem_of_getElem? (i := 587) (by decide +kernel)⟩
theorem lw_p20 : lw_okq (⟨"CamelParts", "wholePart", "(II)I"⟩, 12) := ⟨⟨by decide +kernel, by decide +kernel⟩, List.mem_of_getElem? (i := 17) (by decide +kernel), List.mem_of_getElem? (i := 590) (by decide +kernel), List.mem_of_getElem? (i := 591) (by decide +kernel)⟩
theorem lw_p21 : lw_okq (⟨"CamelParts$WillSearch", "findDowns", "()V"⟩, 7) := ⟨⟨by decide +kernel, by decide +kernel⟩, List.mem_of_getElem? (i := 182) (by decide +kernel), List.mem_of_getElem? (i := 609) (by decide +kernel), List.mem_of_getElem? (i := 610) (by decide +kernel)⟩
theorem lw_p22 : lw_okq (⟨"CamelParts$WillSearch", "isFound", "()Z"⟩, 7) := ⟨⟨by decide +kernel, by decide +kernel⟩, List.mem_of_getElem? (i := 182) (by decide +kernel), List.mem_of_getElem? (i := 617) (by decide +kernel), List.mem_of_getElem? (i := 618) (by decide +kernel)⟩
theorem lw_p23 : lw_okq (⟨"CamelParts", "getsWithout", "(II)I"⟩, 12) := ⟨⟨by decide +kernel, by decide +kernel⟩, List.mem_of_getElem? (i := 17) (by decide +kernel), List.mem_of_getElem? (i := 673) (by decide +kernel), List.mem_of_getElem? (i := 674) (by decide +kernel)⟩
theorem lw_p24 : lw_okq (⟨"CamelParts", "findHerds", "()V"⟩, 12) := ⟨⟨by decide +kernel, by decide +kernel⟩, List.mem_of_getElem? (i := 17) (by decide +kernel), List.mem_of_getElem? (i := 720) (by decide +kernel), List.mem_of_getElem? (i := 721) (by decide +kernel)⟩
theorem lw_p25 : lw_okq (⟨"CamelParts", "leftAtWorst", "(I)I"⟩, 12) := ⟨⟨by decide +kernel, by decide +kernel⟩, List.mem_of_getElem? (i := 17) (by decide +kernel), List.mem_of_getElem? (i := 744) (by decide +kernel), List.mem_of_getElem? (i := 745) (by decide +kernel)⟩
theorem lw_p26 : lw_okq (⟨"CamelPartsModel", "firstDraft", "()V"⟩, 33) := ⟨⟨by decide +kernel, by decide +kernel⟩, List.mem_of_getElem? (i := 812) (by decide +kernel), List.mem_of_getElem? (i := 818) (by decide +kernel), List.mem_of_getElem? (i := 819) (by decide +kernel)⟩
theorem lw_p27 : lw_okq (⟨"CamelPartsModel", "keepDraft", "()V"⟩, 33) := ⟨⟨by decide +kernel, by decide +kernel⟩, List.mem_of_getElem? (i := 812) (by decide +kernel), List.mem_of_getElem? (i := 822) (by decide +kernel), List.mem_of_getElem? (i := 823) (by decide +kernel)⟩
theorem lw_p28 : lw_okq (⟨"CamelPartsModel", "takes", "()V"⟩, 33) := ⟨⟨by decide +kernel, by decide +kernel⟩, List.mem_of_getElem? (i := 812) (by decide +kernel), List.mem_of_getElem? (i := 942) (by decide +kernel), List.mem_of_getElem? (i := 943) (by decide +kernel)⟩
theorem lw_p29 : lw_okq (⟨"CamelPartsModel", "byteAt", "(I)I"⟩, 33) := ⟨⟨by decide +kernel, by decide +kernel⟩, List.mem_of_getElem? (i := 812) (by decide +kernel), List.mem_of_getElem? (i := 946) (by decide +kernel), List.mem_of_getElem? (i := 947) (by decide +kernel)⟩
theorem lw_p30 : lw_okq (⟨"CamelPartsModel", "needs", "(ZI)V"⟩, 33) := ⟨⟨by decide +kernel, by decide +kernel⟩, List.mem_of_getElem? (i := 812) (by decide +kernel), List.mem_of_getElem? (i := 954) (by decide +kernel), List.mem_of_getElem? (i := 955) (by decide +kernel)⟩
theorem lw_p31 : lw_okq (⟨"CamelPartsModel", "readLine", "()V"⟩, 33) := ⟨⟨by decide +kernel, by decide +kernel⟩, List.mem_of_getElem? (i := 812) (by decide +kernel), List.mem_of_getElem? (i := 958) (by decide +kernel), List.mem_of_getElem? (i := 959) (by decide +kernel)⟩
def lw_privs_2 : List (MethodName × Nat) := [(⟨"CamelParts$Parting", "giveByRow", "()V"⟩, 9), (⟨"CamelParts$Parting", "giveNext", "()V"⟩, 9), (⟨"CamelParts$Parting", "rowDivisor", "(I)I"⟩, 9), (⟨"CamelParts", "sharedWhole", "(I)I"⟩, 12), (⟨"CamelParts", "wholePart", "(II)I"⟩, 12), (⟨"CamelParts$WillSearch", "findDowns", "()V"⟩, 7), (⟨"CamelParts$WillSearch", "isFound", "()Z"⟩, 7), (⟨"CamelParts", "getsWithout", "(II)I"⟩, 12), (⟨"CamelParts", "findHerds", "()V"⟩, 12), (⟨"CamelParts", "leftAtWorst", "(I)I"⟩, 12), (⟨"CamelPartsModel", "firstDraft", "()V"⟩, 33), (⟨"CamelPartsModel", "keepDraft", "()V"⟩, 33), (⟨"CamelPartsModel", "takes", "()V"⟩, 33), (⟨"CamelPartsModel", "byteAt", "(I)I"⟩, 33), (⟨"CamelPartsModel", "needs", "(ZI)V"⟩, 33), (⟨"CamelPartsModel", "readLine", "()V"⟩, 33)]
theorem lw_r2 : ∀ q ∈ lw_privs_2, lw_okq q := List.forall_mem_cons.mpr ⟨lw_p16, List.forall_mem_cons.mpr ⟨lw_p17, List.forall_mem_cons.mpr ⟨lw_p18, List.forall_mem_cons.mpr ⟨lw_p19, List.forall_mem_cons.mpr ⟨lw_p20, List.forall_mem_cons.mpr ⟨lw_p21, List.forall_mem_cons.mpr ⟨lw_p22, List.forall_mem_cons.mpr ⟨lw_p23, List.forall_mem_cons.mpr ⟨lw_p24, List.forall_mem_cons.mpr ⟨lw_p25, List.forall_mem_cons.mpr ⟨lw_p26, List.forall_mem_cons.mpr ⟨lw_p27, List.forall_mem_cons.mpr ⟨lw_p28, List.forall_mem_cons.mpr ⟨lw_p29, List.forall_mem_cons.mpr ⟨lw_p30, List.forall_mem_cons.mpr ⟨lw_p31, fun _ h => absurd h List.not_mem_nil⟩⟩⟩⟩⟩⟩⟩⟩⟩⟩⟩⟩⟩⟩⟩⟩
theorem lw_p32 : lw_okq (⟨"CamelPartsModel", "lineNow", "()I"⟩, 33) := ⟨⟨by decide +kernel, by decide +kernel⟩, List.mem_of_getElem? (i := 812) (by decide +kernel), List.mem_of_getElem? (i := 962) (by decide +kernel), List.mem_of_getElem? (i := 963) (by decide +kernel)⟩
theorem lw_p33 : lw_okq (⟨"CamelPartsModel", "is", "(IIIIII)Z"⟩, 33) := ⟨⟨by decide +kernel, by decide +kernel⟩, List.mem_of_getElem? (i := 812) (by decide +kernel), List.mem_of_getElem? (i := 966) (by decide +kernel), List.mem_of_getElem? (i := 967) (by decide +kernel)⟩
theorem lw_p34 : lw_okq (⟨"CamelPartsModel", "readLineOf", "(I)V"⟩, 33) := ⟨⟨by decide +kernel, by decide +kernel⟩, List.mem_of_getElem? (i := 812) (by decide +kernel), List.mem_of_getElem? (i := 970) (by decide +kernel), List.mem_of_getElem? (i := 971) (by decide +kernel)⟩
theorem lw_p35 : lw_okq (⟨"CamelPartsModel", "readNumber", "(II)I"⟩, 33) := ⟨⟨by decide +kernel, by decide +kernel⟩, List.mem_of_getElem? (i := 812) (by decide +kernel), List.mem_of_getElem? (i := 974) (by decide +kernel), List.mem_of_getElem? (i := 975) (by decide +kernel)⟩
theorem lw_p36 : lw_okq (⟨"CamelPartsModel", "starts", "()V"⟩, 33) := ⟨⟨by decide +kernel, by decide +kernel⟩, List.mem_of_getElem? (i := 812) (by decide +kernel), List.mem_of_getElem? (i := 986) (by decide +kernel), List.mem_of_getElem? (i := 987) (by decide +kernel)⟩
theorem lw_p37 : lw_okq (⟨"CamelPartsModel", "reckons", "()V"⟩, 33) := ⟨⟨by decide +kernel, by decide +kernel⟩, List.mem_of_getElem? (i := 812) (by decide +kernel), List.mem_of_getElem? (i := 990) (by decide +kernel), List.mem_of_getElem? (i := 991) (by decide +kernel)⟩
theorem lw_p38 : lw_okq (⟨"CamelPartsModel", "givesNow", "()V"⟩, 33) := ⟨⟨by decide +kernel, by decide +kernel⟩, List.mem_of_getElem? (i := 812) (by decide +kernel), List.mem_of_getElem? (i := 994) (by decide +kernel), List.mem_of_getElem? (i := 995) (by decide +kernel)⟩
theorem lw_p39 : lw_okq (⟨"CamelPartsModel", "gives", "(II)V"⟩, 33) := ⟨⟨by decide +kernel, by decide +kernel⟩, List.mem_of_getElem? (i := 812) (by decide +kernel), List.mem_of_getElem? (i := 998) (by decide +kernel), List.mem_of_getElem? (i := 999) (by decide +kernel)⟩
theorem lw_p40 : lw_okq (⟨"CamelPartsModel", "givesTold", "(I)V"⟩, 33) := ⟨⟨by decide +kernel, by decide +kernel⟩, List.mem_of_getElem? (i := 812) (by decide +kernel), List.mem_of_getElem? (i := 1002) (by decide +kernel), List.mem_of_getElem? (i := 1003) (by decide +kernel)⟩
theorem lw_p41 : lw_okq (⟨"CamelPartsModel", "givesRests", "(I)V"⟩, 33) := ⟨⟨by decide +kernel, by decide +kernel⟩, List.mem_of_getElem? (i := 812) (by decide +kernel), List.mem_of_getElem? (i := 1006) (by decide +kernel), List.mem_of_getElem? (i := 1007) (by decide +kernel)⟩
theorem lw_p42 : lw_okq (⟨"CamelPartsModel", "givesRow", "(II)V"⟩, 33) := ⟨⟨by decide +kernel, by decide +kernel⟩, List.mem_of_getElem? (i := 812) (by decide +kernel), List.mem_of_getElem? (i := 1010) (by decide +kernel), List.mem_of_getElem? (i := 1011) (by decide +kernel)⟩
theorem lw_p43 : lw_okq (⟨"CamelPartsModel", "allGot", "()I"⟩, 33) := ⟨⟨by decide +kernel, by decide +kernel⟩, List.mem_of_getElem? (i := 812) (by decide +kernel), List.mem_of_getElem? (i := 1014) (by decide +kernel), List.mem_of_getElem? (i := 1015) (by decide +kernel)⟩
theorem lw_p44 : lw_okq (⟨"CamelPartsModel", "isHeir", "(I)Z"⟩, 33) := ⟨⟨by decide +kernel, by decide +kernel⟩, List.mem_of_getElem? (i := 812) (by decide +kernel), List.mem_of_getElem? (i := 1022) (by decide +kernel), List.mem_of_getElem? (i := 1023) (by decide +kernel)⟩
theorem lw_p45 : lw_okq (⟨"CamelPartsModel", "isOff", "(II)Z"⟩, 33) := ⟨⟨by decide +kernel, by decide +kernel⟩, List.mem_of_getElem? (i := 812) (by decide +kernel), List.mem_of_getElem? (i := 1027) (by decide +kernel), List.mem_of_getElem? (i := 1028) (by decide +kernel)⟩
theorem lw_p46 : lw_okq (⟨"CamelPartsModel", "becomes", "(II)I"⟩, 33) := ⟨⟨by decide +kernel, by decide +kernel⟩, List.mem_of_getElem? (i := 812) (by decide +kernel), List.mem_of_getElem? (i := 1062) (by decide +kernel), List.mem_of_getElem? (i := 1063) (by decide +kernel)⟩
theorem lw_p47 : lw_okq (⟨"CamelPartsModel", "dropsNow", "(I)V"⟩, 33) := ⟨⟨by decide +kernel, by decide +kernel⟩, List.mem_of_getElem? (i := 812) (by decide +kernel), List.mem_of_getElem? (i := 1086) (by decide +kernel), List.mem_of_getElem? (i := 1087) (by decide +kernel)⟩
def lw_privs_3 : List (MethodName × Nat) := [(⟨"CamelPartsModel", "lineNow", "()I"⟩, 33), (⟨"CamelPartsModel", "is", "(IIIIII)Z"⟩, 33), (⟨"CamelPartsModel", "readLineOf", "(I)V"⟩, 33), (⟨"CamelPartsModel", "readNumber", "(II)I"⟩, 33), (⟨"CamelPartsModel", "starts", "()V"⟩, 33), (⟨"CamelPartsModel", "reckons", "()V"⟩, 33), (⟨"CamelPartsModel", "givesNow", "()V"⟩, 33), (⟨"CamelPartsModel", "gives", "(II)V"⟩, 33), (⟨"CamelPartsModel", "givesTold", "(I)V"⟩, 33), (⟨"CamelPartsModel", "givesRests", "(I)V"⟩, 33), (⟨"CamelPartsModel", "givesRow", "(II)V"⟩, 33), (⟨"CamelPartsModel", "allGot", "()I"⟩, 33), (⟨"CamelPartsModel", "isHeir", "(I)Z"⟩, 33), (⟨"CamelPartsModel", "isOff", "(II)Z"⟩, 33), (⟨"CamelPartsModel", "becomes", "(II)I"⟩, 33), (⟨"CamelPartsModel", "dropsNow", "(I)V"⟩, 33)]
theorem lw_r3 : ∀ q ∈ lw_privs_3, lw_okq q := List.forall_mem_cons.mpr ⟨lw_p32, List.forall_mem_cons.mpr ⟨lw_p33, List.forall_mem_cons.mpr ⟨lw_p34, List.forall_mem_cons.mpr ⟨lw_p35, List.forall_mem_cons.mpr ⟨lw_p36, List.forall_mem_cons.mpr ⟨lw_p37, List.forall_mem_cons.mpr ⟨lw_p38, List.forall_mem_cons.mpr ⟨lw_p39, List.forall_mem_cons.mpr ⟨lw_p40, List.forall_mem_cons.mpr ⟨lw_p41, List.forall_mem_cons.mpr ⟨lw_p42, List.forall_mem_cons.mpr ⟨lw_p43, List.forall_mem_cons.mpr ⟨lw_p44, List.forall_mem_cons.mpr ⟨lw_p45, List.forall_mem_cons.mpr ⟨lw_p46, List.forall_mem_cons.mpr ⟨lw_p47, fun _ h => absurd h List.not_mem_nil⟩⟩⟩⟩⟩⟩⟩⟩⟩⟩⟩⟩⟩⟩⟩⟩
theorem lw_p48 : lw_okq (⟨"CamelPartsModel", "isWhole", "(II)Z"⟩, 33) := ⟨⟨by decide +kernel, by decide +kernel⟩, List.mem_of_getElem? (i := 812) (by decide +kernel), List.mem_of_getElem? (i := 1094) (by decide +kernel), List.mem_of_getElem? (i := 1095) (by decide +kernel)⟩
theorem lw_p49 : lw_okq (⟨"CamelPartsModel", "walksWills", "(III)Z"⟩, 33) := ⟨⟨by decide +kernel, by decide +kernel⟩, List.mem_of_getElem? (i := 812) (by decide +kernel), List.mem_of_getElem? (i := 1110) (by decide +kernel), List.mem_of_getElem? (i := 1111) (by decide +kernel)⟩
theorem lw_p50 : lw_okq (⟨"CamelPartsModel", "remembers", "()V"⟩, 33) := ⟨⟨by decide +kernel, by decide +kernel⟩, List.mem_of_getElem? (i := 812) (by decide +kernel), List.mem_of_getElem? (i := 1131) (by decide +kernel), List.mem_of_getElem? (i := 1132) (by decide +kernel)⟩
theorem lw_p51 : lw_okq (⟨"CamelPartsModel", "firstOff", "(I)I"⟩, 33) := ⟨⟨by decide +kernel, by decide +kernel⟩, List.mem_of_getElem? (i := 812) (by decide +kernel), List.mem_of_getElem? (i := 1139) (by decide +kernel), List.mem_of_getElem? (i := 1140) (by decide +kernel)⟩
theorem lw_p52 : lw_okq (⟨"CamelPartsModel", "findOdds", "(III)V"⟩, 33) := ⟨⟨by decide +kernel, by decide +kernel⟩, List.mem_of_getElem? (i := 812) (by decide +kernel), List.mem_of_getElem? (i := 1165) (by decide +kernel), List.mem_of_getElem? (i := 1166) (by decide +kernel)⟩
theorem lw_p53 : lw_okq (⟨"CamelPartsModel", "isSo", "()Z"⟩, 33) := ⟨⟨by decide +kernel, by decide +kernel⟩, List.mem_of_getElem? (i := 812) (by decide +kernel), List.mem_of_getElem? (i := 1185) (by decide +kernel), List.mem_of_getElem? (i := 1186) (by decide +kernel)⟩
theorem lw_p54 : lw_okq (⟨"CamelPartsModel", "isHerdSo", "(I)Z"⟩, 33) := ⟨⟨by decide +kernel, by decide +kernel⟩, List.mem_of_getElem? (i := 812) (by decide +kernel), List.mem_of_getElem? (i := 1194) (by decide +kernel), List.mem_of_getElem? (i := 1195) (by decide +kernel)⟩
theorem lw_p55 : lw_okq (⟨"CamelPartsModel", "ofThree", "(IIII)I"⟩, 33) := ⟨⟨by decide +kernel, by decide +kernel⟩, List.mem_of_getElem? (i := 812) (by decide +kernel), List.mem_of_getElem? (i := 1198) (by decide +kernel), List.mem_of_getElem? (i := 1199) (by decide +kernel)⟩
theorem lw_p56 : lw_okq (⟨"CamelPartsModel", "isDownSo", "(II)Z"⟩, 33) := ⟨⟨by decide +kernel, by decide +kernel⟩, List.mem_of_getElem? (i := 812) (by decide +kernel), List.mem_of_getElem? (i := 1206) (by decide +kernel), List.mem_of_getElem? (i := 1207) (by decide +kernel)⟩
theorem lw_p57 : lw_okq (⟨"CamelPartsModel", "copies", "(II)V"⟩, 33) := ⟨⟨by decide +kernel, by decide +kernel⟩, List.mem_of_getElem? (i := 812) (by decide +kernel), List.mem_of_getElem? (i := 1224) (by decide +kernel), List.mem_of_getElem? (i := 1225) (by decide +kernel)⟩
def lw_privs_4 : List (MethodName × Nat) := [(⟨"CamelPartsModel", "isWhole", "(II)Z"⟩, 33), (⟨"CamelPartsModel", "walksWills", "(III)Z"⟩, 33), (⟨"CamelPartsModel", "remembers", "()V"⟩, 33), (⟨"CamelPartsModel", "firstOff", "(I)I"⟩, 33), (⟨"CamelPartsModel", "findOdds", "(III)V"⟩, 33), (⟨"CamelPartsModel", "isSo", "()Z"⟩, 33), (⟨"CamelPartsModel", "isHerdSo", "(I)Z"⟩, 33), (⟨"CamelPartsModel", "ofThree", "(IIII)I"⟩, 33), (⟨"CamelPartsModel", "isDownSo", "(II)Z"⟩, 33), (⟨"CamelPartsModel", "copies", "(II)V"⟩, 33)]
theorem lw_r4 : ∀ q ∈ lw_privs_4, lw_okq q := List.forall_mem_cons.mpr ⟨lw_p48, List.forall_mem_cons.mpr ⟨lw_p49, List.forall_mem_cons.mpr ⟨lw_p50, List.forall_mem_cons.mpr ⟨lw_p51, List.forall_mem_cons.mpr ⟨lw_p52, List.forall_mem_cons.mpr ⟨lw_p53, List.forall_mem_cons.mpr ⟨lw_p54, List.forall_mem_cons.mpr ⟨lw_p55, List.forall_mem_cons.mpr ⟨lw_p56, List.forall_mem_cons.mpr ⟨lw_p57, fun _ h => absurd h List.not_mem_nil⟩⟩⟩⟩⟩⟩⟩⟩⟩⟩
def lw_privs : List (MethodName × Nat) := lw_privs_1 ++ (lw_privs_2 ++ (lw_privs_3 ++ (lw_privs_4)))
def lw_tbl : List Cond := k2_sels lw_privs ++ tables_1
theorem lw_privs_ok : ∀ q ∈ lw_privs, lw_okq q := by
  show ∀ q ∈ lw_privs_1 ++ (lw_privs_2 ++ (lw_privs_3 ++ (lw_privs_4))), lw_okq q
  exact List.forall_mem_append.mpr ⟨lw_r1, List.forall_mem_append.mpr ⟨lw_r2, List.forall_mem_append.mpr ⟨lw_r3, lw_r4⟩⟩⟩
/-! ===== BEGIN printed: names, fields, word lists, decode rows ===== -/
def RX0 : String := "CamelParts$Estate"
def TX0 : u_T := fun k => match k with
  | 0 => ("CamelParts$Estate", "camels", "I", false)
  | 1 => ("CamelParts$Estate", "kind", "I", false)
  | 2 => ("CamelParts$Estate", "heirs", "I", false)
  | 3 => ("CamelParts$Estate", "seen", "I", false)
  | 4 => ("CamelParts$Estate", "ups", "[I", true)
  | 5 => ("CamelParts$Estate", "downs", "[I", true)
  | 6 => ("CamelParts$Estate", "seenHeirs", "[I", true)
  | _ => ("CamelParts$Estate", "seenCamels", "[I", true)
def tyX0 : Nat → FieldType := fun k => match k with
  | 0 => .int
  | 1 => .int
  | 2 => .int
  | 3 => .int
  | 4 => .array .int
  | 5 => .array .int
  | 6 => .array .int
  | _ => .array .int
abbrev wsX00 : List Cond := u_ws RX0 TX0 8
theorem nmX0 : ∀ a, a < 8 → ∀ b, b < 8 → a ≠ b → (TX0 a).2.1 ≠ (TX0 b).2.1 := by decide +kernel
theorem tyX0_ok : ∀ k, k < 8 → parseFieldDescriptor (TX0 k).2.2.1 = some (tyX0 k) := by decide +kernel
abbrev cX0_init : ByteArray := prog_2_method_1_code
def yX0_init : MethodName := ⟨RX0, "<init>", "()V"⟩
abbrev cX0_clear : ByteArray := prog_2_method_2_code
def yX0_clear : MethodName := ⟨RX0, "clear", "()V"⟩
abbrev cX0_copy : ByteArray := prog_2_method_3_code
def yX0_copy : MethodName := ⟨RX0, "copy", "(LCamelParts$Estate;)V"⟩
abbrev cX0_has : ByteArray := prog_2_method_4_code
def yX0_has : MethodName := ⟨RX0, "has", "(I)Z"⟩
abbrev cX0_add : ByteArray := prog_2_method_5_code
def yX0_add : MethodName := ⟨RX0, "add", "(II)I"⟩
abbrev cX0_remove : ByteArray := prog_2_method_6_code
def yX0_remove : MethodName := ⟨RX0, "remove", "(I)V"⟩
abbrev cX0_addSeen : ByteArray := prog_2_method_7_code
def yX0_addSeen : MethodName := ⟨RX0, "addSeen", "(II)I"⟩
def RX1 : String := "CamelParts$Finds"
def TX1 : u_T := fun k => match k with
  | 0 => ("CamelParts$Finds", "number", "I", false)
  | 1 => ("CamelParts$Finds", "least", "I", false)
  | _ => ("CamelParts$Finds", "greatest", "I", false)
def tyX1 : Nat → FieldType := fun k => match k with
  | 0 => .int
  | 1 => .int
  | _ => .int
abbrev wsX10 : List Cond := u_ws RX1 TX1 3
theorem nmX1 : ∀ a, a < 3 → ∀ b, b < 3 → a ≠ b → (TX1 a).2.1 ≠ (TX1 b).2.1 := by decide +kernel
theorem tyX1_ok : ∀ k, k < 3 → parseFieldDescriptor (TX1 k).2.2.1 = some (tyX1 k) := by decide +kernel
abbrev cX1_init : ByteArray := prog_3_method_1_code
def yX1_init : MethodName := ⟨RX1, "<init>", "()V"⟩
abbrev cX1_clear : ByteArray := prog_3_method_2_code
def yX1_clear : MethodName := ⟨RX1, "clear", "()V"⟩
abbrev cX1_note : ByteArray := prog_3_method_3_code
def yX1_note : MethodName := ⟨RX1, "note", "(I)V"⟩
abbrev cX1_answer : ByteArray := prog_3_method_4_code
def yX1_answer : MethodName := ⟨RX1, "answer", "(I)I"⟩
def RX2 : String := "CamelParts$Parting"
def TX2 : u_T := fun k => match k with
  | 0 => ("CamelParts$Parting", "common", "J", false)
  | 1 => ("CamelParts$Parting", "all", "J", false)
  | 2 => ("CamelParts$Parting", "weights", "[J", true)
  | 3 => ("CamelParts$Parting", "rests", "[J", true)
  | 4 => ("CamelParts$Parting", "gets", "[I", true)
  | 5 => ("CamelParts$Parting", "gotBefore", "[I", true)
  | 6 => ("CamelParts$Parting", "heirs", "I", false)
  | 7 => ("CamelParts$Parting", "kind", "I", false)
  | _ => ("CamelParts$Parting", "camels", "I", false)
def tyX2 : Nat → FieldType := fun k => match k with
  | 0 => .long
  | 1 => .long
  | 2 => .array .long
  | 3 => .array .long
  | 4 => .array .int
  | 5 => .array .int
  | 6 => .int
  | 7 => .int
  | _ => .int
abbrev wsX20 : List Cond := u_ws RX2 TX2 9
theorem nmX2 : ∀ a, a < 9 → ∀ b, b < 9 → a ≠ b → (TX2 a).2.1 ≠ (TX2 b).2.1 := by decide +kernel
theorem tyX2_ok : ∀ k, k < 9 → parseFieldDescriptor (TX2 k).2.2.1 = some (tyX2 k) := by decide +kernel
abbrev cX2_init : ByteArray := prog_4_method_1_code
def yX2_init : MethodName := ⟨RX2, "<init>", "()V"⟩
abbrev cX2_load : ByteArray := prog_4_method_2_code
def yX2_load : MethodName := ⟨RX2, "load", "(LCamelParts$Estate;)V"⟩
abbrev cX2_part : ByteArray := prog_4_method_3_code
def yX2_part : MethodName := ⟨RX2, "part", "(II)V"⟩
abbrev cX2_grow : ByteArray := prog_4_method_4_code
def yX2_grow : MethodName := ⟨RX2, "grow", "()V"⟩
abbrev cX2_got : ByteArray := prog_4_method_5_code
def yX2_got : MethodName := ⟨RX2, "got", "(I)I"⟩
abbrev cX2_given : ByteArray := prog_4_method_6_code
def yX2_given : MethodName := ⟨RX2, "given", "()I"⟩
abbrev cX2_isOff : ByteArray := prog_4_method_7_code
def yX2_isOff : MethodName := ⟨RX2, "isOff", "(I)Z"⟩
abbrev cX2_firstOff : ByteArray := prog_4_method_8_code
def yX2_firstOff : MethodName := ⟨RX2, "firstOff", "()I"⟩
abbrev cX2_firstLoser : ByteArray := prog_4_method_9_code
def yX2_firstLoser : MethodName := ⟨RX2, "firstLoser", "()I"⟩
abbrev cX2_givesAs : ByteArray := prog_4_method_10_code
def yX2_givesAs : MethodName := ⟨RX2, "givesAs", "(LCamelParts$Parting;)Z"⟩
abbrev cX2_isAsSeen : ByteArray := prog_4_method_11_code
def yX2_isAsSeen : MethodName := ⟨RX2, "isAsSeen", "(LCamelParts$Estate;)Z"⟩
abbrev cX2_giveTold : ByteArray := prog_4_method_12_code
def yX2_giveTold : MethodName := ⟨RX2, "giveTold", "()V"⟩
abbrev cX2_giveByRests : ByteArray := prog_4_method_13_code
def yX2_giveByRests : MethodName := ⟨RX2, "giveByRests", "()V"⟩
abbrev cX2_giveByGreatestRest : ByteArray := prog_4_method_14_code
def yX2_giveByGreatestRest : MethodName := ⟨RX2, "giveByGreatestRest", "()V"⟩
abbrev cX2_giveByRow : ByteArray := prog_4_method_15_code
def yX2_giveByRow : MethodName := ⟨RX2, "giveByRow", "()V"⟩
abbrev cX2_giveQuotasLess : ByteArray := prog_4_method_16_code
def yX2_giveQuotasLess : MethodName := ⟨RX2, "giveQuotasLess", "(I)V"⟩
abbrev cX2_giveNext : ByteArray := prog_4_method_17_code
def yX2_giveNext : MethodName := ⟨RX2, "giveNext", "()V"⟩
abbrev cX2_rowDivisor : ByteArray := prog_4_method_18_code
def yX2_rowDivisor : MethodName := ⟨RX2, "rowDivisor", "(I)I"⟩
def RX3 : String := "CamelParts$Script"
def TX3 : u_T := fun k => match k with
  | 0 => ("CamelParts$Script", "tape", "LCamelParts$Tape;", true)
  | 1 => ("CamelParts$Script", "draft", "LCamelParts$Estate;", true)
  | 2 => ("CamelParts$Script", "lines", "I", false)
  | 3 => ("CamelParts$Script", "flaw", "I", false)
  | 4 => ("CamelParts$Script", "place", "I", false)
  | 5 => ("CamelParts$Script", "awaited", "I", false)
  | 6 => ("CamelParts$Script", "up", "I", false)
  | 7 => ("CamelParts$Script", "hasHerd", "Z", false)
  | _ => ("CamelParts$Script", "hasJudge", "Z", false)
def tyX3 : Nat → FieldType := fun k => match k with
  | 0 => .object "CamelParts$Tape"
  | 1 => .object "CamelParts$Estate"
  | 2 => .int
  | 3 => .int
  | 4 => .int
  | 5 => .int
  | 6 => .int
  | 7 => .boolean
  | _ => .boolean
abbrev wsX30 : List Cond := u_ws RX3 TX3 9
theorem nmX3 : ∀ a, a < 9 → ∀ b, b < 9 → a ≠ b → (TX3 a).2.1 ≠ (TX3 b).2.1 := by decide +kernel
theorem tyX3_ok : ∀ k, k < 9 → parseFieldDescriptor (TX3 k).2.2.1 = some (tyX3 k) := by decide +kernel
abbrev cX3_init : ByteArray := prog_5_method_1_code
def yX3_init : MethodName := ⟨RX3, "<init>", "()V"⟩
abbrev cX3_parse : ByteArray := prog_5_method_2_code
def yX3_parse : MethodName := ⟨RX3, "parse", "()V"⟩
abbrev cX3_takeToken : ByteArray := prog_5_method_3_code
def yX3_takeToken : MethodName := ⟨RX3, "takeToken", "()V"⟩
abbrev cX3_takeWord : ByteArray := prog_5_method_4_code
def yX3_takeWord : MethodName := ⟨RX3, "takeWord", "()V"⟩
abbrev cX3_begin : ByteArray := prog_5_method_5_code
def yX3_begin : MethodName := ⟨RX3, "begin", "(IZI)V"⟩
abbrev cX3_wordOfLine : ByteArray := prog_5_method_6_code
def yX3_wordOfLine : MethodName := ⟨RX3, "wordOfLine", "()I"⟩
abbrev cX3_takeNumber : ByteArray := prog_5_method_7_code
def yX3_takeNumber : MethodName := ⟨RX3, "takeNumber", "()V"⟩
abbrev cX3_isInBounds : ByteArray := prog_5_method_8_code
def yX3_isInBounds : MethodName := ⟨RX3, "isInBounds", "(I)Z"⟩
abbrev cX3_takeSemicolon : ByteArray := prog_5_method_9_code
def yX3_takeSemicolon : MethodName := ⟨RX3, "takeSemicolon", "()V"⟩
abbrev cX3_refuse : ByteArray := prog_5_method_10_code
def yX3_refuse : MethodName := ⟨RX3, "refuse", "(I)V"⟩
def RX4 : String := "CamelParts$Sheet"
def TX4 : u_T := fun k => match k with
  | 0 => ("CamelParts$Sheet", "size", "I", false)
  | 1 => ("CamelParts$Sheet", "lane", "I", false)
  | _ => ("CamelParts$Sheet", "cells", "[I", true)
def tyX4 : Nat → FieldType := fun k => match k with
  | 0 => .int
  | 1 => .int
  | _ => .array .int
abbrev wsX40 : List Cond := u_ws RX4 TX4 3
theorem nmX4 : ∀ a, a < 3 → ∀ b, b < 3 → a ≠ b → (TX4 a).2.1 ≠ (TX4 b).2.1 := by decide +kernel
theorem tyX4_ok : ∀ k, k < 3 → parseFieldDescriptor (TX4 k).2.2.1 = some (tyX4 k) := by decide +kernel
abbrev cX4_init : ByteArray := prog_6_method_1_code
def yX4_init : MethodName := ⟨RX4, "<init>", "()V"⟩
abbrev cX4_renew : ByteArray := prog_6_method_2_code
def yX4_renew : MethodName := ⟨RX4, "renew", "(II)V"⟩
abbrev cX4_flawAt : ByteArray := prog_6_method_3_code
def yX4_flawAt : MethodName := ⟨RX4, "flawAt", "(I)I"⟩
abbrev cX4_pairFlaw : ByteArray := prog_6_method_4_code
def yX4_pairFlaw : MethodName := ⟨RX4, "pairFlaw", "(II)I"⟩
abbrev cX4_cell : ByteArray := prog_6_method_5_code
def yX4_cell : MethodName := ⟨RX4, "cell", "(I)I"⟩
abbrev cX4_put : ByteArray := prog_6_method_6_code
def yX4_put : MethodName := ⟨RX4, "put", "(II)V"⟩
def RX5 : String := "CamelParts$Tape"
def TX5 : u_T := fun k => match k with
  | 0 => ("CamelParts$Tape", "length", "I", false)
  | 1 => ("CamelParts$Tape", "sort", "I", false)
  | 2 => ("CamelParts$Tape", "start", "I", false)
  | 3 => ("CamelParts$Tape", "value", "I", false)
  | 4 => ("CamelParts$Tape", "next", "I", false)
  | _ => ("CamelParts$Tape", "bytes", "[B", true)
def tyX5 : Nat → FieldType := fun k => match k with
  | 0 => .int
  | 1 => .int
  | 2 => .int
  | 3 => .int
  | 4 => .int
  | _ => .array .byte
abbrev wsX50 : List Cond := u_ws RX5 TX5 6
theorem nmX5 : ∀ a, a < 6 → ∀ b, b < 6 → a ≠ b → (TX5 a).2.1 ≠ (TX5 b).2.1 := by decide +kernel
theorem tyX5_ok : ∀ k, k < 6 → parseFieldDescriptor (TX5 k).2.2.1 = some (tyX5 k) := by decide +kernel
abbrev cX5_init : ByteArray := prog_7_method_1_code
def yX5_init : MethodName := ⟨RX5, "<init>", "()V"⟩
abbrev cX5_append : ByteArray := prog_7_method_2_code
def yX5_append : MethodName := ⟨RX5, "append", "(I)I"⟩
abbrev cX5_rewind : ByteArray := prog_7_method_3_code
def yX5_rewind : MethodName := ⟨RX5, "rewind", "()V"⟩
abbrev cX5_advance : ByteArray := prog_7_method_4_code
def yX5_advance : MethodName := ⟨RX5, "advance", "()V"⟩
abbrev cX5_isName : ByteArray := prog_7_method_5_code
def yX5_isName : MethodName := ⟨RX5, "isName", "(Ljava/lang/String;)Z"⟩
abbrev cX5_takeName : ByteArray := prog_7_method_6_code
def yX5_takeName : MethodName := ⟨RX5, "takeName", "()V"⟩
abbrev cX5_takeNumber : ByteArray := prog_7_method_7_code
def yX5_takeNumber : MethodName := ⟨RX5, "takeNumber", "()V"⟩
abbrev cX5_isLetter : ByteArray := prog_7_method_8_code
def yX5_isLetter : MethodName := ⟨RX5, "isLetter", "(I)Z"⟩
abbrev cX5_isFigure : ByteArray := prog_7_method_9_code
def yX5_isFigure : MethodName := ⟨RX5, "isFigure", "(I)Z"⟩
def RX6 : String := "CamelParts$WillSearch"
def TX6 : u_T := fun k => match k with
  | 0 => ("CamelParts$WillSearch", "found", "I", false)
  | 1 => ("CamelParts$WillSearch", "row", "[I", true)
  | 2 => ("CamelParts$WillSearch", "downs", "[I", true)
  | 3 => ("CamelParts$WillSearch", "downsFound", "I", false)
  | 4 => ("CamelParts$WillSearch", "camels", "I", false)
  | 5 => ("CamelParts$WillSearch", "heirs", "I", false)
  | _ => ("CamelParts$WillSearch", "sought", "I", false)
def tyX6 : Nat → FieldType := fun k => match k with
  | 0 => .int
  | 1 => .array .int
  | 2 => .array .int
  | 3 => .int
  | 4 => .int
  | 5 => .int
  | _ => .int
abbrev wsX60 : List Cond := u_ws RX6 TX6 7
theorem nmX6 : ∀ a, a < 7 → ∀ b, b < 7 → a ≠ b → (TX6 a).2.1 ≠ (TX6 b).2.1 := by decide +kernel
theorem tyX6_ok : ∀ k, k < 7 → parseFieldDescriptor (TX6 k).2.2.1 = some (tyX6 k) := by decide +kernel
abbrev cX6_init : ByteArray := prog_8_method_1_code
def yX6_init : MethodName := ⟨RX6, "<init>", "()V"⟩
abbrev cX6_run : ByteArray := prog_8_method_2_code
def yX6_run : MethodName := ⟨RX6, "run", "(IIII)V"⟩
abbrev cX6_findDowns : ByteArray := prog_8_method_3_code
def yX6_findDowns : MethodName := ⟨RX6, "findDowns", "()V"⟩
abbrev cX6_choose : ByteArray := prog_8_method_4_code
def yX6_choose : MethodName := ⟨RX6, "choose", "(LCamelParts$WillSearch;III)V"⟩
abbrev cX6_isFound : ByteArray := prog_8_method_5_code
def yX6_isFound : MethodName := ⟨RX6, "isFound", "()Z"⟩
def RX7 : String := "CamelParts"
def TX7 : u_T := fun k => match k with
  | 0 => ("CamelParts", "estate", "LCamelParts$Estate;", true)
  | 1 => ("CamelParts", "scratch", "LCamelParts$Estate;", true)
  | 2 => ("CamelParts", "images", "[LCamelParts$Estate;", true)
  | 3 => ("CamelParts", "kept", "[Z", true)
  | 4 => ("CamelParts", "parting", "LCamelParts$Parting;", true)
  | 5 => ("CamelParts", "rival", "LCamelParts$Parting;", true)
  | 6 => ("CamelParts", "script", "LCamelParts$Script;", true)
  | 7 => ("CamelParts", "search", "LCamelParts$WillSearch;", true)
  | 8 => ("CamelParts", "finds", "LCamelParts$Finds;", true)
  | 9 => ("CamelParts", "tally", "[I", true)
  | 10 => ("CamelParts", "sheets", "[LCamelParts$Sheet;", true)
  | _ => ("CamelParts", "tornBy", "I", false)
def tyX7 : Nat → FieldType := fun k => match k with
  | 0 => .object "CamelParts$Estate"
  | 1 => .object "CamelParts$Estate"
  | 2 => .array (.object "CamelParts$Estate")
  | 3 => .array .boolean
  | 4 => .object "CamelParts$Parting"
  | 5 => .object "CamelParts$Parting"
  | 6 => .object "CamelParts$Script"
  | 7 => .object "CamelParts$WillSearch"
  | 8 => .object "CamelParts$Finds"
  | 9 => .array .int
  | 10 => .array (.object "CamelParts$Sheet")
  | _ => .int
abbrev wsX70 : List Cond := u_ws RX7 TX7 12
theorem nmX7 : ∀ a, a < 12 → ∀ b, b < 12 → a ≠ b → (TX7 a).2.1 ≠ (TX7 b).2.1 := by decide +kernel
theorem tyX7_ok : ∀ k, k < 12 → parseFieldDescriptor (TX7 k).2.2.1 = some (tyX7 k) := by decide +kernel
abbrev cX7_init : ByteArray := prog_1_method_1_code
def yX7_init : MethodName := ⟨RX7, "<init>", "()V"⟩
abbrev cX7_feed : ByteArray := prog_1_method_2_code
def yX7_feed : MethodName := ⟨RX7, "feed", "(I)I"⟩
abbrev cX7_end : ByteArray := prog_1_method_3_code
def yX7_end : MethodName := ⟨RX7, "end", "(I)I"⟩
abbrev cX7_text : ByteArray := prog_1_method_4_code
def yX7_text : MethodName := ⟨RX7, "text", "()I"⟩
abbrev cX7_fault : ByteArray := prog_1_method_5_code
def yX7_fault : MethodName := ⟨RX7, "fault", "()I"⟩
abbrev cX7_rule : ByteArray := prog_1_method_6_code
def yX7_rule : MethodName := ⟨RX7, "rule", "(I)I"⟩
abbrev cX7_heir : ByteArray := prog_1_method_7_code
def yX7_heir : MethodName := ⟨RX7, "heir", "(II)I"⟩
abbrev cX7_told : ByteArray := prog_1_method_8_code
def yX7_told : MethodName := ⟨RX7, "told", "(II)J"⟩
abbrev cX7_sum : ByteArray := prog_1_method_9_code
def yX7_sum : MethodName := ⟨RX7, "sum", "(I)J"⟩
abbrev cX7_over : ByteArray := prog_1_method_10_code
def yX7_over : MethodName := ⟨RX7, "over", "(II)J"⟩
abbrev cX7_alter : ByteArray := prog_1_method_11_code
def yX7_alter : MethodName := ⟨RX7, "alter", "(III)I"⟩
abbrev cX7_herd : ByteArray := prog_1_method_12_code
def yX7_herd : MethodName := ⟨RX7, "herd", "(I)I"⟩
abbrev cX7_judge : ByteArray := prog_1_method_13_code
def yX7_judge : MethodName := ⟨RX7, "judge", "(I)I"⟩
abbrev cX7_bear : ByteArray := prog_1_method_14_code
def yX7_bear : MethodName := ⟨RX7, "bear", "(II)I"⟩
abbrev cX7_dies : ByteArray := prog_1_method_15_code
def yX7_dies : MethodName := ⟨RX7, "dies", "(I)I"⟩
abbrev cX7_lend : ByteArray := prog_1_method_16_code
def yX7_lend : MethodName := ⟨RX7, "lend", "(I)I"⟩
abbrev cX7_share : ByteArray := prog_1_method_17_code
def yX7_share : MethodName := ⟨RX7, "share", "(II)I"⟩
abbrev cX7_wills : ByteArray := prog_1_method_18_code
def yX7_wills : MethodName := ⟨RX7, "wills", "(II)I"⟩
abbrev cX7_will : ByteArray := prog_1_method_19_code
def yX7_will : MethodName := ⟨RX7, "will", "(IIII)I"⟩
abbrev cX7_by : ByteArray := prog_1_method_20_code
def yX7_by : MethodName := ⟨RX7, "by", "(II)I"⟩
abbrev cX7_of : ByteArray := prog_1_method_21_code
def yX7_of : MethodName := ⟨RX7, "of", "(II)I"⟩
abbrev cX7_loses : ByteArray := prog_1_method_22_code
def yX7_loses : MethodName := ⟨RX7, "loses", "(II)I"⟩
abbrev cX7_keeps : ByteArray := prog_1_method_23_code
def yX7_keeps : MethodName := ⟨RX7, "keeps", "(II)I"⟩
abbrev cX7_unlike : ByteArray := prog_1_method_24_code
def yX7_unlike : MethodName := ⟨RX7, "unlike", "(II)I"⟩
abbrev cX7_best : ByteArray := prog_1_method_25_code
def yX7_best : MethodName := ⟨RX7, "best", "(I)I"⟩
abbrev cX7_gains : ByteArray := prog_1_method_26_code
def yX7_gains : MethodName := ⟨RX7, "gains", "(II)I"⟩
abbrev cX7_wants : ByteArray := prog_1_method_27_code
def yX7_wants : MethodName := ⟨RX7, "wants", "(II)I"⟩
abbrev cX7_mean : ByteArray := prog_1_method_28_code
def yX7_mean : MethodName := ⟨RX7, "mean", "(III)J"⟩
abbrev cX7_luck : ByteArray := prog_1_method_29_code
def yX7_luck : MethodName := ⟨RX7, "luck", "(IIII)J"⟩
abbrev cX7_see : ByteArray := prog_1_method_30_code
def yX7_see : MethodName := ⟨RX7, "see", "(II)I"⟩
abbrev cX7_forget : ByteArray := prog_1_method_31_code
def yX7_forget : MethodName := ⟨RX7, "forget", "(I)I"⟩
abbrev cX7_judges : ByteArray := prog_1_method_32_code
def yX7_judges : MethodName := ⟨RX7, "judges", "()I"⟩
abbrev cX7_herds : ByteArray := prog_1_method_33_code
def yX7_herds : MethodName := ⟨RX7, "herds", "(I)I"⟩
abbrev cX7_downs : ByteArray := prog_1_method_34_code
def yX7_downs : MethodName := ⟨RX7, "downs", "(II)I"⟩
abbrev cX7_ask : ByteArray := prog_1_method_35_code
def yX7_ask : MethodName := ⟨RX7, "ask", "(I)I"⟩
abbrev cX7_drift : ByteArray := prog_1_method_36_code
def yX7_drift : MethodName := ⟨RX7, "drift", "(III)I"⟩
abbrev cX7_keep : ByteArray := prog_1_method_37_code
def yX7_keep : MethodName := ⟨RX7, "keep", "(I)I"⟩
abbrev cX7_back : ByteArray := prog_1_method_38_code
def yX7_back : MethodName := ⟨RX7, "back", "(I)I"⟩
abbrev cX7_sheet : ByteArray := prog_1_method_39_code
def yX7_sheet : MethodName := ⟨RX7, "sheet", "(III)I"⟩
abbrev cX7_lay : ByteArray := prog_1_method_40_code
def yX7_lay : MethodName := ⟨RX7, "lay", "(III)I"⟩
abbrev cX7_read : ByteArray := prog_1_method_41_code
def yX7_read : MethodName := ⟨RX7, "read", "(IIII)I"⟩
abbrev cX7_torn : ByteArray := prog_1_method_42_code
def yX7_torn : MethodName := ⟨RX7, "torn", "()I"⟩
abbrev cX7_count : ByteArray := prog_1_method_43_code
def yX7_count : MethodName := ⟨RX7, "count", "(I)I"⟩
abbrev cX7_within : ByteArray := prog_1_method_44_code
def yX7_within : MethodName := ⟨RX7, "within", "(III)Z"⟩
abbrev cX7_isHerd : ByteArray := prog_1_method_45_code
def yX7_isHerd : MethodName := ⟨RX7, "isHerd", "(I)Z"⟩
abbrev cX7_isKind : ByteArray := prog_1_method_46_code
def yX7_isKind : MethodName := ⟨RX7, "isKind", "(I)Z"⟩
abbrev cX7_isSheet : ByteArray := prog_1_method_47_code
def yX7_isSheet : MethodName := ⟨RX7, "isSheet", "(I)Z"⟩
abbrev cX7_isLane : ByteArray := prog_1_method_48_code
def yX7_isLane : MethodName := ⟨RX7, "isLane", "(I)Z"⟩
abbrev cX7_quotient : ByteArray := prog_1_method_49_code
def yX7_quotient : MethodName := ⟨RX7, "quotient", "(JJ)J"⟩
abbrev cX7_remainder : ByteArray := prog_1_method_50_code
def yX7_remainder : MethodName := ⟨RX7, "remainder", "(JJ)J"⟩
abbrev cX7_fraction : ByteArray := prog_1_method_51_code
def yX7_fraction : MethodName := ⟨RX7, "fraction", "(JJI)J"⟩
abbrev cX7_divisor : ByteArray := prog_1_method_52_code
def yX7_divisor : MethodName := ⟨RX7, "divisor", "(JJ)J"⟩
abbrev cX7_power : ByteArray := prog_1_method_53_code
def yX7_power : MethodName := ⟨RX7, "power", "(II)J"⟩
abbrev cX7_odds : ByteArray := prog_1_method_54_code
def yX7_odds : MethodName := ⟨RX7, "odds", "(III)J"⟩
abbrev cX7_partOf : ByteArray := prog_1_method_55_code
def yX7_partOf : MethodName := ⟨RX7, "partOf", "(I)LCamelParts$Parting;"⟩
abbrev cX7_partNow : ByteArray := prog_1_method_56_code
def yX7_partNow : MethodName := ⟨RX7, "partNow", "()LCamelParts$Parting;"⟩
abbrev cX7_wholePart : ByteArray := prog_1_method_57_code
def yX7_wholePart : MethodName := ⟨RX7, "wholePart", "(II)I"⟩
abbrev cX7_sharedWhole : ByteArray := prog_1_method_58_code
def yX7_sharedWhole : MethodName := ⟨RX7, "sharedWhole", "(I)I"⟩
abbrev cX7_getsWithout : ByteArray := prog_1_method_59_code
def yX7_getsWithout : MethodName := ⟨RX7, "getsWithout", "(II)I"⟩
abbrev cX7_findHerds : ByteArray := prog_1_method_60_code
def yX7_findHerds : MethodName := ⟨RX7, "findHerds", "()V"⟩
abbrev cX7_leftAtWorst : ByteArray := prog_1_method_61_code
def yX7_leftAtWorst : MethodName := ⟨RX7, "leftAtWorst", "(I)I"⟩
def RX8 : String := "CamelPartsModel"
def TX8 : u_T := fun k => match k with
  | 0 => ("CamelPartsModel", "st", "[I", true)
  | 1 => ("CamelPartsModel", "now", "[I", true)
  | 2 => ("CamelPartsModel", "isKept", "[Z", true)
  | 3 => ("CamelPartsModel", "draft", "[I", true)
  | 4 => ("CamelPartsModel", "hasHerd", "Z", false)
  | 5 => ("CamelPartsModel", "hasJudge", "Z", false)
  | 6 => ("CamelPartsModel", "tape", "[I", true)
  | 7 => ("CamelPartsModel", "taped", "I", false)
  | 8 => ("CamelPartsModel", "pos", "I", false)
  | 9 => ("CamelPartsModel", "begun", "I", false)
  | 10 => ("CamelPartsModel", "sort", "I", false)
  | 11 => ("CamelPartsModel", "value", "I", false)
  | 12 => ("CamelPartsModel", "fault", "I", false)
  | 13 => ("CamelPartsModel", "wrongAt", "I", false)
  | 14 => ("CamelPartsModel", "parts", "[J", true)
  | 15 => ("CamelPartsModel", "under", "J", false)
  | 16 => ("CamelPartsModel", "allParts", "J", false)
  | 17 => ("CamelPartsModel", "got", "[I", true)
  | 18 => ("CamelPartsModel", "isRisen", "[Z", true)
  | 19 => ("CamelPartsModel", "divisors", "[I", true)
  | 20 => ("CamelPartsModel", "divisorMany", "I", false)
  | 21 => ("CamelPartsModel", "row", "[I", true)
  | 22 => ("CamelPartsModel", "found", "I", false)
  | 23 => ("CamelPartsModel", "was", "[I", true)
  | 24 => ("CamelPartsModel", "getSum", "J", false)
  | 25 => ("CamelPartsModel", "enoughSum", "J", false)
  | 26 => ("CamelPartsModel", "allWays", "J", false)
  | 27 => ("CamelPartsModel", "ways", "[I", true)
  | 28 => ("CamelPartsModel", "lanes", "[I", true)
  | 29 => ("CamelPartsModel", "sizes", "[I", true)
  | 30 => ("CamelPartsModel", "cells", "[I", true)
  | 31 => ("CamelPartsModel", "torn", "I", false)
  | _ => ("CamelPartsModel", "before", "[I", true)
def tyX8 : Nat → FieldType := fun k => match k with
  | 0 => .array .int
  | 1 => .array .int
  | 2 => .array .boolean
  | 3 => .array .int
  | 4 => .boolean
  | 5 => .boolean
  | 6 => .array .int
  | 7 => .int
  | 8 => .int
  | 9 => .int
  | 10 => .int
  | 11 => .int
  | 12 => .int
  | 13 => .int
  | 14 => .array .long
  | 15 => .long
  | 16 => .long
  | 17 => .array .int
  | 18 => .array .boolean
  | 19 => .array .int
  | 20 => .int
  | 21 => .array .int
  | 22 => .int
  | 23 => .array .int
  | 24 => .long
  | 25 => .long
  | 26 => .long
  | 27 => .array .int
  | 28 => .array .int
  | 29 => .array .int
  | 30 => .array .int
  | 31 => .int
  | _ => .array .int
abbrev wsX80 : List Cond := u_ws RX8 TX8 33
theorem nmX8 : ∀ a, a < 33 → ∀ b, b < 33 → a ≠ b → (TX8 a).2.1 ≠ (TX8 b).2.1 := by decide +kernel
theorem tyX8_ok : ∀ k, k < 33 → parseFieldDescriptor (TX8 k).2.2.1 = some (tyX8 k) := by decide +kernel
abbrev cX8_init : ByteArray := prog_10_method_1_code
def yX8_init : MethodName := ⟨RX8, "<init>", "()V"⟩
abbrev cX8_in : ByteArray := prog_10_method_3_code
def yX8_in : MethodName := ⟨RX8, "in", "(JJJ)Z"⟩
abbrev cX8_flag : ByteArray := prog_10_method_4_code
def yX8_flag : MethodName := ⟨RX8, "flag", "(Z)I"⟩
abbrev cX8_firstDraft : ByteArray := prog_10_method_5_code
def yX8_firstDraft : MethodName := ⟨RX8, "firstDraft", "()V"⟩
abbrev cX8_keepDraft : ByteArray := prog_10_method_6_code
def yX8_keepDraft : MethodName := ⟨RX8, "keepDraft", "()V"⟩
abbrev cX8_feed : ByteArray := prog_10_method_7_code
def yX8_feed : MethodName := ⟨RX8, "feed", "(I)I"⟩
abbrev cX8_end : ByteArray := prog_10_method_8_code
def yX8_end : MethodName := ⟨RX8, "end", "(I)I"⟩
abbrev cX8_needs : ByteArray := prog_10_method_9_code
def yX8_needs : MethodName := ⟨RX8, "needs", "(ZI)V"⟩
abbrev cX8_byteAt : ByteArray := prog_10_method_10_code
def yX8_byteAt : MethodName := ⟨RX8, "byteAt", "(I)I"⟩
abbrev cX8_is : ByteArray := prog_10_method_11_code
def yX8_is : MethodName := ⟨RX8, "is", "(IIIIII)Z"⟩
abbrev cX8_lineNow : ByteArray := prog_10_method_12_code
def yX8_lineNow : MethodName := ⟨RX8, "lineNow", "()I"⟩
abbrev cX8_takes : ByteArray := prog_10_method_13_code
def yX8_takes : MethodName := ⟨RX8, "takes", "()V"⟩
abbrev cX8_readNumber : ByteArray := prog_10_method_14_code
def yX8_readNumber : MethodName := ⟨RX8, "readNumber", "(II)I"⟩
abbrev cX8_readLineOf : ByteArray := prog_10_method_15_code
def yX8_readLineOf : MethodName := ⟨RX8, "readLineOf", "(I)V"⟩
abbrev cX8_readLine : ByteArray := prog_10_method_16_code
def yX8_readLine : MethodName := ⟨RX8, "readLine", "()V"⟩
abbrev cX8_text : ByteArray := prog_10_method_17_code
def yX8_text : MethodName := ⟨RX8, "text", "()I"⟩
abbrev cX8_fault : ByteArray := prog_10_method_18_code
def yX8_fault : MethodName := ⟨RX8, "fault", "()I"⟩
abbrev cX8_isHeir : ByteArray := prog_10_method_19_code
def yX8_isHeir : MethodName := ⟨RX8, "isHeir", "(I)Z"⟩
abbrev cX8_isKind : ByteArray := prog_10_method_20_code
def yX8_isKind : MethodName := ⟨RX8, "isKind", "(I)Z"⟩
abbrev cX8_isPart : ByteArray := prog_10_method_21_code
def yX8_isPart : MethodName := ⟨RX8, "isPart", "(I)Z"⟩
abbrev cX8_reckons : ByteArray := prog_10_method_22_code
def yX8_reckons : MethodName := ⟨RX8, "reckons", "()V"⟩
abbrev cX8_starts : ByteArray := prog_10_method_23_code
def yX8_starts : MethodName := ⟨RX8, "starts", "()V"⟩
abbrev cX8_givesTold : ByteArray := prog_10_method_24_code
def yX8_givesTold : MethodName := ⟨RX8, "givesTold", "(I)V"⟩
abbrev cX8_givesRests : ByteArray := prog_10_method_25_code
def yX8_givesRests : MethodName := ⟨RX8, "givesRests", "(I)V"⟩
abbrev cX8_givesRow : ByteArray := prog_10_method_26_code
def yX8_givesRow : MethodName := ⟨RX8, "givesRow", "(II)V"⟩
abbrev cX8_gives : ByteArray := prog_10_method_27_code
def yX8_gives : MethodName := ⟨RX8, "gives", "(II)V"⟩
abbrev cX8_givesNow : ByteArray := prog_10_method_28_code
def yX8_givesNow : MethodName := ⟨RX8, "givesNow", "()V"⟩
abbrev cX8_isOff : ByteArray := prog_10_method_29_code
def yX8_isOff : MethodName := ⟨RX8, "isOff", "(II)Z"⟩
abbrev cX8_firstOff : ByteArray := prog_10_method_30_code
def yX8_firstOff : MethodName := ⟨RX8, "firstOff", "(I)I"⟩
abbrev cX8_allGot : ByteArray := prog_10_method_31_code
def yX8_allGot : MethodName := ⟨RX8, "allGot", "()I"⟩
abbrev cX8_rule : ByteArray := prog_10_method_32_code
def yX8_rule : MethodName := ⟨RX8, "rule", "(I)I"⟩
abbrev cX8_heir : ByteArray := prog_10_method_33_code
def yX8_heir : MethodName := ⟨RX8, "heir", "(II)I"⟩
abbrev cX8_common : ByteArray := prog_10_method_34_code
def yX8_common : MethodName := ⟨RX8, "common", "(JJ)J"⟩
abbrev cX8_lowest : ByteArray := prog_10_method_35_code
def yX8_lowest : MethodName := ⟨RX8, "lowest", "(JJI)J"⟩
abbrev cX8_told : ByteArray := prog_10_method_36_code
def yX8_told : MethodName := ⟨RX8, "told", "(II)J"⟩
abbrev cX8_sum : ByteArray := prog_10_method_37_code
def yX8_sum : MethodName := ⟨RX8, "sum", "(I)J"⟩
abbrev cX8_over : ByteArray := prog_10_method_38_code
def yX8_over : MethodName := ⟨RX8, "over", "(II)J"⟩
abbrev cX8_becomes : ByteArray := prog_10_method_39_code
def yX8_becomes : MethodName := ⟨RX8, "becomes", "(II)I"⟩
abbrev cX8_alter : ByteArray := prog_10_method_40_code
def yX8_alter : MethodName := ⟨RX8, "alter", "(III)I"⟩
abbrev cX8_herd : ByteArray := prog_10_method_41_code
def yX8_herd : MethodName := ⟨RX8, "herd", "(I)I"⟩
abbrev cX8_judge : ByteArray := prog_10_method_42_code
def yX8_judge : MethodName := ⟨RX8, "judge", "(I)I"⟩
abbrev cX8_bear : ByteArray := prog_10_method_43_code
def yX8_bear : MethodName := ⟨RX8, "bear", "(II)I"⟩
abbrev cX8_dropsNow : ByteArray := prog_10_method_44_code
def yX8_dropsNow : MethodName := ⟨RX8, "dropsNow", "(I)V"⟩
abbrev cX8_dies : ByteArray := prog_10_method_45_code
def yX8_dies : MethodName := ⟨RX8, "dies", "(I)I"⟩
abbrev cX8_isWhole : ByteArray := prog_10_method_46_code
def yX8_isWhole : MethodName := ⟨RX8, "isWhole", "(II)Z"⟩
abbrev cX8_lend : ByteArray := prog_10_method_47_code
def yX8_lend : MethodName := ⟨RX8, "lend", "(I)I"⟩
abbrev cX8_share : ByteArray := prog_10_method_48_code
def yX8_share : MethodName := ⟨RX8, "share", "(II)I"⟩
abbrev cX8_walksWills : ByteArray := prog_10_method_49_code
def yX8_walksWills : MethodName := ⟨RX8, "walksWills", "(III)Z"⟩
abbrev cX8_isWill : ByteArray := prog_10_method_50_code
def yX8_isWill : MethodName := ⟨RX8, "isWill", "(II)Z"⟩
abbrev cX8_wills : ByteArray := prog_10_method_51_code
def yX8_wills : MethodName := ⟨RX8, "wills", "(II)I"⟩
abbrev cX8_will : ByteArray := prog_10_method_52_code
def yX8_will : MethodName := ⟨RX8, "will", "(IIII)I"⟩
abbrev cX8_by : ByteArray := prog_10_method_53_code
def yX8_by : MethodName := ⟨RX8, "by", "(II)I"⟩
abbrev cX8_of : ByteArray := prog_10_method_54_code
def yX8_of : MethodName := ⟨RX8, "of", "(II)I"⟩
abbrev cX8_remembers : ByteArray := prog_10_method_55_code
def yX8_remembers : MethodName := ⟨RX8, "remembers", "()V"⟩
abbrev cX8_loses : ByteArray := prog_10_method_56_code
def yX8_loses : MethodName := ⟨RX8, "loses", "(II)I"⟩
abbrev cX8_keeps : ByteArray := prog_10_method_57_code
def yX8_keeps : MethodName := ⟨RX8, "keeps", "(II)I"⟩
abbrev cX8_unlike : ByteArray := prog_10_method_58_code
def yX8_unlike : MethodName := ⟨RX8, "unlike", "(II)I"⟩
abbrev cX8_best : ByteArray := prog_10_method_59_code
def yX8_best : MethodName := ⟨RX8, "best", "(I)I"⟩
abbrev cX8_gains : ByteArray := prog_10_method_60_code
def yX8_gains : MethodName := ⟨RX8, "gains", "(II)I"⟩
abbrev cX8_wants : ByteArray := prog_10_method_61_code
def yX8_wants : MethodName := ⟨RX8, "wants", "(II)I"⟩
abbrev cX8_findOdds : ByteArray := prog_10_method_62_code
def yX8_findOdds : MethodName := ⟨RX8, "findOdds", "(III)V"⟩
abbrev cX8_mean : ByteArray := prog_10_method_63_code
def yX8_mean : MethodName := ⟨RX8, "mean", "(III)J"⟩
abbrev cX8_luck : ByteArray := prog_10_method_64_code
def yX8_luck : MethodName := ⟨RX8, "luck", "(IIII)J"⟩
abbrev cX8_see : ByteArray := prog_10_method_65_code
def yX8_see : MethodName := ⟨RX8, "see", "(II)I"⟩
abbrev cX8_forget : ByteArray := prog_10_method_66_code
def yX8_forget : MethodName := ⟨RX8, "forget", "(I)I"⟩
abbrev cX8_isSo : ByteArray := prog_10_method_67_code
def yX8_isSo : MethodName := ⟨RX8, "isSo", "()Z"⟩
abbrev cX8_judges : ByteArray := prog_10_method_68_code
def yX8_judges : MethodName := ⟨RX8, "judges", "()I"⟩
abbrev cX8_isHerdSo : ByteArray := prog_10_method_69_code
def yX8_isHerdSo : MethodName := ⟨RX8, "isHerdSo", "(I)Z"⟩
abbrev cX8_isDownSo : ByteArray := prog_10_method_70_code
def yX8_isDownSo : MethodName := ⟨RX8, "isDownSo", "(II)Z"⟩
abbrev cX8_ofThree : ByteArray := prog_10_method_71_code
def yX8_ofThree : MethodName := ⟨RX8, "ofThree", "(IIII)I"⟩
abbrev cX8_herds : ByteArray := prog_10_method_72_code
def yX8_herds : MethodName := ⟨RX8, "herds", "(I)I"⟩
abbrev cX8_downs : ByteArray := prog_10_method_73_code
def yX8_downs : MethodName := ⟨RX8, "downs", "(II)I"⟩
abbrev cX8_ask : ByteArray := prog_10_method_74_code
def yX8_ask : MethodName := ⟨RX8, "ask", "(I)I"⟩
abbrev cX8_drift : ByteArray := prog_10_method_75_code
def yX8_drift : MethodName := ⟨RX8, "drift", "(III)I"⟩
abbrev cX8_copies : ByteArray := prog_10_method_76_code
def yX8_copies : MethodName := ⟨RX8, "copies", "(II)V"⟩
abbrev cX8_keep : ByteArray := prog_10_method_77_code
def yX8_keep : MethodName := ⟨RX8, "keep", "(I)I"⟩
abbrev cX8_back : ByteArray := prog_10_method_78_code
def yX8_back : MethodName := ⟨RX8, "back", "(I)I"⟩
abbrev cX8_isSheet : ByteArray := prog_10_method_79_code
def yX8_isSheet : MethodName := ⟨RX8, "isSheet", "(II)Z"⟩
abbrev cX8_sheet : ByteArray := prog_10_method_80_code
def yX8_sheet : MethodName := ⟨RX8, "sheet", "(III)I"⟩
abbrev cX8_lay : ByteArray := prog_10_method_81_code
def yX8_lay : MethodName := ⟨RX8, "lay", "(III)I"⟩
abbrev cX8_read : ByteArray := prog_10_method_82_code
def yX8_read : MethodName := ⟨RX8, "read", "(IIII)I"⟩
abbrev cX8_torn : ByteArray := prog_10_method_83_code
def yX8_torn : MethodName := ⟨RX8, "torn", "()I"⟩
abbrev cX8_count : ByteArray := prog_10_method_84_code
def yX8_count : MethodName := ⟨RX8, "count", "(I)I"⟩
def RJ13 : String := "java/lang/Long"
def TJ13 : u_T := fun k => match k with
  | _ => ("", "", "", false)
def tyJ13 : Nat → FieldType := fun k => match k with
  | _ => .int
abbrev wsJ130 : List Cond := u_ws RJ13 TJ13 0
theorem nmJ13 : ∀ a, a < 0 → ∀ b, b < 0 → a ≠ b → (TJ13 a).2.1 ≠ (TJ13 b).2.1 := by decide +kernel
theorem tyJ13_ok : ∀ k, k < 0 → parseFieldDescriptor (TJ13 k).2.2.1 = some (tyJ13 k) := by decide +kernel
abbrev cJ13_compare_74951 : ByteArray := prog_11_method_42_code
def yJ13_compare_74951 : MethodName := ⟨RJ13, "compare", "(JJ)I"⟩
def RJ9 : String := "java/lang/Math"
def TJ9 : u_T := fun k => match k with
  | _ => ("", "", "", false)
def tyJ9 : Nat → FieldType := fun k => match k with
  | _ => .int
abbrev wsJ90 : List Cond := u_ws RJ9 TJ9 0
theorem nmJ9 : ∀ a, a < 0 → ∀ b, b < 0 → a ≠ b → (TJ9 a).2.1 ≠ (TJ9 b).2.1 := by decide +kernel
theorem tyJ9_ok : ∀ k, k < 0 → parseFieldDescriptor (TJ9 k).2.2.1 = some (tyJ9 k) := by decide +kernel
abbrev cJ9_abs_067f4 : ByteArray := prog_12_method_61_code
def yJ9_abs_067f4 : MethodName := ⟨RJ9, "abs", "(J)J"⟩
abbrev cJ9_max_7cf53 : ByteArray := prog_12_method_65_code
def yJ9_max_7cf53 : MethodName := ⟨RJ9, "max", "(II)I"⟩
abbrev cJ9_max_f86c9 : ByteArray := prog_12_method_66_code
def yJ9_max_f86c9 : MethodName := ⟨RJ9, "max", "(JJ)J"⟩
abbrev cJ9_min_7cf53 : ByteArray := prog_12_method_69_code
def yJ9_min_7cf53 : MethodName := ⟨RJ9, "min", "(II)I"⟩
abbrev cJ9_min_f86c9 : ByteArray := prog_12_method_70_code
def yJ9_min_f86c9 : MethodName := ⟨RJ9, "min", "(JJ)J"⟩
def RJ0 : String := "java/lang/String"
def TJ0 : u_T := fun k => match k with
  | _ => ("", "", "", false)
def tyJ0 : Nat → FieldType := fun k => match k with
  | _ => .int
abbrev wsJ00 : List Cond := u_ws RJ0 TJ0 0
theorem nmJ0 : ∀ a, a < 0 → ∀ b, b < 0 → a ≠ b → (TJ0 a).2.1 ≠ (TJ0 b).2.1 := by decide +kernel
theorem tyJ0_ok : ∀ k, k < 0 → parseFieldDescriptor (TJ0 k).2.2.1 = some (tyJ0 k) := by decide +kernel
abbrev cJ0_length_8abf5 : ByteArray := prog_13_method_54_code
def yJ0_length_8abf5 : MethodName := ⟨RJ0, "length", "()I"⟩
abbrev cJ0_charAt_5068e : ByteArray := prog_13_method_56_code
def yJ0_charAt_5068e : MethodName := ⟨RJ0, "charAt", "(I)C"⟩
abbrev cJ0_coder_7d493 : ByteArray := prog_13_method_152_code
def yJ0_coder_7d493 : MethodName := ⟨RJ0, "coder", "()B"⟩
abbrev cJ0_isLatin1_aae02 : ByteArray := prog_13_method_154_code
def yJ0_isLatin1_aae02 : MethodName := ⟨RJ0, "isLatin1", "()Z"⟩
abbrev cJ0_checkIndex_df160 : ByteArray := prog_13_method_155_code
def yJ0_checkIndex_df160 : MethodName := ⟨RJ0, "checkIndex", "(II)V"⟩
def RJ1 : String := "java/lang/StringLatin1"
def TJ1 : u_T := fun k => match k with
  | _ => ("", "", "", false)
def tyJ1 : Nat → FieldType := fun k => match k with
  | _ => .int
abbrev wsJ10 : List Cond := u_ws RJ1 TJ1 0
theorem nmJ1 : ∀ a, a < 0 → ∀ b, b < 0 → a ≠ b → (TJ1 a).2.1 ≠ (TJ1 b).2.1 := by decide +kernel
theorem tyJ1_ok : ∀ k, k < 0 → parseFieldDescriptor (TJ1 k).2.2.1 = some (tyJ1 k) := by decide +kernel
abbrev cJ1_charAt_3b067 : ByteArray := prog_14_method_2_code
def yJ1_charAt_3b067 : MethodName := ⟨RJ1, "charAt", "([BI)C"⟩
def RJ2 : String := "java/lang/StringUTF16"
def TJ2 : u_T := fun k => match k with
  | _ => ("", "", "", false)
def tyJ2 : Nat → FieldType := fun k => match k with
  | _ => .int
abbrev wsJ20 : List Cond := u_ws RJ2 TJ2 0
theorem nmJ2 : ∀ a, a < 0 → ∀ b, b < 0 → a ≠ b → (TJ2 a).2.1 ≠ (TJ2 b).2.1 := by decide +kernel
theorem tyJ2_ok : ∀ k, k < 0 → parseFieldDescriptor (TJ2 k).2.2.1 = some (tyJ2 k) := by decide +kernel
abbrev cJ2_getChar_3b067 : ByteArray := prog_15_method_5_code
def yJ2_getChar_3b067 : MethodName := ⟨RJ2, "getChar", "([BI)C"⟩
abbrev cJ2_length_9d52b : ByteArray := prog_15_method_6_code
def yJ2_length_9d52b : MethodName := ⟨RJ2, "length", "([B)I"⟩
abbrev cJ2_charAt_3b067 : ByteArray := prog_15_method_83_code
def yJ2_charAt_3b067 : MethodName := ⟨RJ2, "charAt", "([BI)C"⟩
abbrev cJ2_checkIndex_2214a : ByteArray := prog_15_method_91_code
def yJ2_checkIndex_2214a : MethodName := ⟨RJ2, "checkIndex", "(I[B)V"⟩
def RJ3 : String := "jdk/internal/util/Preconditions"
def TJ3 : u_T := fun k => match k with
  | _ => ("", "", "", false)
def tyJ3 : Nat → FieldType := fun k => match k with
  | _ => .int
abbrev wsJ30 : List Cond := u_ws RJ3 TJ3 0
theorem nmJ3 : ∀ a, a < 0 → ∀ b, b < 0 → a ≠ b → (TJ3 a).2.1 ≠ (TJ3 b).2.1 := by decide +kernel
theorem tyJ3_ok : ∀ k, k < 0 → parseFieldDescriptor (TJ3 k).2.2.1 = some (tyJ3 k) := by decide +kernel
abbrev cJ3_checkIndex_8e157 : ByteArray := prog_16_method_11_code
def yJ3_checkIndex_8e157 : MethodName := ⟨RJ3, "checkIndex", "(IILjava/util/function/BiFunction;)I"⟩
def RL : String := "CamelPartsLaw"
abbrev cL_law : ByteArray := code
def yL_law : MethodName := ⟨RL, "law", "([I)Z"⟩
