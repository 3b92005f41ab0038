section
-- ===== PART A: goes FIRST, ahead of the names: the tables' words, and 'selects' of the private methods out of them =====
/-- a private method of a class that the tables say can be made, by its rows of tables_1 -/
def lw_okq (q : MethodName × Nat) : Prop := (q.1.cls ≠ "java/lang/invoke/MethodHandle" ∧ q.1.cls ≠ "java/lang/invoke/VarHandle") ∧ Cond.instantiable q.1.cls q.2 ∈ tables_1 ∧ Cond.privateMethod q.1 ∈ tables_1 ∧ Cond.instanceMethod q.1 ∈ tables_1
theorem lw_p0 : lw_okq (⟨"CamelParts$Tape", "takeName", "()V"⟩, 6) := ⟨⟨by decide +kernel, by decide +kernel⟩, List.mem_of_getElem? (i := 117) (by decide +kernel), List.mem_of_getElem? (i := 323) (by decide +kernel), List.mem_of_getElem? (i := 324) (by decide +kernel)⟩
theorem lw_p1 : lw_okq (⟨"CamelParts$Tape", "takeNumber", "()V"⟩, 6) := ⟨⟨by decide +kernel, by decide +kernel⟩, List.mem_of_getElem? (i := 117) (by decide +kernel), List.mem_of_getElem? (i := 330) (by decide +kernel), List.mem_of_getElem? (i := 331) (by decide +kernel)⟩
theorem lw_p2 : lw_okq (⟨"CamelParts$Script", "takeToken", "()V"⟩, 9) := ⟨⟨by decide +kernel, by decide +kernel⟩, List.mem_of_getElem? (i := 111) (by decide +kernel), List.mem_of_getElem? (i := 334) (by decide +kernel), List.mem_of_getElem? (i := 335) (by decide +kernel)⟩
theorem lw_p3 : lw_okq (⟨"CamelParts$Script", "refuse", "(I)V"⟩, 9) := ⟨⟨by decide +kernel, by decide +kernel⟩, List.mem_of_getElem? (i := 111) (by decide +kernel), List.mem_of_getElem? (i := 338) (by decide +kernel), List.mem_of_getElem? (i := 339) (by decide +kernel)⟩
theorem lw_p4 : lw_okq (⟨"CamelParts$Script", "takeSemicolon", "()V"⟩, 9) := ⟨⟨by decide +kernel, by decide +kernel⟩, List.mem_of_getElem? (i := 111) (by decide +kernel), List.mem_of_getElem? (i := 342) (by decide +kernel), List.mem_of_getElem? (i := 343) (by decide +kernel)⟩
theorem lw_p5 : lw_okq (⟨"CamelParts$Script", "takeNumber", "()V"⟩, 9) := ⟨⟨by decide +kernel, by decide +kernel⟩, List.mem_of_getElem? (i := 111) (by decide +kernel), List.mem_of_getElem? (i := 346) (by decide +kernel), List.mem_of_getElem? (i := 347) (by decide +kernel)⟩
theorem lw_p6 : lw_okq (⟨"CamelParts$Script", "isInBounds", "(I)Z"⟩, 9) := ⟨⟨by decide +kernel, by decide +kernel⟩, List.mem_of_getElem? (i := 111) (by decide +kernel), List.mem_of_getElem? (i := 350) (by decide +kernel), List.mem_of_getElem? (i := 351) (by decide +kernel)⟩
theorem lw_p7 : lw_okq (⟨"CamelParts$Script", "takeWord", "()V"⟩, 9) := ⟨⟨by decide +kernel, by decide +kernel⟩, List.mem_of_getElem? (i := 111) (by decide +kernel), List.mem_of_getElem? (i := 363) (by decide +kernel), List.mem_of_getElem? (i := 364) (by decide +kernel)⟩
theorem lw_p8 : lw_okq (⟨"CamelParts$Script", "wordOfLine", "()I"⟩, 9) := ⟨⟨by decide +kernel, by decide +kernel⟩, List.mem_of_getElem? (i := 111) (by decide +kernel), List.mem_of_getElem? (i := 367) (by decide +kernel), List.mem_of_getElem? (i := 368) (by decide +kernel)⟩
theorem lw_p9 : lw_okq (⟨"CamelParts$Script", "begin", "(IZI)V"⟩, 9) := ⟨⟨by decide +kernel, by decide +kernel⟩, List.mem_of_getElem? (i := 111) (by decide +kernel), List.mem_of_getElem? (i := 429) (by decide +kernel), List.mem_of_getElem? (i := 430) (by decide +kernel)⟩
theorem lw_p10 : lw_okq (⟨"CamelParts", "partNow", "()LCamelParts$Parting;"⟩, 12) := ⟨⟨by decide +kernel, by decide +kernel⟩, List.mem_of_getElem? (i := 17) (by decide +kernel), List.mem_of_getElem? (i := 458) (by decide +kernel), List.mem_of_getElem? (i := 459) (by decide +kernel)⟩
theorem lw_p11 : lw_okq (⟨"CamelParts", "partOf", "(I)LCamelParts$Parting;"⟩, 12) := ⟨⟨by decide +kernel, by decide +kernel⟩, List.mem_of_getElem? (i := 17) (by decide +kernel), List.mem_of_getElem? (i := 462) (by decide +kernel), List.mem_of_getElem? (i := 463) (by decide +kernel)⟩
theorem lw_p12 : lw_okq (⟨"CamelParts$Parting", "giveTold", "()V"⟩, 9) := ⟨⟨by decide +kernel, by decide +kernel⟩, List.mem_of_getElem? (i := 73) (by decide +kernel), List.mem_of_getElem? (i := 470) (by decide +kernel), List.mem_of_getElem? (i := 471) (by decide +kernel)⟩
theorem lw_p13 : lw_okq (⟨"CamelParts$Parting", "giveByRests", "()V"⟩, 9) := ⟨⟨by decide +kernel, by decide +kernel⟩, List.mem_of_getElem? (i := 73) (by decide +kernel), List.mem_of_getElem? (i := 477) (by decide +kernel), List.mem_of_getElem? (i := 478) (by decide +kernel)⟩
theorem lw_p14 : lw_okq (⟨"CamelParts$Parting", "giveQuotasLess", "(I)V"⟩, 9) := ⟨⟨by decide +kernel, by decide +kernel⟩, List.mem_of_getElem? (i := 73) (by decide +kernel), List.mem_of_getElem? (i := 481) (by decide +kernel), List.mem_of_getElem? (i := 482) (by decide +kernel)⟩
theorem lw_p15 : lw_okq (⟨"CamelParts$Parting", "giveByGreatestRest", "()V"⟩, 9) := ⟨⟨by decide +kernel, by decide +kernel⟩, List.mem_of_getElem? (i := 73) (by decide +kernel), List.mem_of_getElem? (i := 495) (by decide +kernel), List.mem_of_getElem? (i := 496) (by decide +kernel)⟩
def lw_privs_1 : List (MethodName × Nat) := [(⟨"CamelParts$Tape", "takeName", "()V"⟩, 6), (⟨"CamelParts$Tape", "takeNumber", "()V"⟩, 6), (⟨"CamelParts$Script", "takeToken", "()V"⟩, 9), (⟨"CamelParts$Script", "refuse", "(I)V"⟩, 9), (⟨"CamelParts$Script", "takeSemicolon", "()V"⟩, 9), (⟨"CamelParts$Script", "takeNumber", "()V"⟩, 9), (⟨"CamelParts$Script", "isInBounds", "(I)Z"⟩, 9), (⟨"CamelParts$Script", "takeWord", "()V"⟩, 9), (⟨"CamelParts$Script", "wordOfLine", "()I"⟩, 9), (⟨"CamelParts$Script", "begin", "(IZI)V"⟩, 9), (⟨"CamelParts", "partNow", "()LCamelParts$Parting;"⟩, 12), (⟨"CamelParts", "partOf", "(I)LCamelParts$Parting;"⟩, 12), (⟨"CamelParts$Parting", "giveTold", "()V"⟩, 9), (⟨"CamelParts$Parting", "giveByRests", "()V"⟩, 9), (⟨"CamelParts$Parting", "giveQuotasLess", "(I)V"⟩, 9), (⟨"CamelParts$Parting", "giveByGreatestRest", "()V"⟩, 9)]
theorem lw_r1 : ∀ q ∈ lw_privs_1, lw_okq q := List.forall_mem_cons.mpr ⟨lw_p0, List.forall_mem_cons.mpr ⟨lw_p1, List.forall_mem_cons.mpr ⟨lw_p2, List.forall_mem_cons.mpr ⟨lw_p3, List.forall_mem_cons.mpr ⟨lw_p4, List.forall_mem_cons.mpr ⟨lw_p5, List.forall_mem_cons.mpr ⟨lw_p6, List.forall_mem_cons.mpr ⟨lw_p7, List.forall_mem_cons.mpr ⟨lw_p8, List.forall_mem_cons.mpr ⟨lw_p9, List.forall_mem_cons.mpr ⟨lw_p10, List.forall_mem_cons.mpr ⟨lw_p11, List.forall_mem_cons.mpr ⟨lw_p12, List.forall_mem_cons.mpr ⟨lw_p13, List.forall_mem_cons.mpr ⟨lw_p14, List.forall_mem_cons.mpr ⟨lw_p15, fun _ h => absurd h List.not_mem_nil⟩⟩⟩⟩⟩⟩⟩⟩⟩⟩⟩⟩⟩⟩⟩⟩
theorem lw_p16 : lw_okq (⟨"CamelParts$Parting", "giveByRow", "()V"⟩, 9) := ⟨⟨by decide +kernel, by decide +kernel⟩, List.mem_of_getElem? (i := 73) (by decide +kernel), List.mem_of_getElem? (i := 500) (by decide +kernel), List.mem_of_getElem? (i := 501) (by decide +kernel)⟩
theorem lw_p17 : lw_okq (⟨"CamelParts$Parting", "giveNext", "()V"⟩, 9) := ⟨⟨by decide +kernel, by decide +kernel⟩, List.mem_of_getElem? (i := 73) (by decide +kernel), List.mem_of_getElem? (i := 504) (by decide +kernel), List.mem_of_getElem? (i := 505) (by decide +kernel)⟩
theorem lw_p18 : lw_okq (⟨"CamelParts$Parting", "rowDivisor", "(I)I"⟩, 9) := ⟨⟨by decide +kernel, by decide +kernel⟩, List.mem_of_getElem? (i := 73) (by decide +kernel), List.mem_of_getElem? (i := 508) (by decide +kernel), List.mem_of_getElem? (i := 509) (by decide +kernel)⟩
theorem lw_p19 : lw_okq (⟨"CamelParts", "sharedWhole", "(I)I"⟩, 12) := ⟨⟨by decide +kernel, by decide +kernel⟩, List.mem_of_getElem? (i := 17) (by decide +kernel), List.mem_of_getElem? (i := 586) (by decide +kernel), List.mem_of_getElem? (i := 587) (by decide +kernel)⟩
theorem lw_p20 : lw_okq (⟨"CamelParts", "wholePart", "(II)I"⟩, 12) := ⟨⟨by decide +kernel, by decide +kernel⟩, List.mem_of_getElem? (i := 17) (by decide +kernel), List.mem_of_getElem? (i := 590) (by decide +kernel), List.mem_of_getElem? (i := 591) (by decide +kernel)⟩
theorem lw_p21 : lw_okq (⟨"CamelParts$WillSearch", "findDowns", "()V"⟩, 7) := ⟨⟨by decide +kernel, by decide +kernel⟩, List.mem_of_getElem? (i := 182) (by decide +kernel), List.mem_of_getElem? (i := 609) (by decide +kernel), List.mem_of_getElem? (i := 610) (by decide +kernel)⟩
theorem lw_p22 : lw_okq (⟨"CamelParts$WillSearch", "isFound", "()Z"⟩, 7) := ⟨⟨by decide +kernel, by decide +kernel⟩, List.mem_of_getElem? (i := 182) (by decide +kernel), List.mem_of_getElem? (i := 617) (by decide +kernel), List.mem_of_getElem? (i := 618) (by decide +kernel)⟩
theorem lw_p23 : lw_okq (⟨"CamelParts", "getsWithout", "(II)I"⟩, 12) := ⟨⟨by decide +kernel, by decide +kernel⟩, List.mem_of_getElem? (i := 17) (by decide +kernel), List.mem_of_getElem? (i := 673) (by decide +kernel), List.mem_of_getElem? (i := 674) (by decide +kernel)⟩
theorem lw_p24 : lw_okq (⟨"CamelParts", "findHerds", "()V"⟩, 12) := ⟨⟨by decide +kernel, by decide +kernel⟩, List.mem_of_getElem? (i := 17) (by decide +kernel), List.mem_of_getElem? (i := 720) (by decide +kernel), List.mem_of_getElem? (i := 721) (by decide +kernel)⟩
theorem lw_p25 : lw_okq (⟨"CamelParts", "leftAtWorst", "(I)I"⟩, 12) := ⟨⟨by decide +kernel, by decide +kernel⟩, List.mem_of_getElem? (i := 17) (by decide +kernel), List.mem_of_getElem? (i := 744) (by decide +kernel), List.mem_of_getElem? (i := 745) (by decide +kernel)⟩
theorem lw_p26 : lw_okq (⟨"CamelPartsModel", "firstDraft", "()V"⟩, 33) := ⟨⟨by decide +kernel, by decide +kernel⟩, List.mem_of_getElem? (i := 812) (by decide +kernel), List.mem_of_getElem? (i := 818) (by decide +kernel), List.mem_of_getElem? (i := 819) (by decide +kernel)⟩
theorem lw_p27 : lw_okq (⟨"CamelPartsModel", "keepDraft", "()V"⟩, 33) := ⟨⟨by decide +kernel, by decide +kernel⟩, List.mem_of_getElem? (i := 812) (by decide +kernel), List.mem_of_getElem? (i := 822) (by decide +kernel), List.mem_of_getElem? (i := 823) (by decide +kernel)⟩
theorem lw_p28 : lw_okq (⟨"CamelPartsModel", "takes", "()V"⟩, 33) := ⟨⟨by decide +kernel, by decide +kernel⟩, List.mem_of_getElem? (i := 812) (by decide +kernel), List.mem_of_getElem? (i := 942) (by decide +kernel), List.mem_of_getElem? (i := 943) (by decide +kernel)⟩
theorem lw_p29 : lw_okq (⟨"CamelPartsModel", "byteAt", "(I)I"⟩, 33) := ⟨⟨by decide +kernel, by decide +kernel⟩, List.mem_of_getElem? (i := 812) (by decide +kernel), List.mem_of_getElem? (i := 946) (by decide +kernel), List.mem_of_getElem? (i := 947) (by decide +kernel)⟩
theorem lw_p30 : lw_okq (⟨"CamelPartsModel", "needs", "(ZI)V"⟩, 33) := ⟨⟨by decide +kernel, by decide +kernel⟩, List.mem_of_getElem? (i := 812) (by decide +kernel), List.mem_of_getElem? (i := 954) (by decide +kernel), List.mem_of_getElem? (i := 955) (by decide +kernel)⟩
theorem lw_p31 : lw_okq (⟨"CamelPartsModel", "readLine", "()V"⟩, 33) := ⟨⟨by decide +kernel, by decide +kernel⟩, List.mem_of_getElem? (i := 812) (by decide +kernel), List.mem_of_getElem? (i := 958) (by decide +kernel), List.mem_of_getElem? (i := 959) (by decide +kernel)⟩
def lw_privs_2 : List (MethodName × Nat) := [(⟨"CamelParts$Parting", "giveByRow", "()V"⟩, 9), (⟨"CamelParts$Parting", "giveNext", "()V"⟩, 9), (⟨"CamelParts$Parting", "rowDivisor", "(I)I"⟩, 9), (⟨"CamelParts", "sharedWhole", "(I)I"⟩, 12), (⟨"CamelParts", "wholePart", "(II)I"⟩, 12), (⟨"CamelParts$WillSearch", "findDowns", "()V"⟩, 7), (⟨"CamelParts$WillSearch", "isFound", "()Z"⟩, 7), (⟨"CamelParts", "getsWithout", "(II)I"⟩, 12), (⟨"CamelParts", "findHerds", "()V"⟩, 12), (⟨"CamelParts", "leftAtWorst", "(I)I"⟩, 12), (⟨"CamelPartsModel", "firstDraft", "()V"⟩, 33), (⟨"CamelPartsModel", "keepDraft", "()V"⟩, 33), (⟨"CamelPartsModel", "takes", "()V"⟩, 33), (⟨"CamelPartsModel", "byteAt", "(I)I"⟩, 33), (⟨"CamelPartsModel", "needs", "(ZI)V"⟩, 33), (⟨"CamelPartsModel", "readLine", "()V"⟩, 33)]
theorem lw_r2 : ∀ q ∈ lw_privs_2, lw_okq q := List.forall_mem_cons.mpr ⟨lw_p16, List.forall_mem_cons.mpr ⟨lw_p17, List.forall_mem_cons.mpr ⟨lw_p18, List.forall_mem_cons.mpr ⟨lw_p19, List.forall_mem_cons.mpr ⟨lw_p20, List.forall_mem_cons.mpr ⟨lw_p21, List.forall_mem_cons.mpr ⟨lw_p22, List.forall_mem_cons.mpr ⟨lw_p23, List.forall_mem_cons.mpr ⟨lw_p24, List.forall_mem_cons.mpr ⟨lw_p25, List.forall_mem_cons.mpr ⟨lw_p26, List.forall_mem_cons.mpr ⟨lw_p27, List.forall_mem_cons.mpr ⟨lw_p28, List.forall_mem_cons.mpr ⟨lw_p29, List.forall_mem_cons.mpr ⟨lw_p30, List.forall_mem_cons.mpr ⟨lw_p31, fun _ h => absurd h List.not_mem_nil⟩⟩⟩⟩⟩⟩⟩⟩⟩⟩⟩⟩⟩⟩⟩⟩
theorem lw_p32 : lw_okq (⟨"CamelPartsModel", "lineNow", "()I"⟩, 33) := ⟨⟨by decide +kernel, by decide +kernel⟩, List.mem_of_getElem? (i := 812) (by decide +kernel), List.mem_of_getElem? (i := 962) (by decide +kernel), List.mem_of_getElem? (i := 963) (by decide +kernel)⟩
theorem lw_p33 : lw_okq (⟨"CamelPartsModel", "is", "(IIIIII)Z"⟩, 33) := ⟨⟨by decide +kernel, by decide +kernel⟩, List.mem_of_getElem? (i := 812) (by decide +kernel), List.mem_of_getElem? (i := 966) (by decide +kernel), List.mem_of_getElem? (i := 967) (by decide +kernel)⟩
theorem lw_p34 : lw_okq (⟨"CamelPartsModel", "readLineOf", "(I)V"⟩, 33) := ⟨⟨by decide +kernel, by decide +kernel⟩, List.mem_of_getElem? (i := 812) (by decide +kernel), List.mem_of_getElem? (i := 970) (by decide +kernel), List.mem_of_getElem? (i := 971) (by decide +kernel)⟩
theorem lw_p35 : lw_okq (⟨"CamelPartsModel", "readNumber", "(II)I"⟩, 33) := ⟨⟨by decide +kernel, by decide +kernel⟩, List.mem_of_getElem? (i := 812) (by decide +kernel), List.mem_of_getElem? (i := 974) (by decide +kernel), List.mem_of_getElem? (i := 975) (by decide +kernel)⟩
theorem lw_p36 : lw_okq (⟨"CamelPartsModel", "starts", "()V"⟩, 33) := ⟨⟨by decide +kernel, by decide +kernel⟩, List.mem_of_getElem? (i := 812) (by decide +kernel), List.mem_of_getElem? (i := 986) (by decide +kernel), List.mem_of_getElem? (i := 987) (by decide +kernel)⟩
theorem lw_p37 : lw_okq (⟨"CamelPartsModel", "reckons", "()V"⟩, 33) := ⟨⟨by decide +kernel, by decide +kernel⟩, List.mem_of_getElem? (i := 812) (by decide +kernel), List.mem_of_getElem? (i := 990) (by decide +kernel), List.mem_of_getElem? (i := 991) (by decide +kernel)⟩
theorem lw_p38 : lw_okq (⟨"CamelPartsModel", "givesNow", "()V"⟩, 33) := ⟨⟨by decide +kernel, by decide +kernel⟩, List.mem_of_getElem? (i := 812) (by decide +kernel), List.mem_of_getElem? (i := 994) (by decide +kernel), List.mem_of_getElem? (i := 995) (by decide +kernel)⟩
theorem lw_p39 : lw_okq (⟨"CamelPartsModel", "gives", "(II)V"⟩, 33) := ⟨⟨by decide +kernel, by decide +kernel⟩, List.mem_of_getElem? (i := 812) (by decide +kernel), List.mem_of_getElem? (i := 998) (by decide +kernel), List.mem_of_getElem? (i := 999) (by decide +kernel)⟩
theorem lw_p40 : lw_okq (⟨"CamelPartsModel", "givesTold", "(I)V"⟩, 33) := ⟨⟨by decide +kernel, by decide +kernel⟩, List.mem_of_getElem? (i := 812) (by decide +kernel), List.mem_of_getElem? (i := 1002) (by decide +kernel), List.mem_of_getElem? (i := 1003) (by decide +kernel)⟩
theorem lw_p41 : lw_okq (⟨"CamelPartsModel", "givesRests", "(I)V"⟩, 33) := ⟨⟨by decide +kernel, by decide +kernel⟩, List.mem_of_getElem? (i := 812) (by decide +kernel), List.mem_of_getElem? (i := 1006) (by decide +kernel), List.mem_of_getElem? (i := 1007) (by decide +kernel)⟩
theorem lw_p42 : lw_okq (⟨"CamelPartsModel", "givesRow", "(II)V"⟩, 33) := ⟨⟨by decide +kernel, by decide +kernel⟩, List.mem_of_getElem? (i := 812) (by decide +kernel), List.mem_of_getElem? (i := 1010) (by decide +kernel), List.mem_of_getElem? (i := 1011) (by decide +kernel)⟩
theorem lw_p43 : lw_okq (⟨"CamelPartsModel", "allGot", "()I"⟩, 33) := ⟨⟨by decide +kernel, by decide +kernel⟩, List.mem_of_getElem? (i := 812) (by decide +kernel), List.mem_of_getElem? (i := 1014) (by decide +kernel), List.mem_of_getElem? (i := 1015) (by decide +kernel)⟩
theorem lw_p44 : lw_okq (⟨"CamelPartsModel", "isHeir", "(I)Z"⟩, 33) := ⟨⟨by decide +kernel, by decide +kernel⟩, List.mem_of_getElem? (i := 812) (by decide +kernel), List.mem_of_getElem? (i := 1022) (by decide +kernel), List.mem_of_getElem? (i := 1023) (by decide +kernel)⟩
theorem lw_p45 : lw_okq (⟨"CamelPartsModel", "isOff", "(II)Z"⟩, 33) := ⟨⟨by decide +kernel, by decide +kernel⟩, List.mem_of_getElem? (i := 812) (by decide +kernel), List.mem_of_getElem? (i := 1027) (by decide +kernel), List.mem_of_getElem? (i := 1028) (by decide +kernel)⟩
theorem lw_p46 : lw_okq (⟨"CamelPartsModel", "becomes", "(II)I"⟩, 33) := ⟨⟨by decide +kernel, by decide +kernel⟩, List.mem_of_getElem? (i := 812) (by decide +kernel), List.mem_of_getElem? (i := 1062) (by decide +kernel), List.mem_of_getElem? (i := 1063) (by decide +kernel)⟩
theorem lw_p47 : lw_okq (⟨"CamelPartsModel", "dropsNow", "(I)V"⟩, 33) := ⟨⟨by decide +kernel, by decide +kernel⟩, List.mem_of_getElem? (i := 812) (by decide +kernel), List.mem_of_getElem? (i := 1086) (by decide +kernel), List.mem_of_getElem? (i := 1087) (by decide +kernel)⟩
def lw_privs_3 : List (MethodName × Nat) := [(⟨"CamelPartsModel", "lineNow", "()I"⟩, 33), (⟨"CamelPartsModel", "is", "(IIIIII)Z"⟩, 33), (⟨"CamelPartsModel", "readLineOf", "(I)V"⟩, 33), (⟨"CamelPartsModel", "readNumber", "(II)I"⟩, 33), (⟨"CamelPartsModel", "starts", "()V"⟩, 33), (⟨"CamelPartsModel", "reckons", "()V"⟩, 33), (⟨"CamelPartsModel", "givesNow", "()V"⟩, 33), (⟨"CamelPartsModel", "gives", "(II)V"⟩, 33), (⟨"CamelPartsModel", "givesTold", "(I)V"⟩, 33), (⟨"CamelPartsModel", "givesRests", "(I)V"⟩, 33), (⟨"CamelPartsModel", "givesRow", "(II)V"⟩, 33), (⟨"CamelPartsModel", "allGot", "()I"⟩, 33), (⟨"CamelPartsModel", "isHeir", "(I)Z"⟩, 33), (⟨"CamelPartsModel", "isOff", "(II)Z"⟩, 33), (⟨"CamelPartsModel", "becomes", "(II)I"⟩, 33), (⟨"CamelPartsModel", "dropsNow", "(I)V"⟩, 33)]
theorem lw_r3 : ∀ q ∈ lw_privs_3, lw_okq q := List.forall_mem_cons.mpr ⟨lw_p32, List.forall_mem_cons.mpr ⟨lw_p33, List.forall_mem_cons.mpr ⟨lw_p34, List.forall_mem_cons.mpr ⟨lw_p35, List.forall_mem_cons.mpr ⟨lw_p36, List.forall_mem_cons.mpr ⟨lw_p37, List.forall_mem_cons.mpr ⟨lw_p38, List.forall_mem_cons.mpr ⟨lw_p39, List.forall_mem_cons.mpr ⟨lw_p40, List.forall_mem_cons.mpr ⟨lw_p41, List.forall_mem_cons.mpr ⟨lw_p42, List.forall_mem_cons.mpr ⟨lw_p43, List.forall_mem_cons.mpr ⟨lw_p44, List.forall_mem_cons.mpr ⟨lw_p45, List.forall_mem_cons.mpr ⟨lw_p46, List.forall_mem_cons.mpr ⟨lw_p47, fun _ h => absurd h List.not_mem_nil⟩⟩⟩⟩⟩⟩⟩⟩⟩⟩⟩⟩⟩⟩⟩⟩
theorem lw_p48 : lw_okq (⟨"CamelPartsModel", "isWhole", "(II)Z"⟩, 33) := ⟨⟨by decide +kernel, by decide +kernel⟩, List.mem_of_getElem? (i := 812) (by decide +kernel), List.mem_of_getElem? (i := 1094) (by decide +kernel), List.mem_of_getElem? (i := 1095) (by decide +kernel)⟩
theorem lw_p49 : lw_okq (⟨"CamelPartsModel", "walksWills", "(III)Z"⟩, 33) := ⟨⟨by decide +kernel, by decide +kernel⟩, List.mem_of_getElem? (i := 812) (by decide +kernel), List.mem_of_getElem? (i := 1110) (by decide +kernel), List.mem_of_getElem? (i := 1111) (by decide +kernel)⟩
theorem lw_p50 : lw_okq (⟨"CamelPartsModel", "remembers", "()V"⟩, 33) := ⟨⟨by decide +kernel, by decide +kernel⟩, List.mem_of_getElem? (i := 812) (by decide +kernel), List.mem_of_getElem? (i := 1131) (by decide +kernel), List.mem_of_getElem? (i := 1132) (by decide +kernel)⟩
theorem lw_p51 : lw_okq (⟨"CamelPartsModel", "firstOff", "(I)I"⟩, 33) := ⟨⟨by decide +kernel, by decide +kernel⟩, List.mem_of_getElem? (i := 812) (by decide +kernel), List.mem_of_getElem? (i := 1139) (by decide +kernel), List.mem_of_getElem? (i := 1140) (by decide +kernel)⟩
theorem lw_p52 : lw_okq (⟨"CamelPartsModel", "findOdds", "(III)V"⟩, 33) := ⟨⟨by decide +kernel, by decide +kernel⟩, List.mem_of_getElem? (i := 812) (by decide +kernel), List.mem_of_getElem? (i := 1165) (by decide +kernel), List.mem_of_getElem? (i := 1166) (by decide +kernel)⟩
theorem lw_p53 : lw_okq (⟨"CamelPartsModel", "isSo", "()Z"⟩, 33) := ⟨⟨by decide +kernel, by decide +kernel⟩, List.mem_of_getElem? (i := 812) (by decide +kernel), List.mem_of_getElem? (i := 1185) (by decide +kernel), List.mem_of_getElem? (i := 1186) (by decide +kernel)⟩
theorem lw_p54 : lw_okq (⟨"CamelPartsModel", "isHerdSo", "(I)Z"⟩, 33) := ⟨⟨by decide +kernel, by decide +kernel⟩, List.mem_of_getElem? (i := 812) (by decide +kernel), List.mem_of_getElem? (i := 1194) (by decide +kernel), List.mem_of_getElem? (i := 1195) (by decide +kernel)⟩
theorem lw_p55 : lw_okq (⟨"CamelPartsModel", "ofThree", "(IIII)I"⟩, 33) := ⟨⟨by decide +kernel, by decide +kernel⟩, List.mem_of_getElem? (i := 812) (by decide +kernel), List.mem_of_getElem? (i := 1198) (by decide +kernel), List.mem_of_getElem? (i := 1199) (by decide +kernel)⟩
theorem lw_p56 : lw_okq (⟨"CamelPartsModel", "isDownSo", "(II)Z"⟩, 33) := ⟨⟨by decide +kernel, by decide +kernel⟩, List.mem_of_getElem? (i := 812) (by decide +kernel), List.mem_of_getElem? (i := 1206) (by decide +kernel), List.mem_of_getElem? (i := 1207) (by decide +kernel)⟩
theorem lw_p57 : lw_okq (⟨"CamelPartsModel", "copies", "(II)V"⟩, 33) := ⟨⟨by decide +kernel, by decide +kernel⟩, List.mem_of_getElem? (i := 812) (by decide +kernel), List.mem_of_getElem? (i := 1224) (by decide +kernel), List.mem_of_getElem? (i := 1225) (by decide +kernel)⟩
def lw_privs_4 : List (MethodName × Nat) := [(⟨"CamelPartsModel", "isWhole", "(II)Z"⟩, 33), (⟨"CamelPartsModel", "walksWills", "(III)Z"⟩, 33), (⟨"CamelPartsModel", "remembers", "()V"⟩, 33), (⟨"CamelPartsModel", "firstOff", "(I)I"⟩, 33), (⟨"CamelPartsModel", "findOdds", "(III)V"⟩, 33), (⟨"CamelPartsModel", "isSo", "()Z"⟩, 33), (⟨"CamelPartsModel", "isHerdSo", "(I)Z"⟩, 33), (⟨"CamelPartsModel", "ofThree", "(IIII)I"⟩, 33), (⟨"CamelPartsModel", "isDownSo", "(II)Z"⟩, 33), (⟨"CamelPartsModel", "copies", "(II)V"⟩, 33)]
theorem lw_r4 : ∀ q ∈ lw_privs_4, lw_okq q := List.forall_mem_cons.mpr ⟨lw_p48, List.forall_mem_cons.mpr ⟨lw_p49, List.forall_mem_cons.mpr ⟨lw_p50, List.forall_mem_cons.mpr ⟨lw_p51, List.forall_mem_cons.mpr ⟨lw_p52, List.forall_mem_cons.mpr ⟨lw_p53, List.forall_mem_cons.mpr ⟨lw_p54, List.forall_mem_cons.mpr ⟨lw_p55, List.forall_mem_cons.mpr ⟨lw_p56, List.forall_mem_cons.mpr ⟨lw_p57, fun _ h => absurd h List.not_mem_nil⟩⟩⟩⟩⟩⟩⟩⟩⟩⟩
def lw_privs : List (MethodName × Nat) := lw_privs_1 ++ (lw_privs_2 ++ (lw_privs_3 ++ (lw_privs_4)))
def lw_tbl : List Cond := k2_sels lw_privs ++ tables_1
theorem lw_privs_ok : ∀ q ∈ lw_privs, lw_okq q := by
  show ∀ q ∈ lw_privs_1 ++ (lw_privs_2 ++ (lw_privs_3 ++ (lw_privs_4))), lw_okq q
  exact List.forall_mem_append.mpr ⟨lw_r1, List.forall_mem_append.mpr ⟨lw_r2, List.forall_mem_append.mpr ⟨lw_r3, lw_r4⟩⟩⟩
/-! ===== BEGIN printed: names, fields, word lists, decode rows ===== -/
def RX0 : String := "CamelParts$Estate"
def TX0 : u_T := fun k => match k with
  | 0 => ("CamelParts$Estate", "camels", "I", false)
  | 1 => ("CamelParts$Estate", "kind", "I", false)
  | 2 => ("CamelParts$Estate", "heirs", "I", false)
  | 3 => ("CamelParts$Estate", "seen", "I", false)
  | 4 => ("CamelParts$Estate", "ups", "[I", true)
  | 5 => ("CamelParts$Estate", "downs", "[I", true)
  | 6 => ("CamelParts$Estate", "seenHeirs", "[I", true)
  | _ => ("CamelParts$Estate", "seenCamels", "[I", true)
def tyX0 : Nat → FieldType := fun k => match k with
  | 0 => .int
  | 1 => .int
  | 2 => .int
  | 3 => .int
  | 4 => .array .int
  | 5 => .array .int
  | 6 => .array .int
  | _ => .array .int
abbrev wsX00 : List Cond := u_ws RX0 TX0 8
theorem nmX0 : ∀ a, a < 8 → ∀ b, b < 8 → a ≠ b → (TX0 a).2.1 ≠ (TX0 b).2.1 := by decide +kernel
theorem tyX0_ok : ∀ k, k < 8 → parseFieldDescriptor (TX0 k).2.2.1 = some (tyX0 k) := by decide +kernel
abbrev cX0_init : ByteArray := prog_2_method_1_code
def yX0_init : MethodName := ⟨RX0, "<init>", "()V"⟩
abbrev cX0_clear : ByteArray := prog_2_method_2_code
def yX0_clear : MethodName := ⟨RX0, "clear", "()V"⟩
abbrev cX0_copy : ByteArray := prog_2_method_3_code
def yX0_copy : MethodName := ⟨RX0, "copy", "(LCamelParts$Estate;)V"⟩
abbrev cX0_has : ByteArray := prog_2_method_4_code
def yX0_has : MethodName := ⟨RX0, "has", "(I)Z"⟩
abbrev cX0_add : ByteArray := prog_2_method_5_code
def yX0_add : MethodName := ⟨RX0, "add", "(II)I"⟩
abbrev cX0_remove : ByteArray := prog_2_method_6_code
def yX0_remove : MethodName := ⟨RX0, "remove", "(I)V"⟩
abbrev cX0_addSeen : ByteArray := prog_2_method_7_code
def yX0_addSeen : MethodName := ⟨RX0, "addSeen", "(II)I"⟩
def RX1 : String := "CamelParts$Finds"
def TX1 : u_T := fun k => match k with
  | 0 => ("CamelParts$Finds", "number", "I", false)
  | 1 => ("CamelParts$Finds", "least", "I", false)
  | _ => ("CamelParts$Finds", "greatest", "I", false)
def tyX1 : Nat → FieldType := fun k => match k with
  | 0 => .int
  | 1 => .int
  | _ => .int
abbrev wsX10 : List Cond := u_ws RX1 TX1 3
theorem nmX1 : ∀ a, a < 3 → ∀ b, b < 3 → a ≠ b → (TX1 a).2.1 ≠ (TX1 b).2.1 := by decide +kernel
theorem tyX1_ok : ∀ k, k < 3 → parseFieldDescriptor (TX1 k).2.2.1 = some (tyX1 k) := by decide +kernel
abbrev cX1_init : ByteArray := prog_3_method_1_code
def yX1_init : MethodName := ⟨RX1, "<init>", "()V"⟩
abbrev cX1_clear : ByteArray := prog_3_method_2_code
def yX1_clear : MethodName := ⟨RX1, "clear", "()V"⟩
abbrev cX1_note : ByteArray := prog_3_method_3_code
def yX1_note : MethodName := ⟨RX1, "note", "(I)V"⟩
abbrev cX1_answer : ByteArray := prog_3_method_4_code
def yX1_answer : MethodName := ⟨RX1, "answer", "(I)I"⟩
def RX2 : String := "CamelParts$Parting"
def TX2 : u_T := fun k => match k with
  | 0 => ("CamelParts$Parting", "common", "J", false)
  | 1 => ("CamelParts$Parting", "all", "J", false)
  | 2 => ("CamelParts$Parting", "weights", "[J", true)
  | 3 => ("CamelParts$Parting", "rests", "[J", true)
  | 4 => ("CamelParts$Parting", "gets", "[I", true)
  | 5 => ("CamelParts$Parting", "gotBefore", "[I", true)
  | 6 => ("CamelParts$Parting", "heirs", "I", false)
  | 7 => ("CamelParts$Parting", "kind", "I", false)
  | _ => ("CamelParts$Parting", "camels", "I", false)
def tyX2 : Nat → FieldType := fun k => match k with
  | 0 => .long
  | 1 => .long
  | 2 => .array .long
  | 3 => .array .long
  | 4 => .array .int
  | 5 => .array .int
  | 6 => .int
  | 7 => .int
  | _ => .int
abbrev wsX20 : List Cond := u_ws RX2 TX2 9
theorem nmX2 : ∀ a, a < 9 → ∀ b, b < 9 → a ≠ b → (TX2 a).2.1 ≠ (TX2 b).2.1 := by decide +kernel
theorem tyX2_ok : ∀ k, k < 9 → parseFieldDescriptor (TX2 k).2.2.1 = some (tyX2 k) := by decide +kernel
abbrev cX2_init : ByteArray := prog_4_method_1_code
def yX2_init : MethodName := ⟨RX2, "<init>", "()V"⟩
abbrev cX2_load : ByteArray := prog_4_method_2_code
def yX2_load : MethodName := ⟨RX2, "load", "(LCamelParts$Estate;)V"⟩
abbrev cX2_part : ByteArray := prog_4_method_3_code
def yX2_part : MethodName := ⟨RX2, "part", "(II)V"⟩
abbrev cX2_grow : ByteArray := prog_4_method_4_code
def yX2_grow : MethodName := ⟨RX2, "grow", "()V"⟩
abbrev cX2_got : ByteArray := prog_4_method_5_code
def yX2_got : MethodName := ⟨RX2, "got", "(I)I"⟩
abbrev cX2_given : ByteArray := prog_4_method_6_code
def yX2_given : MethodName := ⟨RX2, "given", "()I"⟩
abbrev cX2_isOff : ByteArray := prog_4_method_7_code
def yX2_isOff : MethodName := ⟨RX2, "isOff", "(I)Z"⟩
abbrev cX2_firstOff : ByteArray := prog_4_method_8_code
def yX2_firstOff : MethodName := ⟨RX2, "firstOff", "()I"⟩
abbrev cX2_firstLoser : ByteArray := prog_4_method_9_code
def yX2_firstLoser : MethodName := ⟨RX2, "firstLoser", "()I"⟩
abbrev cX2_givesAs : ByteArray := prog_4_method_10_code
def yX2_givesAs : MethodName := ⟨RX2, "givesAs", "(LCamelParts$Parting;)Z"⟩
abbrev cX2_isAsSeen : ByteArray := prog_4_method_11_code
def yX2_isAsSeen : MethodName := ⟨RX2, "isAsSeen", "(LCamelParts$Estate;)Z"⟩
abbrev cX2_giveTold : ByteArray := prog_4_method_12_code
def yX2_giveTold : MethodName := ⟨RX2, "giveTold", "()V"⟩
abbrev cX2_giveByRests : ByteArray := prog_4_method_13_code
def yX2_giveByRests : MethodName := ⟨RX2, "giveByRests", "()V"⟩
abbrev cX2_giveByGreatestRest : ByteArray := prog_4_method_14_code
def yX2_giveByGreatestRest : MethodName := ⟨RX2, "giveByGreatestRest", "()V"⟩
abbrev cX2_giveByRow : ByteArray := prog_4_method_15_code
def yX2_giveByRow : MethodName := ⟨RX2, "giveByRow", "()V"⟩
abbrev cX2_giveQuotasLess : ByteArray := prog_4_method_16_code
def yX2_giveQuotasLess : MethodName := ⟨RX2, "giveQuotasLess", "(I)V"⟩
abbrev cX2_giveNext : ByteArray := prog_4_method_17_code
def yX2_giveNext : MethodName := ⟨RX2, "giveNext", "()V"⟩
abbrev cX2_rowDivisor : ByteArray := prog_4_method_18_code
def yX2_rowDivisor : MethodName := ⟨RX2, "rowDivisor", "(I)I"⟩
def RX3 : String := "CamelParts$Script"
def TX3 : u_T := fun k => match k with
  | 0 => ("CamelParts$Script", "tape", "LCamelParts$Tape;", true)
  | 1 => ("CamelParts$Script", "draft", "LCamelParts$Estate;", true)
  | 2 => ("CamelParts$Script", "lines", "I", false)
  | 3 => ("CamelParts$Script", "flaw", "I", false)
  | 4 => ("CamelParts$Script", "place", "I", false)
  | 5 => ("CamelParts$Script", "awaited", "I", false)
  | 6 => ("CamelParts$Script", "up", "I", false)
  | 7 => ("CamelParts$Script", "hasHerd", "Z", false)
  | _ => ("CamelParts$Script", "hasJudge", "Z", false)
def tyX3 : Nat → FieldType := fun k => match k with
  | 0 => .object "CamelParts$Tape"
  | 1 => .object "CamelParts$Estate"
  | 2 => .int
  | 3 => .int
  | 4 => .int
  | 5 => .int
  | 6 => .int
  | 7 => .boolean
  | _ => .boolean
abbrev wsX30 : List Cond := u_ws RX3 TX3 9
theorem nmX3 : ∀ a, a < 9 → ∀ b, b < 9 → a ≠ b → (TX3 a).2.1 ≠ (TX3 b).2.1 := by decide +kernel
theorem tyX3_ok : ∀ k, k < 9 → parseFieldDescriptor (TX3 k).2.2.1 = some (tyX3 k) := by decide +kernel
abbrev cX3_init : ByteArray := prog_5_method_1_code
def yX3_init : MethodName := ⟨RX3, "<init>", "()V"⟩
abbrev cX3_parse : ByteArray := prog_5_method_2_code
def yX3_parse : MethodName := ⟨RX3, "parse", "()V"⟩
abbrev cX3_takeToken : ByteArray := prog_5_method_3_code
def yX3_takeToken : MethodName := ⟨RX3, "takeToken", "()V"⟩
abbrev cX3_takeWord : ByteArray := prog_5_method_4_code
def yX3_takeWord : MethodName := ⟨RX3, "takeWord", "()V"⟩
abbrev cX3_begin : ByteArray := prog_5_method_5_code
def yX3_begin : MethodName := ⟨RX3, "begin", "(IZI)V"⟩
abbrev cX3_wordOfLine : ByteArray := prog_5_method_6_code
def yX3_wordOfLine : MethodName := ⟨RX3, "wordOfLine", "()I"⟩
abbrev cX3_takeNumber : ByteArray := prog_5_method_7_code
def yX3_takeNumber : MethodName := ⟨RX3, "takeNumber", "()V"⟩
abbrev cX3_isInBounds : ByteArray := prog_5_method_8_code
def yX3_isInBounds : MethodName := ⟨RX3, "isInBounds", "(I)Z"⟩
abbrev cX3_takeSemicolon : ByteArray := prog_5_method_9_code
def yX3_takeSemicolon : MethodName := ⟨RX3, "takeSemicolon", "()V"⟩
abbrev cX3_refuse : ByteArray := prog_5_method_10_code
def yX3_refuse : MethodName := ⟨RX3, "refuse", "(I)V"⟩
def RX4 : String := "CamelParts$Sheet"
def TX4 : u_T := fun k => match k with
  | 0 => ("CamelParts$Sheet", "size", "I", false)
  | 1 => ("CamelParts$Sheet", "lane", "I", false)
  | _ => ("CamelParts$Sheet", "cells", "[I", true)
def tyX4 : Nat → FieldType := fun k => match k with
  | 0 => .int
  | 1 => .int
  | _ => .array .int
abbrev wsX40 : List Cond := u_ws RX4 TX4 3
theorem nmX4 : ∀ a, a < 3 → ∀ b, b < 3 → a ≠ b → (TX4 a).2.1 ≠ (TX4 b).2.1 := by decide +kernel
theorem tyX4_ok : ∀ k, k < 3 → parseFieldDescriptor (TX4 k).2.2.1 = some (tyX4 k) := by decide +kernel
abbrev cX4_init : ByteArray := prog_6_method_1_code
def yX4_init : MethodName := ⟨RX4, "<init>", "()V"⟩
abbrev cX4_renew : ByteArray := prog_6_method_2_code
def yX4_renew : MethodName := ⟨RX4, "renew", "(II)V"⟩
abbrev cX4_flawAt : ByteArray := prog_6_method_3_code
def yX4_flawAt : MethodName := ⟨RX4, "flawAt", "(I)I"⟩
abbrev cX4_pairFlaw : ByteArray := prog_6_method_4_code
def yX4_pairFlaw : MethodName := ⟨RX4, "pairFlaw", "(II)I"⟩
abbrev cX4_cell : ByteArray := prog_6_method_5_code
def yX4_cell : MethodName := ⟨RX4, "cell", "(I)I"⟩
abbrev cX4_put : ByteArray := prog_6_method_6_code
def yX4_put : MethodName := ⟨RX4, "put", "(II)V"⟩
def RX5 : String := "CamelParts$Tape"
def TX5 : u_T := fun k => match k with
  | 0 => ("CamelParts$Tape", "length", "I", false)
  | 1 => ("CamelParts$Tape", "sort", "I", false)
  | 2 => ("CamelParts$Tape", "start", "I", false)
  | 3 => ("CamelParts$Tape", "value", "I", false)
  | 4 => ("CamelParts$Tape", "next", "I", false)
  | _ => ("CamelParts$Tape", "bytes", "[B", true)
def tyX5 : Nat → FieldType := fun k => match k with
  | 0 => .int
  | 1 => .int
  | 2 => .int
  | 3 => .int
  | 4 => .int
  | _ => .array .byte
abbrev wsX50 : List Cond := u_ws RX5 TX5 6
theorem nmX5 : ∀ a, a < 6 → ∀ b, b < 6 → a ≠ b → (TX5 a).2.1 ≠ (TX5 b).2.1 := by decide +kernel
theorem tyX5_ok : ∀ k, k < 6 → parseFieldDescriptor (TX5 k).2.2.1 = some (tyX5 k) := by decide +kernel
abbrev cX5_init : ByteArray := prog_7_method_1_code
def yX5_init : MethodName := ⟨RX5, "<init>", "()V"⟩
abbrev cX5_append : ByteArray := prog_7_method_2_code
def yX5_append : MethodName := ⟨RX5, "append", "(I)I"⟩
abbrev cX5_rewind : ByteArray := prog_7_method_3_code
def yX5_rewind : MethodName := ⟨RX5, "rewind", "()V"⟩
abbrev cX5_advance : ByteArray := prog_7_method_4_code
def yX5_advance : MethodName := ⟨RX5, "advance", "()V"⟩
abbrev cX5_isName : ByteArray := prog_7_method_5_code
def yX5_isName : MethodName := ⟨RX5, "isName", "(Ljava/lang/String;)Z"⟩
abbrev cX5_takeName : ByteArray := prog_7_method_6_code
def yX5_takeName : MethodName := ⟨RX5, "takeName", "()V"⟩
abbrev cX5_takeNumber : ByteArray := prog_7_method_7_code
def yX5_takeNumber : MethodName := ⟨RX5, "takeNumber", "()V"⟩
abbrev cX5_isLetter : ByteArray := prog_7_method_8_code
def yX5_isLetter : MethodName := ⟨RX5, "isLetter", "(I)Z"⟩
abbrev cX5_isFigure : ByteArray := prog_7_method_9_code
def yX5_isFigure : MethodName := ⟨RX5, "isFigure", "(I)Z"⟩
def RX6 : String := "CamelParts$WillSearch"
def TX6 : u_T := fun k => match k with
  | 0 => ("CamelParts$WillSearch", "found", "I", false)
  | 1 => ("CamelParts$WillSearch", "row", "[I", true)
  | 2 => ("CamelParts$WillSearch", "downs", "[I", true)
  | 3 => ("CamelParts$WillSearch", "downsFound", "I", false)
  | 4 => ("CamelParts$WillSearch", "camels", "I", false)
  | 5 => ("CamelParts$WillSearch", "heirs", "I", false)
  | _ => ("CamelParts$WillSearch", "sought", "I", false)
def tyX6 : Nat → FieldType := fun k => match k with
  | 0 => .int
  | 1 => .array .int
  | 2 => .array .int
  | 3 => .int
  | 4 => .int
  | 5 => .int
  | _ => .int
abbrev wsX60 : List Cond := u_ws RX6 TX6 7
theorem nmX6 : ∀ a, a < 7 → ∀ b, b < 7 → a ≠ b → (TX6 a).2.1 ≠ (TX6 b).2.1 := by decide +kernel
theorem tyX6_ok : ∀ k, k < 7 → parseFieldDescriptor (TX6 k).2.2.1 = some (tyX6 k) := by decide +kernel
abbrev cX6_init : ByteArray := prog_8_method_1_code
def yX6_init : MethodName := ⟨RX6, "<init>", "()V"⟩
abbrev cX6_run : ByteArray := prog_8_method_2_code
def yX6_run : MethodName := ⟨RX6, "run", "(IIII)V"⟩
abbrev cX6_findDowns : ByteArray := prog_8_method_3_code
def yX6_findDowns : MethodName := ⟨RX6, "findDowns", "()V"⟩
abbrev cX6_choose : ByteArray := prog_8_method_4_code
def yX6_choose : MethodName := ⟨RX6, "choose", "(LCamelParts$WillSearch;III)V"⟩
abbrev cX6_isFound : ByteArray := prog_8_method_5_code
def yX6_isFound : MethodName := ⟨RX6, "isFound", "()Z"⟩
def RX7 : String := "CamelParts"
def TX7 : u_T := fun k => match k with
  | 0 => ("CamelParts", "estate", "LCamelParts$Estate;", true)
  | 1 => ("CamelParts", "scratch", "LCamelParts$Estate;", true)
  | 2 => ("CamelParts", "images", "[LCamelParts$Estate;", true)
  | 3 => ("CamelParts", "kept", "[Z", true)
  | 4 => ("CamelParts", "parting", "LCamelParts$Parting;", true)
  | 5 => ("CamelParts", "rival", "LCamelParts$Parting;", true)
  | 6 => ("CamelParts", "script", "LCamelParts$Script;", true)
  | 7 => ("CamelParts", "search", "LCamelParts$WillSearch;", true)
  | 8 => ("CamelParts", "finds", "LCamelParts$Finds;", true)
  | 9 => ("CamelParts", "tally", "[I", true)
  | 10 => ("CamelParts", "sheets", "[LCamelParts$Sheet;", true)
  | _ => ("CamelParts", "tornBy", "I", false)
def tyX7 : Nat → FieldType := fun k => match k with
  | 0 => .object "CamelParts$Estate"
  | 1 => .object "CamelParts$Estate"
  | 2 => .array (.object "CamelParts$Estate")
  | 3 => .array .boolean
  | 4 => .object "CamelParts$Parting"
  | 5 => .object "CamelParts$Parting"
  | 6 => .object "CamelParts$Script"
  | 7 => .object "CamelParts$WillSearch"
  | 8 => .object "CamelParts$Finds"
  | 9 => .array .int
  | 10 => .array (.object "CamelParts$Sheet")
  | _ => .int
abbrev wsX70 : List Cond := u_ws RX7 TX7 12
theorem nmX7 : ∀ a, a < 12 → ∀ b, b < 12 → a ≠ b → (TX7 a).2.1 ≠ (TX7 b).2.1 := by decide +kernel
theorem tyX7_ok : ∀ k, k < 12 → parseFieldDescriptor (TX7 k).2.2.1 = some (tyX7 k) := by decide +kernel
abbrev cX7_init : ByteArray := prog_1_method_1_code
def yX7_init : MethodName := ⟨RX7, "<init>", "()V"⟩
abbrev cX7_feed : ByteArray := prog_1_method_2_code
def yX7_feed : MethodName := ⟨RX7, "feed", "(I)I"⟩
abbrev cX7_end : ByteArray := prog_1_method_3_code
def yX7_end : MethodName := ⟨RX7, "end", "(I)I"⟩
abbrev cX7_text : ByteArray := prog_1_method_4_code
def yX7_text : MethodName := ⟨RX7, "text", "()I"⟩
abbrev cX7_fault : ByteArray := prog_1_method_5_code
def yX7_fault : MethodName := ⟨RX7, "fault", "()I"⟩
abbrev cX7_rule : ByteArray := prog_1_method_6_code
def yX7_rule : MethodName := ⟨RX7, "rule", "(I)I"⟩
abbrev cX7_heir : ByteArray := prog_1_method_7_code
def yX7_heir : MethodName := ⟨RX7, "heir", "(II)I"⟩
abbrev cX7_told : ByteArray := prog_1_method_8_code
def yX7_told : MethodName := ⟨RX7, "told", "(II)J"⟩
abbrev cX7_sum : ByteArray := prog_1_method_9_code
def yX7_sum : MethodName := ⟨RX7, "sum", "(I)J"⟩
abbrev cX7_over : ByteArray := prog_1_method_10_code
def yX7_over : MethodName := ⟨RX7, "over", "(II)J"⟩
abbrev cX7_alter : ByteArray := prog_1_method_11_code
def yX7_alter : MethodName := ⟨RX7, "alter", "(III)I"⟩
abbrev cX7_herd : ByteArray := prog_1_method_12_code
def yX7_herd : MethodName := ⟨RX7, "herd", "(I)I"⟩
abbrev cX7_judge : ByteArray := prog_1_method_13_code
def yX7_judge : MethodName := ⟨RX7, "judge", "(I)I"⟩
abbrev cX7_bear : ByteArray := prog_1_method_14_code
def yX7_bear : MethodName := ⟨RX7, "bear", "(II)I"⟩
abbrev cX7_dies : ByteArray := prog_1_method_15_code
def yX7_dies : MethodName := ⟨RX7, "dies", "(I)I"⟩
abbrev cX7_lend : ByteArray := prog_1_method_16_code
def yX7_lend : MethodName := ⟨RX7, "lend", "(I)I"⟩
abbrev cX7_share : ByteArray := prog_1_method_17_code
def yX7_share : MethodName := ⟨RX7, "share", "(II)I"⟩
abbrev cX7_wills : ByteArray := prog_1_method_18_code
def yX7_wills : MethodName := ⟨RX7, "wills", "(II)I"⟩
abbrev cX7_will : ByteArray := prog_1_method_19_code
def yX7_will : MethodName := ⟨RX7, "will", "(IIII)I"⟩
abbrev cX7_by : ByteArray := prog_1_method_20_code
def yX7_by : MethodName := ⟨RX7, "by", "(II)I"⟩
abbrev cX7_of : ByteArray := prog_1_method_21_code
def yX7_of : MethodName := ⟨RX7, "of", "(II)I"⟩
abbrev cX7_loses : ByteArray := prog_1_method_22_code
def yX7_loses : MethodName := ⟨RX7, "loses", "(II)I"⟩
abbrev cX7_keeps : ByteArray := prog_1_method_23_code
def yX7_keeps : MethodName := ⟨RX7, "keeps", "(II)I"⟩
abbrev cX7_unlike : ByteArray := prog_1_method_24_code
def yX7_unlike : MethodName := ⟨RX7, "unlike", "(II)I"⟩
abbrev cX7_best : ByteArray := prog_1_method_25_code
def yX7_best : MethodName := ⟨RX7, "best", "(I)I"⟩
abbrev cX7_gains : ByteArray := prog_1_method_26_code
def yX7_gains : MethodName := ⟨RX7, "gains", "(II)I"⟩
abbrev cX7_wants : ByteArray := prog_1_method_27_code
def yX7_wants : MethodName := ⟨RX7, "wants", "(II)I"⟩
abbrev cX7_mean : ByteArray := prog_1_method_28_code
def yX7_mean : MethodName := ⟨RX7, "mean", "(III)J"⟩
abbrev cX7_luck : ByteArray := prog_1_method_29_code
def yX7_luck : MethodName := ⟨RX7, "luck", "(IIII)J"⟩
abbrev cX7_see : ByteArray := prog_1_method_30_code
def yX7_see : MethodName := ⟨RX7, "see", "(II)I"⟩
abbrev cX7_forget : ByteArray := prog_1_method_31_code
def yX7_forget : MethodName := ⟨RX7, "forget", "(I)I"⟩
abbrev cX7_judges : ByteArray := prog_1_method_32_code
def yX7_judges : MethodName := ⟨RX7, "judges", "()I"⟩
abbrev cX7_herds : ByteArray := prog_1_method_33_code
def yX7_herds : MethodName := ⟨RX7, "herds", "(I)I"⟩
abbrev cX7_downs : ByteArray := prog_1_method_34_code
def yX7_downs : MethodName := ⟨RX7, "downs", "(II)I"⟩
abbrev cX7_ask : ByteArray := prog_1_method_35_code
def yX7_ask : MethodName := ⟨RX7, "ask", "(I)I"⟩
abbrev cX7_drift : ByteArray := prog_1_method_36_code
def yX7_drift : MethodName := ⟨RX7, "drift", "(III)I"⟩
abbrev cX7_keep : ByteArray := prog_1_method_37_code
def yX7_keep : MethodName := ⟨RX7, "keep", "(I)I"⟩
abbrev cX7_back : ByteArray := prog_1_method_38_code
def yX7_back : MethodName := ⟨RX7, "back", "(I)I"⟩
abbrev cX7_sheet : ByteArray := prog_1_method_39_code
def yX7_sheet : MethodName := ⟨RX7, "sheet", "(III)I"⟩
abbrev cX7_lay : ByteArray := prog_1_method_40_code
def yX7_lay : MethodName := ⟨RX7, "lay", "(III)I"⟩
abbrev cX7_read : ByteArray := prog_1_method_41_code
def yX7_read : MethodName := ⟨RX7, "read", "(IIII)I"⟩
abbrev cX7_torn : ByteArray := prog_1_method_42_code
def yX7_torn : MethodName := ⟨RX7, "torn", "()I"⟩
abbrev cX7_count : ByteArray := prog_1_method_43_code
def yX7_count : MethodName := ⟨RX7, "count", "(I)I"⟩
abbrev cX7_within : ByteArray := prog_1_method_44_code
def yX7_within : MethodName := ⟨RX7, "within", "(III)Z"⟩
abbrev cX7_isHerd : ByteArray := prog_1_method_45_code
def yX7_isHerd : MethodName := ⟨RX7, "isHerd", "(I)Z"⟩
abbrev cX7_isKind : ByteArray := prog_1_method_46_code
def yX7_isKind : MethodName := ⟨RX7, "isKind", "(I)Z"⟩
abbrev cX7_isSheet : ByteArray := prog_1_method_47_code
def yX7_isSheet : MethodName := ⟨RX7, "isSheet", "(I)Z"⟩
abbrev cX7_isLane : ByteArray := prog_1_method_48_code
def yX7_isLane : MethodName := ⟨RX7, "isLane", "(I)Z"⟩
abbrev cX7_quotient : ByteArray := prog_1_method_49_code
def yX7_quotient : MethodName := ⟨RX7, "quotient", "(JJ)J"⟩
abbrev cX7_remainder : ByteArray := prog_1_method_50_code
def yX7_remainder : MethodName := ⟨RX7, "remainder", "(JJ)J"⟩
abbrev cX7_fraction : ByteArray := prog_1_method_51_code
def yX7_fraction : MethodName := ⟨RX7, "fraction", "(JJI)J"⟩
abbrev cX7_divisor : ByteArray := prog_1_method_52_code
def yX7_divisor : MethodName := ⟨RX7, "divisor", "(JJ)J"⟩
abbrev cX7_power : ByteArray := prog_1_method_53_code
def yX7_power : MethodName := ⟨RX7, "power", "(II)J"⟩
abbrev cX7_odds : ByteArray := prog_1_method_54_code
def yX7_odds : MethodName := ⟨RX7, "odds", "(III)J"⟩
abbrev cX7_partOf : ByteArray := prog_1_method_55_code
def yX7_partOf : MethodName := ⟨RX7, "partOf", "(I)LCamelParts$Parting;"⟩
abbrev cX7_partNow : ByteArray := prog_1_method_56_code
def yX7_partNow : MethodName := ⟨RX7, "partNow", "()LCamelParts$Parting;"⟩
abbrev cX7_wholePart : ByteArray := prog_1_method_57_code
def yX7_wholePart : MethodName := ⟨RX7, "wholePart", "(II)I"⟩
abbrev cX7_sharedWhole : ByteArray := prog_1_method_58_code
def yX7_sharedWhole : MethodName := ⟨RX7, "sharedWhole", "(I)I"⟩
abbrev cX7_getsWithout : ByteArray := prog_1_method_59_code
def yX7_getsWithout : MethodName := ⟨RX7, "getsWithout", "(II)I"⟩
abbrev cX7_findHerds : ByteArray := prog_1_method_60_code
def yX7_findHerds : MethodName := ⟨RX7, "findHerds", "()V"⟩
abbrev cX7_leftAtWorst : ByteArray := prog_1_method_61_code
def yX7_leftAtWorst : MethodName := ⟨RX7, "leftAtWorst", "(I)I"⟩
def RX8 : String := "CamelPartsModel"
def TX8 : u_T := fun k => match k with
  | 0 => ("CamelPartsModel", "st", "[I", true)
  | 1 => ("CamelPartsModel", "now", "[I", true)
  | 2 => ("CamelPartsModel", "isKept", "[Z", true)
  | 3 => ("CamelPartsModel", "draft", "[I", true)
  | 4 => ("CamelPartsModel", "hasHerd", "Z", false)
  | 5 => ("CamelPartsModel", "hasJudge", "Z", false)
  | 6 => ("CamelPartsModel", "tape", "[I", true)
  | 7 => ("CamelPartsModel", "taped", "I", false)
  | 8 => ("CamelPartsModel", "pos", "I", false)
  | 9 => ("CamelPartsModel", "begun", "I", false)
  | 10 => ("CamelPartsModel", "sort", "I", false)
  | 11 => ("CamelPartsModel", "value", "I", false)
  | 12 => ("CamelPartsModel", "fault", "I", false)
  | 13 => ("CamelPartsModel", "wrongAt", "I", false)
  | 14 => ("CamelPartsModel", "parts", "[J", true)
  | 15 => ("CamelPartsModel", "under", "J", false)
  | 16 => ("CamelPartsModel", "allParts", "J", false)
  | 17 => ("CamelPartsModel", "got", "[I", true)
  | 18 => ("CamelPartsModel", "isRisen", "[Z", true)
  | 19 => ("CamelPartsModel", "divisors", "[I", true)
  | 20 => ("CamelPartsModel", "divisorMany", "I", false)
  | 21 => ("CamelPartsModel", "row", "[I", true)
  | 22 => ("CamelPartsModel", "found", "I", false)
  | 23 => ("CamelPartsModel", "was", "[I", true)
  | 24 => ("CamelPartsModel", "getSum", "J", false)
  | 25 => ("CamelPartsModel", "enoughSum", "J", false)
  | 26 => ("CamelPartsModel", "allWays", "J", false)
  | 27 => ("CamelPartsModel", "ways", "[I", true)
  | 28 => ("CamelPartsModel", "lanes", "[I", true)
  | 29 => ("CamelPartsModel", "sizes", "[I", true)
  | 30 => ("CamelPartsModel", "cells", "[I", true)
  | 31 => ("CamelPartsModel", "torn", "I", false)
  | _ => ("CamelPartsModel", "before", "[I", true)
def tyX8 : Nat → FieldType := fun k => match k with
  | 0 => .array .int
  | 1 => .array .int
  | 2 => .array .boolean
  | 3 => .array .int
  | 4 => .boolean
  | 5 => .boolean
  | 6 => .array .int
  | 7 => .int
  | 8 => .int
  | 9 => .int
  | 10 => .int
  | 11 => .int
  | 12 => .int
  | 13 => .int
  | 14 => .array .long
  | 15 => .long
  | 16 => .long
  | 17 => .array .int
  | 18 => .array .boolean
  | 19 => .array .int
  | 20 => .int
  | 21 => .array .int
  | 22 => .int
  | 23 => .array .int
  | 24 => .long
  | 25 => .long
  | 26 => .long
  | 27 => .array .int
  | 28 => .array .int
  | 29 => .array .int
  | 30 => .array .int
  | 31 => .int
  | _ => .array .int
abbrev wsX80 : List Cond := u_ws RX8 TX8 33
theorem nmX8 : ∀ a, a < 33 → ∀ b, b < 33 → a ≠ b → (TX8 a).2.1 ≠ (TX8 b).2.1 := by decide +kernel
theorem tyX8_ok : ∀ k, k < 33 → parseFieldDescriptor (TX8 k).2.2.1 = some (tyX8 k) := by decide +kernel
abbrev cX8_init : ByteArray := prog_10_method_1_code
def yX8_init : MethodName := ⟨RX8, "<init>", "()V"⟩
abbrev cX8_in : ByteArray := prog_10_method_3_code
def yX8_in : MethodName := ⟨RX8, "in", "(JJJ)Z"⟩
abbrev cX8_flag : ByteArray := prog_10_method_4_code
def yX8_flag : MethodName := ⟨RX8, "flag", "(Z)I"⟩
abbrev cX8_firstDraft : ByteArray := prog_10_method_5_code
def yX8_firstDraft : MethodName := ⟨RX8, "firstDraft", "()V"⟩
abbrev cX8_keepDraft : ByteArray := prog_10_method_6_code
def yX8_keepDraft : MethodName := ⟨RX8, "keepDraft", "()V"⟩
abbrev cX8_feed : ByteArray := prog_10_method_7_code
def yX8_feed : MethodName := ⟨RX8, "feed", "(I)I"⟩
abbrev cX8_end : ByteArray := prog_10_method_8_code
def yX8_end : MethodName := ⟨RX8, "end", "(I)I"⟩
abbrev cX8_needs : ByteArray := prog_10_method_9_code
def yX8_needs : MethodName := ⟨RX8, "needs", "(ZI)V"⟩
abbrev cX8_byteAt : ByteArray := prog_10_method_10_code
def yX8_byteAt : MethodName := ⟨RX8, "byteAt", "(I)I"⟩
abbrev cX8_is : ByteArray := prog_10_method_11_code
def yX8_is : MethodName := ⟨RX8, "is", "(IIIIII)Z"⟩
abbrev cX8_lineNow : ByteArray := prog_10_method_12_code
def yX8_lineNow : MethodName := ⟨RX8, "lineNow", "()I"⟩
abbrev cX8_takes : ByteArray := prog_10_method_13_code
def yX8_takes : MethodName := ⟨RX8, "takes", "()V"⟩
abbrev cX8_readNumber : ByteArray := prog_10_method_14_code
def yX8_readNumber : MethodName := ⟨RX8, "readNumber", "(II)I"⟩
abbrev cX8_readLineOf : ByteArray := prog_10_method_15_code
def yX8_readLineOf : MethodName := ⟨RX8, "readLineOf", "(I)V"⟩
abbrev cX8_readLine : ByteArray := prog_10_method_16_code
def yX8_readLine : MethodName := ⟨RX8, "readLine", "()V"⟩
abbrev cX8_text : ByteArray := prog_10_method_17_code
def yX8_text : MethodName := ⟨RX8, "text", "()I"⟩
abbrev cX8_fault : ByteArray := prog_10_method_18_code
def yX8_fault : MethodName := ⟨RX8, "fault", "()I"⟩
abbrev cX8_isHeir : ByteArray := prog_10_method_19_code
def yX8_isHeir : MethodName := ⟨RX8, "isHeir", "(I)Z"⟩
abbrev cX8_isKind : ByteArray := prog_10_method_20_code
def yX8_isKind : MethodName := ⟨RX8, "isKind", "(I)Z"⟩
abbrev cX8_isPart : ByteArray := prog_10_method_21_code
def yX8_isPart : MethodName := ⟨RX8, "isPart", "(I)Z"⟩
abbrev cX8_reckons : ByteArray := prog_10_method_22_code
def yX8_reckons : MethodName := ⟨RX8, "reckons", "()V"⟩
abbrev cX8_starts : ByteArray := prog_10_method_23_code
def yX8_starts : MethodName := ⟨RX8, "starts", "()V"⟩
abbrev cX8_givesTold : ByteArray := prog_10_method_24_code
def yX8_givesTold : MethodName := ⟨RX8, "givesTold", "(I)V"⟩
abbrev cX8_givesRests : ByteArray := prog_10_method_25_code
def yX8_givesRests : MethodName := ⟨RX8, "givesRests", "(I)V"⟩
abbrev cX8_givesRow : ByteArray := prog_10_method_26_code
def yX8_givesRow : MethodName := ⟨RX8, "givesRow", "(II)V"⟩
abbrev cX8_gives : ByteArray := prog_10_method_27_code
def yX8_gives : MethodName := ⟨RX8, "gives", "(II)V"⟩
abbrev cX8_givesNow : ByteArray := prog_10_method_28_code
def yX8_givesNow : MethodName := ⟨RX8, "givesNow", "()V"⟩
abbrev cX8_isOff : ByteArray := prog_10_method_29_code
def yX8_isOff : MethodName := ⟨RX8, "isOff", "(II)Z"⟩
abbrev cX8_firstOff : ByteArray := prog_10_method_30_code
def yX8_firstOff : MethodName := ⟨RX8, "firstOff", "(I)I"⟩
abbrev cX8_allGot : ByteArray := prog_10_method_31_code
def yX8_allGot : MethodName := ⟨RX8, "allGot", "()I"⟩
abbrev cX8_rule : ByteArray := prog_10_method_32_code
def yX8_rule : MethodName := ⟨RX8, "rule", "(I)I"⟩
abbrev cX8_heir : ByteArray := prog_10_method_33_code
def yX8_heir : MethodName := ⟨RX8, "heir", "(II)I"⟩
abbrev cX8_common : ByteArray := prog_10_method_34_code
def yX8_common : MethodName := ⟨RX8, "common", "(JJ)J"⟩
abbrev cX8_lowest : ByteArray := prog_10_method_35_code
def yX8_lowest : MethodName := ⟨RX8, "lowest", "(JJI)J"⟩
abbrev cX8_told : ByteArray := prog_10_method_36_code
def yX8_told : MethodName := ⟨RX8, "told", "(II)J"⟩
abbrev cX8_sum : ByteArray := prog_10_method_37_code
def yX8_sum : MethodName := ⟨RX8, "sum", "(I)J"⟩
abbrev cX8_over : ByteArray := prog_10_method_38_code
def yX8_over : MethodName := ⟨RX8, "over", "(II)J"⟩
abbrev cX8_becomes : ByteArray := prog_10_method_39_code
def yX8_becomes : MethodName := ⟨RX8, "becomes", "(II)I"⟩
abbrev cX8_alter : ByteArray := prog_10_method_40_code
def yX8_alter : MethodName := ⟨RX8, "alter", "(III)I"⟩
abbrev cX8_herd : ByteArray := prog_10_method_41_code
def yX8_herd : MethodName := ⟨RX8, "herd", "(I)I"⟩
abbrev cX8_judge : ByteArray := prog_10_method_42_code
def yX8_judge : MethodName := ⟨RX8, "judge", "(I)I"⟩
abbrev cX8_bear : ByteArray := prog_10_method_43_code
def yX8_bear : MethodName := ⟨RX8, "bear", "(II)I"⟩
abbrev cX8_dropsNow : ByteArray := prog_10_method_44_code
def yX8_dropsNow : MethodName := ⟨RX8, "dropsNow", "(I)V"⟩
abbrev cX8_dies : ByteArray := prog_10_method_45_code
def yX8_dies : MethodName := ⟨RX8, "dies", "(I)I"⟩
abbrev cX8_isWhole : ByteArray := prog_10_method_46_code
def yX8_isWhole : MethodName := ⟨RX8, "isWhole", "(II)Z"⟩
abbrev cX8_lend : ByteArray := prog_10_method_47_code
def yX8_lend : MethodName := ⟨RX8, "lend", "(I)I"⟩
abbrev cX8_share : ByteArray := prog_10_method_48_code
def yX8_share : MethodName := ⟨RX8, "share", "(II)I"⟩
abbrev cX8_walksWills : ByteArray := prog_10_method_49_code
def yX8_walksWills : MethodName := ⟨RX8, "walksWills", "(III)Z"⟩
abbrev cX8_isWill : ByteArray := prog_10_method_50_code
def yX8_isWill : MethodName := ⟨RX8, "isWill", "(II)Z"⟩
abbrev cX8_wills : ByteArray := prog_10_method_51_code
def yX8_wills : MethodName := ⟨RX8, "wills", "(II)I"⟩
abbrev cX8_will : ByteArray := prog_10_method_52_code
def yX8_will : MethodName := ⟨RX8, "will", "(IIII)I"⟩
abbrev cX8_by : ByteArray := prog_10_method_53_code
def yX8_by : MethodName := ⟨RX8, "by", "(II)I"⟩
abbrev cX8_of : ByteArray := prog_10_method_54_code
def yX8_of : MethodName := ⟨RX8, "of", "(II)I"⟩
abbrev cX8_remembers : ByteArray := prog_10_method_55_code
def yX8_remembers : MethodName := ⟨RX8, "remembers", "()V"⟩
abbrev cX8_loses : ByteArray := prog_10_method_56_code
def yX8_loses : MethodName := ⟨RX8, "loses", "(II)I"⟩
abbrev cX8_keeps : ByteArray := prog_10_method_57_code
def yX8_keeps : MethodName := ⟨RX8, "keeps", "(II)I"⟩
abbrev cX8_unlike : ByteArray := prog_10_method_58_code
def yX8_unlike : MethodName := ⟨RX8, "unlike", "(II)I"⟩
abbrev cX8_best : ByteArray := prog_10_method_59_code
def yX8_best : MethodName := ⟨RX8, "best", "(I)I"⟩
abbrev cX8_gains : ByteArray := prog_10_method_60_code
def yX8_gains : MethodName := ⟨RX8, "gains", "(II)I"⟩
abbrev cX8_wants : ByteArray := prog_10_method_61_code
def yX8_wants : MethodName := ⟨RX8, "wants", "(II)I"⟩
abbrev cX8_findOdds : ByteArray := prog_10_method_62_code
def yX8_findOdds : MethodName := ⟨RX8, "findOdds", "(III)V"⟩
abbrev cX8_mean : ByteArray := prog_10_method_63_code
def yX8_mean : MethodName := ⟨RX8, "mean", "(III)J"⟩
abbrev cX8_luck : ByteArray := prog_10_method_64_code
def yX8_luck : MethodName := ⟨RX8, "luck", "(IIII)J"⟩
abbrev cX8_see : ByteArray := prog_10_method_65_code
def yX8_see : MethodName := ⟨RX8, "see", "(II)I"⟩
abbrev cX8_forget : ByteArray := prog_10_method_66_code
def yX8_forget : MethodName := ⟨RX8, "forget", "(I)I"⟩
abbrev cX8_isSo : ByteArray := prog_10_method_67_code
def yX8_isSo : MethodName := ⟨RX8, "isSo", "()Z"⟩
abbrev cX8_judges : ByteArray := prog_10_method_68_code
def yX8_judges : MethodName := ⟨RX8, "judges", "()I"⟩
abbrev cX8_isHerdSo : ByteArray := prog_10_method_69_code
def yX8_isHerdSo : MethodName := ⟨RX8, "isHerdSo", "(I)Z"⟩
abbrev cX8_isDownSo : ByteArray := prog_10_method_70_code
def yX8_isDownSo : MethodName := ⟨RX8, "isDownSo", "(II)Z"⟩
abbrev cX8_ofThree : ByteArray := prog_10_method_71_code
def yX8_ofThree : MethodName := ⟨RX8, "ofThree", "(IIII)I"⟩
abbrev cX8_herds : ByteArray := prog_10_method_72_code
def yX8_herds : MethodName := ⟨RX8, "herds", "(I)I"⟩
abbrev cX8_downs : ByteArray := prog_10_method_73_code
def yX8_downs : MethodName := ⟨RX8, "downs", "(II)I"⟩
abbrev cX8_ask : ByteArray := prog_10_method_74_code
def yX8_ask : MethodName := ⟨RX8, "ask", "(I)I"⟩
abbrev cX8_drift : ByteArray := prog_10_method_75_code
def yX8_drift : MethodName := ⟨RX8, "drift", "(III)I"⟩
abbrev cX8_copies : ByteArray := prog_10_method_76_code
def yX8_copies : MethodName := ⟨RX8, "copies", "(II)V"⟩
abbrev cX8_keep : ByteArray := prog_10_method_77_code
def yX8_keep : MethodName := ⟨RX8, "keep", "(I)I"⟩
abbrev cX8_back : ByteArray := prog_10_method_78_code
def yX8_back : MethodName := ⟨RX8, "back", "(I)I"⟩
abbrev cX8_isSheet : ByteArray := prog_10_method_79_code
def yX8_isSheet : MethodName := ⟨RX8, "isSheet", "(II)Z"⟩
abbrev cX8_sheet : ByteArray := prog_10_method_80_code
def yX8_sheet : MethodName := ⟨RX8, "sheet", "(III)I"⟩
abbrev cX8_lay : ByteArray := prog_10_method_81_code
def yX8_lay : MethodName := ⟨RX8, "lay", "(III)I"⟩
abbrev cX8_read : ByteArray := prog_10_method_82_code
def yX8_read : MethodName := ⟨RX8, "read", "(IIII)I"⟩
abbrev cX8_torn : ByteArray := prog_10_method_83_code
def yX8_torn : MethodName := ⟨RX8, "torn", "()I"⟩
abbrev cX8_count : ByteArray := prog_10_method_84_code
def yX8_count : MethodName := ⟨RX8, "count", "(I)I"⟩
def RJ13 : String := "java/lang/Long"
def TJ13 : u_T := fun k => match k with
  | _ => ("", "", "", false)
def tyJ13 : Nat → FieldType := fun k => match k with
  | _ => .int
abbrev wsJ130 : List Cond := u_ws RJ13 TJ13 0
theorem nmJ13 : ∀ a, a < 0 → ∀ b, b < 0 → a ≠ b → (TJ13 a).2.1 ≠ (TJ13 b).2.1 := by decide +kernel
theorem tyJ13_ok : ∀ k, k < 0 → parseFieldDescriptor (TJ13 k).2.2.1 = some (tyJ13 k) := by decide +kernel
abbrev cJ13_compare_74951 : ByteArray := prog_11_method_42_code
def yJ13_compare_74951 : MethodName := ⟨RJ13, "compare", "(JJ)I"⟩
def RJ9 : String := "java/lang/Math"
def TJ9 : u_T := fun k => match k with
  | _ => ("", "", "", false)
def tyJ9 : Nat → FieldType := fun k => match k with
  | _ => .int
abbrev wsJ90 : List Cond := u_ws RJ9 TJ9 0
theorem nmJ9 : ∀ a, a < 0 → ∀ b, b < 0 → a ≠ b → (TJ9 a).2.1 ≠ (TJ9 b).2.1 := by decide +kernel
theorem tyJ9_ok : ∀ k, k < 0 → parseFieldDescriptor (TJ9 k).2.2.1 = some (tyJ9 k) := by decide +kernel
abbrev cJ9_abs_067f4 : ByteArray := prog_12_method_61_code
def yJ9_abs_067f4 : MethodName := ⟨RJ9, "abs", "(J)J"⟩
abbrev cJ9_max_7cf53 : ByteArray := prog_12_method_65_code
def yJ9_max_7cf53 : MethodName := ⟨RJ9, "max", "(II)I"⟩
abbrev cJ9_max_f86c9 : ByteArray := prog_12_method_66_code
def yJ9_max_f86c9 : MethodName := ⟨RJ9, "max", "(JJ)J"⟩
abbrev cJ9_min_7cf53 : ByteArray := prog_12_method_69_code
def yJ9_min_7cf53 : MethodName := ⟨RJ9, "min", "(II)I"⟩
abbrev cJ9_min_f86c9 : ByteArray := prog_12_method_70_code
def yJ9_min_f86c9 : MethodName := ⟨RJ9, "min", "(JJ)J"⟩
def RJ0 : String := "java/lang/String"
def TJ0 : u_T := fun k => match k with
  | _ => ("", "", "", false)
def tyJ0 : Nat → FieldType := fun k => match k with
  | _ => .int
abbrev wsJ00 : List Cond := u_ws RJ0 TJ0 0
theorem nmJ0 : ∀ a, a < 0 → ∀ b, b < 0 → a ≠ b → (TJ0 a).2.1 ≠ (TJ0 b).2.1 := by decide +kernel
theorem tyJ0_ok : ∀ k, k < 0 → parseFieldDescriptor (TJ0 k).2.2.1 = some (tyJ0 k) := by decide +kernel
abbrev cJ0_length_8abf5 : ByteArray := prog_13_method_54_code
def yJ0_length_8abf5 : MethodName := ⟨RJ0, "length", "()I"⟩
abbrev cJ0_charAt_5068e : ByteArray := prog_13_method_56_code
def yJ0_charAt_5068e : MethodName := ⟨RJ0, "charAt", "(I)C"⟩
abbrev cJ0_coder_7d493 : ByteArray := prog_13_method_152_code
def yJ0_coder_7d493 : MethodName := ⟨RJ0, "coder", "()B"⟩
abbrev cJ0_isLatin1_aae02 : ByteArray := prog_13_method_154_code
def yJ0_isLatin1_aae02 : MethodName := ⟨RJ0, "isLatin1", "()Z"⟩
abbrev cJ0_checkIndex_df160 : ByteArray := prog_13_method_155_code
def yJ0_checkIndex_df160 : MethodName := ⟨RJ0, "checkIndex", "(II)V"⟩
def RJ1 : String := "java/lang/StringLatin1"
def TJ1 : u_T := fun k => match k with
  | _ => ("", "", "", false)
def tyJ1 : Nat → FieldType := fun k => match k with
  | _ => .int
abbrev wsJ10 : List Cond := u_ws RJ1 TJ1 0
theorem nmJ1 : ∀ a, a < 0 → ∀ b, b < 0 → a ≠ b → (TJ1 a).2.1 ≠ (TJ1 b).2.1 := by decide +kernel
theorem tyJ1_ok : ∀ k, k < 0 → parseFieldDescriptor (TJ1 k).2.2.1 = some (tyJ1 k) := by decide +kernel
abbrev cJ1_charAt_3b067 : ByteArray := prog_14_method_2_code
def yJ1_charAt_3b067 : MethodName := ⟨RJ1, "charAt", "([BI)C"⟩
def RJ2 : String := "java/lang/StringUTF16"
def TJ2 : u_T := fun k => match k with
  | _ => ("", "", "", false)
def tyJ2 : Nat → FieldType := fun k => match k with
  | _ => .int
abbrev wsJ20 : List Cond := u_ws RJ2 TJ2 0
theorem nmJ2 : ∀ a, a < 0 → ∀ b, b < 0 → a ≠ b → (TJ2 a).2.1 ≠ (TJ2 b).2.1 := by decide +kernel
theorem tyJ2_ok : ∀ k, k < 0 → parseFieldDescriptor (TJ2 k).2.2.1 = some (tyJ2 k) := by decide +kernel
abbrev cJ2_getChar_3b067 : ByteArray := prog_15_method_5_code
def yJ2_getChar_3b067 : MethodName := ⟨RJ2, "getChar", "([BI)C"⟩
abbrev cJ2_length_9d52b : ByteArray := prog_15_method_6_code
def yJ2_length_9d52b : MethodName := ⟨RJ2, "length", "([B)I"⟩
abbrev cJ2_charAt_3b067 : ByteArray := prog_15_method_83_code
def yJ2_charAt_3b067 : MethodName := ⟨RJ2, "charAt", "([BI)C"⟩
abbrev cJ2_checkIndex_2214a : ByteArray := prog_15_method_91_code
def yJ2_checkIndex_2214a : MethodName := ⟨RJ2, "checkIndex", "(I[B)V"⟩
def RJ3 : String := "jdk/internal/util/Preconditions"
def TJ3 : u_T := fun k => match k with
  | _ => ("", "", "", false)
def tyJ3 : Nat → FieldType := fun k => match k with
  | _ => .int
abbrev wsJ30 : List Cond := u_ws RJ3 TJ3 0
theorem nmJ3 : ∀ a, a < 0 → ∀ b, b < 0 → a ≠ b → (TJ3 a).2.1 ≠ (TJ3 b).2.1 := by decide +kernel
theorem tyJ3_ok : ∀ k, k < 0 → parseFieldDescriptor (TJ3 k).2.2.1 = some (tyJ3 k) := by decide +kernel
abbrev cJ3_checkIndex_8e157 : ByteArray := prog_16_method_11_code
def yJ3_checkIndex_8e157 : MethodName := ⟨RJ3, "checkIndex", "(IILjava/util/function/BiFunction;)I"⟩
def RL : String := "CamelPartsLaw"
abbrev cL_law : ByteArray := code
def yL_law : MethodName := ⟨RL, "law", "([I)Z"⟩
end
section
/-- the words of the tables that ride to every callee -/
def WT : List Cond := lw_tbl.filter goodWord
/-! ===== the pure picture: a memory of whole numbers over a fixed layout of cells ===== -/
abbrev AV : Type := Int ⊕ (Int ⊕ Nat)
abbrev Mem : Type := Nat → Int → Int
abbrev LC : Type := (Nat × (Nat × List Nat)) ⊕ (Nat × List Nat)
abbrev MI : Type := MethodName × (ByteArray × (Nat × (Option FieldType × Nat)))
abbrev mY (M : MI) : MethodName := M.1
abbrev mC (M : MI) : ByteArray := M.2.1
abbrev mL (M : MI) : Nat := M.2.2.1
abbrev mR (M : MI) : Option FieldType := M.2.2.2.1
abbrev mK (M : MI) : Nat := M.2.2.2.2
abbrev vI (x : Int) : AV := Sum.inl x
abbrev vJ (x : Int) : AV := Sum.inr (Sum.inl x)
abbrev vP (q : Nat) : AV := Sum.inr (Sum.inr q)
/-- the memory with one place changed -/
def upM (σ : Mem) (q : Nat) (j : Int) (x : Int) : Mem := fun a b => if a = q ∧ b = j then x else σ a b
/-- 0 int, 1 long, 2 boolean, 3 byte, above: a reference -/
def inT (t : Nat) (x : Int) : Prop := match t with
  | 0 => -2147483648 ≤ x ∧ x ≤ 2147483647
  | 1 => -9223372036854775808 ≤ x ∧ x ≤ 9223372036854775807
  | 2 => 0 ≤ x ∧ x ≤ 1
  | 3 => -128 ≤ x ∧ x ≤ 127
  | _ => True
def okV (v : AV) : Prop := match v with
  | .inl x => inT 0 x
  | .inr (.inl x) => inT 1 x
  | .inr (.inr _) => True
def rv (ad : Nat → Nat) (v : AV) : Value := match v with
  | .inl x => .int (Int32.ofInt x)
  | .inr (.inl x) => .long (Int64.ofInt x)
  | .inr (.inr q) => .ref (ad q)
def fv (ad : Nat → Nat) (x : Int) (d : Nat) : Value := match d with
  | 0 => .int (Int32.ofInt x)
  | 1 => .long (Int64.ofInt x)
  | 2 => .int (Int32.ofInt x)
  | 3 => .int (Int32.ofInt x)
  | q + 4 => .ref (ad q)
def aV (ad : Nat → Nat) (t : Nat) (rs : List Nat) (f : Nat → Int) : (Nat → Int32) ⊕ (Nat → Int64) ⊕ (Nat → UInt32) ⊕ (Nat → UInt64) ⊕ (Nat → Option Nat) := match t with
  | 0 => .inl fun j => Int32.ofInt (f j)
  | 1 => .inr (.inl fun j => Int64.ofInt (f j))
  | 2 => .inl fun j => Int32.ofInt (f j)
  | 3 => .inl fun j => Int32.ofInt (f j)
  | _ => .inr (.inr (.inr (.inr fun j => (rs[j]?).map ad)))
def cE (ad : Nat → Nat) (cA : Nat → ClassId) (σ : Mem) (q : Nat) (c : LC) : va_E := match c with
  | .inl (t, n, rs) => .inl (cA t, n, aV ad t rs (fun j => σ q (j : Int)))
  | .inr (k, fs) => .inr (k, fs.mapIdx fun j d => fv ad (σ q (j : Int)) d)
def cW (ad : Nat → Nat) (cA : Nat → ClassId) (lay : List LC) (σ : Mem) : va_W := lay.mapIdx fun q c => (ad q, cE ad cA σ q c)
def rngC (σ : Mem) (q : Nat) (c : LC) : Prop := match c with
  | .inl (t, n, _) => ∀ j : Nat, j < n → inT t (σ q (j : Int))
  | .inr (_, fs) => ∀ (j : Nat) (d : Nat), fs[j]? = some d → inT d (σ q (j : Int))
def rng (lay : List LC) (σ : Mem) : Prop := ∀ q c, lay[q]? = some c → rngC σ q c
abbrev vwCl : List vw_C := [(RX0, TX0, 8), (RX1, TX1, 3), (RX2, TX2, 9), (RX3, TX3, 9), (RX4, TX4, 3), (RX5, TX5, 6), (RX6, TX6, 7), (RX7, TX7, 12), (RX8, TX8, 33)]
def tyA (cA : Nat → ClassId) : List (ClassId × FieldType) := [(cA 0, .int), (cA 1, .long), (cA 2, .boolean), (cA 3, .byte), (cA 4, .object RX0), (cA 5, .object RX4)]
/-- the links to nest mates' private methods -/
def nestL : List (String × Nat × MethodName × String) := [(RX7, 9, yX0_init, RX7), (RX7, 29, yX2_init, RX7), (RX7, 39, yX3_init, RX7), (RX3, 11, yX5_init, RX7), (RX3, 20, yX0_init, RX7), (RX7, 46, yX6_init, RX7), (RX7, 53, yX1_init, RX7), (RX7, 72, yX4_init, RX7), (RX5, 53, yX7_within, RX7), (RX3, 123, yX7_isHerd, RX7), (RX3, 126, yX7_within, RX7), (RX0, 37, yX7_within, RX7), (RX3, 87, yX7_isKind, RX7), (RX2, 48, yX7_quotient, RX7), (RX2, 101, yX7_remainder, RX7), (RX6, 47, yX7_remainder, RX7), (RX6, 55, yX7_quotient, RX7)]
def nestW : List Cond := nestL.map fun q => Cond.methodLinkNest q.1 q.2.1 q.2.2.1 q.2.2.2
def KN (D : va_G) (cA : Nat → ClassId) (U : State) : Prop := va_K D vwCl (tyA cA) U ∧ (∀ w ∈ nestW, va_Nw w U)
def roV (M : MI) (ad : Nat → Nat) (v : AV) : Option Value := match mR M with
  | none => none
  | some _ => some (rv ad v)
def QC (lay : List LC) (M : MI) (ad : Nat → Nat) (D : va_G) (cA : Nat → ClassId) (A : Nat → Prop) (Q : AV → Mem → Prop) : Array Value → State → Outcome → State → Prop := fun _ st o t =>
  ∃ (v : AV) (σ : Mem), o = .returned (roV M ad v) ∧ Q v σ ∧ okV v ∧ rng lay σ ∧ va_P D vwCl (cW ad cA lay σ) t.heap ∧ va_F A st t
def CX (lay : List LC) (M : MI) (p : Program) (Rm : Room) (s : State) (m : MethodId) (args : Array Value) (meth : Method) (c : Code) (ad : Nat → Nat) (D : va_G) (cA : Nat → ClassId) (A : Nat → Prop) (nc ns : Nat) : Prop :=
  p.tables.exec = Jvm.exec ∧ c.code = mC M ∧ meth.sig.returnType = mR M ∧ c.maxLocals = mL M ∧ s.vm.findClass (mY M).cls = some m.cls ∧ (∀ w ∈ WT, w.before args s = true) ∧ meth.locks = false ∧ KN D cA s ∧
  ((∀ i j, i < lay.length → j < lay.length → ad i = ad j → i = j) ∧ ∀ i, i < lay.length → A (ad i)) ∧ (∀ q, s.heap.size ≤ q → A q) ∧ (mK M ≤ Rm.frames ∧ 100 * mK M ≤ Rm.locals ∧ nc ≤ Rm.cells ∧ ns ≤ Rm.slots)
/-- the method M, from pc on, with these locals and this stack over this memory, ends, and Q holds of its answer and of the memory -/
def Rn (lay : List LC) (M : MI) (pc : Nat) (ls : List (Nat × AV)) (st : List AV) (σ : Mem) (Q : AV → Mem → Prop) : Prop :=
  (∀ q ∈ ls, okV q.2) → (∀ v ∈ st, okV v) → rng lay σ →
  ∀ (p : Program) (l : Launch) (e : Env) (Rm : Room) (s : State) (m : MethodId) (args : Array Value) (below : List Frame) (meth : Method) (c : Code) (ad : Nat → Nat) (D : va_G) (cA : Nat → ClassId) (A : Nat → Prop) (nc ns : Nat) (H : Heap) (locs : List Loc) (lr : Array Slot),
    CX lay M p Rm s m args meth c ad D cA A nc ns → va_P D vwCl (cW ad cA lay σ) H → va_S A s.heap H locs → lv_has lr (mL M) (ls.map fun q => (q.1, rv ad q.2)) →
    W p l e Rm s m args below meth c H locs nc ns (MQ below (QC lay M ad D cA A Q) args s nc ns A) (F0 m pc lr (st.map (rv ad)))
def rmK (k : Nat) : Room := { frames := k, cells := 0, slots := 0, locals := 100 * k }
def wsM (M : MI) : List Cond := .code (mY M) (mC M) (mL M) (mR M) :: WT
/-- which cells a method may change -/
def aA (lay : List LC) (ad : Nat → Nat) (sz : Nat) : Nat → Prop := fun q => (∃ i, i < lay.length ∧ q = ad i) ∨ sz ≤ q
/-- the method M, called with these arguments over this memory, ends, and Q holds of its answer and of the memory -/
def Cl (lay : List LC) (M : MI) (as : List AV) (σ : Mem) (Q : AV → Mem → Prop) : Prop :=
  (∀ v ∈ as, okV v) → rng lay σ → ∀ (l : Launch) (ad : Nat → Nat) (D : va_G) (cA : Nat → ClassId) (sz : Nat), (∀ i j, i < lay.length → j < lay.length → ad i = ad j → i = j) →
    Met l (mY M) (wsM M) (rmK (mK M)) (va_Pc (as.map (rv ad)) (fun U => U.heap.size = sz ∧ va_P D vwCl (cW ad cA lay σ) U.heap ∧ KN D cA U)) (QC lay M ad D cA (aA lay ad sz) Q) 0 0 (aA lay ad sz)
def qI (Q : Int → Mem → Prop) : AV → Mem → Prop := fun v σ => ∃ x, v = vI x ∧ Q x σ
def qJ (Q : Int → Mem → Prop) : AV → Mem → Prop := fun v σ => ∃ x, v = vJ x ∧ Q x σ
def qP (Q : Nat → Mem → Prop) : AV → Mem → Prop := fun v σ => ∃ x, v = vP x ∧ Q x σ
def qV (Q : Mem → Prop) : AV → Mem → Prop := fun v σ => v = vI 0 ∧ Q σ
/-! ===== numbers ===== -/
theorem i32r {x : Int} (h : inT 0 x) : (Int32.ofInt x).toInt = x := Int32.toInt_ofInt_of_le (by have := h.1; omega) (by have := h.2; omega)
theorem i64r {x : Int} (h : inT 1 x) : (Int64.ofInt x).toInt = x := Int64.toInt_ofInt_of_le (by have := h.1; omega) (by have := h.2; omega)
theorem i32eq {x y : Int} (hx : inT 0 x) (hy : inT 0 y) : Int32.ofInt x = Int32.ofInt y ↔ x = y := by rw [← Int32.toInt_inj, i32r hx, i32r hy]
theorem i32lt {x y : Int} (hx : inT 0 x) (hy : inT 0 y) : Int32.ofInt x < Int32.ofInt y ↔ x < y := by rw [Int32.lt_iff_toInt_lt, i32r hx, i32r hy]
theorem i32le {x y : Int} (hx : inT 0 x) (hy : inT 0 y) : Int32.ofInt x ≤ Int32.ofInt y ↔ x ≤ y := by rw [Int32.le_iff_toInt_le, i32r hx, i32r hy]
theorem i64eq {x y : Int} (hx : inT 1 x) (hy : inT 1 y) : Int64.ofInt x = Int64.ofInt y ↔ x = y := by rw [← Int64.toInt_inj, i64r hx, i64r hy]
theorem i64lt {x y : Int} (hx : inT 1 x) (hy : inT 1 y) : Int64.ofInt x < Int64.ofInt y ↔ x < y := by rw [Int64.lt_iff_toInt_lt, i64r hx, i64r hy]
theorem i32_0 : Int32.ofInt 0 = 0 := rfl
theorem i64_0 : Int64.ofInt 0 = 0 := rfl
theorem in0_0 : inT 0 0 := ⟨by decide, by decide⟩
theorem in1_0 : inT 1 0 := ⟨by decide, by decide⟩
def w32 (x : Int) : Int := x.bmod 4294967296
def w64 (x : Int) : Int := x.bmod 18446744073709551616
theorem w32_in (x : Int) : inT 0 (w32 x) := by
  have h1 := Int.le_bmod (x := x) (m := 4294967296) (by decide)
  have h2 := Int.bmod_lt (x := x) (m := 4294967296) (by decide)
  exact ⟨by unfold w32; omega, by unfold w32; omega⟩
theorem w32_of {x : Int} (h : inT 0 x) : w32 x = x := by
  have := i32r h
  rw [Int32.toInt_ofInt] at this
  exact this
theorem i32w (x : Int) : Int32.ofInt (w32 x) = Int32.ofInt x := by
  apply Int32.toInt_inj.mp
  rw [i32r (w32_in x), Int32.toInt_ofInt]
  rfl
theorem i32div {a b : Int} (ha : inT 0 a) (hb : inT 0 b) : Int32.ofInt a / Int32.ofInt b = Int32.ofInt (a.tdiv b) := (Int32.ofInt_tdiv ha.1 ha.2 hb.1 hb.2).symm
theorem i64div {a b : Int} (ha : inT 1 a) (hb : inT 1 b) : Int64.ofInt a / Int64.ofInt b = Int64.ofInt (a.tdiv b) := (Int64.ofInt_tdiv ha.1 ha.2 hb.1 hb.2).symm
theorem i32rem {a b : Int} (ha : inT 0 a) (hb : inT 0 b) : Int32.ofInt a - Int32.ofInt a / Int32.ofInt b * Int32.ofInt b = Int32.ofInt (a.tmod b) := by
  rw [i32div ha hb, ← Int32.ofInt_mul, ← Int32.ofInt_sub, Int.tmod_def, Int.mul_comm]
theorem i64rem {a b : Int} (ha : inT 1 a) (hb : inT 1 b) : Int64.ofInt a - Int64.ofInt a / Int64.ofInt b * Int64.ofInt b = Int64.ofInt (a.tmod b) := by
  rw [i64div ha hb, ← Int64.ofInt_mul, ← Int64.ofInt_sub, Int.tmod_def, Int.mul_comm]
theorem tmod_in {t : Nat} {a b : Int} (ht : t = 0 ∨ t = 1) (ha : inT t a) : inT t (a.tmod b) := by
  have h1 : (a.tmod b).natAbs ≤ a.natAbs := by rw [Int.natAbs_tmod]; exact Nat.mod_le _ _
  have h2 : 0 ≤ a → 0 ≤ a.tmod b := fun h => Int.tmod_nonneg b h
  have h3 : a ≤ 0 → a.tmod b ≤ 0 := fun h => by
    have := Int.tmod_nonneg b (a := -a) (by omega)
    rw [Int.neg_tmod] at this
    omega
  rcases ht with rfl | rfl
  · have := ha.1; have := ha.2; exact ⟨by omega, by omega⟩
  · have := ha.1; have := ha.2; exact ⟨by omega, by omega⟩
theorem clampN {i : Int} (h : inT 0 i) (h0 : 0 ≤ i) : (Int32.ofInt i).toNatClampNeg = i.toNat := by
  show (Int32.ofInt i).toInt.toNat = i.toNat
  rw [i32r h]
theorem vpin {i : Int} {n : Nat} (h : inT 0 i) (h0 : 0 ≤ i) (h1 : i < n) : vp_in (Int32.ofInt i) n := by
  rw [vp_in_iff, i32r h]
  exact ⟨h0, h1⟩
/-! ===== the rules, an instruction each ===== -/
def isJ (v : AV) : Bool := match v with
  | .inr (.inl _) => true
  | _ => false
def catA (v : AV) : Nat := match v with
  | .inr (.inl _) => 2
  | _ => 1
theorem rv_cat (ad : Nat → Nat) (v : AV) : (rv ad v).category = catA v := by
  rcases v with x | x | x <;> rfl
theorem rv_isJ (ad : Nat → Nat) (v : AV) : ((rv ad v).category == 2) = isJ v := by
  rcases v with x | x | x <;> rfl
theorem okc {v : AV} {st : List AV} (h : okV v) (hs : ∀ w ∈ st, okV w) : ∀ w ∈ v :: st, okV w := List.forall_mem_cons.mpr ⟨h, hs⟩
theorem okt {v : AV} {st : List AV} (h : ∀ w ∈ v :: st, okV w) : ∀ w ∈ st, okV w := (List.forall_mem_cons.mp h).2
theorem okh {v : AV} {st : List AV} (h : ∀ w ∈ v :: st, okV w) : okV v := (List.forall_mem_cons.mp h).1
/-- the locals behind a store -/
def stL (ls : List (Nat × AV)) (i : Nat) (v : AV) : List (Nat × AV) := (i, v) :: ls.filter (fun q => !(q.1 == i) && !(q.1 + 1 == i && isJ q.2))
def stJ (ls : List (Nat × AV)) (i : Nat) (v : AV) : List (Nat × AV) := (i, v) :: ls.filter (fun q => !(q.1 == i) && (!(q.1 == i + 1) && !(q.1 + 1 == i && isJ q.2)))
theorem stL_ok {ls : List (Nat × AV)} {i : Nat} {v : AV} (hl : ∀ q ∈ ls, okV q.2) (hv : okV v) : ∀ q ∈ stL ls i v, okV q.2 := by
  intro q hq
  rcases List.mem_cons.mp hq with rfl | hq
  · exact hv
  · exact hl q (List.mem_filter.mp hq).1
theorem stJ_ok {ls : List (Nat × AV)} {i : Nat} {v : AV} (hl : ∀ q ∈ ls, okV q.2) (hv : okV v) : ∀ q ∈ stJ ls i v, okV q.2 := by
  intro q hq
  rcases List.mem_cons.mp hq with rfl | hq
  · exact hv
  · exact hl q (List.mem_filter.mp hq).1
theorem stL_map (ad : Nat → Nat) (ls : List (Nat × AV)) (i : Nat) (v : AV) : (i, rv ad v) :: (ls.map fun q => (q.1, rv ad q.2)).filter (fun q => !(q.1 == i) && !(q.1 + 1 == i && q.2.category == 2)) = (stL ls i v).map fun q => (q.1, rv ad q.2) := by
  simp only [stL, List.map_cons, List.filter_map]
  congr 2
  apply List.filter_congr
  intro q _
  simp only [Function.comp, rv_isJ]
theorem stJ_map (ad : Nat → Nat) (ls : List (Nat × AV)) (i : Nat) (v : AV) : (i, rv ad v) :: (ls.map fun q => (q.1, rv ad q.2)).filter (fun q => !(q.1 == i) && (!(q.1 == i + 1) && !(q.1 + 1 == i && q.2.category == 2))) = (stJ ls i v).map fun q => (q.1, rv ad q.2) := by
  simp only [stJ, List.map_cons, List.filter_map]
  congr 2
  apply List.filter_congr
  intro q _
  simp only [Function.comp, rv_isJ]
section RR
variable {lay : List LC} {M : MI} {pc : Nat} {ls ls' : List (Nat × AV)} {st : List AV} {σ : Mem} {Q : AV → Mem → Prop}
theorem Rn.stk {pc' : Nat} {st st' : List AV} (k : Rn lay M pc' ls st' σ Q) (hok : (∀ q ∈ ls, okV q.2) → (∀ v ∈ st, okV v) → ∀ v ∈ st', okV v)
    (hw : ∀ (p : Program) (l : Launch) (e : Env) (Rm : Room) (s : State) (m : MethodId) (args : Array Value) (below : List Frame) (meth : Method) (c : Code) (nc ns : Nat) (H : Heap) (locs : List Loc) (Z : State → Prop) (lr : Array Slot) (ad : Nat → Nat), p.tables.exec = Jvm.exec → c.code = mC M → (s.vm.findClass (mY M).cls = some m.cls ∧ ∀ w ∈ WT, w.before args s = true) → lv_has lr (mL M) (ls.map fun q => (q.1, rv ad q.2)) → (∀ v ∈ st, okV v) →
      W p l e Rm s m args below meth c H locs nc ns Z (F0 m pc' lr (st'.map (rv ad))) → W p l e Rm s m args below meth c H locs nc ns Z (F0 m pc lr (st.map (rv ad)))) : Rn lay M pc ls st σ Q := fun hl hs hg p l e Rm s m args below meth c ad D cA A nc ns H locs lr C hP hS hv =>
  hw p l e Rm s m args below meth c nc ns H locs _ lr ad C.1 C.2.1 ⟨C.2.2.2.2.1, C.2.2.2.2.2.1⟩ hv hs (k hl (hok hl hs) hg p l e Rm s m args below meth c ad D cA A nc ns H locs lr C hP hS hv)
theorem lvat (ad : Nat → Nat) {lr : Array Slot} {N n i : Nat} {v : AV} (hv : lv_has lr N (ls.map fun q => (q.1, rv ad q.2))) (hn : ls[n]? = some (i, v)) : lr[i]? = some (.val (rv ad v)) :=
  lv_at hv n (by rw [List.getElem?_map, hn]; rfl)
theorem R_iload_n {k : Fin 4} {i : Nat} {x : Int} (n : Nat) (hn : ls[n]? = some (i, vI x)) (hi : (k : Nat) = i) (hd : decode (mC M) pc = .ok (.iload_n k, 1)) (h : Rn lay M (pc + 1) ls (vI x :: st) σ Q) : Rn lay M pc ls st σ Q :=
  Rn.stk h (fun hl hs => okc (hl _ (List.mem_of_getElem? hn)) hs) (fun p l e Rm s m args below meth c nc ns H locs Z lr ad hx hb _ hv hs k => lv_iload_n hx hb hd hi (lvat ad hv hn) k)
theorem R_iload {i : Nat} {x : Int} (n : Nat) (hn : ls[n]? = some (i, vI x)) (hd : decode (mC M) pc = .ok (.iload i, 2)) (h : Rn lay M (pc + 2) ls (vI x :: st) σ Q) : Rn lay M pc ls st σ Q :=
  Rn.stk h (fun hl hs => okc (hl _ (List.mem_of_getElem? hn)) hs) (fun p l e Rm s m args below meth c nc ns H locs Z lr ad hx hb _ hv hs k => lv_iload hx hb hd (lvat ad hv hn) k)
theorem R_lload_n {k : Fin 4} {i : Nat} {x : Int} (n : Nat) (hn : ls[n]? = some (i, vJ x)) (hi : (k : Nat) = i) (hd : decode (mC M) pc = .ok (.lload_n k, 1)) (h : Rn lay M (pc + 1) ls (vJ x :: st) σ Q) : Rn lay M pc ls st σ Q :=
  Rn.stk h (fun hl hs => okc (hl _ (List.mem_of_getElem? hn)) hs) (fun p l e Rm s m args below meth c nc ns H locs Z lr ad hx hb _ hv hs k => lv_lload_n hx hb hd hi (lvat ad hv hn) k)
theorem R_lload {i : Nat} {x : Int} (n : Nat) (hn : ls[n]? = some (i, vJ x)) (hd : decode (mC M) pc = .ok (.lload i, 2)) (h : Rn lay M (pc + 2) ls (vJ x :: st) σ Q) : Rn lay M pc ls st σ Q :=
  Rn.stk h (fun hl hs => okc (hl _ (List.mem_of_getElem? hn)) hs) (fun p l e Rm s m args below meth c nc ns H locs Z lr ad hx hb _ hv hs k => lv_lload hx hb hd (lvat ad hv hn) k)
theorem R_aload_n {k : Fin 4} {i : Nat} {q : Nat} (n : Nat) (hn : ls[n]? = some (i, vP q)) (hi : (k : Nat) = i) (hd : decode (mC M) pc = .ok (.aload_n k, 1)) (h : Rn lay M (pc + 1) ls (vP q :: st) σ Q) : Rn lay M pc ls st σ Q :=
  Rn.stk h (fun hl hs => okc (hl _ (List.mem_of_getElem? hn)) hs) (fun p l e Rm s m args below meth c nc ns H locs Z lr ad hx hb _ hv hs k => lv_aload_n hx hb hd hi (lvat ad hv hn) k)
theorem R_aload {i : Nat} {q : Nat} (n : Nat) (hn : ls[n]? = some (i, vP q)) (hd : decode (mC M) pc = .ok (.aload i, 2)) (h : Rn lay M (pc + 2) ls (vP q :: st) σ Q) : Rn lay M pc ls st σ Q :=
  Rn.stk h (fun hl hs => okc (hl _ (List.mem_of_getElem? hn)) hs) (fun p l e Rm s m args below meth c nc ns H locs Z lr ad hx hb _ hv hs k => lv_aload hx hb hd (lvat ad hv hn) k)
theorem R_iconst {n : Int} (hn : -1 ≤ n ∧ n ≤ 5) (hd : decode (mC M) pc = .ok (.iconst n, 1)) (h : Rn lay M (pc + 1) ls (vI n :: st) σ Q) : Rn lay M pc ls st σ Q :=
  Rn.stk h (fun hl hs => okc (show inT 0 n from ⟨by omega, by omega⟩) hs) (fun p l e Rm s m args below meth c nc ns H locs Z lr ad hx hb _ hv hs k => lv_iconst hx hb hd rfl k)
theorem R_bipush {n : Int} (hn : -128 ≤ n ∧ n ≤ 127) (hd : decode (mC M) pc = .ok (.bipush n, 2)) (h : Rn lay M (pc + 2) ls (vI n :: st) σ Q) : Rn lay M pc ls st σ Q :=
  Rn.stk h (fun hl hs => okc (show inT 0 n from ⟨by omega, by omega⟩) hs) (fun p l e Rm s m args below meth c nc ns H locs Z lr ad hx hb _ hv hs k => lv_bipush hx hb hd (Int8.toInt32_ofInt hn.1 hn.2) k)
theorem R_sipush {n : Int} (hn : -32768 ≤ n ∧ n ≤ 32767) (hd : decode (mC M) pc = .ok (.sipush n, 3)) (h : Rn lay M (pc + 3) ls (vI n :: st) σ Q) : Rn lay M pc ls st σ Q :=
  Rn.stk h (fun hl hs => okc (show inT 0 n from ⟨by omega, by omega⟩) hs) (fun p l e Rm s m args below meth c nc ns H locs Z lr ad hx hb _ hv hs k => lv_sipush hx hb hd (Int16.toInt32_ofInt hn.1 hn.2) k)
theorem R_lconst {n : Fin 2} {x : Int} (hn : ((n : Nat) : Int) = x) (hd : decode (mC M) pc = .ok (.lconst n, 1)) (h : Rn lay M (pc + 1) ls (vJ x :: st) σ Q) : Rn lay M pc ls st σ Q :=
  Rn.stk h (fun hl hs => okc (show inT 1 x from ⟨by omega, by omega⟩) hs) (fun p l e Rm s m args below meth c nc ns H locs Z lr ad hx hb _ hv hs k => lv_lconst hx hb hd (by rw [← hn]; exact (Int64.ofInt_eq_ofNat).symm) k)
theorem R_ldc2 {idx : Nat} {v : Int64} {x : Int} (hw : Jvm.Cond.constantLong (mY M).cls idx v ∈ WT) (hx0 : v.toInt = x) (hd : decode (mC M) pc = .ok (.ldc2_w idx, 3)) (h : Rn lay M (pc + 3) ls (vJ x :: st) σ Q) : Rn lay M pc ls st σ Q :=
  Rn.stk h (fun hl hs => okc (show inT 1 x from ⟨by have := v.le_toInt; omega, by have := v.toInt_lt; omega⟩) hs) (fun p l e Rm s m args below meth c nc ns H locs Z lr ad hx hb ho hv hs k => by
    refine lv_ldc2 hx hb ho.1 (ho.2 _ hw) hd ?_
    have e1 : Int64.ofInt x = v := by rw [← hx0]; exact Int64.ofInt_toInt v
    rw [← e1]
    exact k)
theorem R_ldc {idx : Nat} {v : Int32} {x : Int} (hw : Jvm.Cond.constant (mY M).cls idx v ∈ WT) (hx0 : v.toInt = x) (hd : decode (mC M) pc = .ok (.ldc idx, 2)) (h : Rn lay M (pc + 2) ls (vI x :: st) σ Q) : Rn lay M pc ls st σ Q :=
  Rn.stk h (fun hl hs => okc (show inT 0 x from ⟨by have := v.le_toInt; omega, by have := v.toInt_lt; omega⟩) hs) (fun p l e Rm s m args below meth c nc ns H locs Z lr ad hx hb ho hv hs k => by
    refine lv_ldc hx hb ho.1 (ho.2 _ hw) hd ?_
    have e1 : Int32.ofInt x = v := by rw [← hx0]; exact Int32.ofInt_toInt v
    rw [← e1]
    exact k)
theorem R_ldcw {idx : Nat} {v : Int32} {x : Int} (hw : Jvm.Cond.constant (mY M).cls idx v ∈ WT) (hx0 : v.toInt = x) (hd : decode (mC M) pc = .ok (.ldc_w idx, 3)) (h : Rn lay M (pc + 3) ls (vI x :: st) σ Q) : Rn lay M pc ls st σ Q :=
  Rn.stk h (fun hl hs => okc (show inT 0 x from ⟨by have := v.le_toInt; omega, by have := v.toInt_lt; omega⟩) hs) (fun p l e Rm s m args below meth c nc ns H locs Z lr ad hx hb ho hv hs k => by
    refine lv_ldcw hx hb ho.1 (ho.2 _ hw) hd ?_
    have e1 : Int32.ofInt x = v := by rw [← hx0]; exact Int32.ofInt_toInt v
    rw [← e1]
    exact k)
/- stores -/
theorem Rn.lst {pc' : Nat} {st' : List AV} (k : Rn lay M pc' ls' st' σ Q) (hok : (∀ q ∈ ls, okV q.2) → (∀ v ∈ st, okV v) → (∀ v ∈ st', okV v) ∧ ∀ q ∈ ls', okV q.2)
    (hw : ∀ (p : Program) (l : Launch) (e : Env) (Rm : Room) (s : State) (m : MethodId) (args : Array Value) (below : List Frame) (meth : Method) (c : Code) (nc ns : Nat) (H : Heap) (locs : List Loc) (Z : State → Prop) (lr : Array Slot) (ad : Nat → Nat), p.tables.exec = Jvm.exec → c.code = mC M → lv_has lr (mL M) (ls.map fun q => (q.1, rv ad q.2)) → (∀ v ∈ st, okV v) →
      (∀ lr' : Array Slot, lv_has lr' (mL M) (ls'.map fun q => (q.1, rv ad q.2)) → W p l e Rm s m args below meth c H locs nc ns Z (F0 m pc' lr' (st'.map (rv ad)))) → W p l e Rm s m args below meth c H locs nc ns Z (F0 m pc lr (st.map (rv ad)))) : Rn lay M pc ls st σ Q := fun hl hs hg p l e Rm s m args below meth c ad D cA A nc ns H locs lr C hP hS hv =>
  hw p l e Rm s m args below meth c nc ns H locs _ lr ad C.1 C.2.1 hv hs (fun lr' hv' => k (hok hl hs).2 (hok hl hs).1 hg p l e Rm s m args below meth c ad D cA A nc ns H locs lr' C hP hS hv')
theorem R_istore_n {k : Fin 4} {i : Nat} {x : Int} (hl' : stL ls i (vI x) = ls') (hi : (k : Nat) = i) (hn : i < mL M) (hd : decode (mC M) pc = .ok (.istore_n k, 1)) (h : Rn lay M (pc + 1) ls' st σ Q) : Rn lay M pc ls (vI x :: st) σ Q :=
  Rn.lst h (fun hl hs => ⟨okt hs, by rw [← hl']; exact stL_ok hl (okh hs)⟩) (fun p l e Rm s m args below meth c nc ns H locs Z lr ad hx hb hv hs k => lv_istore_n hx hb hd hi hv hn (by rw [← hl']; exact stL_map ad ls i (vI x)) k)
theorem R_istore {i : Nat} {x : Int} (hl' : stL ls i (vI x) = ls') (hn : i < mL M) (hd : decode (mC M) pc = .ok (.istore i, 2)) (h : Rn lay M (pc + 2) ls' st σ Q) : Rn lay M pc ls (vI x :: st) σ Q :=
  Rn.lst h (fun hl hs => ⟨okt hs, by rw [← hl']; exact stL_ok hl (okh hs)⟩) (fun p l e Rm s m args below meth c nc ns H locs Z lr ad hx hb hv hs k => lv_istore hx hb hd hv hn (by rw [← hl']; exact stL_map ad ls i (vI x)) k)
theorem R_lstore_n {k : Fin 4} {i : Nat} {x : Int} (hl' : stJ ls i (vJ x) = ls') (hi : (k : Nat) = i) (hn : i + 1 < mL M) (hd : decode (mC M) pc = .ok (.lstore_n k, 1)) (h : Rn lay M (pc + 1) ls' st σ Q) : Rn lay M pc ls (vJ x :: st) σ Q :=
  Rn.lst h (fun hl hs => ⟨okt hs, by rw [← hl']; exact stJ_ok hl (okh hs)⟩) (fun p l e Rm s m args below meth c nc ns H locs Z lr ad hx hb hv hs k => lv_lstore_n hx hb hd hi hv hn (by rw [← hl']; exact stJ_map ad ls i (vJ x)) k)
theorem R_lstore {i : Nat} {x : Int} (hl' : stJ ls i (vJ x) = ls') (hn : i + 1 < mL M) (hd : decode (mC M) pc = .ok (.lstore i, 2)) (h : Rn lay M (pc + 2) ls' st σ Q) : Rn lay M pc ls (vJ x :: st) σ Q :=
  Rn.lst h (fun hl hs => ⟨okt hs, by rw [← hl']; exact stJ_ok hl (okh hs)⟩) (fun p l e Rm s m args below meth c nc ns H locs Z lr ad hx hb hv hs k => lv_lstore hx hb hd hv hn (by rw [← hl']; exact stJ_map ad ls i (vJ x)) k)
theorem R_astore_n {k : Fin 4} {i : Nat} {q : Nat} (hl' : stL ls i (vP q) = ls') (hi : (k : Nat) = i) (hn : i < mL M) (hd : decode (mC M) pc = .ok (.astore_n k, 1)) (h : Rn lay M (pc + 1) ls' st σ Q) : Rn lay M pc ls (vP q :: st) σ Q :=
  Rn.lst h (fun hl hs => ⟨okt hs, by rw [← hl']; exact stL_ok hl (okh hs)⟩) (fun p l e Rm s m args below meth c nc ns H locs Z lr ad hx hb hv hs k => lv_astore_n hx hb hd hi hv hn (by rw [← hl']; exact stL_map ad ls i (vP q)) k)
theorem R_astore {i : Nat} {q : Nat} (hl' : stL ls i (vP q) = ls') (hn : i < mL M) (hd : decode (mC M) pc = .ok (.astore i, 2)) (h : Rn lay M (pc + 2) ls' st σ Q) : Rn lay M pc ls (vP q :: st) σ Q :=
  Rn.lst h (fun hl hs => ⟨okt hs, by rw [← hl']; exact stL_ok hl (okh hs)⟩) (fun p l e Rm s m args below meth c nc ns H locs Z lr ad hx hb hv hs k => lv_astore hx hb hd hv hn (by rw [← hl']; exact stL_map ad ls i (vP q)) k)
theorem R_iinc {i : Nat} {x n y : Int} (pl : Nat) (hp : ls[pl]? = some (i, vI x)) (hy : x + n = y) (hr : inT 0 y) (hl' : stL ls i (vI y) = ls') (hn : i < mL M) (hd : decode (mC M) pc = .ok (.iinc i n, 3)) (h : Rn lay M (pc + 3) ls' st σ Q) : Rn lay M pc ls st σ Q :=
  Rn.lst h (fun hl hs => ⟨hs, by rw [← hl']; exact stL_ok hl hr⟩) (fun p l e Rm s m args below meth c nc ns H locs Z lr ad hx hb hv hs k => lv_iinc (v := Int32.ofInt y) hx hb hd hv (k := pl) (by rw [List.getElem?_map, hp]; rfl) (by rw [← hy, Int32.ofInt_add]) hn (by rw [← hl']; exact stL_map ad ls i (vI y)) k)
/-- fewer locals, in another order -/
theorem R_sub (is : List Nat) (hl' : is.filterMap (fun i => ls[i]?) = ls') (h : Rn lay M pc ls' st σ Q) : Rn lay M pc ls st σ Q := fun hl hs hg p l e Rm s m args below meth c ad D cA A nc ns H locs lr C hP hS hv => by
  have hm : ∀ q ∈ ls', q ∈ ls := fun q hq => by
    rw [← hl'] at hq
    obtain ⟨i, -, hi⟩ := List.mem_filterMap.mp hq
    exact List.mem_of_getElem? hi
  refine h (fun q hq => hl q (hm q hq)) hs hg p l e Rm s m args below meth c ad D cA A nc ns H locs lr C hP hS ⟨hv.1, hv.2.1, fun q hq => ?_⟩
  obtain ⟨w, hw, rfl⟩ := List.mem_map.mp hq
  exact hv.2.2 _ (List.mem_map.mpr ⟨w, hm w hw, rfl⟩)
/- arithmetic -/
theorem R_bin {a b x : AV} {len : Nat} (h : Rn lay M (pc + len) ls (x :: st) σ Q) (hok : okV b → okV a → okV x) (hw : ∀ (p : Program) (l : Launch) (e : Env) (Rm : Room) (s : State) (m : MethodId) (args : Array Value) (below : List Frame) (meth : Method) (c : Code) (nc ns : Nat) (H : Heap) (locs : List Loc) (Z : State → Prop) (lr : Array Slot) (ad : Nat → Nat) (rest : List Value), p.tables.exec = Jvm.exec → c.code = mC M → okV b → okV a →
      W p l e Rm s m args below meth c H locs nc ns Z (F0 m (pc + len) lr (rv ad x :: rest)) → W p l e Rm s m args below meth c H locs nc ns Z (F0 m pc lr (rv ad b :: rv ad a :: rest))) : Rn lay M pc ls (b :: a :: st) σ Q :=
  Rn.stk h (fun _ hs => okc (hok (okh hs) (okh (okt hs))) (okt (okt hs))) (fun p l e Rm s m args below meth c nc ns H locs Z lr ad hx hb _ _ hs k => hw p l e Rm s m args below meth c nc ns H locs Z lr ad _ hx hb (okh hs) (okh (okt hs)) k)
theorem R_un {a x : AV} {len : Nat} (h : Rn lay M (pc + len) ls (x :: st) σ Q) (hok : okV a → okV x) (hw : ∀ (p : Program) (l : Launch) (e : Env) (Rm : Room) (s : State) (m : MethodId) (args : Array Value) (below : List Frame) (meth : Method) (c : Code) (nc ns : Nat) (H : Heap) (locs : List Loc) (Z : State → Prop) (lr : Array Slot) (ad : Nat → Nat) (rest : List Value), p.tables.exec = Jvm.exec → c.code = mC M → okV a →
      W p l e Rm s m args below meth c H locs nc ns Z (F0 m (pc + len) lr (rv ad x :: rest)) → W p l e Rm s m args below meth c H locs nc ns Z (F0 m pc lr (rv ad a :: rest))) : Rn lay M pc ls (a :: st) σ Q :=
  Rn.stk h (fun _ hs => okc (hok (okh hs)) (okt hs)) (fun p l e Rm s m args below meth c nc ns H locs Z lr ad hx hb _ _ hs k => hw p l e Rm s m args below meth c nc ns H locs Z lr ad _ hx hb (okh hs) k)
theorem R_iadd {a b : Int} (hr : inT 0 (a + b)) (hd : decode (mC M) pc = .ok (.iadd, 1)) (h : Rn lay M (pc + 1) ls (vI (a + b) :: st) σ Q) : Rn lay M pc ls (vI b :: vI a :: st) σ Q :=
  R_bin h (fun _ _ => hr) (fun p l e Rm s m args below meth c nc ns H locs Z lr ad rest hx hb h1 h2 k => lv_iadd hx hb hd (by rw [← Int32.ofInt_add]; exact k))
theorem R_iaddW {a b : Int} (hd : decode (mC M) pc = .ok (.iadd, 1)) (h : Rn lay M (pc + 1) ls (vI (w32 (a + b)) :: st) σ Q) : Rn lay M pc ls (vI b :: vI a :: st) σ Q :=
  R_bin h (fun _ _ => w32_in _) (fun p l e Rm s m args below meth c nc ns H locs Z lr ad rest hx hb h1 h2 k => lv_iadd hx hb hd (by rw [← Int32.ofInt_add, ← i32w]; exact k))
theorem R_ladd {a b : Int} (hr : inT 1 (a + b)) (hd : decode (mC M) pc = .ok (.ladd, 1)) (h : Rn lay M (pc + 1) ls (vJ (a + b) :: st) σ Q) : Rn lay M pc ls (vJ b :: vJ a :: st) σ Q :=
  R_bin h (fun _ _ => hr) (fun p l e Rm s m args below meth c nc ns H locs Z lr ad rest hx hb h1 h2 k => lv_ladd hx hb hd (by rw [← Int64.ofInt_add]; exact k))
theorem R_isub {a b : Int} (hr : inT 0 (a - b)) (hd : decode (mC M) pc = .ok (.isub, 1)) (h : Rn lay M (pc + 1) ls (vI (a - b) :: st) σ Q) : Rn lay M pc ls (vI b :: vI a :: st) σ Q :=
  R_bin h (fun _ _ => hr) (fun p l e Rm s m args below meth c nc ns H locs Z lr ad rest hx hb h1 h2 k => lv_isub hx hb hd (by rw [← Int32.ofInt_sub]; exact k))
theorem R_isubW {a b : Int} (hd : decode (mC M) pc = .ok (.isub, 1)) (h : Rn lay M (pc + 1) ls (vI (w32 (a - b)) :: st) σ Q) : Rn lay M pc ls (vI b :: vI a :: st) σ Q :=
  R_bin h (fun _ _ => w32_in _) (fun p l e Rm s m args below meth c nc ns H locs Z lr ad rest hx hb h1 h2 k => lv_isub hx hb hd (by rw [← Int32.ofInt_sub, ← i32w]; exact k))
theorem R_lsub {a b : Int} (hr : inT 1 (a - b)) (hd : decode (mC M) pc = .ok (.lsub, 1)) (h : Rn lay M (pc + 1) ls (vJ (a - b) :: st) σ Q) : Rn lay M pc ls (vJ b :: vJ a :: st) σ Q :=
  R_bin h (fun _ _ => hr) (fun p l e Rm s m args below meth c nc ns H locs Z lr ad rest hx hb h1 h2 k => lv_lsub hx hb hd (by rw [← Int64.ofInt_sub]; exact k))
theorem R_imul {a b : Int} (hr : inT 0 (a * b)) (hd : decode (mC M) pc = .ok (.imul, 1)) (h : Rn lay M (pc + 1) ls (vI (a * b) :: st) σ Q) : Rn lay M pc ls (vI b :: vI a :: st) σ Q :=
  R_bin h (fun _ _ => hr) (fun p l e Rm s m args below meth c nc ns H locs Z lr ad rest hx hb h1 h2 k => lv_imul hx hb hd (by rw [← Int32.ofInt_mul]; exact k))
theorem R_imulW {a b : Int} (hd : decode (mC M) pc = .ok (.imul, 1)) (h : Rn lay M (pc + 1) ls (vI (w32 (a * b)) :: st) σ Q) : Rn lay M pc ls (vI b :: vI a :: st) σ Q :=
  R_bin h (fun _ _ => w32_in _) (fun p l e Rm s m args below meth c nc ns H locs Z lr ad rest hx hb h1 h2 k => lv_imul hx hb hd (by rw [← Int32.ofInt_mul, ← i32w]; exact k))
theorem R_lmul {a b : Int} (hr : inT 1 (a * b)) (hd : decode (mC M) pc = .ok (.lmul, 1)) (h : Rn lay M (pc + 1) ls (vJ (a * b) :: st) σ Q) : Rn lay M pc ls (vJ b :: vJ a :: st) σ Q :=
  R_bin h (fun _ _ => hr) (fun p l e Rm s m args below meth c nc ns H locs Z lr ad rest hx hb h1 h2 k => lv_lmul hx hb hd (by rw [← Int64.ofInt_mul]; exact k))
theorem R_idiv {a b : Int} (hb0 : b ≠ 0) (hr : inT 0 (a.tdiv b)) (hd : decode (mC M) pc = .ok (.idiv, 1)) (h : Rn lay M (pc + 1) ls (vI (a.tdiv b) :: st) σ Q) : Rn lay M pc ls (vI b :: vI a :: st) σ Q :=
  R_bin h (fun _ _ => hr) (fun p l e Rm s m args below meth c nc ns H locs Z lr ad rest hx hb h1 h2 k => lv_idiv hx hb hd (fun z => hb0 ((i32eq h1 in0_0).mp z)) (by rw [i32div h2 h1]; exact k))
theorem R_irem {a b : Int} (hb0 : b ≠ 0) (hd : decode (mC M) pc = .ok (.irem, 1)) (h : Rn lay M (pc + 1) ls (vI (a.tmod b) :: st) σ Q) : Rn lay M pc ls (vI b :: vI a :: st) σ Q :=
  R_bin h (fun _ h2 => tmod_in (t := 0) (by decide) h2) (fun p l e Rm s m args below meth c nc ns H locs Z lr ad rest hx hb h1 h2 k => lv_irem hx hb hd (fun z => hb0 ((i32eq h1 in0_0).mp z)) (by rw [i32rem h2 h1]; exact k))
theorem R_ldiv {a b : Int} (hb0 : b ≠ 0) (hr : inT 1 (a.tdiv b)) (hd : decode (mC M) pc = .ok (.ldiv, 1)) (h : Rn lay M (pc + 1) ls (vJ (a.tdiv b) :: st) σ Q) : Rn lay M pc ls (vJ b :: vJ a :: st) σ Q :=
  R_bin h (fun _ _ => hr) (fun p l e Rm s m args below meth c nc ns H locs Z lr ad rest hx hb h1 h2 k => lv_ldiv hx hb hd (fun z => hb0 ((i64eq h1 in1_0).mp z)) (by rw [i64div h2 h1]; exact k))
theorem R_lrem {a b : Int} (hb0 : b ≠ 0) (hd : decode (mC M) pc = .ok (.lrem, 1)) (h : Rn lay M (pc + 1) ls (vJ (a.tmod b) :: st) σ Q) : Rn lay M pc ls (vJ b :: vJ a :: st) σ Q :=
  R_bin h (fun _ h2 => tmod_in (t := 1) (by decide) h2) (fun p l e Rm s m args below meth c nc ns H locs Z lr ad rest hx hb h1 h2 k => lv_lrem hx hb hd (fun z => hb0 ((i64eq h1 in1_0).mp z)) (by rw [i64rem h2 h1]; exact k))
theorem R_lneg {a : Int} (hr : inT 1 (-a)) (hd : decode (mC M) pc = .ok (.lneg, 1)) (h : Rn lay M (pc + 1) ls (vJ (-a) :: st) σ Q) : Rn lay M pc ls (vJ a :: st) σ Q :=
  R_un h (fun _ => hr) (fun p l e Rm s m args below meth c nc ns H locs Z lr ad rest hx hb h1 k => lv_lneg hx hb hd (by rw [← Int64.ofInt_neg]; exact k))
theorem R_i2l {a : Int} (hd : decode (mC M) pc = .ok (.i2l, 1)) (h : Rn lay M (pc + 1) ls (vJ a :: st) σ Q) : Rn lay M pc ls (vI a :: st) σ Q :=
  R_un h (fun ha => ⟨by have := ha.1; omega, by have := ha.2; omega⟩) (fun p l e Rm s m args below meth c nc ns H locs Z lr ad rest hx hb h1 k => lv_i2l hx hb hd (Int32.toInt64_ofInt h1.1 h1.2) k)
theorem R_l2i {a : Int} (hr : inT 0 a) (hd : decode (mC M) pc = .ok (.l2i, 1)) (h : Rn lay M (pc + 1) ls (vI a :: st) σ Q) : Rn lay M pc ls (vJ a :: st) σ Q :=
  R_un h (fun _ => hr) (fun p l e Rm s m args below meth c nc ns H locs Z lr ad rest hx hb h1 k => lv_l2i hx hb hd Int64.toInt32_ofInt k)
def w8 (x : Int) : Int := x.bmod 256
def w16 (x : Int) : Int := x.bmod 65536
theorem w8_in (x : Int) : inT 3 (w8 x) := by
  have h1 := Int.le_bmod (x := x) (m := 256) (by decide)
  have h2 := Int.bmod_lt (x := x) (m := 256) (by decide)
  exact ⟨by unfold w8; omega, by unfold w8; omega⟩
theorem w16_in (x : Int) : -32768 ≤ w16 x ∧ w16 x ≤ 32767 := by
  have h1 := Int.le_bmod (x := x) (m := 65536) (by decide)
  have h2 := Int.bmod_lt (x := x) (m := 65536) (by decide)
  exact ⟨by unfold w16; omega, by unfold w16; omega⟩
theorem i32b {x : Int} (h : inT 0 x) : (Int32.ofInt x).toInt8.toInt32 = Int32.ofInt (w8 x) := by
  apply Int32.toInt_inj.mp
  have h2 := w8_in x
  rw [i32r (show inT 0 (w8 x) from ⟨by have := h2.1; omega, by have := h2.2; omega⟩), Int8.toInt_toInt32, Int32.toInt_toInt8, i32r h]
  rfl
theorem i32s {x : Int} (h : inT 0 x) : (Int32.ofInt x).toInt16.toInt32 = Int32.ofInt (w16 x) := by
  apply Int32.toInt_inj.mp
  have h2 := w16_in x
  rw [i32r (show inT 0 (w16 x) from ⟨by have := h2.1; omega, by have := h2.2; omega⟩), Int16.toInt_toInt32, Int32.toInt_toInt16, i32r h]
  rfl
theorem R_i2b {a : Int} (hd : decode (mC M) pc = .ok (.i2b, 1)) (h : Rn lay M (pc + 1) ls (vI (w8 a) :: st) σ Q) : Rn lay M pc ls (vI a :: st) σ Q :=
  R_un h (fun _ => ⟨by have := (w8_in a).1; omega, by have := (w8_in a).2; omega⟩) (fun p l e Rm s m args below meth c nc ns H locs Z lr ad rest hx hb h1 k => lv_i2b hx hb hd (i32b h1) k)
theorem R_i2s {a : Int} (hd : decode (mC M) pc = .ok (.i2s, 1)) (h : Rn lay M (pc + 1) ls (vI (w16 a) :: st) σ Q) : Rn lay M pc ls (vI a :: st) σ Q :=
  R_un h (fun _ => ⟨by have := (w16_in a).1; omega, by have := (w16_in a).2; omega⟩) (fun p l e Rm s m args below meth c nc ns H locs Z lr ad rest hx hb h1 k => lv_i2s hx hb hd (i32s h1) k)
def bAnd (a b : Int) : Int := (Int32.ofInt a &&& Int32.ofInt b).toInt
def bOr (a b : Int) : Int := (Int32.ofInt a ||| Int32.ofInt b).toInt
def bShl (a b : Int) : Int := (Int32.ofInt a <<< (Int32.ofInt b &&& 31)).toInt
def bShr (a b : Int) : Int := (Int32.ofInt a >>> (Int32.ofInt b &&& 31)).toInt
def bUshr (a b : Int) : Int := ((Int32.ofInt a).toUInt32 >>> ((Int32.ofInt b).toUInt32 &&& Int32.toUInt32 31)).toInt32.toInt
theorem i32in (x : Int32) : inT 0 x.toInt := ⟨by have := x.le_toInt; omega, by have := x.toInt_lt; omega⟩
theorem R_iand {a b : Int} (hd : decode (mC M) pc = .ok (.iand, 1)) (h : Rn lay M (pc + 1) ls (vI (bAnd a b) :: st) σ Q) : Rn lay M pc ls (vI b :: vI a :: st) σ Q :=
  R_bin h (fun _ _ => i32in _) (fun p l e Rm s m args below meth c nc ns H locs Z lr ad rest hx hb h1 h2 k => lv_iand hx hb hd (by simpa only [rv, bAnd, Int32.ofInt_toInt] using k))
theorem R_ior {a b : Int} (hd : decode (mC M) pc = .ok (.ior, 1)) (h : Rn lay M (pc + 1) ls (vI (bOr a b) :: st) σ Q) : Rn lay M pc ls (vI b :: vI a :: st) σ Q :=
  R_bin h (fun _ _ => i32in _) (fun p l e Rm s m args below meth c nc ns H locs Z lr ad rest hx hb h1 h2 k => lv_ior hx hb hd (by simpa only [rv, bOr, Int32.ofInt_toInt] using k))
theorem R_ishl {a b : Int} (hd : decode (mC M) pc = .ok (.ishl, 1)) (h : Rn lay M (pc + 1) ls (vI (bShl a b) :: st) σ Q) : Rn lay M pc ls (vI b :: vI a :: st) σ Q :=
  R_bin h (fun _ _ => i32in _) (fun p l e Rm s m args below meth c nc ns H locs Z lr ad rest hx hb h1 h2 k => lv_ishl hx hb hd (by simpa only [rv, bShl, Int32.ofInt_toInt] using k))
theorem R_ishr {a b : Int} (hd : decode (mC M) pc = .ok (.ishr, 1)) (h : Rn lay M (pc + 1) ls (vI (bShr a b) :: st) σ Q) : Rn lay M pc ls (vI b :: vI a :: st) σ Q :=
  R_bin h (fun _ _ => i32in _) (fun p l e Rm s m args below meth c nc ns H locs Z lr ad rest hx hb h1 h2 k => lv_ishr hx hb hd (by simpa only [rv, bShr, Int32.ofInt_toInt] using k))
theorem R_iushr {a b : Int} (hd : decode (mC M) pc = .ok (.iushr, 1)) (h : Rn lay M (pc + 1) ls (vI (bUshr a b) :: st) σ Q) : Rn lay M pc ls (vI b :: vI a :: st) σ Q :=
  R_bin h (fun _ _ => i32in _) (fun p l e Rm s m args below meth c nc ns H locs Z lr ad rest hx hb h1 h2 k => lv_iushr hx hb hd (by rw [bUshr, Int32.ofInt_toInt]) k)
/- the stack -/
theorem R_dup {a : AV} (ha : catA a = 1) (hd : decode (mC M) pc = .ok (.dup, 1)) (h : Rn lay M (pc + 1) ls (a :: a :: st) σ Q) : Rn lay M pc ls (a :: st) σ Q :=
  Rn.stk h (fun _ hs => okc (okh hs) hs) (fun p l e Rm s m args below meth c nc ns H locs Z lr ad hx hb _ _ hs k => lv_dup hx hb hd (by rw [rv_cat]; exact ha) k)
theorem R_dup2 {a b : AV} (ha : catA a = 1) (hb1 : catA b = 1) (hd : decode (mC M) pc = .ok (.dup2, 1)) (h : Rn lay M (pc + 1) ls (b :: a :: b :: a :: st) σ Q) : Rn lay M pc ls (b :: a :: st) σ Q :=
  Rn.stk h (fun _ hs => okc (okh hs) (okc (okh (okt hs)) hs)) (fun p l e Rm s m args below meth c nc ns H locs Z lr ad hx hb _ _ hs k => lv_dup2_11 hx hb hd (by rw [rv_cat]; exact hb1) (by rw [rv_cat]; exact ha) k)
theorem R_pop {a : AV} (ha : catA a = 1) (hd : decode (mC M) pc = .ok (.pop, 1)) (h : Rn lay M (pc + 1) ls st σ Q) : Rn lay M pc ls (a :: st) σ Q :=
  Rn.stk h (fun _ hs => okt hs) (fun p l e Rm s m args below meth c nc ns H locs Z lr ad hx hb _ _ hs k => lv_pop hx hb hd (by rw [rv_cat]; exact ha) k)
/- branches -/
theorem R_goto {off : Int} {tgt : Nat} (ht : (pc : Int) + off = (tgt : Int)) (hd : decode (mC M) pc = .ok (.goto off, 3)) (h : Rn lay M tgt ls st σ Q) : Rn lay M pc ls st σ Q :=
  Rn.stk h (fun _ hs => hs) (fun p l e Rm s m args below meth c nc ns H locs Z lr ad hx hb _ _ hs k => lv_goto hx hb hd ht k)
theorem Rn.br {pt pf : Nat} {st st' : List AV} {P1 P2 : Prop} (k1 : P1 → Rn lay M pt ls st' σ Q) (k2 : P2 → Rn lay M pf ls st' σ Q) (hok : (∀ v ∈ st, okV v) → ∀ v ∈ st', okV v)
    (hw : ∀ (p : Program) (l : Launch) (e : Env) (Rm : Room) (s : State) (m : MethodId) (args : Array Value) (below : List Frame) (meth : Method) (c : Code) (nc ns : Nat) (H : Heap) (locs : List Loc) (Z : State → Prop) (lr : Array Slot) (ad : Nat → Nat), p.tables.exec = Jvm.exec → c.code = mC M → (∀ v ∈ st, okV v) →
      (P1 → W p l e Rm s m args below meth c H locs nc ns Z (F0 m pt lr (st'.map (rv ad)))) → (P2 → W p l e Rm s m args below meth c H locs nc ns Z (F0 m pf lr (st'.map (rv ad)))) → W p l e Rm s m args below meth c H locs nc ns Z (F0 m pc lr (st.map (rv ad)))) : Rn lay M pc ls st σ Q := fun hl hs hg p l e Rm s m args below meth c ad D cA A nc ns H locs lr C hP hS hv =>
  hw p l e Rm s m args below meth c nc ns H locs _ lr ad C.1 C.2.1 hs (fun q => k1 q hl (hok hs) hg p l e Rm s m args below meth c ad D cA A nc ns H locs lr C hP hS hv) (fun q => k2 q hl (hok hs) hg p l e Rm s m args below meth c ad D cA A nc ns H locs lr C hP hS hv)
theorem R_icmp_eq {a b : Int} {off : Int} {tgt : Nat} (ht : (pc : Int) + off = (tgt : Int)) (hd : decode (mC M) pc = .ok (.if_icmp .eq off, 3)) (h1 : a = b → Rn lay M tgt ls st σ Q) (h2 : a ≠ b → Rn lay M (pc + 3) ls st σ Q) : Rn lay M pc ls (vI b :: vI a :: st) σ Q :=
  Rn.br h1 h2 (fun hs => okt (okt hs)) (fun p l e Rm s m args below meth c nc ns H locs Z lr ad hx hb hs k1 k2 => lv_icmp_eq hx hb hd ht (fun z => k1 ((i32eq (okh (okt hs)) (okh hs)).mp z)) (fun z => k2 ((fun w => z ((i32eq (okh (okt hs)) (okh hs)).mpr w)))))
theorem R_icmp_ne {a b : Int} {off : Int} {tgt : Nat} (ht : (pc : Int) + off = (tgt : Int)) (hd : decode (mC M) pc = .ok (.if_icmp .ne off, 3)) (h1 : a ≠ b → Rn lay M tgt ls st σ Q) (h2 : a = b → Rn lay M (pc + 3) ls st σ Q) : Rn lay M pc ls (vI b :: vI a :: st) σ Q :=
  Rn.br h1 h2 (fun hs => okt (okt hs)) (fun p l e Rm s m args below meth c nc ns H locs Z lr ad hx hb hs k1 k2 => lv_icmp_ne hx hb hd ht (fun z => k1 ((fun w => z ((i32eq (okh (okt hs)) (okh hs)).mpr w)))) (fun z => k2 (((i32eq (okh (okt hs)) (okh hs)).mp z))))
theorem R_icmp_lt {a b : Int} {off : Int} {tgt : Nat} (ht : (pc : Int) + off = (tgt : Int)) (hd : decode (mC M) pc = .ok (.if_icmp .lt off, 3)) (h1 : a < b → Rn lay M tgt ls st σ Q) (h2 : b ≤ a → Rn lay M (pc + 3) ls st σ Q) : Rn lay M pc ls (vI b :: vI a :: st) σ Q :=
  Rn.br h1 h2 (fun hs => okt (okt hs)) (fun p l e Rm s m args below meth c nc ns H locs Z lr ad hx hb hs k1 k2 => lv_icmp_lt hx hb hd ht (fun z => k1 ((i32lt (okh (okt hs)) (okh hs)).mp z)) (fun z => k2 ((Int.not_lt.mp fun w => z ((i32lt (okh (okt hs)) (okh hs)).mpr w)))))
theorem R_icmp_ge {a b : Int} {off : Int} {tgt : Nat} (ht : (pc : Int) + off = (tgt : Int)) (hd : decode (mC M) pc = .ok (.if_icmp .ge off, 3)) (h1 : b ≤ a → Rn lay M tgt ls st σ Q) (h2 : a < b → Rn lay M (pc + 3) ls st σ Q) : Rn lay M pc ls (vI b :: vI a :: st) σ Q :=
  Rn.br h1 h2 (fun hs => okt (okt hs)) (fun p l e Rm s m args below meth c nc ns H locs Z lr ad hx hb hs k1 k2 => lv_icmp_ge hx hb hd ht (fun z => k1 ((i32le (okh hs) (okh (okt hs))).mp z)) (fun z => k2 ((Int.not_le.mp fun w => z ((i32le (okh hs) (okh (okt hs))).mpr w)))))
theorem R_icmp_gt {a b : Int} {off : Int} {tgt : Nat} (ht : (pc : Int) + off = (tgt : Int)) (hd : decode (mC M) pc = .ok (.if_icmp .gt off, 3)) (h1 : b < a → Rn lay M tgt ls st σ Q) (h2 : a ≤ b → Rn lay M (pc + 3) ls st σ Q) : Rn lay M pc ls (vI b :: vI a :: st) σ Q :=
  Rn.br h1 h2 (fun hs => okt (okt hs)) (fun p l e Rm s m args below meth c nc ns H locs Z lr ad hx hb hs k1 k2 => lv_icmp_gt hx hb hd ht (fun z => k1 ((i32lt (okh hs) (okh (okt hs))).mp z)) (fun z => k2 ((Int.not_lt.mp fun w => z ((i32lt (okh hs) (okh (okt hs))).mpr w)))))
theorem R_icmp_le {a b : Int} {off : Int} {tgt : Nat} (ht : (pc : Int) + off = (tgt : Int)) (hd : decode (mC M) pc = .ok (.if_icmp .le off, 3)) (h1 : a ≤ b → Rn lay M tgt ls st σ Q) (h2 : b < a → Rn lay M (pc + 3) ls st σ Q) : Rn lay M pc ls (vI b :: vI a :: st) σ Q :=
  Rn.br h1 h2 (fun hs => okt (okt hs)) (fun p l e Rm s m args below meth c nc ns H locs Z lr ad hx hb hs k1 k2 => lv_icmp_le hx hb hd ht (fun z => k1 ((i32le (okh (okt hs)) (okh hs)).mp z)) (fun z => k2 ((Int.not_le.mp fun w => z ((i32le (okh (okt hs)) (okh hs)).mpr w)))))
theorem R_if_eq {a : Int} {off : Int} {tgt : Nat} (ht : (pc : Int) + off = (tgt : Int)) (hd : decode (mC M) pc = .ok (.ifCond .eq off, 3)) (h1 : a = 0 → Rn lay M tgt ls st σ Q) (h2 : a ≠ 0 → Rn lay M (pc + 3) ls st σ Q) : Rn lay M pc ls (vI a :: st) σ Q :=
  Rn.br h1 h2 (fun hs => okt hs) (fun p l e Rm s m args below meth c nc ns H locs Z lr ad hx hb hs k1 k2 => lv_if_eq hx hb hd ht (fun z => k1 ((i32eq (okh hs) in0_0).mp z)) (fun z => k2 ((fun w => z ((i32eq (okh hs) in0_0).mpr w)))))
theorem R_if_ne {a : Int} {off : Int} {tgt : Nat} (ht : (pc : Int) + off = (tgt : Int)) (hd : decode (mC M) pc = .ok (.ifCond .ne off, 3)) (h1 : a ≠ 0 → Rn lay M tgt ls st σ Q) (h2 : a = 0 → Rn lay M (pc + 3) ls st σ Q) : Rn lay M pc ls (vI a :: st) σ Q :=
  Rn.br h1 h2 (fun hs => okt hs) (fun p l e Rm s m args below meth c nc ns H locs Z lr ad hx hb hs k1 k2 => lv_if_ne hx hb hd ht (fun z => k1 ((fun w => z ((i32eq (okh hs) in0_0).mpr w)))) (fun z => k2 (((i32eq (okh hs) in0_0).mp z))))
theorem R_if_lt {a : Int} {off : Int} {tgt : Nat} (ht : (pc : Int) + off = (tgt : Int)) (hd : decode (mC M) pc = .ok (.ifCond .lt off, 3)) (h1 : a < 0 → Rn lay M tgt ls st σ Q) (h2 : 0 ≤ a → Rn lay M (pc + 3) ls st σ Q) : Rn lay M pc ls (vI a :: st) σ Q :=
  Rn.br h1 h2 (fun hs => okt hs) (fun p l e Rm s m args below meth c nc ns H locs Z lr ad hx hb hs k1 k2 => lv_if_lt hx hb hd ht (fun z => k1 ((i32lt (okh hs) in0_0).mp z)) (fun z => k2 ((Int.not_lt.mp fun w => z ((i32lt (okh hs) in0_0).mpr w)))))
theorem R_if_ge {a : Int} {off : Int} {tgt : Nat} (ht : (pc : Int) + off = (tgt : Int)) (hd : decode (mC M) pc = .ok (.ifCond .ge off, 3)) (h1 : 0 ≤ a → Rn lay M tgt ls st σ Q) (h2 : a < 0 → Rn lay M (pc + 3) ls st σ Q) : Rn lay M pc ls (vI a :: st) σ Q :=
  Rn.br h1 h2 (fun hs => okt hs) (fun p l e Rm s m args below meth c nc ns H locs Z lr ad hx hb hs k1 k2 => lv_if_ge hx hb hd ht (fun z => k1 ((i32le in0_0 (okh hs)).mp z)) (fun z => k2 ((Int.not_le.mp fun w => z ((i32le in0_0 (okh hs)).mpr w)))))
theorem R_if_gt {a : Int} {off : Int} {tgt : Nat} (ht : (pc : Int) + off = (tgt : Int)) (hd : decode (mC M) pc = .ok (.ifCond .gt off, 3)) (h1 : 0 < a → Rn lay M tgt ls st σ Q) (h2 : a ≤ 0 → Rn lay M (pc + 3) ls st σ Q) : Rn lay M pc ls (vI a :: st) σ Q :=
  Rn.br h1 h2 (fun hs => okt hs) (fun p l e Rm s m args below meth c nc ns H locs Z lr ad hx hb hs k1 k2 => lv_if_gt hx hb hd ht (fun z => k1 ((i32lt in0_0 (okh hs)).mp z)) (fun z => k2 ((Int.not_lt.mp fun w => z ((i32lt in0_0 (okh hs)).mpr w)))))
theorem R_if_le {a : Int} {off : Int} {tgt : Nat} (ht : (pc : Int) + off = (tgt : Int)) (hd : decode (mC M) pc = .ok (.ifCond .le off, 3)) (h1 : a ≤ 0 → Rn lay M tgt ls st σ Q) (h2 : 0 < a → Rn lay M (pc + 3) ls st σ Q) : Rn lay M pc ls (vI a :: st) σ Q :=
  Rn.br h1 h2 (fun hs => okt hs) (fun p l e Rm s m args below meth c nc ns H locs Z lr ad hx hb hs k1 k2 => lv_if_le hx hb hd ht (fun z => k1 ((i32le (okh hs) in0_0).mp z)) (fun z => k2 ((Int.not_le.mp fun w => z ((i32le (okh hs) in0_0).mpr w)))))
def cmpL (a b : Int) : Int := if b < a then 1 else if a = b then 0 else -1
theorem lg_cmp_i {a b : Int} (ha : inT 1 a) (hb : inT 1 b) : lg_cmp (Int64.ofInt a) (Int64.ofInt b) = Int32.ofInt (cmpL a b) := by
  unfold lg_cmp cmpL
  simp only [i64lt hb ha, i64eq ha hb]
  by_cases h1 : b < a
  · simp [h1]
  · by_cases h2 : a = b
    · simp [h1, h2]
    · simp [h1, h2]
theorem R_lcmp {a b : Int} (hd : decode (mC M) pc = .ok (.lcmp, 1)) (h : Rn lay M (pc + 1) ls (vI (cmpL a b) :: st) σ Q) : Rn lay M pc ls (vJ b :: vJ a :: st) σ Q :=
  R_bin h (fun _ _ => by show inT 0 (cmpL a b); unfold cmpL; split; exact ⟨by decide, by decide⟩; split; exact ⟨by decide, by decide⟩; exact ⟨by decide, by decide⟩) (fun p l e Rm s m args below meth c nc ns H locs Z lr ad rest hx hb h1 h2 k => W.lcmp hx hb hd (by rw [lg_cmp_i h2 h1]; exact k))
theorem cmpL_eq {a b : Int} : cmpL a b = 0 ↔ a = b := by unfold cmpL; split; constructor <;> omega; split <;> constructor <;> omega
theorem cmpL_lt {a b : Int} : cmpL a b < 0 ↔ a < b := by unfold cmpL; split; constructor <;> omega; split <;> constructor <;> omega
theorem cmpL_gt {a b : Int} : 0 < cmpL a b ↔ b < a := by unfold cmpL; split; constructor <;> omega; split <;> constructor <;> omega
theorem cmpL_ge {a b : Int} : 0 ≤ cmpL a b ↔ b ≤ a := by unfold cmpL; split; constructor <;> omega; split <;> constructor <;> omega
theorem cmpL_le {a b : Int} : cmpL a b ≤ 0 ↔ a ≤ b := by unfold cmpL; split; constructor <;> omega; split <;> constructor <;> omega
theorem R_lcmp_eq {a b : Int} {off : Int} {tgt : Nat} (hd0 : decode (mC M) pc = .ok (.lcmp, 1)) (ht : ((pc + 1 : Nat) : Int) + off = (tgt : Int)) (hd : decode (mC M) (pc + 1) = .ok (.ifCond .eq off, 3)) (h1 : a = b → Rn lay M tgt ls st σ Q) (h2 : a ≠ b → Rn lay M (pc + 4) ls st σ Q) : Rn lay M pc ls (vJ b :: vJ a :: st) σ Q :=
  R_lcmp hd0 (R_if_eq ht hd (fun z => h1 (cmpL_eq.mp z)) (fun z => h2 ((fun w => z (cmpL_eq.mpr w)))))
theorem R_lcmp_ne {a b : Int} {off : Int} {tgt : Nat} (hd0 : decode (mC M) pc = .ok (.lcmp, 1)) (ht : ((pc + 1 : Nat) : Int) + off = (tgt : Int)) (hd : decode (mC M) (pc + 1) = .ok (.ifCond .ne off, 3)) (h1 : a ≠ b → Rn lay M tgt ls st σ Q) (h2 : a = b → Rn lay M (pc + 4) ls st σ Q) : Rn lay M pc ls (vJ b :: vJ a :: st) σ Q :=
  R_lcmp hd0 (R_if_ne ht hd (fun z => h1 ((fun w => z (cmpL_eq.mpr w)))) (fun z => h2 (cmpL_eq.mp z)))
theorem R_lcmp_lt {a b : Int} {off : Int} {tgt : Nat} (hd0 : decode (mC M) pc = .ok (.lcmp, 1)) (ht : ((pc + 1 : Nat) : Int) + off = (tgt : Int)) (hd : decode (mC M) (pc + 1) = .ok (.ifCond .lt off, 3)) (h1 : a < b → Rn lay M tgt ls st σ Q) (h2 : b ≤ a → Rn lay M (pc + 4) ls st σ Q) : Rn lay M pc ls (vJ b :: vJ a :: st) σ Q :=
  R_lcmp hd0 (R_if_lt ht hd (fun z => h1 (cmpL_lt.mp z)) (fun z => h2 (cmpL_ge.mp z)))
theorem R_lcmp_ge {a b : Int} {off : Int} {tgt : Nat} (hd0 : decode (mC M) pc = .ok (.lcmp, 1)) (ht : ((pc + 1 : Nat) : Int) + off = (tgt : Int)) (hd : decode (mC M) (pc + 1) = .ok (.ifCond .ge off, 3)) (h1 : b ≤ a → Rn lay M tgt ls st σ Q) (h2 : a < b → Rn lay M (pc + 4) ls st σ Q) : Rn lay M pc ls (vJ b :: vJ a :: st) σ Q :=
  R_lcmp hd0 (R_if_ge ht hd (fun z => h1 (cmpL_ge.mp z)) (fun z => h2 (cmpL_lt.mp z)))
theorem R_lcmp_gt {a b : Int} {off : Int} {tgt : Nat} (hd0 : decode (mC M) pc = .ok (.lcmp, 1)) (ht : ((pc + 1 : Nat) : Int) + off = (tgt : Int)) (hd : decode (mC M) (pc + 1) = .ok (.ifCond .gt off, 3)) (h1 : b < a → Rn lay M tgt ls st σ Q) (h2 : a ≤ b → Rn lay M (pc + 4) ls st σ Q) : Rn lay M pc ls (vJ b :: vJ a :: st) σ Q :=
  R_lcmp hd0 (R_if_gt ht hd (fun z => h1 (cmpL_gt.mp z)) (fun z => h2 (cmpL_le.mp z)))
theorem R_lcmp_le {a b : Int} {off : Int} {tgt : Nat} (hd0 : decode (mC M) pc = .ok (.lcmp, 1)) (ht : ((pc + 1 : Nat) : Int) + off = (tgt : Int)) (hd : decode (mC M) (pc + 1) = .ok (.ifCond .le off, 3)) (h1 : a ≤ b → Rn lay M tgt ls st σ Q) (h2 : b < a → Rn lay M (pc + 4) ls st σ Q) : Rn lay M pc ls (vJ b :: vJ a :: st) σ Q :=
  R_lcmp hd0 (R_if_le ht hd (fun z => h1 (cmpL_le.mp z)) (fun z => h2 (cmpL_gt.mp z)))
/- memory -/
theorem cW_at {ad : Nat → Nat} {cA : Nat → ClassId} {q : Nat} {c : LC} (h : lay[q]? = some c) : (cW ad cA lay σ)[q]? = some (ad q, cE ad cA σ q c) := by
  rw [cW, List.getElem?_mapIdx, h]; rfl
theorem cE_off {ad : Nat → Nat} {cA : Nat → ClassId} {q q' : Nat} {j x : Int} {c : LC} (h : q' ≠ q) : cE ad cA (upM σ q j x) q' c = cE ad cA σ q' c := by
  have e : ∀ b, upM σ q j x q' b = σ q' b := fun b => if_neg (fun z => h z.1)
  rcases c with ⟨t, n, rs⟩ | ⟨k, fs⟩
  · simp only [cE, e]
  · simp only [cE, e]
theorem cW_set {ad : Nat → Nat} {cA : Nat → ClassId} {q : Nat} {j x : Int} {c : LC} (h : lay[q]? = some c) : (cW ad cA lay σ).set q (ad q, cE ad cA (upM σ q j x) q c) = cW ad cA lay (upM σ q j x) := by
  apply List.ext_getElem?
  intro i
  by_cases hi : i = q
  · subst hi
    rw [List.getElem?_set_self (by rw [cW, List.length_mapIdx]; exact (List.getElem?_eq_some_iff.mp h).1), cW_at h]
  · rw [List.getElem?_set_ne (Ne.symm hi), cW, cW, List.getElem?_mapIdx, List.getElem?_mapIdx]
    cases hc : lay[i]? with
    | none => rfl
    | some c' => simp only [Option.map_some]; rw [cE_off hi]
theorem cD {ad : Nat → Nat} {cA : Nat → ClassId} {A : Nat → Prop} (h : (∀ i j, i < lay.length → j < lay.length → ad i = ad j → i = j) ∧ ∀ i, i < lay.length → A (ad i)) : va_D A (cW ad cA lay σ) := by
  have key : ∀ (k : Nat) (q : Nat × va_E), (cW ad cA lay σ)[k]? = some q → k < lay.length ∧ q.1 = ad k := by
    intro k q hk
    rw [cW, List.getElem?_mapIdx] at hk
    cases hc : lay[k]? with
    | none => rw [hc] at hk; cases hk
    | some c => rw [hc] at hk; cases hk; exact ⟨(List.getElem?_eq_some_iff.mp hc).1, rfl⟩
  refine ⟨fun i j p q hi hj e => ?_, fun k q hk => ?_⟩
  · obtain ⟨l1, e1⟩ := key i p hi
    obtain ⟨l2, e2⟩ := key j q hj
    exact h.1 i j l1 l2 (by rw [← e1, ← e2]; exact e)
  · obtain ⟨l1, e1⟩ := key k q hk
    rw [e1]; exact h.2 k l1
/-- a field's place by its link: class number ci, field k, as the word of the pool entry idx of the class own says -/
def FL (own : String) (idx ci k : Nat) : Prop := ∃ (C : String) (T : u_T) (N : Nat), vwCl[ci]? = some (C, T, N) ∧ k < N ∧ (∀ w ∈ u_ws C T N, w ∈ WT) ∧ Cond.fieldLink own idx (T k).1 (T k).2.1 (T k).2.2.1 ∈ WT
def FP (own : String) (idx ci k : Nat) (ty : FieldType) : Prop := ∃ (C : String) (T : u_T) (N : Nat) (t0 : Nat → FieldType), vwCl[ci]? = some (C, T, N) ∧ k < N ∧ (∀ w ∈ u_ws C T N, w ∈ WT) ∧ Cond.fieldLink own idx (T k).1 (T k).2.1 (T k).2.2.1 ∈ WT ∧ (∀ k, k < N → parseFieldDescriptor (T k).2.2.1 = some (t0 k)) ∧ (∀ a, a < N → ∀ b, b < N → a ≠ b → (T a).2.1 ≠ (T b).2.1) ∧ (T k).2.2.2 = false ∧ t0 k = ty
theorem R_get {q ci k idx d : Nat} {fs : List Nat} {v : AV} (hq : lay[q]? = some (.inr (ci, fs))) (hk : fs[k]? = some d) (hF : FL (mY M).cls idx ci k) (hv : ∀ ad, fv ad (σ q (k : Int)) d = rv ad v) (hok : inT d (σ q (k : Int)) → okV v) (hd : decode (mC M) pc = .ok (.getfield idx, 3)) (h : Rn lay M (pc + 3) ls (v :: st) σ Q) : Rn lay M pc ls (vP q :: st) σ Q := by
  intro hl hs hg p l e Rm s m args below meth c ad D cA A nc ns H locs lr C hP hS hlv
  obtain ⟨Cn, T, N, h1, h2, h3, h4⟩ := hF
  have C0 := C
  obtain ⟨hx, hb, hr, hml, hown, hts, hlk, hKN, hDD, hA, hrm⟩ := C
  refine va_get (D := D) (ci := ci) (C := Cn) (T := T) (N := N) (cl := vwCl) hx hb hts h3 hown hKN.1 hP q (cW_at hq) h1 k h2 (hts _ h4) (fun _ z => z) (v := rv ad v) ?_ hd ?_
  · rw [List.getElem?_mapIdx, hk, ← hv ad]; rfl
  · exact h hl (okc (hok (hg q _ hq k d hk)) (okt hs)) hg p l e Rm s m args below meth c ad D cA A nc ns H locs lr C0 hP hS hlv
theorem R_getI {q ci k idx : Nat} {fs : List Nat} (hq : lay[q]? = some (.inr (ci, fs))) (hk : fs[k]? = some 0) (hF : FL (mY M).cls idx ci k) (hd : decode (mC M) pc = .ok (.getfield idx, 3)) (h : Rn lay M (pc + 3) ls (vI (σ q (k : Int)) :: st) σ Q) : Rn lay M pc ls (vP q :: st) σ Q :=
  R_get (v := vI (σ q (k : Int))) hq hk hF (fun _ => rfl) (fun z => z) hd h
theorem R_getJ {q ci k idx : Nat} {fs : List Nat} (hq : lay[q]? = some (.inr (ci, fs))) (hk : fs[k]? = some 1) (hF : FL (mY M).cls idx ci k) (hd : decode (mC M) pc = .ok (.getfield idx, 3)) (h : Rn lay M (pc + 3) ls (vJ (σ q (k : Int)) :: st) σ Q) : Rn lay M pc ls (vP q :: st) σ Q :=
  R_get (v := vJ (σ q (k : Int))) hq hk hF (fun _ => rfl) (fun z => z) hd h
theorem R_getZ {q ci k idx : Nat} {fs : List Nat} (hq : lay[q]? = some (.inr (ci, fs))) (hk : fs[k]? = some 2) (hF : FL (mY M).cls idx ci k) (hd : decode (mC M) pc = .ok (.getfield idx, 3)) (h : Rn lay M (pc + 3) ls (vI (σ q (k : Int)) :: st) σ Q) : Rn lay M pc ls (vP q :: st) σ Q :=
  R_get (v := vI (σ q (k : Int))) hq hk hF (fun _ => rfl) (fun z => ⟨by have := z.1; omega, by have := z.2; omega⟩) hd h
theorem R_getP {q ci k idx q' : Nat} {fs : List Nat} (hq : lay[q]? = some (.inr (ci, fs))) (hk : fs[k]? = some (q' + 4)) (hF : FL (mY M).cls idx ci k) (hd : decode (mC M) pc = .ok (.getfield idx, 3)) (h : Rn lay M (pc + 3) ls (vP q' :: st) σ Q) : Rn lay M pc ls (vP q :: st) σ Q :=
  R_get (v := vP q') hq hk hF (fun _ => rfl) (fun _ => trivial) hd h
theorem rng_up {q : Nat} {j x : Int} (hg : rng lay σ) (hx : ∀ c, lay[q]? = some c → match c with
    | .inl (t, n, _) => 0 ≤ j → j < n → inT t x
    | .inr (_, fs) => ∀ (k d : Nat), j = (k : Int) → fs[k]? = some d → inT d x) : rng lay (upM σ q j x) := by
  intro q' c hc
  have h0 := hg q' c hc
  by_cases hq : q' = q
  · subst hq
    have h1 := hx c hc
    rcases c with ⟨t, n, rs⟩ | ⟨k, fs⟩
    · intro j' hj'
      by_cases hj : (j' : Int) = j
      · rw [show upM σ q' j x q' (j' : Int) = x from if_pos ⟨rfl, hj⟩]
        exact h1 (by omega) (by omega)
      · rw [show upM σ q' j x q' (j' : Int) = σ q' (j' : Int) from if_neg (fun z => hj z.2)]
        exact h0 j' hj'
    · intro j' d hd
      by_cases hj : (j' : Int) = j
      · rw [show upM σ q' j x q' (j' : Int) = x from if_pos ⟨rfl, hj⟩]
        exact h1 j' d hj.symm hd
      · rw [show upM σ q' j x q' (j' : Int) = σ q' (j' : Int) from if_neg (fun z => hj z.2)]
        exact h0 j' d hd
  · have e : ∀ b, upM σ q j x q' b = σ q' b := fun b => if_neg (fun z => hq z.1)
    rcases c with ⟨t, n, rs⟩ | ⟨k, fs⟩
    · intro j' hj'; rw [e]; exact h0 j' hj'
    · intro j' d hd; rw [e]; exact h0 j' d hd
theorem fs_set {ad : Nat → Nat} {q k d : Nat} {x : Int} {fs : List Nat} (hk : fs[k]? = some d) : (fs.mapIdx fun j d => fv ad (σ q (j : Int)) d).set k (fv ad x d) = fs.mapIdx fun j d => fv ad (upM σ q (k : Int) x q (j : Int)) d := by
  apply List.ext_getElem?
  intro i
  by_cases hi : i = k
  · subst hi
    rw [List.getElem?_set_self (by rw [List.length_mapIdx]; exact (List.getElem?_eq_some_iff.mp hk).1), List.getElem?_mapIdx, hk]
    simp [upM]
  · rw [List.getElem?_set_ne (Ne.symm hi), List.getElem?_mapIdx, List.getElem?_mapIdx]
    cases hc : fs[i]? with
    | none => rfl
    | some c' =>
      simp only [Option.map_some]
      rw [show upM σ q (k : Int) x q (i : Int) = σ q (i : Int) from if_neg (fun z => hi (by have := z.2; omega))]
theorem R_put {q ci k idx d : Nat} {fs : List Nat} {v : AV} {x : Int} {ty : FieldType} (hq : lay[q]? = some (.inr (ci, fs))) (hk : fs[k]? = some d) (hF : FP (mY M).cls idx ci k ty) (hv : ∀ ad, rv ad v = fv ad x d) (hn : ∀ ad, okV v → narrow ty (rv ad v) = rv ad v ∧ fits ty (rv ad v) = true) (hin : okV v → inT d x) (hd : decode (mC M) pc = .ok (.putfield idx, 3)) (h : Rn lay M (pc + 3) ls st (upM σ q (k : Int) x) Q) : Rn lay M pc ls (v :: vP q :: st) σ Q := by
  intro hl hs hg p l e Rm s m args below meth c ad D cA A nc ns H locs lr C hP hS hlv
  obtain ⟨Cn, T, N, t0, h1, h2, h3, h4, h5, h6, h7, h8⟩ := hF
  have C0 := C
  obtain ⟨hx, hb, hr, hml, hown, hts, hlk, hKN, hDD, hA, hrm⟩ := C
  refine va_put (D := D) (ci := ci) (C := Cn) (T := T) (N := N) (cl := vwCl) (ty := ty) (v := rv ad v) hx hb hts h3 t0 h5 h6 hown hKN.1 hP (cD hDD) hS q (cW_at hq) h1 k h2 (hts _ h4) (fun _ z => z) h7 (by rw [h5 k h2, h8]) (hn ad (okh hs)).1 (hn ad (okh hs)).2 (by rw [List.length_mapIdx]; exact (List.getElem?_eq_some_iff.mp hk).1) hd (fun H1 locs1 hP1 hD1 hS1 => ?_)
  have hP2 : va_P D vwCl (cW ad cA lay (upM σ q (k : Int) x)) H1 := by
    rw [← cW_set hq]
    rw [hv ad, fs_set hk] at hP1
    exact hP1
  refine h hl (okt (okt hs)) (rng_up hg (fun c hc => ?_)) p l e Rm s m args below meth c ad D cA A nc ns H1 locs1 lr C0 hP2 hS1 hlv
  rw [hq] at hc
  cases hc
  intro k' d' e1 e2
  have : k' = k := by omega
  subst this
  rw [hk] at e2
  cases e2
  exact hin (okh hs)
theorem R_putI {q ci k idx : Nat} {fs : List Nat} {x : Int} (hq : lay[q]? = some (.inr (ci, fs))) (hk : fs[k]? = some 0) (hF : FP (mY M).cls idx ci k .int) (hd : decode (mC M) pc = .ok (.putfield idx, 3)) (h : Rn lay M (pc + 3) ls st (upM σ q (k : Int) x) Q) : Rn lay M pc ls (vI x :: vP q :: st) σ Q :=
  R_put hq hk hF (fun _ => rfl) (fun _ _ => ⟨rfl, rfl⟩) (fun z => z) hd h
theorem R_putJ {q ci k idx : Nat} {fs : List Nat} {x : Int} (hq : lay[q]? = some (.inr (ci, fs))) (hk : fs[k]? = some 1) (hF : FP (mY M).cls idx ci k .long) (hd : decode (mC M) pc = .ok (.putfield idx, 3)) (h : Rn lay M (pc + 3) ls st (upM σ q (k : Int) x) Q) : Rn lay M pc ls (vJ x :: vP q :: st) σ Q :=
  R_put hq hk hF (fun _ => rfl) (fun _ _ => ⟨rfl, rfl⟩) (fun z => z) hd h
theorem R_putZ {q ci k idx : Nat} {fs : List Nat} {x : Int} (hx : x = 0 ∨ x = 1) (hq : lay[q]? = some (.inr (ci, fs))) (hk : fs[k]? = some 2) (hF : FP (mY M).cls idx ci k .boolean) (hd : decode (mC M) pc = .ok (.putfield idx, 3)) (h : Rn lay M (pc + 3) ls st (upM σ q (k : Int) x) Q) : Rn lay M pc ls (vI x :: vP q :: st) σ Q :=
  R_put hq hk hF (fun _ => rfl) (fun _ _ => by rcases hx with rfl | rfl <;> exact ⟨rfl, rfl⟩) (fun _ => by rcases hx with rfl | rfl <;> exact ⟨by decide, by decide⟩) hd h
/- arrays -/
theorem tyA_at (cA : Nat → ClassId) : (tyA cA)[0]? = some (cA 0, .int) ∧ (tyA cA)[1]? = some (cA 1, .long) ∧ (tyA cA)[2]? = some (cA 2, .boolean) ∧ (tyA cA)[3]? = some (cA 3, .byte) ∧ (tyA cA)[4]? = some (cA 4, .object RX0) ∧ (tyA cA)[5]? = some (cA 5, .object RX4) := ⟨rfl, rfl, rfl, rfl, rfl, rfl⟩
theorem arr_at {t n : Nat} {rs : List Nat} {q : Nat} {i : Int} (hg : rng lay σ) (hq : lay[q]? = some (.inl (t, n, rs))) (h0 : 0 ≤ i) (h1 : i < (n : Int)) : inT t (σ q i) := by
  have := hg q _ hq i.toNat (by omega)
  rwa [Int.toNat_of_nonneg h0] at this
theorem R_ald {t n : Nat} {rs : List Nat} {q : Nat} {i : Int} {v : AV} (hq : lay[q]? = some (.inl (t, n, rs))) (h0 : 0 ≤ i) (h1 : i < (n : Int)) (hok : inT t (σ q i) → okV v)
    (hw : ∀ (p : Program) (l : Launch) (e : Env) (Rm : Room) (s : State) (m : MethodId) (args : Array Value) (below : List Frame) (meth : Method) (c : Code) (nc ns : Nat) (H : Heap) (locs : List Loc) (Z : State → Prop) (lr : Array Slot) (ad : Nat → Nat) (D : va_G) (cA : Nat → ClassId) (rest : List Value), p.tables.exec = Jvm.exec → c.code = mC M → va_K D vwCl (tyA cA) s → va_P D vwCl (cW ad cA lay σ) H → (cW ad cA lay σ)[q]? = some (ad q, cE ad cA σ q (.inl (t, n, rs))) → inT 0 i →
      W p l e Rm s m args below meth c H locs nc ns Z (F0 m (pc + 1) lr (rv ad v :: rest)) → W p l e Rm s m args below meth c H locs nc ns Z (F0 m pc lr (.int (Int32.ofInt i) :: .ref (ad q) :: rest)))
    (h : Rn lay M (pc + 1) ls (v :: st) σ Q) : Rn lay M pc ls (vI i :: vP q :: st) σ Q := by
  intro hl hs hg p l e Rm s m args below meth c ad D cA A nc ns H locs lr C hP hS hlv
  exact hw p l e Rm s m args below meth c nc ns H locs _ lr ad D cA _ C.1 C.2.1 C.2.2.2.2.2.2.2.1.1 hP (cW_at hq) (okh hs) (h hl (okc (hok (arr_at hg hq h0 h1)) (okt (okt hs))) hg p l e Rm s m args below meth c ad D cA A nc ns H locs lr C hP hS hlv)
theorem fclamp {i : Int} (hi : inT 0 i) (h0 : 0 ≤ i) : (((Int32.ofInt i).toNatClampNeg : Nat) : Int) = i := by rw [clampN hi h0, Int.toNat_of_nonneg h0]
theorem R_iaload {n : Nat} {rs : List Nat} {q : Nat} {i : Int} (hq : lay[q]? = some (.inl (0, n, rs))) (h0 : 0 ≤ i) (h1 : i < (n : Int)) (hd : decode (mC M) pc = .ok (.iaload, 1)) (h : Rn lay M (pc + 1) ls (vI (σ q i) :: st) σ Q) : Rn lay M pc ls (vI i :: vP q :: st) σ Q :=
  R_ald (v := vI (σ q i)) hq h0 h1 (fun z => z) (fun p l e Rm s m args below meth c nc ns H locs Z lr ad D cA rest hx hb hK hP he hi k => by
    refine va_iald hx hb hK hP q 0 (f := fun j => Int32.ofInt (σ q (j : Int))) he (tyA_at cA).1 (vpin hi h0 h1) hd ?_
    rw [fclamp hi h0]
    exact k) h
theorem R_laload {n : Nat} {rs : List Nat} {q : Nat} {i : Int} (hq : lay[q]? = some (.inl (1, n, rs))) (h0 : 0 ≤ i) (h1 : i < (n : Int)) (hd : decode (mC M) pc = .ok (.laload, 1)) (h : Rn lay M (pc + 1) ls (vJ (σ q i) :: st) σ Q) : Rn lay M pc ls (vI i :: vP q :: st) σ Q :=
  R_ald (v := vJ (σ q i)) hq h0 h1 (fun z => z) (fun p l e Rm s m args below meth c nc ns H locs Z lr ad D cA rest hx hb hK hP he hi k => by
    refine va_lald hx hb hK hP q 1 (f := fun j => Int64.ofInt (σ q (j : Int))) he (tyA_at cA).2.1 (vpin hi h0 h1) hd ?_
    rw [fclamp hi h0]
    exact k) h
theorem R_zaload {n : Nat} {rs : List Nat} {q : Nat} {i : Int} (hq : lay[q]? = some (.inl (2, n, rs))) (h0 : 0 ≤ i) (h1 : i < (n : Int)) (hd : decode (mC M) pc = .ok (.baload, 1)) (h : Rn lay M (pc + 1) ls (vI (σ q i) :: st) σ Q) : Rn lay M pc ls (vI i :: vP q :: st) σ Q :=
  R_ald (v := vI (σ q i)) hq h0 h1 (fun z => ⟨by have := z.1; omega, by have := z.2; omega⟩) (fun p l e Rm s m args below meth c nc ns H locs Z lr ad D cA rest hx hb hK hP he hi k => by
    refine va_zald hx hb hK hP q 2 (f := fun j => Int32.ofInt (σ q (j : Int))) he (tyA_at cA).2.2.1 (vpin hi h0 h1) hd ?_
    rw [fclamp hi h0]
    exact k) h
theorem R_baload {n : Nat} {rs : List Nat} {q : Nat} {i : Int} (hq : lay[q]? = some (.inl (3, n, rs))) (h0 : 0 ≤ i) (h1 : i < (n : Int)) (hd : decode (mC M) pc = .ok (.baload, 1)) (h : Rn lay M (pc + 1) ls (vI (σ q i) :: st) σ Q) : Rn lay M pc ls (vI i :: vP q :: st) σ Q :=
  R_ald (v := vI (σ q i)) hq h0 h1 (fun z => ⟨by have := z.1; omega, by have := z.2; omega⟩) (fun p l e Rm s m args below meth c nc ns H locs Z lr ad D cA rest hx hb hK hP he hi k => by
    refine va_bald hx hb hK hP q 3 (f := fun j => Int32.ofInt (σ q (j : Int))) he (tyA_at cA).2.2.2.1 (vpin hi h0 h1) hd ?_
    rw [fclamp hi h0]
    exact k) h
theorem R_aaload4 {n : Nat} {rs : List Nat} {q q' : Nat} {i : Int} (hq : lay[q]? = some (.inl (4, n, rs))) (h0 : 0 ≤ i) (h1 : i < (n : Int)) (hr : rs[i.toNat]? = some q') (hd : decode (mC M) pc = .ok (.aaload, 1)) (h : Rn lay M (pc + 1) ls (vP q' :: st) σ Q) : Rn lay M pc ls (vI i :: vP q :: st) σ Q :=
  R_ald (v := vP q') hq h0 h1 (fun _ => trivial) (fun p l e Rm s m args below meth c nc ns H locs Z lr ad D cA rest hx hb hK hP he hi k => by
    refine va_aldq hx hb hK hP q 4 (f := fun j => (rs[j]?).map ad) he (tyA_at cA).2.2.2.2.1 (vpin hi h0 h1) hd ?_
    rw [clampN hi h0, hr]
    exact k) h
theorem R_aaload5 {n : Nat} {rs : List Nat} {q q' : Nat} {i : Int} (hq : lay[q]? = some (.inl (5, n, rs))) (h0 : 0 ≤ i) (h1 : i < (n : Int)) (hr : rs[i.toNat]? = some q') (hd : decode (mC M) pc = .ok (.aaload, 1)) (h : Rn lay M (pc + 1) ls (vP q' :: st) σ Q) : Rn lay M pc ls (vI i :: vP q :: st) σ Q :=
  R_ald (v := vP q') hq h0 h1 (fun _ => trivial) (fun p l e Rm s m args below meth c nc ns H locs Z lr ad D cA rest hx hb hK hP he hi k => by
    refine va_aldq hx hb hK hP q 5 (f := fun j => (rs[j]?).map ad) he (tyA_at cA).2.2.2.2.2 (vpin hi h0 h1) hd ?_
    rw [clampN hi h0, hr]
    exact k) h
theorem R_alen {n : Nat} {rs : List Nat} {q : Nat} (hq : lay[q]? = some (.inl (0, n, rs))) (hn : n < 1000000) (hd : decode (mC M) pc = .ok (.arraylength, 1)) (h : Rn lay M (pc + 1) ls (vI (n : Int) :: st) σ Q) : Rn lay M pc ls (vP q :: st) σ Q := by
  intro hl hs hg p l e Rm s m args below meth c ad D cA A nc ns H locs lr C hP hS hlv
  refine va_alen C.1 C.2.1 C.2.2.2.2.2.2.2.1.1 hP q 0 (cW_at hq) (tyA_at cA).1 (v := Int32.ofInt (n : Int)) (Int32.ofInt_eq_ofNat).symm hd ?_
  exact h hl (okc (show inT 0 (n : Int) from ⟨by omega, by omega⟩) (okt hs)) hg p l e Rm s m args below meth c ad D cA A nc ns H locs lr C hP hS hlv
theorem R_ast {t n : Nat} {rs : List Nat} {q : Nat} {i x : Int} {v : AV} (hq : lay[q]? = some (.inl (t, n, rs))) (h0 : 0 ≤ i) (h1 : i < (n : Int)) (hin : okV v → inT t x)
    (hw : ∀ (p : Program) (l : Launch) (e : Env) (Rm : Room) (s : State) (m : MethodId) (args : Array Value) (below : List Frame) (meth : Method) (c : Code) (nc ns : Nat) (H : Heap) (locs : List Loc) (Z : State → Prop) (lr : Array Slot) (ad : Nat → Nat) (D : va_G) (cA : Nat → ClassId) (A : Nat → Prop) (rest : List Value), p.tables.exec = Jvm.exec → c.code = mC M → va_K D vwCl (tyA cA) s → va_P D vwCl (cW ad cA lay σ) H → va_D A (cW ad cA lay σ) → va_S A s.heap H locs → (cW ad cA lay σ)[q]? = some (ad q, cE ad cA σ q (.inl (t, n, rs))) → inT 0 i → okV v →
      (∀ (H1 : Heap) (locs1 : List Loc), va_P D vwCl ((cW ad cA lay σ).set q (ad q, cE ad cA (upM σ q i x) q (.inl (t, n, rs)))) H1 → va_S A s.heap H1 locs1 → W p l e Rm s m args below meth c H1 locs1 nc ns Z (F0 m (pc + 1) lr rest)) → W p l e Rm s m args below meth c H locs nc ns Z (F0 m pc lr (rv ad v :: .int (Int32.ofInt i) :: .ref (ad q) :: rest)))
    (h : Rn lay M (pc + 1) ls st (upM σ q i x) Q) : Rn lay M pc ls (v :: vI i :: vP q :: st) σ Q := by
  intro hl hs hg p l e Rm s m args below meth c ad D cA A nc ns H locs lr C hP hS hlv
  refine hw p l e Rm s m args below meth c nc ns H locs _ lr ad D cA A _ C.1 C.2.1 C.2.2.2.2.2.2.2.1.1 hP (cD C.2.2.2.2.2.2.2.2.1) hS (cW_at hq) (okh (okt hs)) (okh hs) (fun H1 locs1 hP1 hS1 => ?_)
  rw [cW_set hq] at hP1
  refine h hl (okt (okt (okt hs))) (rng_up hg (fun c hc => ?_)) p l e Rm s m args below meth c ad D cA A nc ns H1 locs1 lr C hP1 hS1 hlv
  rw [hq] at hc
  cases hc
  intro _ _
  exact hin (okh hs)
theorem up_fun {q : Nat} {i x : Int} {n : Nat} (hi : inT 0 i) (h0 : 0 ≤ i) : (fun j : Nat => Int32.ofInt (upM σ q i x q (j : Int))) = upd (fun j : Nat => Int32.ofInt (σ q (j : Int))) (Int32.ofInt i).toNatClampNeg (Int32.ofInt x) := by
  funext j
  rw [clampN hi h0]
  unfold upd upM
  by_cases hj : j = i.toNat
  · rw [if_pos hj, if_pos ⟨rfl, by omega⟩]
  · rw [if_neg hj, if_neg (fun z => hj (by have := z.2; omega))]
theorem up_funL {q : Nat} {i x : Int} {n : Nat} (hi : inT 0 i) (h0 : 0 ≤ i) : (fun j : Nat => Int64.ofInt (upM σ q i x q (j : Int))) = vp_updL (fun j : Nat => Int64.ofInt (σ q (j : Int))) (Int32.ofInt i).toNatClampNeg (Int64.ofInt x) := by
  funext j
  rw [clampN hi h0]
  unfold vp_updL upM
  by_cases hj : j = i.toNat
  · rw [if_pos hj, if_pos ⟨rfl, by omega⟩]
  · rw [if_neg hj, if_neg (fun z => hj (by have := z.2; omega))]
theorem R_iastore {n : Nat} {rs : List Nat} {q : Nat} {i x : Int} (hq : lay[q]? = some (.inl (0, n, rs))) (h0 : 0 ≤ i) (h1 : i < (n : Int)) (hd : decode (mC M) pc = .ok (.iastore, 1)) (h : Rn lay M (pc + 1) ls st (upM σ q i x) Q) : Rn lay M pc ls (vI x :: vI i :: vP q :: st) σ Q :=
  R_ast hq h0 h1 (fun z => z) (fun p l e Rm s m args below meth c nc ns H locs Z lr ad D cA A rest hx hb hK hP hD hS he hi hv k => by
    refine va_iast hx hb hK hP hD hS q 0 (f := fun j => Int32.ofInt (σ q (j : Int))) he (tyA_at cA).1 (vpin hi h0 h1) hd (fun H1 locs1 hP1 _ hS1 => k H1 locs1 ?_ hS1)
    simp only [cE, aV, up_fun (n := n) hi h0]
    exact hP1) h
theorem R_lastore {n : Nat} {rs : List Nat} {q : Nat} {i x : Int} (hq : lay[q]? = some (.inl (1, n, rs))) (h0 : 0 ≤ i) (h1 : i < (n : Int)) (hd : decode (mC M) pc = .ok (.lastore, 1)) (h : Rn lay M (pc + 1) ls st (upM σ q i x) Q) : Rn lay M pc ls (vJ x :: vI i :: vP q :: st) σ Q :=
  R_ast hq h0 h1 (fun z => z) (fun p l e Rm s m args below meth c nc ns H locs Z lr ad D cA A rest hx hb hK hP hD hS he hi hv k => by
    refine va_last hx hb hK hP hD hS q 1 (f := fun j => Int64.ofInt (σ q (j : Int))) he (tyA_at cA).2.1 (vpin hi h0 h1) hd (fun H1 locs1 hP1 _ hS1 => k H1 locs1 ?_ hS1)
    simp only [cE, aV, up_funL (n := n) hi h0]
    exact hP1) h
theorem narZ {x : Int} (hx : x = 0 ∨ x = 1) : vp_nar .boolean (Int32.ofInt x) = Int32.ofInt x := by rcases hx with rfl | rfl <;> rfl
theorem narB {x : Int} (hx : -128 ≤ x ∧ x ≤ 127) : vp_nar .byte (Int32.ofInt x) = Int32.ofInt x := by
  have hi : inT 0 x := ⟨by omega, by omega⟩
  rw [vp_nar_byte, i32b hi]
  congr 1
  unfold w8
  exact Int.bmod_eq_of_le (by omega) (by omega)
theorem R_zastore {n : Nat} {rs : List Nat} {q : Nat} {i x : Int} (hx0 : x = 0 ∨ x = 1) (hq : lay[q]? = some (.inl (2, n, rs))) (h0 : 0 ≤ i) (h1 : i < (n : Int)) (hd : decode (mC M) pc = .ok (.bastore, 1)) (h : Rn lay M (pc + 1) ls st (upM σ q i x) Q) : Rn lay M pc ls (vI x :: vI i :: vP q :: st) σ Q :=
  R_ast hq h0 h1 (fun _ => by rcases hx0 with rfl | rfl <;> exact ⟨by decide, by decide⟩) (fun p l e Rm s m args below meth c nc ns H locs Z lr ad D cA A rest hx hb hK hP hD hS he hi hv k => by
    refine va_zast hx hb hK hP hD hS q 2 (f := fun j => Int32.ofInt (σ q (j : Int))) he (tyA_at cA).2.2.1 (vpin hi h0 h1) hd (fun H1 locs1 hP1 _ hS1 => k H1 locs1 ?_ hS1)
    rw [narZ hx0] at hP1
    simp only [cE, aV, up_fun (n := n) hi h0]
    exact hP1) h
theorem R_bastore {n : Nat} {rs : List Nat} {q : Nat} {i x : Int} (hx0 : -128 ≤ x ∧ x ≤ 127) (hq : lay[q]? = some (.inl (3, n, rs))) (h0 : 0 ≤ i) (h1 : i < (n : Int)) (hd : decode (mC M) pc = .ok (.bastore, 1)) (h : Rn lay M (pc + 1) ls st (upM σ q i x) Q) : Rn lay M pc ls (vI x :: vI i :: vP q :: st) σ Q :=
  R_ast hq h0 h1 (fun _ => hx0) (fun p l e Rm s m args below meth c nc ns H locs Z lr ad D cA A rest hx hb hK hP hD hS he hi hv k => by
    refine va_bast hx hb hK hP hD hS q 3 (f := fun j => Int32.ofInt (σ q (j : Int))) he (tyA_at cA).2.2.2.1 (vpin hi h0 h1) hd (fun H1 locs1 hP1 _ hS1 => k H1 locs1 ?_ hS1)
    rw [narB hx0] at hP1
    simp only [cE, aV, up_fun (n := n) hi h0]
    exact hP1) h
/- switches -/
theorem R_tableIn {dflt lo hi : Int} {offs : Array Int} {len : Nat} {x off : Int} {tgt : Nat} (k : Nat) (hx0 : x = lo + (k : Int)) (hk : x ≤ hi) (ho : offs[k]? = some off) (ht : (pc : Int) + off = (tgt : Int)) (hd : decode (mC M) pc = .ok (.tableswitch dflt lo hi offs, len)) (h : Rn lay M tgt ls st σ Q) : Rn lay M pc ls (vI x :: st) σ Q :=
  Rn.stk h (fun _ hs => okt hs) (fun p l e Rm s m args below meth c nc ns H locs Z lr ad hx hb _ _ hs k1 => by
    have e1 : (Int32.ofInt x).toInt = x := i32r (okh hs)
    exact lv_tableIn hx hb hd (by rw [e1]; omega) (by rw [e1]; omega) (by rw [e1, hx0, show (lo + (k : Int) - lo).toNat = k by omega]; exact ho) ht k1)
theorem R_tableOut {dflt lo hi : Int} {offs : Array Int} {len : Nat} {x : Int} {tgt : Nat} (hx0 : x < lo ∨ hi < x) (ht : (pc : Int) + dflt = (tgt : Int)) (hd : decode (mC M) pc = .ok (.tableswitch dflt lo hi offs, len)) (h : Rn lay M tgt ls st σ Q) : Rn lay M pc ls (vI x :: st) σ Q :=
  Rn.stk h (fun _ hs => okt hs) (fun p l e Rm s m args below meth c nc ns H locs Z lr ad hx hb _ _ hs k1 => by
    have e1 : (Int32.ofInt x).toInt = x := i32r (okh hs)
    exact lv_tableOut hx hb hd (by rw [e1]; exact hx0) ht k1)
theorem R_lookup {dflt : Int} {ps : Array (Int × Int)} {len : Nat} {x off : Int} {tgt : Nat} (hp : (ps.toList.zip (ps.toList.drop 1)).all (fun (a, next) => a.1 < next.1) = true) (ho : Op.lookupswitch.offset ps.toList dflt x = off) (ht : (pc : Int) + off = (tgt : Int)) (hd : decode (mC M) pc = .ok (.lookupswitch dflt ps, len)) (h : Rn lay M tgt ls st σ Q) : Rn lay M pc ls (vI x :: st) σ Q :=
  Rn.stk h (fun _ hs => okt hs) (fun p l e Rm s m args below meth c nc ns H locs Z lr ad hx hb _ _ hs k1 => by
    have e1 : (Int32.ofInt x).toInt = x := i32r (okh hs)
    exact lv_lookup hx hb hd hp (by rw [e1]; exact ho) ht k1)
/- the end of a method -/
theorem R_iret {x : Int} (hR : mR M = some .int) (hd : decode (mC M) pc = .ok (.ireturn, 1)) (h : Q (vI x) σ) : Rn lay M pc ls [vI x] σ Q := by
  intro hl hs hg p l e Rm s m args below meth c ad D cA A nc ns H locs lr C hP hS hlv
  exact W.iret (v := Int32.ofInt x) C.1 C.2.1 (C.2.2.1.trans hR) (fun t ht _ => ⟨vI x, σ, by rw [roV, hR]; rfl, h, okh hs, hg, by rw [ht]; exact hP, hS.F ht⟩) hS.2.2 hd C.2.2.2.2.2.2.1
theorem R_zret {x : Int} (hR : mR M = some .boolean) (hx : x = 0 ∨ x = 1) (hd : decode (mC M) pc = .ok (.ireturn, 1)) (h : Q (vI x) σ) : Rn lay M pc ls [vI x] σ Q := by
  intro hl hs hg p l e Rm s m args below meth c ad D cA A nc ns H locs lr C hP hS hlv
  exact W.zret (v := Int32.ofInt x) C.1 C.2.1 (C.2.2.1.trans hR) (by rcases hx with rfl | rfl <;> rfl) (fun t ht _ => ⟨vI x, σ, by rw [roV, hR]; rfl, h, okh hs, hg, by rw [ht]; exact hP, hS.F ht⟩) hS.2.2 hd C.2.2.2.2.2.2.1
theorem R_lret {x : Int} (hR : mR M = some .long) (hd : decode (mC M) pc = .ok (.lreturn, 1)) (h : Q (vJ x) σ) : Rn lay M pc ls [vJ x] σ Q := by
  intro hl hs hg p l e Rm s m args below meth c ad D cA A nc ns H locs lr C hP hS hlv
  exact W.lret (v := Int64.ofInt x) C.1 C.2.1 (C.2.2.1.trans hR) (fun t ht _ => ⟨vJ x, σ, by rw [roV, hR]; rfl, h, okh hs, hg, by rw [ht]; exact hP, hS.F ht⟩) hS.2.2 hd C.2.2.2.2.2.2.1
theorem R_vret (hR : mR M = none) (hd : decode (mC M) pc = .ok (.return_, 1)) (h : Q (vI 0) σ) : Rn lay M pc ls [] σ Q := by
  intro hl hs hg p l e Rm s m args below meth c ad D cA A nc ns H locs lr C hP hS hlv
  exact W.vret C.1 C.2.1 (C.2.2.1.trans hR) (fun t ht _ => ⟨vI 0, σ, by rw [roV, hR], h, in0_0, hg, by rw [ht]; exact hP, hS.F ht⟩) hS.2.2 hd C.2.2.2.2.2.2.1
theorem R_aret {q : Nat} {n : String} (hR : mR M = some (.object n)) (hd : decode (mC M) pc = .ok (.areturn, 1)) (h : Q (vP q) σ) : Rn lay M pc ls [vP q] σ Q := by
  intro hl hs hg p l e Rm s m args below meth c ad D cA A nc ns H locs lr C hP hS hlv
  exact W.aret (v := .ref (ad q)) C.1 C.2.1 (C.2.2.1.trans hR) (Or.inl ⟨n, rfl⟩) (Or.inr ⟨_, rfl⟩) (fun t ht _ => ⟨vP q, σ, by rw [roV, hR]; rfl, h, okh hs, hg, by rw [ht]; exact hP, hS.F ht⟩) hS.2.2 hd C.2.2.2.2.2.2.1
/- calls -/
def roA (M : MI) (v : AV) : List AV := match mR M with
  | none => []
  | some _ => [v]
theorem wt_sub {w : Cond} (h : w ∈ WT) : w ∈ lw_tbl ∧ goodWord w = true := List.mem_filter.mp h
theorem nest_warm {s U : State} (hW : s.WarmedH U.vm) (h : ∀ w ∈ nestW, va_Nw w s) : ∀ w ∈ nestW, va_Nw w U := by
  intro w hw
  have h1 := h w hw
  obtain ⟨q, -, rfl⟩ := List.mem_map.mp hw
  exact va_Nw.warmM hW h1
theorem KN.warm {D : va_G} {cA : Nat → ClassId} {s U : State} (hW : s.WarmedH U.vm) (h : KN D cA s) : KN D cA U := ⟨va_K.moved hW.alike h.1, nest_warm hW h.2⟩
theorem KN.calling {D : va_G} {cA : Nat → ClassId} {U : State} {g : JFrame} {mk : MethodId} {a : Array Value} (h : KN D cA U) : KN D cA (U.calling g mk a) := by
  refine ⟨va_K.moved (u := U) (U := U.calling g mk a) (Vm.Alike.refl U.vm) h.1, fun w hw => ?_⟩
  have h1 := h.2 w hw
  obtain ⟨q, -, rfl⟩ := List.mem_map.mp hw
  exact va_Nw.same rfl rfl h1
theorem wsM_good {My : MI} (hc : Cond.code (mY My) (mC My) (mL My) (mR My) ∈ WT) : GoodIn WT (wsM My) := by
  intro w hw
  rcases List.mem_cons.mp hw with rfl | hw
  · exact ⟨hc, good_of_word (wt_sub hc).2⟩
  · exact ⟨hw, good_of_word (wt_sub hw).2⟩
/-- what the tables say of a method: its code, its class, how many arguments -/
def MOK (M : MI) (n : Nat) : Prop := Cond.code (mY M) (mC M) (mL M) (mR M) ∈ WT ∧ Cond.initialized (mY M).cls ∈ WT ∧ ((mY M).cls ≠ "java/lang/invoke/MethodHandle" ∧ (mY M).cls ≠ "java/lang/invoke/VarHandle" ∧ (parseMethodDescriptor (mY M).desc).map (fun d => d.parameters.length) = some n) ∧ mL M ≤ 80
def MOV (M : MI) : Prop := Cond.instanceMethod (mY M) ∈ WT ∧ Cond.selects (mY M).cls (mY M) (mY M) ∈ WT
theorem catSum (ad : Nat → Nat) (st : List AV) : ((st.map (rv ad)).map fun v => v.category).sum = (st.map catA).sum := by
  rw [List.map_map]
  congr 1
  apply List.map_congr_left
  intro v _
  exact rv_cat ad v
theorem R_call {My : MI} {as : List AV} {P : AV → Mem → Prop} {stk : List AV} (hm : mK My < mK M) (hargs : ∀ v ∈ as, v ∈ stk) (hst : ∀ v ∈ st, v ∈ stk) (h : Cl lay My as σ P)
    (hrun : ∀ (p : Program) (l : Launch) (e : Env) (Rm : Room) (s : State) (m : MethodId) (args : Array Value) (below : List Frame) (meth : Method) (c : Code) (ad : Nat → Nat) (D : va_G) (cA : Nat → ClassId) (A : Nat → Prop) (nc ns : Nat) (H : Heap) (locs : List Loc) (lr : Array Slot), CX lay M p Rm s m args meth c ad D cA A nc ns → va_P D vwCl (cW ad cA lay σ) H → lr.size = mL M →
      Met l (mY My) (wsM My) (rmK (mK My)) (va_Pc (as.map (rv ad)) (fun U => U.heap.size = H.size ∧ va_P D vwCl (cW ad cA lay σ) U.heap ∧ KN D cA U)) (QC lay My ad D cA (aA lay ad H.size) P) 0 0 (aA lay ad H.size) →
      va_Run p l e Rm s m args below meth c H locs nc ns 0 0 (F0 m pc lr (stk.map (rv ad))) (st.map (rv ad)) (QC lay My ad D cA (aA lay ad H.size) P (as.map (rv ad)).toArray) (aA lay ad H.size))
    (kk : ∀ v σ', P v σ' → Rn lay M (pc + 3) ls (roA My v ++ st) σ' Q) : Rn lay M pc ls stk σ Q := by
  intro hl hs hg p l e Rm s m args below meth c ad D cA A nc ns H locs lr C hP hS hlv
  have hinj := C.2.2.2.2.2.2.2.2.1
  have hA := C.2.2.2.2.2.2.2.2.2.1
  have hmet := h (fun v hv => hs v (hargs v hv)) hg l ad D cA H.size hinj.1
  have hr := hrun p l e Rm s m args below meth c ad D cA A nc ns H locs lr C hP hlv.1 hmet
  have hAA : ∀ q, aA lay ad H.size q → A q := by
    intro q hq
    rcases hq with ⟨i, hi, rfl⟩ | hq
    · exact hinj.2 i hi
    · exact hA q (Nat.le_trans hS.1 hq)
  intro T hT X
  obtain ⟨v, st₀, t, T', L, h0, X', hL, e1, e2, ⟨w, σ', hv', hPw, hokw, hg', hP', hF'⟩, hgo⟩ := hr T hT X
  obtain ⟨hF1, hF2⟩ := hF'
  rw [h0] at hF1 hF2
  have hS' : va_S A s.heap T'.heap (locs ++ L) := by
    refine ⟨Nat.le_trans hS.1 (by rw [e1]; exact hF1), fun q h1 h2 => ?_, fun q hq => ?_⟩
    · rw [e1, hF2 q (Nat.lt_of_lt_of_le h1 hS.1) (fun z => h2 (hAA q z))]
      exact hS.2.1 q h1 h2
    · rcases List.mem_append.mp hq with hq | hq
      · exact hS.2.2 q hq
      · exact hAA _ (hL q hq)
  obtain ⟨t2, a1, b1⟩ := kk w σ' hPw hl (fun u hu => by
      rcases List.mem_append.mp hu with hu | hu
      · unfold roA at hu
        cases hRy : mR My with
        | none => rw [hRy] at hu; cases hu
        | some z => rw [hRy] at hu; rcases List.mem_singleton.mp hu with rfl; exact hokw
      · exact hs u (hst u hu)) hg' p l e Rm s m args below meth c ad D cA A nc ns T'.heap (locs ++ L) lr C (by rw [e1]; exact hP') hS' hlv T' rfl X'
  refine ⟨t2, hgo t2 ?_, b1⟩
  have e3 : v.toList ++ st.map (rv ad) = (roA My w ++ st).map (rv ad) := by
    have e4 : v = roV My ad w := by injection hv'
    rw [e4, List.map_append]
    unfold roA roV
    cases hRy : mR My with
    | none => rfl
    | some z => rfl
  rw [← e3] at a1
  exact a1
theorem R_callV {My : MI} {n q ci idx : Nat} {fs : List Nat} {as : List AV} {P : AV → Mem → Prop} {stk : List AV} (hs : stk = as.reverse ++ vP q :: st) (hM : MOK My n) (hV : MOV My) (hq : lay[q]? = some (.inr (ci, fs))) (hc : (vwCl[ci]?).map (fun z => z.1) = some (mY My).cls) (hlink : Cond.methodLink (mY M).cls idx (mY My) ∈ WT) (hk : mK My < mK M) (hn : as.length = n) (hst : (st.map catA).sum ≤ 8) (hd : decode (mC M) pc = .ok (.invokevirtual idx, 3)) (h : Cl lay My (vP q :: as) σ P) (kk : ∀ v σ', P v σ' → Rn lay M (pc + 3) ls (roA My v ++ st) σ' Q) : Rn lay M pc ls stk σ Q := by
  subst hs
  refine R_call hk (fun v hv => ?_) (fun v hv => List.mem_append_right _ (List.mem_cons_of_mem _ hv)) h (fun p l e Rm s m args below meth c ad D cA A nc ns H locs lr C hP hlr hmet => ?_) kk
  · rcases List.mem_cons.mp hv with rfl | hv
    · exact List.mem_append_right _ List.mem_cons_self
    · exact List.mem_append_left _ (List.mem_reverse.mpr hv)
  · obtain ⟨hx, hb, hr, hml, hown, hts, hlk, hKN, hDD, hA, hrm⟩ := C
    obtain ⟨cl1, hcl1⟩ : ∃ z, vwCl[ci]? = some z := by
      cases hz : vwCl[ci]? with
      | none => rw [hz] at hc; cases hc
      | some z => exact ⟨z, rfl⟩
    have hcn : cl1.1 = (mY My).cls := by rw [hcl1] at hc; exact Option.some.inj hc
    refine va_runV (As := as.map (rv ad)) (rest := st.map (rv ad)) (b := ad q) (C := (mY My).cls) (own := (mY M).cls) (Ts := WT) (bytes := mC My) (maxL := mL My) (ret := mR My) (n := n) ⟨hx, hb, hml, hown, hts⟩ hmet ⟨callB_of n hts (wsM_good hM.1) rfl rfl rfl (hts _ hM.2.1) (hts _ hlink) hM.2.2.1 ⟨?_, ?_⟩, hts _ hV.1, hts _ hV.2⟩ ⟨fun a U g mk hq => ⟨hq.1, hq.2.1, hq.2.2.1, hq.2.2.2.calling⟩, ?_, fun U hU hW => ⟨rfl, by rw [hU], by rw [hU]; exact hP, hKN.warm hW⟩⟩ rfl (by rw [List.length_map]; exact hn) hlr ?_ ?_ hd ⟨hrm.2.2.1, hrm.2.2.2⟩
    · show mK My + 1 ≤ Rm.frames
      have := hrm.1; omega
    · show 8 + (mL My + 11) + 100 * mK My ≤ Rm.locals
      have := hrm.2.1; have := hM.2.2.2; omega
    · obtain ⟨cell, h1, h2, h3⟩ := va_recv hKN.1 hP hcl1 (cW_at hq)
      exact ⟨cell, h1, h2, by rw [← hcn]; exact h3⟩
    · rw [List.map_append, List.map_reverse]; rfl
    · show 2 * 0 + _ ≤ 8
      rw [catSum]; omega
theorem R_callS {My : MI} {n idx : Nat} {as : List AV} {P : AV → Mem → Prop} {stk : List AV} (hs : stk = as.reverse ++ st) (hM : MOK My n) (hV : Cond.static (mY My) ∈ WT) (hlink : Cond.methodLink (mY M).cls idx (mY My) ∈ WT) (hk : mK My < mK M) (hn : as.length = n) (hst : (st.map catA).sum ≤ 8) (hd : decode (mC M) pc = .ok (.invokestatic idx, 3)) (h : Cl lay My as σ P) (kk : ∀ v σ', P v σ' → Rn lay M (pc + 3) ls (roA My v ++ st) σ' Q) : Rn lay M pc ls stk σ Q := by
  subst hs
  refine R_call hk (fun v hv => List.mem_append_left _ (List.mem_reverse.mpr hv)) (fun v hv => List.mem_append_right _ hv) h (fun p l e Rm s m args below meth c ad D cA A nc ns H locs lr C hP hlr hmet => ?_) kk
  obtain ⟨hx, hb, hr, hml, hown, hts, hlk, hKN, hDD, hA, hrm⟩ := C
  refine va_runS (As := as.map (rv ad)) (rest := st.map (rv ad)) (own := (mY M).cls) (Ts := WT) (bytes := mC My) (maxL := mL My) (ret := mR My) (n := n) ⟨hx, hb, hml, hown, hts⟩ hmet ⟨callB_of n hts (wsM_good hM.1) rfl rfl rfl (hts _ hM.2.1) (hts _ hlink) hM.2.2.1 ⟨?_, ?_⟩, hts _ hV⟩ ⟨fun a U g mk hq => ⟨hq.1, hq.2.1, hq.2.2.1, hq.2.2.2.calling⟩, fun U hU hW => ⟨rfl, by rw [hU], by rw [hU]; exact hP, hKN.warm hW⟩⟩ rfl (by rw [List.length_map]; exact hn) hlr ?_ ?_ hd ⟨hrm.2.2.1, hrm.2.2.2⟩
  · show mK My + 1 ≤ Rm.frames
    have := hrm.1; omega
  · show 8 + (mL My + 11) + 100 * mK My ≤ Rm.locals
    have := hrm.2.1; have := hM.2.2.2; omega
  · rw [List.map_append, List.map_reverse]
  · show 2 * 0 + _ ≤ 8
    rw [catSum]; omega
theorem R_callSN {My : MI} {n idx : Nat} {host : String} {as : List AV} {P : AV → Mem → Prop} {stk : List AV} (hs : stk = as.reverse ++ st) (hM : MOK My n) (hV : Cond.static (mY My) ∈ WT) (hlink : ((mY M).cls, idx, mY My, host) ∈ nestL) (hk : mK My < mK M) (hn : as.length = n) (hst : (st.map catA).sum ≤ 8) (hd : decode (mC M) pc = .ok (.invokestatic idx, 3)) (h : Cl lay My as σ P) (kk : ∀ v σ', P v σ' → Rn lay M (pc + 3) ls (roA My v ++ st) σ' Q) : Rn lay M pc ls stk σ Q := by
  subst hs
  refine R_call hk (fun v hv => List.mem_append_left _ (List.mem_reverse.mpr hv)) (fun v hv => List.mem_append_right _ hv) h (fun p l e Rm s m args below meth c ad D cA A nc ns H locs lr C hP hlr hmet => ?_) kk
  obtain ⟨hx, hb, hr, hml, hown, hts, hlk, hKN, hDD, hA, hrm⟩ := C
  refine va_runSN (As := as.map (rv ad)) (rest := st.map (rv ad)) (own := (mY M).cls) (host := host) (Ts := WT) (bytes := mC My) (maxL := mL My) (ret := mR My) (n := n) ⟨hx, hb, hml, hown, hts⟩ hmet ⟨va_cnB n hts (wsM_good hM.1) rfl rfl rfl (hKN.2 _ (List.mem_map.mpr ⟨_, hlink, rfl⟩)) (hts _ hM.2.1) hM.2.2.1 ⟨?_, ?_⟩, hts _ hV, trivial⟩ ⟨fun a U g mk hq => ⟨hq.1, hq.2.1, hq.2.2.1, hq.2.2.2.calling⟩, fun U hU hW => ⟨rfl, by rw [hU], by rw [hU]; exact hP, hKN.warm hW⟩⟩ rfl (by rw [List.length_map]; exact hn) hlr ?_ ?_ hd ⟨hrm.2.2.1, hrm.2.2.2⟩
  · show mK My + 1 ≤ Rm.frames
    have := hrm.1; omega
  · show 8 + (mL My + 11) + 100 * mK My ≤ Rm.locals
    have := hrm.2.1; have := hM.2.2.2; omega
  · rw [List.map_append, List.map_reverse]
  · show 2 * 0 + _ ≤ 8
    rw [catSum]; omega
/- the entry -/
def laL : Nat → List AV → List (Nat × AV)
  | _, [] => []
  | i, v :: vs => (i, v) :: laL (i + catA v) vs
theorem laL_map (ad : Nat → Nat) : ∀ (i : Nat) (as : List AV), lv_args i (as.map (rv ad)) = (laL i as).map fun q => (q.1, rv ad q.2)
  | _, [] => rfl
  | i, v :: vs => by
    show (i, rv ad v) :: lv_args _ (vs.map (rv ad)) = _
    have e : (if (rv ad v).category = 2 then i + 2 else i + 1) = i + catA v := by
      rw [rv_cat]
      rcases v with x | x | x <;> rfl
    rw [e, laL_map ad (i + catA v) vs]
    rfl
theorem laL_ok : ∀ (i : Nat) (as : List AV), (∀ v ∈ as, okV v) → ∀ q ∈ laL i as, okV q.2
  | _, [], _, q, hq => by cases hq
  | i, v :: vs, h, q, hq => by
    rcases List.mem_cons.mp hq with rfl | hq
    · exact okh h
    · exact laL_ok _ vs (okt h) q hq
theorem lg_len (ad : Nat → Nat) (as : List AV) : (lg_sl (as.map (rv ad))).length = (as.map catA).sum := by
  induction as with
  | nil => rfl
  | cons v t ih =>
    have e : (lg_sl ((v :: t).map (rv ad))).length = catA v + (lg_sl (t.map (rv ad))).length := by
      show (List.flatMap _ (rv ad v :: t.map (rv ad))).length = _
      rw [List.flatMap_cons, List.length_append]
      congr 1
      rw [rv_cat]
      rcases v with x | x | x <;> rfl
    rw [e, ih, List.map_cons, List.sum_cons]
theorem Cl.ofR {as : List AV} (hpl : plainName (mY M).cls = true) (hlen : (as.map catA).sum ≤ mL M) (hls : laL 0 as = ls) (h : Rn lay M 0 ls [] σ Q) : Cl lay M as σ Q := by
  intro ha hg l ad D cA sz hinj
  refine Met.ofW (cc := mC M) (maxL := mL M) (ret := mR M) hpl rfl ?_
  intro p e s m args below meth c s₁ B hml hv
  obtain ⟨rfl, hsz, hP, hKN⟩ := hv
  subst hsz
  have hts := atoms_spec (ws := wsM M) B.pre
  have hl := lv_entry (as.map (rv ad)) (n := mL M) (by rw [lg_len]; exact hlen)
  rw [lg_entry_eq]
  rw [laL_map, hls] at hl
  exact h (by rw [← hls]; exact laL_ok 0 as ha) (fun _ z => by cases z) hg p l e _ s m _ below meth c ad D cA (aA lay ad s.heap.size) 0 0 s.heap [] _
    ⟨B.exec, B.bytes, B.returns, hml, findClass_of_methodNamed B.named, fun w hw => hts w (List.mem_cons_of_mem _ hw), B.notSynchronized, hKN, ⟨hinj, fun i hi => Or.inl ⟨i, hi, rfl⟩⟩, fun q hq => Or.inr hq, ⟨Nat.le_refl _, Nat.le_refl _, Nat.le_refl _, Nat.le_refl _⟩⟩ hP va_S.rf hl
theorem Cl.mono {as : List AV} {P : AV → Mem → Prop} (h : Cl lay M as σ P) (hPQ : ∀ v σ', P v σ' → Q v σ') : Cl lay M as σ Q := by
  intro ha hg l ad D cA sz hinj p e h1 h2 h3 s m args below h4 h5 h6 h7
  obtain ⟨n, o, a1, a2, a3, ⟨v, σ', b1, b2, b3⟩, b4⟩ := h ha hg l ad D cA sz hinj p e h1 h2 h3 s m args below h4 h5 h6 h7
  exact ⟨n, o, a1, a2, a3, ⟨v, σ', b1, hPQ v σ' b2, b3⟩, b4⟩
end RR
end
