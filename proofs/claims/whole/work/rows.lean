section
-- ===== PART A: goes FIRST, ahead of the names: the tables' words, and 'selects' of the private methods out of them =====
/-- a private method of a class that the tables say can be made, by its rows of tables_1 -/
def lw_okq (q : MethodName × Nat) : Prop := (q.1.cls ≠ "java/lang/invoke/MethodHandle" ∧ q.1.cls ≠ "java/lang/invoke/VarHandle") ∧ Cond.instantiable q.1.cls q.2 ∈ tables_1 ∧ Cond.privateMethod q.1 ∈ tables_1 ∧ Cond.instanceMethod q.1 ∈ tables_1
theorem lw_p0 : lw_okq (⟨"CountedLists", "found", "(I)I"⟩, 14) := ⟨⟨by decide +kernel, by decide +kernel⟩, List.mem_of_getElem? (i := 14) (by decide +kernel), List.mem_of_getElem? (i := 205) (by decide +kernel), List.mem_of_getElem? (i := 206) (by decide +kernel)⟩
theorem lw_p1 : lw_okq (⟨"CountedLists", "foundNothing", "(I)I"⟩, 14) := ⟨⟨by decide +kernel, by decide +kernel⟩, List.mem_of_getElem? (i := 14) (by decide +kernel), List.mem_of_getElem? (i := 217) (by decide +kernel), List.mem_of_getElem? (i := 218) (by decide +kernel)⟩
theorem lw_p2 : lw_okq (⟨"CountedLists$Tape", "stepOn", "()V"⟩, 7) := ⟨⟨by decide +kernel, by decide +kernel⟩, List.mem_of_getElem? (i := 24) (by decide +kernel), List.mem_of_getElem? (i := 271) (by decide +kernel), List.mem_of_getElem? (i := 272) (by decide +kernel)⟩
theorem lw_p3 : lw_okq (⟨"CountedLists$Tape", "stepOverFigures", "()V"⟩, 7) := ⟨⟨by decide +kernel, by decide +kernel⟩, List.mem_of_getElem? (i := 24) (by decide +kernel), List.mem_of_getElem? (i := 278) (by decide +kernel), List.mem_of_getElem? (i := 279) (by decide +kernel)⟩
theorem lw_p4 : lw_okq (⟨"CountedLists$Tape", "readLaw", "(LCountedLists$Sheet;)V"⟩, 7) := ⟨⟨by decide +kernel, by decide +kernel⟩, List.mem_of_getElem? (i := 24) (by decide +kernel), List.mem_of_getElem? (i := 282) (by decide +kernel), List.mem_of_getElem? (i := 283) (by decide +kernel)⟩
theorem lw_p5 : lw_okq (⟨"CountedLists$Tape", "pass", "(I)V"⟩, 7) := ⟨⟨by decide +kernel, by decide +kernel⟩, List.mem_of_getElem? (i := 24) (by decide +kernel), List.mem_of_getElem? (i := 286) (by decide +kernel), List.mem_of_getElem? (i := 287) (by decide +kernel)⟩
theorem lw_p6 : lw_okq (⟨"CountedLists$Tape", "passNumber", "(I)I"⟩, 7) := ⟨⟨by decide +kernel, by decide +kernel⟩, List.mem_of_getElem? (i := 24) (by decide +kernel), List.mem_of_getElem? (i := 290) (by decide +kernel), List.mem_of_getElem? (i := 291) (by decide +kernel)⟩
theorem lw_p7 : lw_okq (⟨"CountedLists$Tape", "readParagraph", "(LCountedLists$Sheet;)V"⟩, 7) := ⟨⟨by decide +kernel, by decide +kernel⟩, List.mem_of_getElem? (i := 24) (by decide +kernel), List.mem_of_getElem? (i := 294) (by decide +kernel), List.mem_of_getElem? (i := 295) (by decide +kernel)⟩
theorem lw_p8 : lw_okq (⟨"CountedLists$Tape", "passSort", "(I)I"⟩, 7) := ⟨⟨by decide +kernel, by decide +kernel⟩, List.mem_of_getElem? (i := 24) (by decide +kernel), List.mem_of_getElem? (i := 298) (by decide +kernel), List.mem_of_getElem? (i := 299) (by decide +kernel)⟩
theorem lw_p9 : lw_okq (⟨"CountedLists$Sheet", "slide", "(III)V"⟩, 7) := ⟨⟨by decide +kernel, by decide +kernel⟩, List.mem_of_getElem? (i := 56) (by decide +kernel), List.mem_of_getElem? (i := 308) (by decide +kernel), List.mem_of_getElem? (i := 309) (by decide +kernel)⟩
theorem lw_p10 : lw_okq (⟨"CountedLists", "keepAct", "(III)V"⟩, 14) := ⟨⟨by decide +kernel, by decide +kernel⟩, List.mem_of_getElem? (i := 14) (by decide +kernel), List.mem_of_getElem? (i := 382) (by decide +kernel), List.mem_of_getElem? (i := 383) (by decide +kernel)⟩
theorem lw_p11 : lw_okq (⟨"CountedLists$Signs", "addFigures", "(I)V"⟩, 2) := ⟨⟨by decide +kernel, by decide +kernel⟩, List.mem_of_getElem? (i := 114) (by decide +kernel), List.mem_of_getElem? (i := 440) (by decide +kernel), List.mem_of_getElem? (i := 441) (by decide +kernel)⟩
theorem lw_p12 : lw_okq (⟨"CountedLists$Signs", "addRoman", "(I)V"⟩, 2) := ⟨⟨by decide +kernel, by decide +kernel⟩, List.mem_of_getElem? (i := 114) (by decide +kernel), List.mem_of_getElem? (i := 445) (by decide +kernel), List.mem_of_getElem? (i := 446) (by decide +kernel)⟩
theorem lw_p13 : lw_okq (⟨"CountedLists$Signs", "addLetters", "(II)V"⟩, 2) := ⟨⟨by decide +kernel, by decide +kernel⟩, List.mem_of_getElem? (i := 114) (by decide +kernel), List.mem_of_getElem? (i := 455) (by decide +kernel), List.mem_of_getElem? (i := 456) (by decide +kernel)⟩
theorem lw_p14 : lw_okq (⟨"CountedLists", "signOfLabel", "(III)I"⟩, 14) := ⟨⟨by decide +kernel, by decide +kernel⟩, List.mem_of_getElem? (i := 14) (by decide +kernel), List.mem_of_getElem? (i := 463) (by decide +kernel), List.mem_of_getElem? (i := 464) (by decide +kernel)⟩
theorem lw_p15 : lw_okq (⟨"CountedLists", "registeredAhead", "(I)I"⟩, 14) := ⟨⟨by decide +kernel, by decide +kernel⟩, List.mem_of_getElem? (i := 14) (by decide +kernel), List.mem_of_getElem? (i := 494) (by decide +kernel), List.mem_of_getElem? (i := 495) (by decide +kernel)⟩
def lw_privs_1 : List (MethodName × Nat) := [(⟨"CountedLists", "found", "(I)I"⟩, 14), (⟨"CountedLists", "foundNothing", "(I)I"⟩, 14), (⟨"CountedLists$Tape", "stepOn", "()V"⟩, 7), (⟨"CountedLists$Tape", "stepOverFigures", "()V"⟩, 7), (⟨"CountedLists$Tape", "readLaw", "(LCountedLists$Sheet;)V"⟩, 7), (⟨"CountedLists$Tape", "pass", "(I)V"⟩, 7), (⟨"CountedLists$Tape", "passNumber", "(I)I"⟩, 7), (⟨"CountedLists$Tape", "readParagraph", "(LCountedLists$Sheet;)V"⟩, 7), (⟨"CountedLists$Tape", "passSort", "(I)I"⟩, 7), (⟨"CountedLists$Sheet", "slide", "(III)V"⟩, 7), (⟨"CountedLists", "keepAct", "(III)V"⟩, 14), (⟨"CountedLists$Signs", "addFigures", "(I)V"⟩, 2), (⟨"CountedLists$Signs", "addRoman", "(I)V"⟩, 2), (⟨"CountedLists$Signs", "addLetters", "(II)V"⟩, 2), (⟨"CountedLists", "signOfLabel", "(III)I"⟩, 14), (⟨"CountedLists", "registeredAhead", "(I)I"⟩, 14)]
theorem lw_r1 : ∀ q ∈ lw_privs_1, lw_okq q := List.forall_mem_cons.mpr ⟨lw_p0, List.forall_mem_cons.mpr ⟨lw_p1, List.forall_mem_cons.mpr ⟨lw_p2, List.forall_mem_cons.mpr ⟨lw_p3, List.forall_mem_cons.mpr ⟨lw_p4, List.forall_mem_cons.mpr ⟨lw_p5, List.forall_mem_cons.mpr ⟨lw_p6, List.forall_mem_cons.mpr ⟨lw_p7, List.forall_mem_cons.mpr ⟨lw_p8, List.forall_mem_cons.mpr ⟨lw_p9, List.forall_mem_cons.mpr ⟨lw_p10, List.forall_mem_cons.mpr ⟨lw_p11, List.forall_mem_cons.mpr ⟨lw_p12, List.forall_mem_cons.mpr ⟨lw_p13, List.forall_mem_cons.mpr ⟨lw_p14, List.forall_mem_cons.mpr ⟨lw_p15, fun _ h => absurd h List.not_mem_nil⟩⟩⟩⟩⟩⟩⟩⟩⟩⟩⟩⟩⟩⟩⟩⟩
theorem lw_p16 : lw_okq (⟨"CountedLists", "countAt", "(II)I"⟩, 14) := ⟨⟨by decide +kernel, by decide +kernel⟩, List.mem_of_getElem? (i := 14) (by decide +kernel), List.mem_of_getElem? (i := 519) (by decide +kernel), List.mem_of_getElem? (i := 520) (by decide +kernel)⟩
theorem lw_p17 : lw_okq (⟨"CountedLists", "noteRestarts", "()V"⟩, 14) := ⟨⟨by decide +kernel, by decide +kernel⟩, List.mem_of_getElem? (i := 14) (by decide +kernel), List.mem_of_getElem? (i := 555) (by decide +kernel), List.mem_of_getElem? (i := 556) (by decide +kernel)⟩
theorem lw_p18 : lw_okq (⟨"CountedLists", "loseRestarts", "(II)V"⟩, 14) := ⟨⟨by decide +kernel, by decide +kernel⟩, List.mem_of_getElem? (i := 14) (by decide +kernel), List.mem_of_getElem? (i := 559) (by decide +kernel), List.mem_of_getElem? (i := 560) (by decide +kernel)⟩
theorem lw_p19 : lw_okq (⟨"CountedLists", "answerTo", "(III)I"⟩, 14) := ⟨⟨by decide +kernel, by decide +kernel⟩, List.mem_of_getElem? (i := 14) (by decide +kernel), List.mem_of_getElem? (i := 624) (by decide +kernel), List.mem_of_getElem? (i := 625) (by decide +kernel)⟩
theorem lw_p20 : lw_okq (⟨"CountedLists", "answerOf", "(III)I"⟩, 14) := ⟨⟨by decide +kernel, by decide +kernel⟩, List.mem_of_getElem? (i := 14) (by decide +kernel), List.mem_of_getElem? (i := 632) (by decide +kernel), List.mem_of_getElem? (i := 633) (by decide +kernel)⟩
theorem lw_p21 : lw_okq (⟨"CountedLists", "leaveTrace", "(I)V"⟩, 14) := ⟨⟨by decide +kernel, by decide +kernel⟩, List.mem_of_getElem? (i := 14) (by decide +kernel), List.mem_of_getElem? (i := 636) (by decide +kernel), List.mem_of_getElem? (i := 637) (by decide +kernel)⟩
theorem lw_p22 : lw_okq (⟨"CountedLists", "howManyRows", "()I"⟩, 14) := ⟨⟨by decide +kernel, by decide +kernel⟩, List.mem_of_getElem? (i := 14) (by decide +kernel), List.mem_of_getElem? (i := 648) (by decide +kernel), List.mem_of_getElem? (i := 649) (by decide +kernel)⟩
theorem lw_p23 : lw_okq (⟨"CountedListsModel", "finding", "(I)I"⟩, 30) := ⟨⟨by decide +kernel, by decide +kernel⟩, List.mem_of_getElem? (i := 656) (by decide +kernel), List.mem_of_getElem? (i := 767) (by decide +kernel), List.mem_of_getElem? (i := 768) (by decide +kernel)⟩
theorem lw_p24 : lw_okq (⟨"CountedListsModel", "begin", "()V"⟩, 30) := ⟨⟨by decide +kernel, by decide +kernel⟩, List.mem_of_getElem? (i := 656) (by decide +kernel), List.mem_of_getElem? (i := 798) (by decide +kernel), List.mem_of_getElem? (i := 799) (by decide +kernel)⟩
theorem lw_p25 : lw_okq (⟨"CountedListsModel", "nextToken", "()V"⟩, 30) := ⟨⟨by decide +kernel, by decide +kernel⟩, List.mem_of_getElem? (i := 656) (by decide +kernel), List.mem_of_getElem? (i := 802) (by decide +kernel), List.mem_of_getElem? (i := 803) (by decide +kernel)⟩
theorem lw_p26 : lw_okq (⟨"CountedListsModel", "isLetter", "(I)Z"⟩, 30) := ⟨⟨by decide +kernel, by decide +kernel⟩, List.mem_of_getElem? (i := 656) (by decide +kernel), List.mem_of_getElem? (i := 811) (by decide +kernel), List.mem_of_getElem? (i := 812) (by decide +kernel)⟩
theorem lw_p27 : lw_okq (⟨"CountedListsModel", "must", "(Z)V"⟩, 30) := ⟨⟨by decide +kernel, by decide +kernel⟩, List.mem_of_getElem? (i := 656) (by decide +kernel), List.mem_of_getElem? (i := 815) (by decide +kernel), List.mem_of_getElem? (i := 816) (by decide +kernel)⟩
theorem lw_p28 : lw_okq (⟨"CountedListsModel", "bad", "(I)V"⟩, 30) := ⟨⟨by decide +kernel, by decide +kernel⟩, List.mem_of_getElem? (i := 656) (by decide +kernel), List.mem_of_getElem? (i := 819) (by decide +kernel), List.mem_of_getElem? (i := 820) (by decide +kernel)⟩
theorem lw_p29 : lw_okq (⟨"CountedListsModel", "number", "(II)I"⟩, 30) := ⟨⟨by decide +kernel, by decide +kernel⟩, List.mem_of_getElem? (i := 656) (by decide +kernel), List.mem_of_getElem? (i := 823) (by decide +kernel), List.mem_of_getElem? (i := 824) (by decide +kernel)⟩
theorem lw_p30 : lw_okq (⟨"CountedListsModel", "mustSign", "(I)V"⟩, 30) := ⟨⟨by decide +kernel, by decide +kernel⟩, List.mem_of_getElem? (i := 656) (by decide +kernel), List.mem_of_getElem? (i := 827) (by decide +kernel), List.mem_of_getElem? (i := 828) (by decide +kernel)⟩
theorem lw_p31 : lw_okq (⟨"CountedListsModel", "isSort", "()Z"⟩, 30) := ⟨⟨by decide +kernel, by decide +kernel⟩, List.mem_of_getElem? (i := 656) (by decide +kernel), List.mem_of_getElem? (i := 831) (by decide +kernel), List.mem_of_getElem? (i := 832) (by decide +kernel)⟩
def lw_privs_2 : List (MethodName × Nat) := [(⟨"CountedLists", "countAt", "(II)I"⟩, 14), (⟨"CountedLists", "noteRestarts", "()V"⟩, 14), (⟨"CountedLists", "loseRestarts", "(II)V"⟩, 14), (⟨"CountedLists", "answerTo", "(III)I"⟩, 14), (⟨"CountedLists", "answerOf", "(III)I"⟩, 14), (⟨"CountedLists", "leaveTrace", "(I)V"⟩, 14), (⟨"CountedLists", "howManyRows", "()I"⟩, 14), (⟨"CountedListsModel", "finding", "(I)I"⟩, 30), (⟨"CountedListsModel", "begin", "()V"⟩, 30), (⟨"CountedListsModel", "nextToken", "()V"⟩, 30), (⟨"CountedListsModel", "isLetter", "(I)Z"⟩, 30), (⟨"CountedListsModel", "must", "(Z)V"⟩, 30), (⟨"CountedListsModel", "bad", "(I)V"⟩, 30), (⟨"CountedListsModel", "number", "(II)I"⟩, 30), (⟨"CountedListsModel", "mustSign", "(I)V"⟩, 30), (⟨"CountedListsModel", "isSort", "()Z"⟩, 30)]
theorem lw_r2 : ∀ q ∈ lw_privs_2, lw_okq q := List.forall_mem_cons.mpr ⟨lw_p16, List.forall_mem_cons.mpr ⟨lw_p17, List.forall_mem_cons.mpr ⟨lw_p18, List.forall_mem_cons.mpr ⟨lw_p19, List.forall_mem_cons.mpr ⟨lw_p20, List.forall_mem_cons.mpr ⟨lw_p21, List.forall_mem_cons.mpr ⟨lw_p22, List.forall_mem_cons.mpr ⟨lw_p23, List.forall_mem_cons.mpr ⟨lw_p24, List.forall_mem_cons.mpr ⟨lw_p25, List.forall_mem_cons.mpr ⟨lw_p26, List.forall_mem_cons.mpr ⟨lw_p27, List.forall_mem_cons.mpr ⟨lw_p28, List.forall_mem_cons.mpr ⟨lw_p29, List.forall_mem_cons.mpr ⟨lw_p30, List.forall_mem_cons.mpr ⟨lw_p31, fun _ h => absurd h List.not_mem_nil⟩⟩⟩⟩⟩⟩⟩⟩⟩⟩⟩⟩⟩⟩⟩⟩
theorem lw_p32 : lw_okq (⟨"CountedListsModel", "readParagraph", "()V"⟩, 30) := ⟨⟨by decide +kernel, by decide +kernel⟩, List.mem_of_getElem? (i := 656) (by decide +kernel), List.mem_of_getElem? (i := 838) (by decide +kernel), List.mem_of_getElem? (i := 839) (by decide +kernel)⟩
theorem lw_p33 : lw_okq (⟨"CountedListsModel", "failed", "()Z"⟩, 30) := ⟨⟨by decide +kernel, by decide +kernel⟩, List.mem_of_getElem? (i := 656) (by decide +kernel), List.mem_of_getElem? (i := 845) (by decide +kernel), List.mem_of_getElem? (i := 846) (by decide +kernel)⟩
theorem lw_p34 : lw_okq (⟨"CountedListsModel", "isThere", "()Z"⟩, 30) := ⟨⟨by decide +kernel, by decide +kernel⟩, List.mem_of_getElem? (i := 656) (by decide +kernel), List.mem_of_getElem? (i := 854) (by decide +kernel), List.mem_of_getElem? (i := 855) (by decide +kernel)⟩
theorem lw_p35 : lw_okq (⟨"CountedListsModel", "keep", "()V"⟩, 30) := ⟨⟨by decide +kernel, by decide +kernel⟩, List.mem_of_getElem? (i := 656) (by decide +kernel), List.mem_of_getElem? (i := 864) (by decide +kernel), List.mem_of_getElem? (i := 865) (by decide +kernel)⟩
theorem lw_p36 : lw_okq (⟨"CountedListsModel", "isParagraph", "(I)Z"⟩, 30) := ⟨⟨by decide +kernel, by decide +kernel⟩, List.mem_of_getElem? (i := 656) (by decide +kernel), List.mem_of_getElem? (i := 878) (by decide +kernel), List.mem_of_getElem? (i := 879) (by decide +kernel)⟩
theorem lw_p37 : lw_okq (⟨"CountedListsModel", "countAll", "([I)V"⟩, 30) := ⟨⟨by decide +kernel, by decide +kernel⟩, List.mem_of_getElem? (i := 656) (by decide +kernel), List.mem_of_getElem? (i := 909) (by decide +kernel), List.mem_of_getElem? (i := 910) (by decide +kernel)⟩
theorem lw_p38 : lw_okq (⟨"CountedListsModel", "become", "(III)V"⟩, 30) := ⟨⟨by decide +kernel, by decide +kernel⟩, List.mem_of_getElem? (i := 656) (by decide +kernel), List.mem_of_getElem? (i := 913) (by decide +kernel), List.mem_of_getElem? (i := 914) (by decide +kernel)⟩
theorem lw_p39 : lw_okq (⟨"CountedListsModel", "passes", "([II)V"⟩, 30) := ⟨⟨by decide +kernel, by decide +kernel⟩, List.mem_of_getElem? (i := 656) (by decide +kernel), List.mem_of_getElem? (i := 917) (by decide +kernel), List.mem_of_getElem? (i := 918) (by decide +kernel)⟩
theorem lw_p40 : lw_okq (⟨"CountedListsModel", "writeLabel", "([III)V"⟩, 30) := ⟨⟨by decide +kernel, by decide +kernel⟩, List.mem_of_getElem? (i := 656) (by decide +kernel), List.mem_of_getElem? (i := 921) (by decide +kernel), List.mem_of_getElem? (i := 922) (by decide +kernel)⟩
theorem lw_p41 : lw_okq (⟨"CountedListsModel", "writes", "(I)V"⟩, 30) := ⟨⟨by decide +kernel, by decide +kernel⟩, List.mem_of_getElem? (i := 656) (by decide +kernel), List.mem_of_getElem? (i := 928) (by decide +kernel), List.mem_of_getElem? (i := 929) (by decide +kernel)⟩
theorem lw_p42 : lw_okq (⟨"CountedListsModel", "numerals", "(II)V"⟩, 30) := ⟨⟨by decide +kernel, by decide +kernel⟩, List.mem_of_getElem? (i := 656) (by decide +kernel), List.mem_of_getElem? (i := 932) (by decide +kernel), List.mem_of_getElem? (i := 933) (by decide +kernel)⟩
theorem lw_p43 : lw_okq (⟨"CountedListsModel", "figures", "(I)V"⟩, 30) := ⟨⟨by decide +kernel, by decide +kernel⟩, List.mem_of_getElem? (i := 656) (by decide +kernel), List.mem_of_getElem? (i := 936) (by decide +kernel), List.mem_of_getElem? (i := 937) (by decide +kernel)⟩
theorem lw_p44 : lw_okq (⟨"CountedListsModel", "romanFigure", "(IIII)V"⟩, 30) := ⟨⟨by decide +kernel, by decide +kernel⟩, List.mem_of_getElem? (i := 656) (by decide +kernel), List.mem_of_getElem? (i := 940) (by decide +kernel), List.mem_of_getElem? (i := 941) (by decide +kernel)⟩
theorem lw_p45 : lw_okq (⟨"CountedListsModel", "letters", "(II)V"⟩, 30) := ⟨⟨by decide +kernel, by decide +kernel⟩, List.mem_of_getElem? (i := 656) (by decide +kernel), List.mem_of_getElem? (i := 944) (by decide +kernel), List.mem_of_getElem? (i := 945) (by decide +kernel)⟩
theorem lw_p46 : lw_okq (⟨"CountedListsModel", "signAt", "(I)I"⟩, 30) := ⟨⟨by decide +kernel, by decide +kernel⟩, List.mem_of_getElem? (i := 656) (by decide +kernel), List.mem_of_getElem? (i := 952) (by decide +kernel), List.mem_of_getElem? (i := 953) (by decide +kernel)⟩
theorem lw_p47 : lw_okq (⟨"CountedListsModel", "holdLabel", "()V"⟩, 30) := ⟨⟨by decide +kernel, by decide +kernel⟩, List.mem_of_getElem? (i := 656) (by decide +kernel), List.mem_of_getElem? (i := 968) (by decide +kernel), List.mem_of_getElem? (i := 969) (by decide +kernel)⟩
def lw_privs_3 : List (MethodName × Nat) := [(⟨"CountedListsModel", "readParagraph", "()V"⟩, 30), (⟨"CountedListsModel", "failed", "()Z"⟩, 30), (⟨"CountedListsModel", "isThere", "()Z"⟩, 30), (⟨"CountedListsModel", "keep", "()V"⟩, 30), (⟨"CountedListsModel", "isParagraph", "(I)Z"⟩, 30), (⟨"CountedListsModel", "countAll", "([I)V"⟩, 30), (⟨"CountedListsModel", "become", "(III)V"⟩, 30), (⟨"CountedListsModel", "passes", "([II)V"⟩, 30), (⟨"CountedListsModel", "writeLabel", "([III)V"⟩, 30), (⟨"CountedListsModel", "writes", "(I)V"⟩, 30), (⟨"CountedListsModel", "numerals", "(II)V"⟩, 30), (⟨"CountedListsModel", "figures", "(I)V"⟩, 30), (⟨"CountedListsModel", "romanFigure", "(IIII)V"⟩, 30), (⟨"CountedListsModel", "letters", "(II)V"⟩, 30), (⟨"CountedListsModel", "signAt", "(I)I"⟩, 30), (⟨"CountedListsModel", "holdLabel", "()V"⟩, 30)]
theorem lw_r3 : ∀ q ∈ lw_privs_3, lw_okq q := List.forall_mem_cons.mpr ⟨lw_p32, List.forall_mem_cons.mpr ⟨lw_p33, List.forall_mem_cons.mpr ⟨lw_p34, List.forall_mem_cons.mpr ⟨lw_p35, List.forall_mem_cons.mpr ⟨lw_p36, List.forall_mem_cons.mpr ⟨lw_p37, List.forall_mem_cons.mpr ⟨lw_p38, List.forall_mem_cons.mpr ⟨lw_p39, List.forall_mem_cons.mpr ⟨lw_p40, List.forall_mem_cons.mpr ⟨lw_p41, List.forall_mem_cons.mpr ⟨lw_p42, List.forall_mem_cons.mpr ⟨lw_p43, List.forall_mem_cons.mpr ⟨lw_p44, List.forall_mem_cons.mpr ⟨lw_p45, List.forall_mem_cons.mpr ⟨lw_p46, List.forall_mem_cons.mpr ⟨lw_p47, fun _ h => absurd h List.not_mem_nil⟩⟩⟩⟩⟩⟩⟩⟩⟩⟩⟩⟩⟩⟩⟩⟩
theorem lw_p48 : lw_okq (⟨"CountedListsModel", "compared", "()I"⟩, 30) := ⟨⟨by decide +kernel, by decide +kernel⟩, List.mem_of_getElem? (i := 656) (by decide +kernel), List.mem_of_getElem? (i := 972) (by decide +kernel), List.mem_of_getElem? (i := 973) (by decide +kernel)⟩
theorem lw_p49 : lw_okq (⟨"CountedListsModel", "rowFound", "(III)I"⟩, 30) := ⟨⟨by decide +kernel, by decide +kernel⟩, List.mem_of_getElem? (i := 656) (by decide +kernel), List.mem_of_getElem? (i := 981) (by decide +kernel), List.mem_of_getElem? (i := 982) (by decide +kernel)⟩
theorem lw_p50 : lw_okq (⟨"CountedListsModel", "layThen", "()V"⟩, 30) := ⟨⟨by decide +kernel, by decide +kernel⟩, List.mem_of_getElem? (i := 656) (by decide +kernel), List.mem_of_getElem? (i := 989) (by decide +kernel), List.mem_of_getElem? (i := 990) (by decide +kernel)⟩
theorem lw_p51 : lw_okq (⟨"CountedListsModel", "isOther", "(II)Z"⟩, 30) := ⟨⟨by decide +kernel, by decide +kernel⟩, List.mem_of_getElem? (i := 656) (by decide +kernel), List.mem_of_getElem? (i := 993) (by decide +kernel), List.mem_of_getElem? (i := 994) (by decide +kernel)⟩
theorem lw_p52 : lw_okq (⟨"CountedListsModel", "ownOf", "([II)I"⟩, 30) := ⟨⟨by decide +kernel, by decide +kernel⟩, List.mem_of_getElem? (i := 656) (by decide +kernel), List.mem_of_getElem? (i := 1005) (by decide +kernel), List.mem_of_getElem? (i := 1006) (by decide +kernel)⟩
theorem lw_p53 : lw_okq (⟨"CountedListsModel", "isCountedSo", "(II)Z"⟩, 30) := ⟨⟨by decide +kernel, by decide +kernel⟩, List.mem_of_getElem? (i := 656) (by decide +kernel), List.mem_of_getElem? (i := 1021) (by decide +kernel), List.mem_of_getElem? (i := 1022) (by decide +kernel)⟩
theorem lw_p54 : lw_okq (⟨"CountedListsModel", "restarts", "()I"⟩, 30) := ⟨⟨by decide +kernel, by decide +kernel⟩, List.mem_of_getElem? (i := 656) (by decide +kernel), List.mem_of_getElem? (i := 1031) (by decide +kernel), List.mem_of_getElem? (i := 1032) (by decide +kernel)⟩
theorem lw_p55 : lw_okq (⟨"CountedListsModel", "lastTogether", "([I)I"⟩, 30) := ⟨⟨by decide +kernel, by decide +kernel⟩, List.mem_of_getElem? (i := 656) (by decide +kernel), List.mem_of_getElem? (i := 1055) (by decide +kernel), List.mem_of_getElem? (i := 1056) (by decide +kernel)⟩
theorem lw_p56 : lw_okq (⟨"CountedListsModel", "sizeOf", "(I)I"⟩, 30) := ⟨⟨by decide +kernel, by decide +kernel⟩, List.mem_of_getElem? (i := 656) (by decide +kernel), List.mem_of_getElem? (i := 1082) (by decide +kernel), List.mem_of_getElem? (i := 1083) (by decide +kernel)⟩
theorem lw_p57 : lw_okq (⟨"CountedListsModel", "textSize", "(I)I"⟩, 30) := ⟨⟨by decide +kernel, by decide +kernel⟩, List.mem_of_getElem? (i := 656) (by decide +kernel), List.mem_of_getElem? (i := 1086) (by decide +kernel), List.mem_of_getElem? (i := 1087) (by decide +kernel)⟩
theorem lw_p58 : lw_okq (⟨"CountedListsModel", "began", "(I)V"⟩, 30) := ⟨⟨by decide +kernel, by decide +kernel⟩, List.mem_of_getElem? (i := 656) (by decide +kernel), List.mem_of_getElem? (i := 1090) (by decide +kernel), List.mem_of_getElem? (i := 1091) (by decide +kernel)⟩
theorem lw_p59 : lw_okq (⟨"CountedListsModel", "plainSize", "(I)I"⟩, 30) := ⟨⟨by decide +kernel, by decide +kernel⟩, List.mem_of_getElem? (i := 656) (by decide +kernel), List.mem_of_getElem? (i := 1094) (by decide +kernel), List.mem_of_getElem? (i := 1095) (by decide +kernel)⟩
theorem lw_p60 : lw_okq (⟨"CountedListsModel", "markOf", "(I)I"⟩, 30) := ⟨⟨by decide +kernel, by decide +kernel⟩, List.mem_of_getElem? (i := 656) (by decide +kernel), List.mem_of_getElem? (i := 1098) (by decide +kernel), List.mem_of_getElem? (i := 1099) (by decide +kernel)⟩
def lw_privs_4 : List (MethodName × Nat) := [(⟨"CountedListsModel", "compared", "()I"⟩, 30), (⟨"CountedListsModel", "rowFound", "(III)I"⟩, 30), (⟨"CountedListsModel", "layThen", "()V"⟩, 30), (⟨"CountedListsModel", "isOther", "(II)Z"⟩, 30), (⟨"CountedListsModel", "ownOf", "([II)I"⟩, 30), (⟨"CountedListsModel", "isCountedSo", "(II)Z"⟩, 30), (⟨"CountedListsModel", "restarts", "()I"⟩, 30), (⟨"CountedListsModel", "lastTogether", "([I)I"⟩, 30), (⟨"CountedListsModel", "sizeOf", "(I)I"⟩, 30), (⟨"CountedListsModel", "textSize", "(I)I"⟩, 30), (⟨"CountedListsModel", "began", "(I)V"⟩, 30), (⟨"CountedListsModel", "plainSize", "(I)I"⟩, 30), (⟨"CountedListsModel", "markOf", "(I)I"⟩, 30)]
theorem lw_r4 : ∀ q ∈ lw_privs_4, lw_okq q := List.forall_mem_cons.mpr ⟨lw_p48, List.forall_mem_cons.mpr ⟨lw_p49, List.forall_mem_cons.mpr ⟨lw_p50, List.forall_mem_cons.mpr ⟨lw_p51, List.forall_mem_cons.mpr ⟨lw_p52, List.forall_mem_cons.mpr ⟨lw_p53, List.forall_mem_cons.mpr ⟨lw_p54, List.forall_mem_cons.mpr ⟨lw_p55, List.forall_mem_cons.mpr ⟨lw_p56, List.forall_mem_cons.mpr ⟨lw_p57, List.forall_mem_cons.mpr ⟨lw_p58, List.forall_mem_cons.mpr ⟨lw_p59, List.forall_mem_cons.mpr ⟨lw_p60, fun _ h => absurd h List.not_mem_nil⟩⟩⟩⟩⟩⟩⟩⟩⟩⟩⟩⟩⟩
def lw_privs : List (MethodName × Nat) := lw_privs_1 ++ (lw_privs_2 ++ (lw_privs_3 ++ (lw_privs_4)))
def lw_tbl : List Cond := k2_sels lw_privs ++ tables_1
theorem lw_privs_ok : ∀ q ∈ lw_privs, lw_okq q := by
  show ∀ q ∈ lw_privs_1 ++ (lw_privs_2 ++ (lw_privs_3 ++ (lw_privs_4))), lw_okq q
  exact List.forall_mem_append.mpr ⟨lw_r1, List.forall_mem_append.mpr ⟨lw_r2, List.forall_mem_append.mpr ⟨lw_r3, lw_r4⟩⟩⟩
end
section
def RX0 : String := "CountedLists$Acts"
def TX0 : u_T := fun k => match k with
  | 0 => ("CountedLists$Acts", "kept", "[[I", true)
  | 1 => ("CountedLists$Acts", "oldest", "I", false)
  | _ => ("CountedLists$Acts", "size", "I", false)
def tyX0 : Nat → FieldType := fun k => match k with
  | 0 => .array (.array .int)
  | 1 => .int
  | _ => .int
abbrev wsX00 : List Cond := u_ws RX0 TX0 3
theorem nmX0 : ∀ a, a < 3 → ∀ b, b < 3 → a ≠ b → (TX0 a).2.1 ≠ (TX0 b).2.1 := by decide +kernel
theorem tyX0_ok : ∀ k, k < 3 → parseFieldDescriptor (TX0 k).2.2.1 = some (tyX0 k) := by decide +kernel
abbrev cX0_init : ByteArray := prog_2_method_1_code
def yX0_init : MethodName := ⟨RX0, "<init>", "()V"⟩
abbrev cX0_forgetAll : ByteArray := prog_2_method_2_code
def yX0_forgetAll : MethodName := ⟨RX0, "forgetAll", "()V"⟩
abbrev cX0_keep : ByteArray := prog_2_method_3_code
def yX0_keep : MethodName := ⟨RX0, "keep", "(IIIIII)V"⟩
abbrev cX0_undoLatest : ByteArray := prog_2_method_4_code
def yX0_undoLatest : MethodName := ⟨RX0, "undoLatest", "(LCountedLists$Sheet;)V"⟩
def RX1 : String := "CountedLists$Counting"
def TX1 : u_T := fun k => match k with
  | _ => ("", "", "", false)
def tyX1 : Nat → FieldType := fun k => match k with
  | _ => .int
abbrev wsX10 : List Cond := u_ws RX1 TX1 0
theorem nmX1 : ∀ a, a < 0 → ∀ b, b < 0 → a ≠ b → (TX1 a).2.1 ≠ (TX1 b).2.1 := by decide +kernel
theorem tyX1_ok : ∀ k, k < 0 → parseFieldDescriptor (TX1 k).2.2.1 = some (tyX1 k) := by decide +kernel
abbrev cX1_toThemselves : ByteArray := prog_3_method_2_code
def yX1_toThemselves : MethodName := ⟨RX1, "toThemselves", "([I)V"⟩
abbrev cX1_sourceOf : ByteArray := prog_3_method_3_code
def yX1_sourceOf : MethodName := ⟨RX1, "sourceOf", "(I)I"⟩
abbrev cX1_amountOf : ByteArray := prog_3_method_4_code
def yX1_amountOf : MethodName := ⟨RX1, "amountOf", "(I)I"⟩
abbrev cX1_over : ByteArray := prog_3_method_5_code
def yX1_over : MethodName := ⟨RX1, "over", "([IIII)V"⟩
abbrev cX1_standAt : ByteArray := prog_3_method_6_code
def yX1_standAt : MethodName := ⟨RX1, "standAt", "([III)V"⟩
def RX2 : String := "CountedLists$Row"
def TX2 : u_T := fun k => match k with
  | 0 => ("CountedLists$Row", "items", "[I", true)
  | 1 => ("CountedLists$Row", "lane", "I", false)
  | _ => ("CountedLists$Row", "size", "I", false)
def tyX2 : Nat → FieldType := fun k => match k with
  | 0 => .array .int
  | 1 => .int
  | _ => .int
abbrev wsX20 : List Cond := u_ws RX2 TX2 3
theorem nmX2 : ∀ a, a < 3 → ∀ b, b < 3 → a ≠ b → (TX2 a).2.1 ≠ (TX2 b).2.1 := by decide +kernel
theorem tyX2_ok : ∀ k, k < 3 → parseFieldDescriptor (TX2 k).2.2.1 = some (tyX2 k) := by decide +kernel
abbrev cX2_init : ByteArray := prog_4_method_1_code
def yX2_init : MethodName := ⟨RX2, "<init>", "()V"⟩
abbrev cX2_isMissing : ByteArray := prog_4_method_2_code
def yX2_isMissing : MethodName := ⟨RX2, "isMissing", "()Z"⟩
abbrev cX2_become : ByteArray := prog_4_method_3_code
def yX2_become : MethodName := ⟨RX2, "become", "(II)V"⟩
abbrev cX2_holds : ByteArray := prog_4_method_4_code
def yX2_holds : MethodName := ⟨RX2, "holds", "(II)Z"⟩
abbrev cX2_findingAt : ByteArray := prog_4_method_5_code
def yX2_findingAt : MethodName := ⟨RX2, "findingAt", "(II)I"⟩
abbrev cX2_narrowed : ByteArray := prog_4_method_6_code
def yX2_narrowed : MethodName := ⟨RX2, "narrowed", "(I)I"⟩
def RX3 : String := "CountedLists$Sheet"
def TX3 : u_T := fun k => match k with
  | 0 => ("CountedLists$Sheet", "styles", "[I", true)
  | 1 => ("CountedLists$Sheet", "kinds", "[I", true)
  | 2 => ("CountedLists$Sheet", "levels", "[I", true)
  | 3 => ("CountedLists$Sheet", "starts", "[I", true)
  | 4 => ("CountedLists$Sheet", "size", "I", false)
  | 5 => ("CountedLists$Sheet", "cells", "[[I", true)
  | _ => ("CountedLists$Sheet", "counted", "I", false)
def tyX3 : Nat → FieldType := fun k => match k with
  | 0 => .array .int
  | 1 => .array .int
  | 2 => .array .int
  | 3 => .array .int
  | 4 => .int
  | 5 => .array (.array .int)
  | _ => .int
abbrev wsX30 : List Cond := u_ws RX3 TX3 7
theorem nmX3 : ∀ a, a < 7 → ∀ b, b < 7 → a ≠ b → (TX3 a).2.1 ≠ (TX3 b).2.1 := by decide +kernel
theorem tyX3_ok : ∀ k, k < 7 → parseFieldDescriptor (TX3 k).2.2.1 = some (tyX3 k) := by decide +kernel
abbrev cX3_init : ByteArray := prog_5_method_1_code
def yX3_init : MethodName := ⟨RX3, "<init>", "()V"⟩
abbrev cX3_isNone : ByteArray := prog_5_method_2_code
def yX3_isNone : MethodName := ⟨RX3, "isNone", "()Z"⟩
abbrev cX3_has : ByteArray := prog_5_method_3_code
def yX3_has : MethodName := ⟨RX3, "has", "(I)Z"⟩
abbrev cX3_isLabelled : ByteArray := prog_5_method_4_code
def yX3_isLabelled : MethodName := ⟨RX3, "isLabelled", "(I)Z"⟩
abbrev cX3_howManyOf : ByteArray := prog_5_method_5_code
def yX3_howManyOf : MethodName := ⟨RX3, "howManyOf", "(I)I"⟩
abbrev cX3_become : ByteArray := prog_5_method_6_code
def yX3_become : MethodName := ⟨RX3, "become", "(LCountedLists$Sheet;)V"⟩
abbrev cX3_clear : ByteArray := prog_5_method_7_code
def yX3_clear : MethodName := ⟨RX3, "clear", "()V"⟩
abbrev cX3_insert : ByteArray := prog_5_method_8_code
def yX3_insert : MethodName := ⟨RX3, "insert", "(IIII)V"⟩
abbrev cX3_remove : ByteArray := prog_5_method_9_code
def yX3_remove : MethodName := ⟨RX3, "remove", "(I)V"⟩
abbrev cX3_shift : ByteArray := prog_5_method_10_code
def yX3_shift : MethodName := ⟨RX3, "shift", "(II)V"⟩
abbrev cX3_alter : ByteArray := prog_5_method_11_code
def yX3_alter : MethodName := ⟨RX3, "alter", "(IIII)V"⟩
abbrev cX3_editBy : ByteArray := prog_5_method_12_code
def yX3_editBy : MethodName := ⟨RX3, "editBy", "(J)V"⟩
abbrev cX3_countOver : ByteArray := prog_5_method_13_code
def yX3_countOver : MethodName := ⟨RX3, "countOver", "(I[I)V"⟩
abbrev cX3_ahead : ByteArray := prog_5_method_14_code
def yX3_ahead : MethodName := ⟨RX3, "ahead", "(I)[I"⟩
abbrev cX3_behind : ByteArray := prog_5_method_15_code
def yX3_behind : MethodName := ⟨RX3, "behind", "(I)[I"⟩
abbrev cX3_ownCount : ByteArray := prog_5_method_16_code
def yX3_ownCount : MethodName := ⟨RX3, "ownCount", "(I)I"⟩
abbrev cX3_lastCounts : ByteArray := prog_5_method_17_code
def yX3_lastCounts : MethodName := ⟨RX3, "lastCounts", "()I"⟩
abbrev cX3_isToldBy : ByteArray := prog_5_method_18_code
def yX3_isToldBy : MethodName := ⟨RX3, "isToldBy", "(LCountedLists$Row;II)Z"⟩
abbrev cX3_writeLabel : ByteArray := prog_5_method_19_code
def yX3_writeLabel : MethodName := ⟨RX3, "writeLabel", "(IILCountedLists$Signs;)V"⟩
abbrev cX3_slide : ByteArray := prog_5_method_20_code
def yX3_slide : MethodName := ⟨RX3, "slide", "(III)V"⟩
def RX4 : String := "CountedLists$Signs"
def TX4 : u_T := fun k => match k with
  | 0 => ("CountedLists$Signs", "codes", "[C", true)
  | _ => ("CountedLists$Signs", "length", "I", false)
def tyX4 : Nat → FieldType := fun k => match k with
  | 0 => .array .char
  | _ => .int
abbrev wsX40 : List Cond := u_ws RX4 TX4 2
theorem nmX4 : ∀ a, a < 2 → ∀ b, b < 2 → a ≠ b → (TX4 a).2.1 ≠ (TX4 b).2.1 := by decide +kernel
theorem tyX4_ok : ∀ k, k < 2 → parseFieldDescriptor (TX4 k).2.2.1 = some (tyX4 k) := by decide +kernel
abbrev cX4_init : ByteArray := prog_6_method_1_code
def yX4_init : MethodName := ⟨RX4, "<init>", "()V"⟩
abbrev cX4_add : ByteArray := prog_6_method_2_code
def yX4_add : MethodName := ⟨RX4, "add", "(I)V"⟩
abbrev cX4_addNumerals : ByteArray := prog_6_method_3_code
def yX4_addNumerals : MethodName := ⟨RX4, "addNumerals", "(II)V"⟩
abbrev cX4_addFigures : ByteArray := prog_6_method_4_code
def yX4_addFigures : MethodName := ⟨RX4, "addFigures", "(I)V"⟩
abbrev cX4_addRoman : ByteArray := prog_6_method_5_code
def yX4_addRoman : MethodName := ⟨RX4, "addRoman", "(I)V"⟩
abbrev cX4_addLetters : ByteArray := prog_6_method_6_code
def yX4_addLetters : MethodName := ⟨RX4, "addLetters", "(II)V"⟩
abbrev cX4_areItems : ByteArray := prog_6_method_7_code
def yX4_areItems : MethodName := ⟨RX4, "areItems", "(LCountedLists$Row;II)Z"⟩
abbrev cX4_order : ByteArray := prog_6_method_8_code
def yX4_order : MethodName := ⟨RX4, "order", "(LCountedLists$Signs;)I"⟩
def RX5 : String := "CountedLists$Tape"
def TX5 : u_T := fun k => match k with
  | 0 => ("CountedLists$Tape", "bytes", "[I", true)
  | 1 => ("CountedLists$Tape", "length", "I", false)
  | 2 => ("CountedLists$Tape", "place", "I", false)
  | 3 => ("CountedLists$Tape", "next", "I", false)
  | 4 => ("CountedLists$Tape", "token", "I", false)
  | 5 => ("CountedLists$Tape", "value", "I", false)
  | _ => ("CountedLists$Tape", "wrong", "I", false)
def tyX5 : Nat → FieldType := fun k => match k with
  | 0 => .array .int
  | 1 => .int
  | 2 => .int
  | 3 => .int
  | 4 => .int
  | 5 => .int
  | _ => .int
abbrev wsX50 : List Cond := u_ws RX5 TX5 7
theorem nmX5 : ∀ a, a < 7 → ∀ b, b < 7 → a ≠ b → (TX5 a).2.1 ≠ (TX5 b).2.1 := by decide +kernel
theorem tyX5_ok : ∀ k, k < 7 → parseFieldDescriptor (TX5 k).2.2.1 = some (tyX5 k) := by decide +kernel
abbrev cX5_init : ByteArray := prog_7_method_1_code
def yX5_init : MethodName := ⟨RX5, "<init>", "()V"⟩
abbrev cX5_readInto : ByteArray := prog_7_method_2_code
def yX5_readInto : MethodName := ⟨RX5, "readInto", "(LCountedLists$Sheet;)I"⟩
abbrev cX5_readLaw : ByteArray := prog_7_method_3_code
def yX5_readLaw : MethodName := ⟨RX5, "readLaw", "(LCountedLists$Sheet;)V"⟩
abbrev cX5_readParagraph : ByteArray := prog_7_method_4_code
def yX5_readParagraph : MethodName := ⟨RX5, "readParagraph", "(LCountedLists$Sheet;)V"⟩
abbrev cX5_pass : ByteArray := prog_7_method_5_code
def yX5_pass : MethodName := ⟨RX5, "pass", "(I)V"⟩
abbrev cX5_passNumber : ByteArray := prog_7_method_6_code
def yX5_passNumber : MethodName := ⟨RX5, "passNumber", "(I)I"⟩
abbrev cX5_passSort : ByteArray := prog_7_method_7_code
def yX5_passSort : MethodName := ⟨RX5, "passSort", "(I)I"⟩
abbrev cX5_stepOn : ByteArray := prog_7_method_8_code
def yX5_stepOn : MethodName := ⟨RX5, "stepOn", "()V"⟩
abbrev cX5_stepOverFigures : ByteArray := prog_7_method_9_code
def yX5_stepOverFigures : MethodName := ⟨RX5, "stepOverFigures", "()V"⟩
abbrev cX5_isFigure : ByteArray := prog_7_method_10_code
def yX5_isFigure : MethodName := ⟨RX5, "isFigure", "(I)Z"⟩
def RX6 : String := "CountedLists"
def TX6 : u_T := fun k => match k with
  | 0 => ("CountedLists", "rows", "[LCountedLists$Row;", true)
  | 1 => ("CountedLists", "tape", "LCountedLists$Tape;", true)
  | 2 => ("CountedLists", "now", "LCountedLists$Sheet;", true)
  | 3 => ("CountedLists", "trial", "LCountedLists$Sheet;", true)
  | 4 => ("CountedLists", "images", "[LCountedLists$Sheet;", true)
  | 5 => ("CountedLists", "acts", "LCountedLists$Acts;", true)
  | 6 => ("CountedLists", "signs", "[LCountedLists$Signs;", true)
  | 7 => ("CountedLists", "trialSigns", "LCountedLists$Signs;", true)
  | 8 => ("CountedLists", "trialCells", "[I", true)
  | 9 => ("CountedLists", "restarts", "[I", true)
  | 10 => ("CountedLists", "traced", "[I", true)
  | 11 => ("CountedLists", "tracedCount", "I", false)
  | 12 => ("CountedLists", "latestFinding", "I", false)
  | _ => ("CountedLists", "latestFault", "I", false)
def tyX6 : Nat → FieldType := fun k => match k with
  | 0 => .array (.object "CountedLists$Row")
  | 1 => .object "CountedLists$Tape"
  | 2 => .object "CountedLists$Sheet"
  | 3 => .object "CountedLists$Sheet"
  | 4 => .array (.object "CountedLists$Sheet")
  | 5 => .object "CountedLists$Acts"
  | 6 => .array (.object "CountedLists$Signs")
  | 7 => .object "CountedLists$Signs"
  | 8 => .array .int
  | 9 => .array .int
  | 10 => .array .int
  | 11 => .int
  | 12 => .int
  | _ => .int
abbrev wsX60 : List Cond := u_ws RX6 TX6 14
theorem nmX6 : ∀ a, a < 14 → ∀ b, b < 14 → a ≠ b → (TX6 a).2.1 ≠ (TX6 b).2.1 := by decide +kernel
theorem tyX6_ok : ∀ k, k < 14 → parseFieldDescriptor (TX6 k).2.2.1 = some (tyX6 k) := by decide +kernel
abbrev cX6_init : ByteArray := prog_1_method_1_code
def yX6_init : MethodName := ⟨RX6, "<init>", "()V"⟩
abbrev cX6_row : ByteArray := prog_1_method_2_code
def yX6_row : MethodName := ⟨RX6, "row", "(III)I"⟩
abbrev cX6_set : ByteArray := prog_1_method_3_code
def yX6_set : MethodName := ⟨RX6, "set", "(III)I"⟩
abbrev cX6_copy : ByteArray := prog_1_method_4_code
def yX6_copy : MethodName := ⟨RX6, "copy", "(IIIII)I"⟩
abbrev cX6_drop : ByteArray := prog_1_method_5_code
def yX6_drop : MethodName := ⟨RX6, "drop", "(I)I"⟩
abbrev cX6_feed : ByteArray := prog_1_method_6_code
def yX6_feed : MethodName := ⟨RX6, "feed", "(I)I"⟩
abbrev cX6_sheet : ByteArray := prog_1_method_7_code
def yX6_sheet : MethodName := ⟨RX6, "sheet", "()I"⟩
abbrev cX6_fault : ByteArray := prog_1_method_8_code
def yX6_fault : MethodName := ⟨RX6, "fault", "()I"⟩
abbrev cX6_undo : ByteArray := prog_1_method_9_code
def yX6_undo : MethodName := ⟨RX6, "undo", "()I"⟩
abbrev cX6_put : ByteArray := prog_1_method_10_code
def yX6_put : MethodName := ⟨RX6, "put", "(IIII)I"⟩
abbrev cX6_take : ByteArray := prog_1_method_11_code
def yX6_take : MethodName := ⟨RX6, "take", "(I)I"⟩
abbrev cX6_move : ByteArray := prog_1_method_12_code
def yX6_move : MethodName := ⟨RX6, "move", "(II)I"⟩
abbrev cX6_change : ByteArray := prog_1_method_13_code
def yX6_change : MethodName := ⟨RX6, "change", "(IIII)I"⟩
abbrev cX6_style : ByteArray := prog_1_method_14_code
def yX6_style : MethodName := ⟨RX6, "style", "(II)I"⟩
abbrev cX6_paragraph : ByteArray := prog_1_method_15_code
def yX6_paragraph : MethodName := ⟨RX6, "paragraph", "(II)I"⟩
abbrev cX6_label : ByteArray := prog_1_method_16_code
def yX6_label : MethodName := ⟨RX6, "label", "(III)I"⟩
abbrev cX6_called : ByteArray := prog_1_method_17_code
def yX6_called : MethodName := ⟨RX6, "called", "(III)I"⟩
abbrev cX6_span : ByteArray := prog_1_method_18_code
def yX6_span : MethodName := ⟨RX6, "span", "(IIII)I"⟩
abbrev cX6_register : ByteArray := prog_1_method_19_code
def yX6_register : MethodName := ⟨RX6, "register", "(I)I"⟩
abbrev cX6_bears : ByteArray := prog_1_method_20_code
def yX6_bears : MethodName := ⟨RX6, "bears", "(III)I"⟩
abbrev cX6_changed : ByteArray := prog_1_method_21_code
def yX6_changed : MethodName := ⟨RX6, "changed", "(I)I"⟩
abbrev cX6_nearest : ByteArray := prog_1_method_22_code
def yX6_nearest : MethodName := ⟨RX6, "nearest", "(II)I"⟩
abbrev cX6_sets : ByteArray := prog_1_method_23_code
def yX6_sets : MethodName := ⟨RX6, "sets", "(I)I"⟩
abbrev cX6_deepest : ByteArray := prog_1_method_24_code
def yX6_deepest : MethodName := ⟨RX6, "deepest", "(I)I"⟩
abbrev cX6_who : ByteArray := prog_1_method_25_code
def yX6_who : MethodName := ⟨RX6, "who", "(IIIII)I"⟩
abbrev cX6_lost : ByteArray := prog_1_method_26_code
def yX6_lost : MethodName := ⟨RX6, "lost", "(IIII)J"⟩
abbrev cX6_drawn : ByteArray := prog_1_method_27_code
def yX6_drawn : MethodName := ⟨RX6, "drawn", "(III)I"⟩
abbrev cX6_image : ByteArray := prog_1_method_28_code
def yX6_image : MethodName := ⟨RX6, "image", "(I)I"⟩
abbrev cX6_restore : ByteArray := prog_1_method_29_code
def yX6_restore : MethodName := ⟨RX6, "restore", "(I)I"⟩
abbrev cX6_kind : ByteArray := prog_1_method_30_code
def yX6_kind : MethodName := ⟨RX6, "kind", "(I)I"⟩
abbrev cX6_as : ByteArray := prog_1_method_31_code
def yX6_as : MethodName := ⟨RX6, "as", "(II)I"⟩
abbrev cX6_ask : ByteArray := prog_1_method_32_code
def yX6_ask : MethodName := ⟨RX6, "ask", "(II)I"⟩
abbrev cX6_trace : ByteArray := prog_1_method_33_code
def yX6_trace : MethodName := ⟨RX6, "trace", "(I)I"⟩
abbrev cX6_count : ByteArray := prog_1_method_34_code
def yX6_count : MethodName := ⟨RX6, "count", "(I)I"⟩
abbrev cX6_status : ByteArray := prog_1_method_35_code
def yX6_status : MethodName := ⟨RX6, "status", "()I"⟩
abbrev cX6_isBetween : ByteArray := prog_1_method_36_code
def yX6_isBetween : MethodName := ⟨RX6, "isBetween", "(III)Z"⟩
abbrev cX6_isRow : ByteArray := prog_1_method_37_code
def yX6_isRow : MethodName := ⟨RX6, "isRow", "(I)Z"⟩
abbrev cX6_isLevel : ByteArray := prog_1_method_38_code
def yX6_isLevel : MethodName := ⟨RX6, "isLevel", "(I)Z"⟩
abbrev cX6_isTold : ByteArray := prog_1_method_39_code
def yX6_isTold : MethodName := ⟨RX6, "isTold", "(III)Z"⟩
abbrev cX6_found : ByteArray := prog_1_method_40_code
def yX6_found : MethodName := ⟨RX6, "found", "(I)I"⟩
abbrev cX6_foundNothing : ByteArray := prog_1_method_41_code
def yX6_foundNothing : MethodName := ⟨RX6, "foundNothing", "(I)I"⟩
abbrev cX6_howManyRows : ByteArray := prog_1_method_42_code
def yX6_howManyRows : MethodName := ⟨RX6, "howManyRows", "()I"⟩
abbrev cX6_keepAct : ByteArray := prog_1_method_43_code
def yX6_keepAct : MethodName := ⟨RX6, "keepAct", "(III)V"⟩
abbrev cX6_signOfLabel : ByteArray := prog_1_method_44_code
def yX6_signOfLabel : MethodName := ⟨RX6, "signOfLabel", "(III)I"⟩
abbrev cX6_registeredAhead : ByteArray := prog_1_method_45_code
def yX6_registeredAhead : MethodName := ⟨RX6, "registeredAhead", "(I)I"⟩
abbrev cX6_countAt : ByteArray := prog_1_method_46_code
def yX6_countAt : MethodName := ⟨RX6, "countAt", "(II)I"⟩
abbrev cX6_noteRestarts : ByteArray := prog_1_method_47_code
def yX6_noteRestarts : MethodName := ⟨RX6, "noteRestarts", "()V"⟩
abbrev cX6_loseRestarts : ByteArray := prog_1_method_48_code
def yX6_loseRestarts : MethodName := ⟨RX6, "loseRestarts", "(II)V"⟩
abbrev cX6_power : ByteArray := prog_1_method_49_code
def yX6_power : MethodName := ⟨RX6, "power", "(JI)J"⟩
abbrev cX6_commonDivisor : ByteArray := prog_1_method_50_code
def yX6_commonDivisor : MethodName := ⟨RX6, "commonDivisor", "(JJ)J"⟩
abbrev cX6_answerTo : ByteArray := prog_1_method_51_code
def yX6_answerTo : MethodName := ⟨RX6, "answerTo", "(III)I"⟩
abbrev cX6_answerOf : ByteArray := prog_1_method_52_code
def yX6_answerOf : MethodName := ⟨RX6, "answerOf", "(III)I"⟩
abbrev cX6_leaveTrace : ByteArray := prog_1_method_53_code
def yX6_leaveTrace : MethodName := ⟨RX6, "leaveTrace", "(I)V"⟩
def RX7 : String := "CountedListsModel"
def TX7 : u_T := fun k => match k with
  | 0 => ("CountedListsModel", "thrown", "I", false)
  | 1 => ("CountedListsModel", "status", "I", false)
  | 2 => ("CountedListsModel", "lane", "[I", true)
  | 3 => ("CountedListsModel", "many", "[I", true)
  | 4 => ("CountedListsModel", "item", "[I", true)
  | 5 => ("CountedListsModel", "sheet", "[I", true)
  | 6 => ("CountedListsModel", "fresh", "[I", true)
  | 7 => ("CountedListsModel", "then", "[I", true)
  | 8 => ("CountedListsModel", "was", "[I", true)
  | 9 => ("CountedListsModel", "acts", "I", false)
  | 10 => ("CountedListsModel", "tape", "[I", true)
  | 11 => ("CountedListsModel", "taped", "I", false)
  | 12 => ("CountedListsModel", "cursor", "I", false)
  | 13 => ("CountedListsModel", "start", "I", false)
  | 14 => ("CountedListsModel", "token", "I", false)
  | 15 => ("CountedListsModel", "value", "I", false)
  | 16 => ("CountedListsModel", "fault", "I", false)
  | 17 => ("CountedListsModel", "faultAt", "I", false)
  | 18 => ("CountedListsModel", "latest", "I", false)
  | 19 => ("CountedListsModel", "source", "[I", true)
  | 20 => ("CountedListsModel", "more", "[I", true)
  | 21 => ("CountedListsModel", "counts", "[I", true)
  | 22 => ("CountedListsModel", "sign", "[I", true)
  | 23 => ("CountedListsModel", "signs", "I", false)
  | 24 => ("CountedListsModel", "held", "[I", true)
  | 25 => ("CountedListsModel", "holds", "I", false)
  | 26 => ("CountedListsModel", "isKept", "[Z", true)
  | 27 => ("CountedListsModel", "kept", "[I", true)
  | 28 => ("CountedListsModel", "trace", "[I", true)
  | _ => ("CountedListsModel", "traced", "I", false)
def tyX7 : Nat → FieldType := fun k => match k with
  | 0 => .int
  | 1 => .int
  | 2 => .array .int
  | 3 => .array .int
  | 4 => .array .int
  | 5 => .array .int
  | 6 => .array .int
  | 7 => .array .int
  | 8 => .array .int
  | 9 => .int
  | 10 => .array .int
  | 11 => .int
  | 12 => .int
  | 13 => .int
  | 14 => .int
  | 15 => .int
  | 16 => .int
  | 17 => .int
  | 18 => .int
  | 19 => .array .int
  | 20 => .array .int
  | 21 => .array .int
  | 22 => .array .int
  | 23 => .int
  | 24 => .array .int
  | 25 => .int
  | 26 => .array .boolean
  | 27 => .array .int
  | 28 => .array .int
  | _ => .int
abbrev wsX70 : List Cond := u_ws RX7 TX7 30
theorem nmX7 : ∀ a, a < 30 → ∀ b, b < 30 → a ≠ b → (TX7 a).2.1 ≠ (TX7 b).2.1 := by decide +kernel
theorem tyX7_ok : ∀ k, k < 30 → parseFieldDescriptor (TX7 k).2.2.1 = some (tyX7 k) := by decide +kernel
abbrev cX7_init : ByteArray := prog_9_method_1_code
def yX7_init : MethodName := ⟨RX7, "<init>", "()V"⟩
abbrev cX7_in : ByteArray := prog_9_method_3_code
def yX7_in : MethodName := ⟨RX7, "in", "(JJJ)Z"⟩
abbrev cX7_finding : ByteArray := prog_9_method_4_code
def yX7_finding : MethodName := ⟨RX7, "finding", "(I)I"⟩
abbrev cX7_isRow : ByteArray := prog_9_method_5_code
def yX7_isRow : MethodName := ⟨RX7, "isRow", "(I)Z"⟩
abbrev cX7_row : ByteArray := prog_9_method_6_code
def yX7_row : MethodName := ⟨RX7, "row", "(III)I"⟩
abbrev cX7_set : ByteArray := prog_9_method_7_code
def yX7_set : MethodName := ⟨RX7, "set", "(III)I"⟩
abbrev cX7_copy : ByteArray := prog_9_method_8_code
def yX7_copy : MethodName := ⟨RX7, "copy", "(IIIII)I"⟩
abbrev cX7_drop : ByteArray := prog_9_method_9_code
def yX7_drop : MethodName := ⟨RX7, "drop", "(I)I"⟩
abbrev cX7_feed : ByteArray := prog_9_method_10_code
def yX7_feed : MethodName := ⟨RX7, "feed", "(I)I"⟩
abbrev cX7_bad : ByteArray := prog_9_method_11_code
def yX7_bad : MethodName := ⟨RX7, "bad", "(I)V"⟩
abbrev cX7_nextToken : ByteArray := prog_9_method_12_code
def yX7_nextToken : MethodName := ⟨RX7, "nextToken", "()V"⟩
abbrev cX7_must : ByteArray := prog_9_method_13_code
def yX7_must : MethodName := ⟨RX7, "must", "(Z)V"⟩
abbrev cX7_isLetter : ByteArray := prog_9_method_14_code
def yX7_isLetter : MethodName := ⟨RX7, "isLetter", "(I)Z"⟩
abbrev cX7_number : ByteArray := prog_9_method_15_code
def yX7_number : MethodName := ⟨RX7, "number", "(II)I"⟩
abbrev cX7_mustSign : ByteArray := prog_9_method_16_code
def yX7_mustSign : MethodName := ⟨RX7, "mustSign", "(I)V"⟩
abbrev cX7_begin : ByteArray := prog_9_method_17_code
def yX7_begin : MethodName := ⟨RX7, "begin", "()V"⟩
abbrev cX7_failed : ByteArray := prog_9_method_18_code
def yX7_failed : MethodName := ⟨RX7, "failed", "()Z"⟩
abbrev cX7_fault : ByteArray := prog_9_method_19_code
def yX7_fault : MethodName := ⟨RX7, "fault", "()I"⟩
abbrev cX7_kindBy : ByteArray := prog_9_method_20_code
def yX7_kindBy : MethodName := ⟨RX7, "kindBy", "(I)I"⟩
abbrev cX7_isSort : ByteArray := prog_9_method_21_code
def yX7_isSort : MethodName := ⟨RX7, "isSort", "()Z"⟩
abbrev cX7_layAt : ByteArray := prog_9_method_22_code
def yX7_layAt : MethodName := ⟨RX7, "layAt", "([IIIII)V"⟩
abbrev cX7_readParagraph : ByteArray := prog_9_method_23_code
def yX7_readParagraph : MethodName := ⟨RX7, "readParagraph", "()V"⟩
abbrev cX7_sheet : ByteArray := prog_9_method_24_code
def yX7_sheet : MethodName := ⟨RX7, "sheet", "()I"⟩
abbrev cX7_isThere : ByteArray := prog_9_method_25_code
def yX7_isThere : MethodName := ⟨RX7, "isThere", "()Z"⟩
abbrev cX7_isParagraph : ByteArray := prog_9_method_26_code
def yX7_isParagraph : MethodName := ⟨RX7, "isParagraph", "(I)Z"⟩
abbrev cX7_has : ByteArray := prog_9_method_27_code
def yX7_has : MethodName := ⟨RX7, "has", "(II)Z"⟩
abbrev cX7_of : ByteArray := prog_9_method_28_code
def yX7_of : MethodName := ⟨RX7, "of", "([III)I"⟩
abbrev cX7_isLabelled : ByteArray := prog_9_method_29_code
def yX7_isLabelled : MethodName := ⟨RX7, "isLabelled", "([II)Z"⟩
abbrev cX7_become : ByteArray := prog_9_method_30_code
def yX7_become : MethodName := ⟨RX7, "become", "(III)V"⟩
abbrev cX7_passes : ByteArray := prog_9_method_31_code
def yX7_passes : MethodName := ⟨RX7, "passes", "([II)V"⟩
abbrev cX7_countAll : ByteArray := prog_9_method_32_code
def yX7_countAll : MethodName := ⟨RX7, "countAll", "([I)V"⟩
abbrev cX7_ownOf : ByteArray := prog_9_method_33_code
def yX7_ownOf : MethodName := ⟨RX7, "ownOf", "([II)I"⟩
abbrev cX7_lastTogether : ByteArray := prog_9_method_34_code
def yX7_lastTogether : MethodName := ⟨RX7, "lastTogether", "([I)I"⟩
abbrev cX7_writes : ByteArray := prog_9_method_35_code
def yX7_writes : MethodName := ⟨RX7, "writes", "(I)V"⟩
abbrev cX7_figures : ByteArray := prog_9_method_36_code
def yX7_figures : MethodName := ⟨RX7, "figures", "(I)V"⟩
abbrev cX7_letters : ByteArray := prog_9_method_37_code
def yX7_letters : MethodName := ⟨RX7, "letters", "(II)V"⟩
abbrev cX7_romanFigure : ByteArray := prog_9_method_38_code
def yX7_romanFigure : MethodName := ⟨RX7, "romanFigure", "(IIII)V"⟩
abbrev cX7_numerals : ByteArray := prog_9_method_39_code
def yX7_numerals : MethodName := ⟨RX7, "numerals", "(II)V"⟩
abbrev cX7_writeLabel : ByteArray := prog_9_method_40_code
def yX7_writeLabel : MethodName := ⟨RX7, "writeLabel", "([III)V"⟩
abbrev cX7_layThen : ByteArray := prog_9_method_41_code
def yX7_layThen : MethodName := ⟨RX7, "layThen", "()V"⟩
abbrev cX7_putAt : ByteArray := prog_9_method_42_code
def yX7_putAt : MethodName := ⟨RX7, "putAt", "([IIIII)V"⟩
abbrev cX7_takeOut : ByteArray := prog_9_method_43_code
def yX7_takeOut : MethodName := ⟨RX7, "takeOut", "([II)V"⟩
abbrev cX7_moveTo : ByteArray := prog_9_method_44_code
def yX7_moveTo : MethodName := ⟨RX7, "moveTo", "([III)V"⟩
abbrev cX7_keep : ByteArray := prog_9_method_45_code
def yX7_keep : MethodName := ⟨RX7, "keep", "()V"⟩
abbrev cX7_isSuch : ByteArray := prog_9_method_46_code
def yX7_isSuch : MethodName := ⟨RX7, "isSuch", "(III)Z"⟩
abbrev cX7_put : ByteArray := prog_9_method_47_code
def yX7_put : MethodName := ⟨RX7, "put", "(IIII)I"⟩
abbrev cX7_take : ByteArray := prog_9_method_48_code
def yX7_take : MethodName := ⟨RX7, "take", "(I)I"⟩
abbrev cX7_move : ByteArray := prog_9_method_49_code
def yX7_move : MethodName := ⟨RX7, "move", "(II)I"⟩
abbrev cX7_change : ByteArray := prog_9_method_50_code
def yX7_change : MethodName := ⟨RX7, "change", "(IIII)I"⟩
abbrev cX7_style : ByteArray := prog_9_method_51_code
def yX7_style : MethodName := ⟨RX7, "style", "(II)I"⟩
abbrev cX7_undo : ByteArray := prog_9_method_52_code
def yX7_undo : MethodName := ⟨RX7, "undo", "()I"⟩
abbrev cX7_paragraph : ByteArray := prog_9_method_53_code
def yX7_paragraph : MethodName := ⟨RX7, "paragraph", "(II)I"⟩
abbrev cX7_signAt : ByteArray := prog_9_method_54_code
def yX7_signAt : MethodName := ⟨RX7, "signAt", "(I)I"⟩
abbrev cX7_label : ByteArray := prog_9_method_55_code
def yX7_label : MethodName := ⟨RX7, "label", "(III)I"⟩
abbrev cX7_called : ByteArray := prog_9_method_56_code
def yX7_called : MethodName := ⟨RX7, "called", "(III)I"⟩
abbrev cX7_span : ByteArray := prog_9_method_57_code
def yX7_span : MethodName := ⟨RX7, "span", "(IIII)I"⟩
abbrev cX7_holdLabel : ByteArray := prog_9_method_58_code
def yX7_holdLabel : MethodName := ⟨RX7, "holdLabel", "()V"⟩
abbrev cX7_compared : ByteArray := prog_9_method_59_code
def yX7_compared : MethodName := ⟨RX7, "compared", "()I"⟩
abbrev cX7_register : ByteArray := prog_9_method_60_code
def yX7_register : MethodName := ⟨RX7, "register", "(I)I"⟩
abbrev cX7_rowFound : ByteArray := prog_9_method_61_code
def yX7_rowFound : MethodName := ⟨RX7, "rowFound", "(III)I"⟩
abbrev cX7_bears : ByteArray := prog_9_method_62_code
def yX7_bears : MethodName := ⟨RX7, "bears", "(III)I"⟩
abbrev cX7_isOther : ByteArray := prog_9_method_63_code
def yX7_isOther : MethodName := ⟨RX7, "isOther", "(II)Z"⟩
abbrev cX7_changed : ByteArray := prog_9_method_64_code
def yX7_changed : MethodName := ⟨RX7, "changed", "(I)I"⟩
abbrev cX7_farOf : ByteArray := prog_9_method_65_code
def yX7_farOf : MethodName := ⟨RX7, "farOf", "(II)I"⟩
abbrev cX7_nearest : ByteArray := prog_9_method_66_code
def yX7_nearest : MethodName := ⟨RX7, "nearest", "(II)I"⟩
abbrev cX7_sets : ByteArray := prog_9_method_67_code
def yX7_sets : MethodName := ⟨RX7, "sets", "(I)I"⟩
abbrev cX7_deepest : ByteArray := prog_9_method_68_code
def yX7_deepest : MethodName := ⟨RX7, "deepest", "(I)I"⟩
abbrev cX7_isCountedSo : ByteArray := prog_9_method_69_code
def yX7_isCountedSo : MethodName := ⟨RX7, "isCountedSo", "(II)Z"⟩
abbrev cX7_who : ByteArray := prog_9_method_70_code
def yX7_who : MethodName := ⟨RX7, "who", "(IIIII)I"⟩
abbrev cX7_restarts : ByteArray := prog_9_method_71_code
def yX7_restarts : MethodName := ⟨RX7, "restarts", "()I"⟩
abbrev cX7_bits : ByteArray := prog_9_method_72_code
def yX7_bits : MethodName := ⟨RX7, "bits", "(I)I"⟩
abbrev cX7_lost : ByteArray := prog_9_method_73_code
def yX7_lost : MethodName := ⟨RX7, "lost", "(IIII)J"⟩
abbrev cX7_drawn : ByteArray := prog_9_method_74_code
def yX7_drawn : MethodName := ⟨RX7, "drawn", "(III)I"⟩
abbrev cX7_image : ByteArray := prog_9_method_75_code
def yX7_image : MethodName := ⟨RX7, "image", "(I)I"⟩
abbrev cX7_restore : ByteArray := prog_9_method_76_code
def yX7_restore : MethodName := ⟨RX7, "restore", "(I)I"⟩
abbrev cX7_isOf : ByteArray := prog_9_method_77_code
def yX7_isOf : MethodName := ⟨RX7, "isOf", "(II)Z"⟩
abbrev cX7_kind : ByteArray := prog_9_method_78_code
def yX7_kind : MethodName := ⟨RX7, "kind", "(I)I"⟩
abbrev cX7_as : ByteArray := prog_9_method_79_code
def yX7_as : MethodName := ⟨RX7, "as", "(II)I"⟩
abbrev cX7_began : ByteArray := prog_9_method_80_code
def yX7_began : MethodName := ⟨RX7, "began", "(I)V"⟩
abbrev cX7_plainSize : ByteArray := prog_9_method_81_code
def yX7_plainSize : MethodName := ⟨RX7, "plainSize", "(I)I"⟩
abbrev cX7_textSize : ByteArray := prog_9_method_82_code
def yX7_textSize : MethodName := ⟨RX7, "textSize", "(I)I"⟩
abbrev cX7_markOf : ByteArray := prog_9_method_83_code
def yX7_markOf : MethodName := ⟨RX7, "markOf", "(I)I"⟩
abbrev cX7_sizeOf : ByteArray := prog_9_method_84_code
def yX7_sizeOf : MethodName := ⟨RX7, "sizeOf", "(I)I"⟩
abbrev cX7_ask : ByteArray := prog_9_method_85_code
def yX7_ask : MethodName := ⟨RX7, "ask", "(II)I"⟩
abbrev cX7_trace : ByteArray := prog_9_method_86_code
def yX7_trace : MethodName := ⟨RX7, "trace", "(I)I"⟩
abbrev cX7_count : ByteArray := prog_9_method_87_code
def yX7_count : MethodName := ⟨RX7, "count", "(I)I"⟩
abbrev cX7_status : ByteArray := prog_9_method_88_code
def yX7_status : MethodName := ⟨RX7, "status", "()I"⟩
def RJ6 : String := "java/lang/Integer"
def TJ6 : u_T := fun k => match k with
  | _ => ("", "", "", false)
def tyJ6 : Nat → FieldType := fun k => match k with
  | _ => .int
abbrev wsJ60 : List Cond := u_ws RJ6 TJ6 0
theorem nmJ6 : ∀ a, a < 0 → ∀ b, b < 0 → a ≠ b → (TJ6 a).2.1 ≠ (TJ6 b).2.1 := by decide +kernel
theorem tyJ6_ok : ∀ k, k < 0 → parseFieldDescriptor (TJ6 k).2.2.1 = some (tyJ6 k) := by decide +kernel
abbrev cJ6_bitCount_0f7a4 : ByteArray := prog_10_method_49_code
def yJ6_bitCount_0f7a4 : MethodName := ⟨RJ6, "bitCount", "(I)I"⟩
def RJ9 : String := "java/lang/Math"
def TJ9 : u_T := fun k => match k with
  | _ => ("", "", "", false)
def tyJ9 : Nat → FieldType := fun k => match k with
  | _ => .int
abbrev wsJ90 : List Cond := u_ws RJ9 TJ9 0
theorem nmJ9 : ∀ a, a < 0 → ∀ b, b < 0 → a ≠ b → (TJ9 a).2.1 ≠ (TJ9 b).2.1 := by decide +kernel
theorem tyJ9_ok : ∀ k, k < 0 → parseFieldDescriptor (TJ9 k).2.2.1 = some (tyJ9 k) := by decide +kernel
abbrev cJ9_max_7cf53 : ByteArray := prog_11_method_65_code
def yJ9_max_7cf53 : MethodName := ⟨RJ9, "max", "(II)I"⟩
abbrev cJ9_max_f86c9 : ByteArray := prog_11_method_66_code
def yJ9_max_f86c9 : MethodName := ⟨RJ9, "max", "(JJ)J"⟩
abbrev cJ9_min_7cf53 : ByteArray := prog_11_method_69_code
def yJ9_min_7cf53 : MethodName := ⟨RJ9, "min", "(II)I"⟩
def RJ10 : String := "java/lang/System"
def TJ10 : u_T := fun k => match k with
  | _ => ("", "", "", false)
def tyJ10 : Nat → FieldType := fun k => match k with
  | _ => .int
abbrev wsJ100 : List Cond := u_ws RJ10 TJ10 0
theorem nmJ10 : ∀ a, a < 0 → ∀ b, b < 0 → a ≠ b → (TJ10 a).2.1 ≠ (TJ10 b).2.1 := by decide +kernel
theorem tyJ10_ok : ∀ k, k < 0 → parseFieldDescriptor (TJ10 k).2.2.1 = some (tyJ10 k) := by decide +kernel
def RJ7 : String := "java/util/Arrays"
def TJ7 : u_T := fun k => match k with
  | _ => ("", "", "", false)
def tyJ7 : Nat → FieldType := fun k => match k with
  | _ => .int
abbrev wsJ70 : List Cond := u_ws RJ7 TJ7 0
theorem nmJ7 : ∀ a, a < 0 → ∀ b, b < 0 → a ≠ b → (TJ7 a).2.1 ≠ (TJ7 b).2.1 := by decide +kernel
theorem tyJ7_ok : ∀ k, k < 0 → parseFieldDescriptor (TJ7 k).2.2.1 = some (tyJ7 k) := by decide +kernel
abbrev cJ7_fill_53178 : ByteArray := prog_13_method_103_code
def yJ7_fill_53178 : MethodName := ⟨RJ7, "fill", "([II)V"⟩
def RL : String := "CountedListsLaw"
abbrev cL_law : ByteArray := code
def yL_law : MethodName := ⟨RL, "law", "([I)Z"⟩
end
section
/-! The world: cells by their numbers (an object, an array), what they hold in numbers (Mem: cell, place), where they lie (ad). -/
abbrev Mem : Type := Nat → Nat → Int32
def ms (V : Mem) (i : Nat) (f : Nat → Int32) : Mem := fun a => if a = i then f else V a
/-- one place is written -/
def st (V : Mem) (i k : Nat) (x : Int32) : Mem := ms V i (upd (V i) k x)
/-- a piece of a row is copied -/
def cp (V : Mem) (i0 i sp dp n : Nat) : Mem := ms V i (va_cpy (V i0) (V i) sp dp n)
def ib (i : Int32) (n : Nat) : Bool := !(decide (i < 0) || decide (n ≤ i.toNatClampNeg))
theorem ib_in {i : Int32} {n : Nat} (h : ib i n = true) : vp_in i n := by
  unfold ib at h
  intro q
  rcases q with q | q
  · simp [q] at h
  · simp [q] at h
/-- classes' numbers and slots; the array classes; where the cells lie; where the static tables lie -/
abbrev GP : Type := va_G × (Nat → ClassId) × (Nat → Nat) × (Nat → Nat)
def ac (g : GP) : Nat → ClassId := g.2.1
def ad (g : GP) : Nat → Nat := g.2.2.1
def sa (g : GP) : Nat → Nat := g.2.2.2
/-- the kind of each cell, how many cells -/
abbrev LY : Type := (Nat → Nat) × Nat
def KD (L : LY) (i k : Nat) : Prop := i < L.2 ∧ L.1 i = k
def zcls : List vw_C := [(RX0, TX0, 3), (RX2, TX2, 3), (RX3, TX3, 7), (RX4, TX4, 2), (RX5, TX5, 7), (RX6, TX6, 14), (RX7, TX7, 30)]
def ztys (a : Nat → ClassId) : List (ClassId × FieldType) := [(a 0, .int), (a 1, .char), (a 2, .boolean), (a 3, .array .int), (a 4, .object RX2), (a 5, .object RX3), (a 6, .object RX4)]
def EK (g : GP) (k i : Nat) (f : Nat → Int32) : va_E := match k with
  | 0 => .inr (0, [.ref (ad g (i + 1)), .int (f 1), .int (f 2)])
  | 1 => .inr (1, [.ref (ad g (i + 1)), .int (f 1), .int (f 2)])
  | 2 => .inr (2, [.ref (ad g (i + 1)), .ref (ad g (i + 2)), .ref (ad g (i + 3)), .ref (ad g (i + 4)), .int (f 4), .ref (ad g (i + 5)), .int (f 6)])
  | 3 => .inr (3, [.ref (ad g (i + 1)), .int (f 1)])
  | 4 => .inr (4, [.ref (ad g (i + 1)), .int (f 1), .int (f 2), .int (f 3), .int (f 4), .int (f 5), .int (f 6)])
  | 5 => .inr (5, [.ref (ad g 1), .ref (ad g 2), .ref (ad g 4), .ref (ad g 35), .ref (ad g 66), .ref (ad g 67), .ref (ad g 93), .ref (ad g 94), .ref (ad g 96), .ref (ad g 97), .ref (ad g 98), .int (f 11), .int (f 12), .int (f 13)])
  | 6 => .inr (6, [.int (f 0), .int (f 1), .ref (ad g 1), .ref (ad g 2), .ref (ad g 3), .ref (ad g 4), .ref (ad g 5), .ref (ad g 6), .ref (ad g 7), .int (f 9), .ref (ad g 8), .int (f 11), .int (f 12), .int (f 13), .int (f 14), .int (f 15), .int (f 16), .int (f 17), .int (f 18), .ref (ad g 9), .ref (ad g 10), .ref (ad g 11), .ref (ad g 12), .int (f 23), .ref (ad g 13), .int (f 25), .ref (ad g 14), .ref (ad g 15), .ref (ad g 16), .int (f 29)])
  | 7 => .inl (ac g 1, 23, .inl f)
  | 8 => .inl (ac g 2, 2, .inl f)
  | 9 => .inl (ac g 3, 25, .inr (.inr (.inr (.inr (fun j => some (ad g (i + 1 + j)))))))
  | 10 => .inl (ac g 3, 24, .inr (.inr (.inr (.inr (fun j => some (ad g (i + 1 + j)))))))
  | 11 => .inl (ac g 4, 8, .inr (.inr (.inr (.inr (fun j => some (ad g (99 + 2 * j)))))))
  | 12 => .inl (ac g 5, 2, .inr (.inr (.inr (.inr (fun j => some (ad g (115 + 31 * j)))))))
  | 13 => .inl (ac g 6, 24, .inr (.inr (.inr (.inr (fun j => some (ad g (177 + 2 * j)))))))
  | 14 => .inl (ac g 0, 0, .inl f)
  | 15 => .inl (ac g 0, 0, .inl f)
  | n + 16 => .inl (ac g 0, n, .inl f)
def zW (g : GP) (L : LY) (V : Mem) : va_W := (List.range L.2).map fun i => (ad g i, EK g (L.1 i) i (V i))
def Ar (g : GP) (L : LY) : Nat → Prop := fun q => ∃ i, i < L.2 ∧ q = ad g i
def IJ (g : GP) (L : LY) : Prop := ∀ i j, i < L.2 → j < L.2 → ad g i = ad g j → i = j
theorem zW_k {g : GP} {L : LY} {V : Mem} {i k : Nat} (h : KD L i k) : (zW g L V)[i]? = some (ad g i, EK g k i (V i)) := by
  obtain ⟨h1, h2⟩ := h
  subst h2
  simp [zW, h1]
theorem zW_set {g : GP} {L : LY} {V : Mem} {i k : Nat} {f : Nat → Int32} (h : KD L i k) : (zW g L V).set i (ad g i, EK g k i f) = zW g L (ms V i f) := by
  obtain ⟨h1, h2⟩ := h
  subst h2
  apply List.ext_getElem?
  intro j
  rw [List.getElem?_set]
  by_cases e : i = j
  · subst e
    simp [zW, h1, ms]
  · by_cases hj : j < L.2
    · simp [zW, hj, ms, e, Ne.symm e]
    · simp [zW, hj, e]
theorem zW_D {g : GP} {L : LY} {V : Mem} (hJ : IJ g L) : va_D (Ar g L) (zW g L V) := by
  have key : ∀ (i : Nat) (p : Nat × va_E), (zW g L V)[i]? = some p → i < L.2 ∧ p.1 = ad g i := by
    intro i p h
    have hi : i < L.2 := by
      have := (List.getElem?_eq_some_iff.mp h).1
      simpa [zW] using this
    refine ⟨hi, ?_⟩
    have h2 : (zW g L V)[i]? = some (ad g i, EK g (L.1 i) i (V i)) := zW_k ⟨hi, rfl⟩
    rw [h2] at h
    cases h
    rfl
  refine ⟨fun i j p q hp hq hpq => ?_, fun k q h => ?_⟩
  · obtain ⟨a1, a2⟩ := key i p hp
    obtain ⟨b1, b2⟩ := key j q hq
    exact hJ i j a1 b1 (by rw [← a2, ← b2]; exact hpq)
  · obtain ⟨a1, a2⟩ := key k q h
    exact ⟨k, a1, a2⟩
/-- the static tables of the class -/
def tbl (k : Nat) : List Int32 := match k with
  | 0 => [-1, 0, 1, 1, 0, 4]
  | 1 => [0, 105, 114, 99, 116, 104]
  | 2 => [10, 11, 12, 0, 13, 14]
  | 3 => [20, 21, 24, 22, 23, 0]
  | 4 => [50, 40, 10, 9, 5, 4, 1]
  | 5 => [108, 120, 120, 105, 118, 105, 105]
  | _ => [0, 108, 0, 120, 0, 118, 0]
def tbn (k : Nat) : String × String × FieldType := match k with
  | 0 => ("KIND_ABOVE", "[I", .int)
  | 1 => ("SORTS", "[C", .char)
  | 2 => ("SIZE_BODIES", "[I", .int)
  | 3 => ("MARK_BODIES", "[I", .int)
  | 4 => ("ROMAN_VALUES", "[I", .int)
  | 5 => ("ROMAN_FIRST", "[C", .char)
  | _ => ("ROMAN_SECOND", "[C", .char)
def tba (k : Nat) (j : Nat) : Int32 := (tbl k).getD j 0
def ZS (g : GP) (A : Nat → Prop) (U : State) (H : Heap) : Prop := ∀ k, k < 7 → va_Z "CountedLists" (tbn k).1 (tbn k).2.1 (.ref (sa g k)) A U H ∧ va_T (tbn k).2.2 (sa g k) (tbl k).length (fun j => .int (tba k j)) A U H
/-- the words that stay over calls -/
def lw_g : List Cond := lw_tbl.filter goodWord
theorem mg {w : Cond} (i : Nat) (h : lw_tbl[i]? = some w) (hg : goodWord w = true) : w ∈ lw_g := List.mem_filter.mpr ⟨List.mem_of_getElem? h, hg⟩
def nsw : List (String × Nat × String) := [("CountedLists$Signs", 33, "ROMAN_VALUES"), ("CountedLists$Signs", 37, "ROMAN_FIRST"), ("CountedLists$Signs", 40, "ROMAN_SECOND"), ("CountedLists$Tape", 70, "SORTS")]
def nsd (n : String) : String := if n = "ROMAN_VALUES" then "[I" else "[C"
def nsc (q : String × Nat × String) : Cond := .fieldLinkNest q.1 q.2.1 "CountedLists" q.2.2 (nsd q.2.2) "CountedLists"
def NW (U : State) : Prop := ∀ q ∈ nsw, va_Nw (nsc q) U
theorem NW.warm {s U : State} (hW : s.WarmedH U.vm) (h : NW s) : NW U := fun q hq => va_Nw.warmF hW (h q hq)
theorem NW.same {s U : State} (hv : s.vm = U.vm) (h : NW s) : NW U := fun q hq => va_Nw.same rfl hv (h q hq)
/-- a state that holds the cells -/
def RG (g : GP) (L : LY) (V : Mem) (U : State) : Prop := va_P g.1 zcls (zW g L V) U.heap ∧ va_K g.1 zcls (ztys (ac g)) U ∧ IJ g L ∧ ZS g (Ar g L) U U.heap ∧ NW U
def QQ (g : GP) (L : LY) (r : Option Value) (V : Mem) : Array Value → State → Outcome → State → Prop := fun _ st oc t => oc = .returned r ∧ RG g L V t ∧ va_F (Ar g L) st t
def wy (y : MethodName) (cc : ByteArray) (nL : Nat) (ret : Option FieldType) : List Cond := .code y cc nL ret :: lw_g
def CT (l : Launch) (g : GP) (L : LY) (y : MethodName) (cc : ByteArray) (nL : Nat) (ret : Option FieldType) (rm : Room) (as : List Value) (V : Mem) (r : Option Value) (V' : Mem) : Prop :=
  Met l y (wy y cc nL ret) rm (va_Pc as (RG g L V)) (QQ g L r V') 0 0 (Ar g L)
def BX (p : Program) (s : State) (m : MethodId) (args : Array Value) (meth : Method) (c : Code) (g : GP) (L : LY) (cc : ByteArray) (nL : Nat) (own : String) (ret : Option FieldType) : Prop :=
  p.tables.exec = Jvm.exec ∧ c.code = cc ∧ c.maxLocals = nL ∧ s.vm.findClass own = some m.cls ∧ (∀ w ∈ lw_g, w.before args s = true) ∧ meth.sig.returnType = ret ∧ meth.locks = false ∧ va_K g.1 zcls (ztys (ac g)) s ∧ IJ g L ∧ ZS g (Ar g L) s s.heap ∧ NW s
def OK (g : GP) (L : LY) (V : Mem) (s : State) (H : Heap) (locs : List Loc) : Prop := va_P g.1 zcls (zW g L V) H ∧ va_S (Ar g L) s.heap H locs
theorem ZS.moved {g : GP} {A : Nat → Prop} {u U : State} {H : Heap} (hvm : u.vm.Alike U.vm) (h : ZS g A u H) : ZS g A U H := fun k hk => ⟨(h k hk).1.moved hvm, (h k hk).2.moved hvm⟩
theorem ZS.kept {g : GP} {A : Nat → Prop} {U : State} {H H1 : Heap} (h : ZS g A U H) (hq : ∀ a : Nat, a < H.size → ¬ A a → H1[a]? = H[a]?) : ZS g A U H1 := fun k hk => ⟨(h k hk).1.kept hq, (h k hk).2.kept hq⟩
theorem RG.calling {g : GP} {L : LY} {V : Mem} {a : Array Value} {U : State} {f : JFrame} {mk : MethodId} (h : RG g L V U) : RG g L V (U.calling f mk a) :=
  ⟨h.1, va_K.moved (u := U) (U := U.calling f mk a) (Vm.Alike.refl U.vm) h.2.1, h.2.2.1, ZS.moved (u := U) (U := U.calling f mk a) (Vm.Alike.refl U.vm) h.2.2.2.1, NW.same (U := U.calling f mk a) rfl h.2.2.2.2⟩
theorem gi_wy {y : MethodName} {cc : ByteArray} {nL : Nat} {ret : Option FieldType} (h : Cond.code y cc nL ret ∈ lw_g) : GoodIn lw_g (wy y cc nL ret) := by
  intro w hw
  have hm : w ∈ lw_g := by
    rcases List.mem_cons.mp hw with e | e
    · rw [e]; exact h
    · exact e
  exact ⟨hm, good_of_word (List.mem_filter.mp hm).2⟩
section BASE
variable {p : Program} {l : Launch} {e : Env} {R : Room} {s : State} {m : MethodId} {args : Array Value} {below : List Frame} {meth : Method} {c : Code} {H : Heap} {locs : List Loc} {Q : State → Prop}
variable {cc : ByteArray} {pc : Nat} {ls : Array Slot} {rest : List Value} {g : GP} {L : LY} {V : Mem} {nL : Nat} {own : String} {ret : Option FieldType}
theorem ct_of {y : MethodName} {rm : Room} {as : List Value} {r : Option Value} {V' : Mem} (hy : plainName y.cls = true) (hn : (lg_sl as).length ≤ nL)
    (h : ∀ (p : Program) (e : Env) (s : State) (m : MethodId) (args : Array Value) (below : List Frame) (meth : Method) (c : Code) (ls : Array Slot), BX p s m args meth c g L cc nL y.cls ret → OK g L V s s.heap [] → lv_has ls nL (lv_args 0 as) →
      W p l e rm s m args below meth c s.heap [] 0 0 (MQ below (QQ g L r V') args s 0 0 (Ar g L)) (F0 m 0 ls [])) : CT l g L y cc nL ret rm as V r V' := by
  refine Met.ofW (cc := cc) (maxL := nL) (ret := ret) hy rfl ?_
  intro p e s m args below meth c s₁ B hml hv
  obtain ⟨hargs, hP, hK, hJ, hZ, hN⟩ := hv
  subst hargs
  have hts := atoms_spec (ws := wy y cc nL ret) B.pre
  have hown : s.vm.findClass y.cls = some m.cls := findClass_of_methodNamed B.named
  have hl := lv_entry as (n := nL) hn
  rw [lg_entry_eq]
  exact h p e s m _ below meth c _ ⟨B.exec, B.bytes, hml, hown, fun w hw => hts w (List.mem_cons_of_mem _ hw), B.returns, B.notSynchronized, hK, hJ, hZ, hN⟩ ⟨hP, va_S.rf⟩ hl
theorem x_bind {α β : Type} {x : Option α} {f : α → Option β} {o : β} (h : x.bind f = some o) : ∃ a, x = some a ∧ f a = some o := by
  cases x with
  | none => cases h
  | some a => exact ⟨a, rfl, h⟩
theorem x_chk {α : Type} {b : Bool} {A : Option α} {o : α} (h : (if b = true then A else none) = some o) : b = true ∧ A = some o := by
  cases b with
  | false => cases h
  | true => exact ⟨rfl, h⟩
theorem x_ne0 {α β : Type} [DecidableEq β] {y z : β} {A : Option α} {o : α} (h : (if y = z then none else A) = some o) : ¬ y = z ∧ A = some o := by
  by_cases e : y = z
  · rw [if_pos e] at h; cases h
  · rw [if_neg e] at h; exact ⟨e, h⟩
theorem x_if {α : Type} {P : Prop} [Decidable P] {A : Option α} {o : α} (h : (if P then A else none) = some o) : P ∧ A = some o := by
  by_cases e : P
  · rw [if_pos e] at h; exact ⟨e, h⟩
  · rw [if_neg e] at h; cases h
theorem x_RG (hB : BX p s m args meth c g L cc nL own ret) (hz : OK g L V s H locs) {t : State} (ht : t.heap = H) (hW : s.WarmedH t.vm) : RG g L V t ∧ va_F (Ar g L) s t := by
  obtain ⟨hx, hb, hml, hown, hT, hr, hlk, hK, hJ, hZ, hN⟩ := hB
  refine ⟨⟨by rw [ht]; exact hz.1, va_K.moved hW.alike hK, hJ, ?_, hN.warm hW⟩, hz.2.F ht⟩
  rw [ht]
  exact (hZ.kept hz.2.2.1).moved hW.alike
theorem x_iret {o : Int32 × Mem} {v : Int32} (hB : BX p s m args meth c g L cc nL own (some .int)) (hz : OK g L V s H locs) (hE : some (v, V) = some o) (hd : decode cc pc = .ok (.ireturn, 1)) :
    W p l e R s m args below meth c H locs 0 0 (MQ below (QQ g L (some (.int o.1)) o.2) args s 0 0 (Ar g L)) (F0 m pc ls [.int v]) := by
  cases hE
  have hlocks : meth.locks = false := hB.2.2.2.2.2.2.1
  exact W.iret hB.1 hB.2.1 hB.2.2.2.2.2.1 (fun t ht hW => ⟨rfl, x_RG hB hz ht hW⟩) hz.2.2.2 hd
theorem x_zret {o : Int32 × Mem} {v : Int32} (hB : BX p s m args meth c g L cc nL own (some .boolean)) (hz : OK g L V s H locs) (hE : some (v, V) = some o) (hv : v &&& 1 = v) (hd : decode cc pc = .ok (.ireturn, 1)) :
    W p l e R s m args below meth c H locs 0 0 (MQ below (QQ g L (some (.int o.1)) o.2) args s 0 0 (Ar g L)) (F0 m pc ls [.int v]) := by
  cases hE
  have hlocks : meth.locks = false := hB.2.2.2.2.2.2.1
  exact W.zret hB.1 hB.2.1 hB.2.2.2.2.2.1 (show Value.int (v &&& 1) = .int v by rw [hv]) (fun t ht hW => ⟨rfl, x_RG hB hz ht hW⟩) hz.2.2.2 hd
theorem x_lret {o : Int64 × Mem} {v : Int64} (hB : BX p s m args meth c g L cc nL own (some .long)) (hz : OK g L V s H locs) (hE : some (v, V) = some o) (hd : decode cc pc = .ok (.lreturn, 1)) :
    W p l e R s m args below meth c H locs 0 0 (MQ below (QQ g L (some (.long o.1)) o.2) args s 0 0 (Ar g L)) (F0 m pc ls [.long v]) := by
  cases hE
  have hlocks : meth.locks = false := hB.2.2.2.2.2.2.1
  exact W.lret hB.1 hB.2.1 hB.2.2.2.2.2.1 (fun t ht hW => ⟨rfl, x_RG hB hz ht hW⟩) hz.2.2.2 hd
theorem x_vret {o : Mem} (hB : BX p s m args meth c g L cc nL own none) (hz : OK g L V s H locs) (hE : some V = some o) (hd : decode cc pc = .ok (.return_, 1)) :
    W p l e R s m args below meth c H locs 0 0 (MQ below (QQ g L none o) args s 0 0 (Ar g L)) (F0 m pc ls []) := by
  cases hE
  have hlocks : meth.locks = false := hB.2.2.2.2.2.2.1
  exact W.vret hB.1 hB.2.1 hB.2.2.2.2.2.1 (fun t ht hW => ⟨rfl, x_RG hB hz ht hW⟩) hz.2.2.2 hd
theorem x_aret {o : Nat × Mem} {i : Nat} {ty : FieldType} (hB : BX p s m args meth c g L cc nL own (some (.array ty))) (hz : OK g L V s H locs) (hE : some (i, V) = some o) (hd : decode cc pc = .ok (.areturn, 1)) :
    W p l e R s m args below meth c H locs 0 0 (MQ below (QQ g L (some (.ref (ad g o.1))) o.2) args s 0 0 (Ar g L)) (F0 m pc ls [.ref (ad g i)]) := by
  cases hE
  have hlocks : meth.locks = false := hB.2.2.2.2.2.2.1
  exact W.aret hB.1 hB.2.1 hB.2.2.2.2.2.1 (Or.inr ⟨_, rfl⟩) (Or.inr ⟨_, rfl⟩) (fun t ht hW => ⟨rfl, x_RG hB hz ht hW⟩) hz.2.2.2 hd
/-- a field is read -/
theorem x_get {C : String} {T : u_T} {N ci i index : Nat} (hB : BX p s m args meth c g L cc nL own ret) (hz : OK g L V s H locs) (hk : KD L i ci) (hc : zcls[ci]? = some (C, T, N)) (hin : ∀ w ∈ u_ws C T N, w ∈ lw_g) {fs : List Value} (he : EK g ci i (V i) = .inr (ci, fs)) (k : Nat) (hkN : k < N)
    (hl : Cond.fieldLink own index (T k).1 (T k).2.1 (T k).2.2.1 ∈ lw_g) {v : Value} (hv : fs[k]? = some v) (hdg : decode cc pc = .ok (.getfield index, 3))
    (kk : W p l e R s m args below meth c H locs 0 0 Q (F0 m (pc + 3) ls (v :: rest))) : W p l e R s m args below meth c H locs 0 0 Q (F0 m pc ls (.ref (ad g i) :: rest)) := by
  obtain ⟨hx, hb, hml, hown, hT, hr, hlk, hK, hJ, hZ, hN⟩ := hB
  exact va_get (D := g.1) hx hb hT hin hown hK hz.1 i (by rw [zW_k hk, he]) hc k hkN (hT _ hl) (fun _ h9 => h9) hv hdg kk
/-- an int field is written -/
theorem x_put {C : String} {T : u_T} {N ci i index : Nat} (hB : BX p s m args meth c g L cc nL own ret) (hz : OK g L V s H locs) (hk : KD L i ci) (hc : zcls[ci]? = some (C, T, N)) (hin : ∀ w ∈ u_ws C T N, w ∈ lw_g) (ty0 : Nat → FieldType) (hty : ∀ k, k < N → parseFieldDescriptor (T k).2.2.1 = some (ty0 k)) (hnm : ∀ a, a < N → ∀ b, b < N → a ≠ b → (T a).2.1 ≠ (T b).2.1)
    {fs : List Value} (he : EK g ci i (V i) = .inr (ci, fs)) (k : Nat) (hkN : k < N) {x : Int32} (hs : EK g ci i (upd (V i) k x) = .inr (ci, fs.set k (.int x))) (hlen : k < fs.length)
    (hl : Cond.fieldLink own index (T k).1 (T k).2.1 (T k).2.2.1 ∈ lw_g) (hfin : (T k).2.2.2 = false) (hi : parseFieldDescriptor (T k).2.2.1 = some .int) (hdg : decode cc pc = .ok (.putfield index, 3))
    (kk : ∀ (H1 : Heap) (locs1 : List Loc), OK g L (st V i k x) s H1 locs1 → W p l e R s m args below meth c H1 locs1 0 0 Q (F0 m (pc + 3) ls rest)) : W p l e R s m args below meth c H locs 0 0 Q (F0 m pc ls (.int x :: .ref (ad g i) :: rest)) := by
  obtain ⟨hx, hb, hml, hown, hT, hr, hlk, hK, hJ, hZ, hN⟩ := hB
  refine va_put (D := g.1) (ty := .int) hx hb hT hin ty0 hty hnm hown hK hz.1 (zW_D hJ) hz.2 i (by rw [zW_k hk, he]) hc k hkN (hT _ hl) (fun _ h9 => h9) hfin hi rfl rfl hlen hdg (fun H1 locs1 hP hD hS => kk H1 locs1 ⟨?_, hS⟩)
  rw [← hs, zW_set hk] at hP
  exact hP
theorem x_iald {i n : Nat} {j : Int32} (hB : BX p s m args meth c g L cc nL own ret) (hz : OK g L V s H locs) (hk : KD L i (n + 16)) (hin : ib j n = true) (hdg : decode cc pc = .ok (.iaload, 1))
    (kk : W p l e R s m args below meth c H locs 0 0 Q (F0 m (pc + 1) ls (.int (V i j.toNatClampNeg) :: rest))) : W p l e R s m args below meth c H locs 0 0 Q (F0 m pc ls (.int j :: .ref (ad g i) :: rest)) := by
  obtain ⟨hx, hb, hml, hown, hT, hr, hlk, hK, hJ, hZ, hN⟩ := hB
  exact va_iald (D := g.1) hx hb hK hz.1 i 0 (zW_k hk) rfl (ib_in hin) hdg kk
theorem x_cald {i : Nat} {j : Int32} (hB : BX p s m args meth c g L cc nL own ret) (hz : OK g L V s H locs) (hk : KD L i 7) (hin : ib j 23 = true) (hdg : decode cc pc = .ok (.caload, 1))
    (kk : W p l e R s m args below meth c H locs 0 0 Q (F0 m (pc + 1) ls (.int (V i j.toNatClampNeg) :: rest))) : W p l e R s m args below meth c H locs 0 0 Q (F0 m pc ls (.int j :: .ref (ad g i) :: rest)) := by
  obtain ⟨hx, hb, hml, hown, hT, hr, hlk, hK, hJ, hZ, hN⟩ := hB
  exact va_cald (D := g.1) hx hb hK hz.1 i 1 (zW_k hk) rfl (ib_in hin) hdg kk
theorem x_zald {i : Nat} {j : Int32} (hB : BX p s m args meth c g L cc nL own ret) (hz : OK g L V s H locs) (hk : KD L i 8) (hin : ib j 2 = true) (hdg : decode cc pc = .ok (.baload, 1))
    (kk : W p l e R s m args below meth c H locs 0 0 Q (F0 m (pc + 1) ls (.int (V i j.toNatClampNeg) :: rest))) : W p l e R s m args below meth c H locs 0 0 Q (F0 m pc ls (.int j :: .ref (ad g i) :: rest)) := by
  obtain ⟨hx, hb, hml, hown, hT, hr, hlk, hK, hJ, hZ, hN⟩ := hB
  exact va_zald (D := g.1) hx hb hK hz.1 i 2 (zW_k hk) rfl (ib_in hin) hdg kk
theorem x_iast {i n : Nat} {j x : Int32} (hB : BX p s m args meth c g L cc nL own ret) (hz : OK g L V s H locs) (hk : KD L i (n + 16)) (hin : ib j n = true) (hdg : decode cc pc = .ok (.iastore, 1))
    (kk : ∀ (H1 : Heap) (locs1 : List Loc), OK g L (st V i j.toNatClampNeg x) s H1 locs1 → W p l e R s m args below meth c H1 locs1 0 0 Q (F0 m (pc + 1) ls rest)) : W p l e R s m args below meth c H locs 0 0 Q (F0 m pc ls (.int x :: .int j :: .ref (ad g i) :: rest)) := by
  obtain ⟨hx, hb, hml, hown, hT, hr, hlk, hK, hJ, hZ, hN⟩ := hB
  refine va_iast (D := g.1) hx hb hK hz.1 (zW_D hJ) hz.2 i 0 (zW_k hk) rfl (ib_in hin) hdg (fun H1 locs1 hP hD hS => kk H1 locs1 ⟨?_, hS⟩)
  have h2 := zW_set (g := g) (V := V) (f := upd (V i) j.toNatClampNeg x) hk
  exact h2 ▸ hP
theorem x_cast {i : Nat} {j x : Int32} (hB : BX p s m args meth c g L cc nL own ret) (hz : OK g L V s H locs) (hk : KD L i 7) (hin : ib j 23 = true) (hdg : decode cc pc = .ok (.castore, 1))
    (kk : ∀ (H1 : Heap) (locs1 : List Loc), OK g L (st V i j.toNatClampNeg (vp_nar .char x)) s H1 locs1 → W p l e R s m args below meth c H1 locs1 0 0 Q (F0 m (pc + 1) ls rest)) : W p l e R s m args below meth c H locs 0 0 Q (F0 m pc ls (.int x :: .int j :: .ref (ad g i) :: rest)) := by
  obtain ⟨hx, hb, hml, hown, hT, hr, hlk, hK, hJ, hZ, hN⟩ := hB
  refine va_cast (D := g.1) hx hb hK hz.1 (zW_D hJ) hz.2 i 1 (zW_k hk) rfl (ib_in hin) hdg (fun H1 locs1 hP hD hS => kk H1 locs1 ⟨?_, hS⟩)
  have h2 := zW_set (g := g) (V := V) (f := upd (V i) j.toNatClampNeg (vp_nar .char x)) hk
  exact h2 ▸ hP
theorem x_zast {i : Nat} {j x : Int32} (hB : BX p s m args meth c g L cc nL own ret) (hz : OK g L V s H locs) (hk : KD L i 8) (hin : ib j 2 = true) (hdg : decode cc pc = .ok (.bastore, 1))
    (kk : ∀ (H1 : Heap) (locs1 : List Loc), OK g L (st V i j.toNatClampNeg (vp_nar .boolean x)) s H1 locs1 → W p l e R s m args below meth c H1 locs1 0 0 Q (F0 m (pc + 1) ls rest)) : W p l e R s m args below meth c H locs 0 0 Q (F0 m pc ls (.int x :: .int j :: .ref (ad g i) :: rest)) := by
  obtain ⟨hx, hb, hml, hown, hT, hr, hlk, hK, hJ, hZ, hN⟩ := hB
  refine va_zast (D := g.1) hx hb hK hz.1 (zW_D hJ) hz.2 i 2 (zW_k hk) rfl (ib_in hin) hdg (fun H1 locs1 hP hD hS => kk H1 locs1 ⟨?_, hS⟩)
  have h2 := zW_set (g := g) (V := V) (f := upd (V i) j.toNatClampNeg (vp_nar .boolean x)) hk
  exact h2 ▸ hP
theorem x_alen {i n : Nat} (hB : BX p s m args meth c g L cc nL own ret) (hz : OK g L V s H locs) (hk : KD L i (n + 16)) {v : Int32} (hv : Int32.ofNat n = v) (hdg : decode cc pc = .ok (.arraylength, 1))
    (kk : W p l e R s m args below meth c H locs 0 0 Q (F0 m (pc + 1) ls (.int v :: rest))) : W p l e R s m args below meth c H locs 0 0 Q (F0 m pc ls (.ref (ad g i) :: rest)) := by
  obtain ⟨hx, hb, hml, hown, hT, hr, hlk, hK, hJ, hZ, hN⟩ := hB
  exact va_alen (D := g.1) hx hb hK hz.1 i 0 (cA := ac g 0) (x := (n, .inl (V i))) (zW_k hk) rfl hv hdg kk
theorem x_clen {i : Nat} (hB : BX p s m args meth c g L cc nL own ret) (hz : OK g L V s H locs) (hk : KD L i 7) (hdg : decode cc pc = .ok (.arraylength, 1))
    (kk : W p l e R s m args below meth c H locs 0 0 Q (F0 m (pc + 1) ls (.int 23 :: rest))) : W p l e R s m args below meth c H locs 0 0 Q (F0 m pc ls (.ref (ad g i) :: rest)) := by
  obtain ⟨hx, hb, hml, hown, hT, hr, hlk, hK, hJ, hZ, hN⟩ := hB
  exact va_alen (D := g.1) hx hb hK hz.1 i 1 (cA := ac g 1) (x := (23, .inl (V i))) (zW_k hk) rfl rfl hdg kk
theorem x_aalR {i : Nat} {j : Int32} (hB : BX p s m args meth c g L cc nL own ret) (hz : OK g L V s H locs) (hk : KD L i 11) (hin : ib j 8 = true) (hdg : decode cc pc = .ok (.aaload, 1))
    (kk : W p l e R s m args below meth c H locs 0 0 Q (F0 m (pc + 1) ls (.ref (ad g (99 + 2 * j.toNatClampNeg)) :: rest))) : W p l e R s m args below meth c H locs 0 0 Q (F0 m pc ls (.int j :: .ref (ad g i) :: rest)) := by
  obtain ⟨hx, hb, hml, hown, hT, hr, hlk, hK, hJ, hZ, hN⟩ := hB
  exact va_aldq (D := g.1) (f := fun j => some (ad g (99 + 2 * j))) hx hb hK hz.1 i 4 (zW_k hk) rfl (ib_in hin) hdg kk
theorem x_aalI {i : Nat} {j : Int32} (hB : BX p s m args meth c g L cc nL own ret) (hz : OK g L V s H locs) (hk : KD L i 12) (hin : ib j 2 = true) (hdg : decode cc pc = .ok (.aaload, 1))
    (kk : W p l e R s m args below meth c H locs 0 0 Q (F0 m (pc + 1) ls (.ref (ad g (115 + 31 * j.toNatClampNeg)) :: rest))) : W p l e R s m args below meth c H locs 0 0 Q (F0 m pc ls (.int j :: .ref (ad g i) :: rest)) := by
  obtain ⟨hx, hb, hml, hown, hT, hr, hlk, hK, hJ, hZ, hN⟩ := hB
  exact va_aldq (D := g.1) (f := fun j => some (ad g (115 + 31 * j))) hx hb hK hz.1 i 5 (zW_k hk) rfl (ib_in hin) hdg kk
theorem x_aalS {i : Nat} {j : Int32} (hB : BX p s m args meth c g L cc nL own ret) (hz : OK g L V s H locs) (hk : KD L i 13) (hin : ib j 24 = true) (hdg : decode cc pc = .ok (.aaload, 1))
    (kk : W p l e R s m args below meth c H locs 0 0 Q (F0 m (pc + 1) ls (.ref (ad g (177 + 2 * j.toNatClampNeg)) :: rest))) : W p l e R s m args below meth c H locs 0 0 Q (F0 m pc ls (.int j :: .ref (ad g i) :: rest)) := by
  obtain ⟨hx, hb, hml, hown, hT, hr, hlk, hK, hJ, hZ, hN⟩ := hB
  exact va_aldq (D := g.1) (f := fun j => some (ad g (177 + 2 * j))) hx hb hK hz.1 i 6 (zW_k hk) rfl (ib_in hin) hdg kk
theorem x_aalG {i a n : Nat} {f : Nat → Option Nat} {j : Int32} (hB : BX p s m args meth c g L cc nL own ret) (hz : OK g L V s H locs) (he : (zW g L V)[i]? = some (a, .inl (ac g 3, n, .inr (.inr (.inr (.inr f)))))) (hin : ib j n = true) (hdg : decode cc pc = .ok (.aaload, 1))
    (kk : W p l e R s m args below meth c H locs 0 0 Q (F0 m (pc + 1) ls (va_rf (f j.toNatClampNeg) :: rest))) : W p l e R s m args below meth c H locs 0 0 Q (F0 m pc ls (.int j :: .ref a :: rest)) := by
  obtain ⟨hx, hb, hml, hown, hT, hr, hlk, hK, hJ, hZ, hN⟩ := hB
  have hin2 := ib_in hin
  have ht : (ztys (ac g))[3]? = some (ac g 3, .array .int) := rfl
  have hlt : j.toNatClampNeg < n := Nat.not_le.mp fun q => hin2 (Or.inr q)
  exact W.aald (v := va_rf (f j.toNatClampNeg)) (ty := .array .int) hx hb (hz.1 i _ he) ((hK.2 3 _ ht).1 n (fun j => va_rf (f j))) rfl (fun q => by cases q) (by show ¬ (j < 0 ∨ (arrV _ _ _).slots.size ≤ _); rw [arrV_size]; exact hin2) (by show (arrV _ _ _).slots[_]? = _; rw [arrV_read _ _ hlt]) rfl rfl hdg kk
theorem x_aalC {i : Nat} {j : Int32} (hB : BX p s m args meth c g L cc nL own ret) (hz : OK g L V s H locs) (hk : KD L i 9) (hin : ib j 25 = true) (hdg : decode cc pc = .ok (.aaload, 1))
    (kk : W p l e R s m args below meth c H locs 0 0 Q (F0 m (pc + 1) ls (.ref (ad g (i + 1 + j.toNatClampNeg)) :: rest))) : W p l e R s m args below meth c H locs 0 0 Q (F0 m pc ls (.int j :: .ref (ad g i) :: rest)) := x_aalG (f := fun j => some (ad g (i + 1 + j))) hB hz (zW_k hk) hin hdg kk
theorem x_aalK {i : Nat} {j : Int32} (hB : BX p s m args meth c g L cc nL own ret) (hz : OK g L V s H locs) (hk : KD L i 10) (hin : ib j 24 = true) (hdg : decode cc pc = .ok (.aaload, 1))
    (kk : W p l e R s m args below meth c H locs 0 0 Q (F0 m (pc + 1) ls (.ref (ad g (i + 1 + j.toNatClampNeg)) :: rest))) : W p l e R s m args below meth c H locs 0 0 Q (F0 m pc ls (.int j :: .ref (ad g i) :: rest)) := x_aalG (f := fun j => some (ad g (i + 1 + j))) hB hz (zW_k hk) hin hdg kk
/-- System.arraycopy between two int rows; the guard is what the pure text asks -/
def cok (sp dp n : Int32) (n0 n1 : Nat) : Bool := !(decide (sp < 0) || decide (dp < 0) || decide (n < 0)) && decide (sp.toNatClampNeg + n.toNatClampNeg ≤ n0) && decide (dp.toNatClampNeg + n.toNatClampNeg ≤ n1)
theorem x_copy {i0 i n0 n1 index : Nat} {sp dp n : Int32} (hB : BX p s m args meth c g L cc nL own ret) (hz : OK g L V s H locs) (hk0 : KD L i0 (n0 + 16)) (hk : KD L i (n1 + 16)) (hin : cok sp dp n n0 n1 = true) (hsz : ls.size = nL)
    (hl : Cond.methodLink own index arraycopyName ∈ lw_g) (hnat : Cond.native arraycopyName ∈ lw_g) (hstat : Cond.static arraycopyName ∈ lw_g) (hini : Cond.initialized "java/lang/System" ∈ lw_g)
    (hframes : 1 ≤ R.frames) (hlocals : (rest.map fun v => v.category).sum + (nativeFrameWords "java/lang/System" "arraycopy" 5 + 11) ≤ R.locals) (hdg : decode cc pc = .ok (.invokestatic index, 3))
    (kk : ∀ (H1 : Heap) (locs1 : List Loc), OK g L (cp V i0 i sp.toNatClampNeg dp.toNatClampNeg n.toNatClampNeg) s H1 locs1 → W p l e R s m args below meth c H1 locs1 0 0 Q (F0 m (pc + 3) ls rest)) : W p l e R s m args below meth c H locs 0 0 Q (F0 m pc ls (.int n :: .int dp :: .ref (ad g i) :: .int sp :: .ref (ad g i0) :: rest)) := by
  obtain ⟨hx, hb, hml, hown, hT, hr, hlk, hK, hJ, hZ, hN⟩ := hB
  simp only [cok, Bool.and_eq_true, Bool.not_eq_true', Bool.or_eq_false_iff, decide_eq_false_iff_not, decide_eq_true_eq] at hin
  obtain ⟨⟨⟨⟨h1, h2⟩, h3⟩, h4⟩, h5⟩ := hin
  refine va_copyi (D := g.1) (ty := .int) hx hb (hml.trans hsz.symm) hown (hT _ hl) (hT _ hnat) (hT _ hstat) (hT _ hini) hK hz.1 (zW_D hJ) hz.2 i0 i 0 0 (zW_k hk0) (zW_k hk) rfl rfl rfl h1 h2 h3 h4 h5 (fun _ _ => rfl) hframes hlocals hdg (fun H1 locs1 hP hD hS => kk H1 locs1 ⟨?_, hS⟩)
  have h9 := zW_set (g := g) (V := V) (f := va_cpy (V i0) (V i) sp.toNatClampNeg dp.toNatClampNeg n.toNatClampNeg) hk
  exact h9 ▸ hP
/-- a static table's address -/
theorem x_gst {k index : Nat} (hk : k < 7) (hB : BX p s m args meth c g L cc nL own ret) (hz : OK g L V s H locs) (hl : Cond.fieldLink own index "CountedLists" (tbn k).1 (tbn k).2.1 ∈ lw_g) (hdg : decode cc pc = .ok (.getstatic index, 3))
    (kk : W p l e R s m args below meth c H locs 0 0 Q (F0 m (pc + 3) ls (.ref (sa g k) :: rest))) : W p l e R s m args below meth c H locs 0 0 Q (F0 m pc ls rest) := by
  obtain ⟨hx, hb, hml, hown, hT, hr, hlk, hK, hJ, hZ, hN⟩ := hB
  exact va_gets hx hb (hZ k hk).1 hz.2 hown (hT _ hl) (fun _ h => h) hdg kk
theorem x_gstN {k index : Nat} (hk : k < 7) (hB : BX p s m args meth c g L cc nL own ret) (hz : OK g L V s H locs) (hq : (own, index, (tbn k).1) ∈ nsw) (hd : nsd (tbn k).1 = (tbn k).2.1) (hdg : decode cc pc = .ok (.getstatic index, 3))
    (kk : W p l e R s m args below meth c H locs 0 0 Q (F0 m (pc + 3) ls (.ref (sa g k) :: rest))) : W p l e R s m args below meth c H locs 0 0 Q (F0 m pc ls rest) := by
  obtain ⟨hx, hb, hml, hown, hT, hr, hlk, hK, hJ, hZ, hN⟩ := hB
  have hl := va_Nw.use (A := args) rfl (hN _ hq)
  simp only [nsc, hd] at hl
  exact va_getsN hx hb (hZ k hk).1 hz.2 hown hl (fun _ h => h) hdg kk
theorem x_sti {k : Nat} {j : Int32} (hk : k < 7) (ht : (tbn k).2.2 = .int) (hB : BX p s m args meth c g L cc nL own ret) (hz : OK g L V s H locs) (hin : ib j (tbl k).length = true) (hdg : decode cc pc = .ok (.iaload, 1))
    (kk : W p l e R s m args below meth c H locs 0 0 Q (F0 m (pc + 1) ls (.int (tba k j.toNatClampNeg) :: rest))) : W p l e R s m args below meth c H locs 0 0 Q (F0 m pc ls (.int j :: .ref (sa g k) :: rest)) := by
  obtain ⟨hx, hb, hml, hown, hT, hr, hlk, hK, hJ, hZ, hN⟩ := hB
  exact va_ti hx hb (ht ▸ (hZ k hk).2) hz.2 (ib_in hin) rfl hdg kk
theorem x_stc {k : Nat} {j : Int32} (hk : k < 7) (ht : (tbn k).2.2 = .char) (hB : BX p s m args meth c g L cc nL own ret) (hz : OK g L V s H locs) (hin : ib j (tbl k).length = true) (hdg : decode cc pc = .ok (.caload, 1))
    (kk : W p l e R s m args below meth c H locs 0 0 Q (F0 m (pc + 1) ls (.int (tba k j.toNatClampNeg) :: rest))) : W p l e R s m args below meth c H locs 0 0 Q (F0 m pc ls (.int j :: .ref (sa g k) :: rest)) := by
  obtain ⟨hx, hb, hml, hown, hT, hr, hlk, hK, hJ, hZ, hN⟩ := hB
  exact va_tc hx hb (ht ▸ (hZ k hk).2) hz.2 (ib_in hin) rfl hdg kk
theorem x_slen {k : Nat} {v : Int32} (hk : k < 7) (hv : Int32.ofNat (tbl k).length = v) (hB : BX p s m args meth c g L cc nL own ret) (hz : OK g L V s H locs) (hdg : decode cc pc = .ok (.arraylength, 1))
    (kk : W p l e R s m args below meth c H locs 0 0 Q (F0 m (pc + 1) ls (.int v :: rest))) : W p l e R s m args below meth c H locs 0 0 Q (F0 m pc ls (.ref (sa g k) :: rest)) := by
  obtain ⟨hx, hb, hml, hown, hT, hr, hlk, hK, hJ, hZ, hN⟩ := hB
  obtain ⟨cell, h1, h2, h3, h4, h5, h6, h7⟩ := (hZ k hk).2
  exact W.alen hx hb (by rw [hz.2.2.1 _ (Array.getElem?_eq_some_iff.mp h1).1 h7]; exact h1) h2 (h5.trans hv) rfl rfl hdg kk
/-- behind a call -/
theorem x_run {y : MethodName} {c1 : ByteArray} {n1 : Nat} {r1 : Option FieldType} {rm : Room} {as : List Value} {r : Option Value} {V1 : Mem} {st0 : List Value} (hz : OK g L V s H locs)
    (hr : va_Run p l e R s m args below meth c H locs 0 0 0 0 (F0 m pc ls st0) rest (QQ g L r V1 as.toArray) (Ar g L))
    (kk : ∀ (H1 : Heap) (locs1 : List Loc), OK g L V1 s H1 locs1 → W p l e R s m args below meth c H1 locs1 0 0 Q (F0 m (pc + 3) ls (r.toList ++ rest))) : W p l e R s m args below meth c H locs 0 0 Q (F0 m pc ls st0) := by
  intro T hT X
  obtain ⟨v, st₀, t, T', LL, h0, X', hL, e1, e2, ⟨hv, hR, hz1, hk1⟩, stp⟩ := hr T hT X
  cases hv
  rw [h0] at hz1 hk1
  obtain ⟨t2, a1, b1⟩ := kk T'.heap (locs ++ LL) ⟨by rw [e1]; exact hR.1, Nat.le_trans hz.2.1 (by rw [e1]; exact hz1), fun q h1 h2 => by rw [e1, hk1 q (Nat.lt_of_lt_of_le h1 hz.2.1) h2]; exact hz.2.2.1 q h1 h2, fun q hq => by
      rcases List.mem_append.mp hq with h | h
      · exact hz.2.2.2 q h
      · exact hL q h⟩ T' rfl X'
  exact ⟨t2, stp t2 a1, b1⟩
theorem x_pre (hB : BX p s m args meth c g L cc nL own ret) (hz : OK g L V s H locs) {as : List Value} (U : State) (hU : U.heap = H) (hW : s.WarmedH U.vm) : va_Pc as (RG g L V) as.toArray U := ⟨rfl, (x_RG hB hz hU hW).1⟩
theorem x_cv {y : MethodName} {c1 : ByteArray} {n1 n index i ci N : Nat} {r1 : Option FieldType} {rm : Room} {As : List Value} {r : Option Value} {V1 : Mem} {T : u_T} {fs : List Value} (hB : BX p s m args meth c g L cc nL own ret) (hz : OK g L V s H locs)
    (hM : CT l g L y c1 n1 r1 rm (.ref (ad g i) :: As) V r V1) (hk : KD L i ci) (hci : zcls[ci]? = some (y.cls, T, N)) (he : EK g ci i (V i) = .inr (ci, fs)) (hrc : rm.cells = 0) (hrs : rm.slots = 0)
    (w1 : Cond.code y c1 n1 r1 ∈ lw_g) (w2 : Cond.initialized y.cls ∈ lw_g) (w3 : Cond.methodLink own index y ∈ lw_g) (w4 : Cond.instanceMethod y ∈ lw_g) (w5 : Cond.selects y.cls y y ∈ lw_g)
    (hd : y.cls ≠ "java/lang/invoke/MethodHandle" ∧ y.cls ≠ "java/lang/invoke/VarHandle" ∧ (parseMethodDescriptor y.desc).map (fun d => d.parameters.length) = some n) (hn : As.length = n)
    (hR : rm.frames + 1 ≤ R.frames ∧ 8 + (n1 + 11) + rm.locals ≤ R.locals) (hsz : ls.size = nL) (hrest : (rest.map fun v => v.category).sum ≤ 8) (hdg : decode cc pc = .ok (.invokevirtual index, 3))
    (kk : ∀ (H1 : Heap) (locs1 : List Loc), OK g L V1 s H1 locs1 → W p l e R s m args below meth c H1 locs1 0 0 Q (F0 m (pc + 3) ls (r.toList ++ rest))) : W p l e R s m args below meth c H locs 0 0 Q (F0 m pc ls (As.reverse ++ .ref (ad g i) :: rest)) := by
  obtain ⟨hx, hb, hml, hown, hT, hr, hlk, hK, hJ, hZ, hN⟩ := id hB
  have hrec := va_recv (q := (y.cls, T, N)) hK hz.1 hci (q0 := i) (by rw [zW_k hk, he])
  exact x_run (y := y) (c1 := c1) (n1 := n1) (r1 := r1) (rm := rm) hz (va_runV (C := y.cls) ⟨hx, hb, hml, hown, hT⟩ hM ⟨callB_of n hT (gi_wy w1) rfl hrc hrs (hT _ w2) (hT _ w3) hd hR, hT _ w4, hT _ w5⟩ ⟨fun a U f mk q => ⟨q.1, q.2.calling⟩, hrec, fun U hU hW => x_pre hB hz U hU hW⟩ rfl hn hsz rfl (lv_room hrest) hdg ⟨Nat.zero_le _, Nat.zero_le _⟩) kk
theorem x_cs {y : MethodName} {c1 : ByteArray} {n1 n index : Nat} {r1 : Option FieldType} {rm : Room} {As : List Value} {r : Option Value} {V1 : Mem} (hB : BX p s m args meth c g L cc nL own ret) (hz : OK g L V s H locs)
    (hM : CT l g L y c1 n1 r1 rm As V r V1) (hrc : rm.cells = 0) (hrs : rm.slots = 0)
    (w1 : Cond.code y c1 n1 r1 ∈ lw_g) (w2 : Cond.initialized y.cls ∈ lw_g) (w3 : Cond.methodLink own index y ∈ lw_g) (w4 : Cond.static y ∈ lw_g)
    (hd : y.cls ≠ "java/lang/invoke/MethodHandle" ∧ y.cls ≠ "java/lang/invoke/VarHandle" ∧ (parseMethodDescriptor y.desc).map (fun d => d.parameters.length) = some n) (hn : As.length = n)
    (hR : rm.frames + 1 ≤ R.frames ∧ 8 + (n1 + 11) + rm.locals ≤ R.locals) (hsz : ls.size = nL) (hrest : (rest.map fun v => v.category).sum ≤ 8) (hdg : decode cc pc = .ok (.invokestatic index, 3))
    (kk : ∀ (H1 : Heap) (locs1 : List Loc), OK g L V1 s H1 locs1 → W p l e R s m args below meth c H1 locs1 0 0 Q (F0 m (pc + 3) ls (r.toList ++ rest))) : W p l e R s m args below meth c H locs 0 0 Q (F0 m pc ls (As.reverse ++ rest)) := by
  obtain ⟨hx, hb, hml, hown, hT, hr, hlk, hK, hJ, hZ, hN⟩ := id hB
  exact x_run (y := y) (c1 := c1) (n1 := n1) (r1 := r1) (rm := rm) hz (va_runS ⟨hx, hb, hml, hown, hT⟩ hM ⟨callB_of n hT (gi_wy w1) rfl hrc hrs (hT _ w2) (hT _ w3) hd hR, hT _ w4⟩ ⟨fun a U f mk q => ⟨q.1, q.2.calling⟩, fun U hU hW => x_pre hB hz U hU hW⟩ rfl hn hsz rfl (lv_room hrest) hdg ⟨Nat.zero_le _, Nat.zero_le _⟩) kk
end BASE
end
