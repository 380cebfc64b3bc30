section
-- ===== PART A: goes FIRST, ahead of the names: the tables' words, and 'selects' of the private methods out of them =====
/-- a private method of a class that the tables say can be made, by its rows of tables_1 -/
def lw_okq (q : MethodName × Nat) : Prop := (q.1.cls ≠ "java/lang/invoke/MethodHandle" ∧ q.1.cls ≠ "java/lang/invoke/VarHandle") ∧ Cond.instantiable q.1.cls q.2 ∈ tables_1 ∧ Cond.privateMethod q.1 ∈ tables_1 ∧ Cond.instanceMethod q.1 ∈ tables_1
theorem lw_p0 : lw_okq (⟨"WhichOneAllKnow", "refuse", "(I)I"⟩, 10) := ⟨⟨by decide +kernel, by decide +kernel⟩, List.mem_of_getElem? (i := 16) (by decide +kernel), List.mem_of_getElem? (i := 247) (by decide +kernel), List.mem_of_getElem? (i := 248) (by decide +kernel)⟩
theorem lw_p1 : lw_okq (⟨"WhichOneAllKnow", "noRow", "(I)I"⟩, 10) := ⟨⟨by decide +kernel, by decide +kernel⟩, List.mem_of_getElem? (i := 16) (by decide +kernel), List.mem_of_getElem? (i := 262) (by decide +kernel), List.mem_of_getElem? (i := 263) (by decide +kernel)⟩
theorem lw_p2 : lw_okq (⟨"WhichOneAllKnow", "noPairOfRows", "(II)I"⟩, 10) := ⟨⟨by decide +kernel, by decide +kernel⟩, List.mem_of_getElem? (i := 16) (by decide +kernel), List.mem_of_getElem? (i := 287) (by decide +kernel), List.mem_of_getElem? (i := 288) (by decide +kernel)⟩
theorem lw_p3 : lw_okq (⟨"WhichOneAllKnow$Text", "readItem", "()Z"⟩, 6) := ⟨⟨by decide +kernel, by decide +kernel⟩, List.mem_of_getElem? (i := 159) (by decide +kernel), List.mem_of_getElem? (i := 408) (by decide +kernel), List.mem_of_getElem? (i := 409) (by decide +kernel)⟩
theorem lw_p4 : lw_okq (⟨"WhichOneAllKnow$Text", "itemAt", "()I"⟩, 6) := ⟨⟨by decide +kernel, by decide +kernel⟩, List.mem_of_getElem? (i := 159) (by decide +kernel), List.mem_of_getElem? (i := 412) (by decide +kernel), List.mem_of_getElem? (i := 413) (by decide +kernel)⟩
theorem lw_p5 : lw_okq (⟨"WhichOneAllKnow$Text", "letter", "()I"⟩, 6) := ⟨⟨by decide +kernel, by decide +kernel⟩, List.mem_of_getElem? (i := 159) (by decide +kernel), List.mem_of_getElem? (i := 416) (by decide +kernel), List.mem_of_getElem? (i := 417) (by decide +kernel)⟩
theorem lw_p6 : lw_okq (⟨"WhichOneAllKnow$Text", "faultAt", "(I)Z"⟩, 6) := ⟨⟨by decide +kernel, by decide +kernel⟩, List.mem_of_getElem? (i := 159) (by decide +kernel), List.mem_of_getElem? (i := 468) (by decide +kernel), List.mem_of_getElem? (i := 469) (by decide +kernel)⟩
theorem lw_p7 : lw_okq (⟨"WhichOneAllKnow$Text", "takeWord", "(Ljava/lang/String;)Z"⟩, 6) := ⟨⟨by decide +kernel, by decide +kernel⟩, List.mem_of_getElem? (i := 159) (by decide +kernel), List.mem_of_getElem? (i := 472) (by decide +kernel), List.mem_of_getElem? (i := 473) (by decide +kernel)⟩
theorem lw_p8 : lw_okq (⟨"WhichOneAllKnow$Text", "takeLetter", "(C)Z"⟩, 6) := ⟨⟨by decide +kernel, by decide +kernel⟩, List.mem_of_getElem? (i := 159) (by decide +kernel), List.mem_of_getElem? (i := 484) (by decide +kernel), List.mem_of_getElem? (i := 485) (by decide +kernel)⟩
theorem lw_p9 : lw_okq (⟨"WhichOneAllKnow$Text", "hasRoomFor", "(I)Z"⟩, 6) := ⟨⟨by decide +kernel, by decide +kernel⟩, List.mem_of_getElem? (i := 159) (by decide +kernel), List.mem_of_getElem? (i := 488) (by decide +kernel), List.mem_of_getElem? (i := 489) (by decide +kernel)⟩
theorem lw_p10 : lw_okq (⟨"WhichOneAllKnow$Text", "takeNumber", "(II)Z"⟩, 6) := ⟨⟨by decide +kernel, by decide +kernel⟩, List.mem_of_getElem? (i := 159) (by decide +kernel), List.mem_of_getElem? (i := 496) (by decide +kernel), List.mem_of_getElem? (i := 497) (by decide +kernel)⟩
theorem lw_p11 : lw_okq (⟨"WhichOneAllKnow$Text", "mayBe", "(III)Z"⟩, 6) := ⟨⟨by decide +kernel, by decide +kernel⟩, List.mem_of_getElem? (i := 159) (by decide +kernel), List.mem_of_getElem? (i := 501) (by decide +kernel), List.mem_of_getElem? (i := 502) (by decide +kernel)⟩
theorem lw_p12 : lw_okq (⟨"WhichOneAllKnow$Text", "mayBeOfVoice", "(II)Z"⟩, 6) := ⟨⟨by decide +kernel, by decide +kernel⟩, List.mem_of_getElem? (i := 159) (by decide +kernel), List.mem_of_getElem? (i := 505) (by decide +kernel), List.mem_of_getElem? (i := 506) (by decide +kernel)⟩
theorem lw_p13 : lw_okq (⟨"WhichOneAllKnow$Text", "tell", "(I)V"⟩, 6) := ⟨⟨by decide +kernel, by decide +kernel⟩, List.mem_of_getElem? (i := 159) (by decide +kernel), List.mem_of_getElem? (i := 513) (by decide +kernel), List.mem_of_getElem? (i := 514) (by decide +kernel)⟩
theorem lw_p14 : lw_okq (⟨"WhichOneAllKnow$Church", "needByBold", "(IZ)I"⟩, 12) := ⟨⟨by decide +kernel, by decide +kernel⟩, List.mem_of_getElem? (i := 24) (by decide +kernel), List.mem_of_getElem? (i := 544) (by decide +kernel), List.mem_of_getElem? (i := 545) (by decide +kernel)⟩
theorem lw_p15 : lw_okq (⟨"WhichOneAllKnow$Singing", "joinsIn", "(I)Z"⟩, 11) := ⟨⟨by decide +kernel, by decide +kernel⟩, List.mem_of_getElem? (i := 107) (by decide +kernel), List.mem_of_getElem? (i := 562) (by decide +kernel), List.mem_of_getElem? (i := 563) (by decide +kernel)⟩
def lw_privs_1 : List (MethodName × Nat) := [(⟨"WhichOneAllKnow", "refuse", "(I)I"⟩, 10), (⟨"WhichOneAllKnow", "noRow", "(I)I"⟩, 10), (⟨"WhichOneAllKnow", "noPairOfRows", "(II)I"⟩, 10), (⟨"WhichOneAllKnow$Text", "readItem", "()Z"⟩, 6), (⟨"WhichOneAllKnow$Text", "itemAt", "()I"⟩, 6), (⟨"WhichOneAllKnow$Text", "letter", "()I"⟩, 6), (⟨"WhichOneAllKnow$Text", "faultAt", "(I)Z"⟩, 6), (⟨"WhichOneAllKnow$Text", "takeWord", "(Ljava/lang/String;)Z"⟩, 6), (⟨"WhichOneAllKnow$Text", "takeLetter", "(C)Z"⟩, 6), (⟨"WhichOneAllKnow$Text", "hasRoomFor", "(I)Z"⟩, 6), (⟨"WhichOneAllKnow$Text", "takeNumber", "(II)Z"⟩, 6), (⟨"WhichOneAllKnow$Text", "mayBe", "(III)Z"⟩, 6), (⟨"WhichOneAllKnow$Text", "mayBeOfVoice", "(II)Z"⟩, 6), (⟨"WhichOneAllKnow$Text", "tell", "(I)V"⟩, 6), (⟨"WhichOneAllKnow$Church", "needByBold", "(IZ)I"⟩, 12), (⟨"WhichOneAllKnow$Singing", "joinsIn", "(I)Z"⟩, 11)]
theorem lw_r1 : ∀ q ∈ lw_privs_1, lw_okq q := List.forall_mem_cons.mpr ⟨lw_p0, List.forall_mem_cons.mpr ⟨lw_p1, List.forall_mem_cons.mpr ⟨lw_p2, List.forall_mem_cons.mpr ⟨lw_p3, List.forall_mem_cons.mpr ⟨lw_p4, List.forall_mem_cons.mpr ⟨lw_p5, List.forall_mem_cons.mpr ⟨lw_p6, List.forall_mem_cons.mpr ⟨lw_p7, List.forall_mem_cons.mpr ⟨lw_p8, List.forall_mem_cons.mpr ⟨lw_p9, List.forall_mem_cons.mpr ⟨lw_p10, List.forall_mem_cons.mpr ⟨lw_p11, List.forall_mem_cons.mpr ⟨lw_p12, List.forall_mem_cons.mpr ⟨lw_p13, List.forall_mem_cons.mpr ⟨lw_p14, List.forall_mem_cons.mpr ⟨lw_p15, fun _ h => absurd h List.not_mem_nil⟩⟩⟩⟩⟩⟩⟩⟩⟩⟩⟩⟩⟩⟩⟩⟩
theorem lw_p16 : lw_okq (⟨"WhichOneAllKnow$Singing", "singsRight", "(I)Z"⟩, 11) := ⟨⟨by decide +kernel, by decide +kernel⟩, List.mem_of_getElem? (i := 107) (by decide +kernel), List.mem_of_getElem? (i := 567) (by decide +kernel), List.mem_of_getElem? (i := 568) (by decide +kernel)⟩
theorem lw_p17 : lw_okq (⟨"WhichOneAllKnow", "rightAt", "(LWhichOneAllKnow$Church;III)I"⟩, 10) := ⟨⟨by decide +kernel, by decide +kernel⟩, List.mem_of_getElem? (i := 16) (by decide +kernel), List.mem_of_getElem? (i := 600) (by decide +kernel), List.mem_of_getElem? (i := 601) (by decide +kernel)⟩
theorem lw_p18 : lw_okq (⟨"WhichOneAllKnow", "rightLedFrom", "(IIIII)I"⟩, 10) := ⟨⟨by decide +kernel, by decide +kernel⟩, List.mem_of_getElem? (i := 16) (by decide +kernel), List.mem_of_getElem? (i := 616) (by decide +kernel), List.mem_of_getElem? (i := 617) (by decide +kernel)⟩
theorem lw_p19 : lw_okq (⟨"WhichOneAllKnow", "catchesIfTaught", "(III)Z"⟩, 10) := ⟨⟨by decide +kernel, by decide +kernel⟩, List.mem_of_getElem? (i := 16) (by decide +kernel), List.mem_of_getElem? (i := 634) (by decide +kernel), List.mem_of_getElem? (i := 635) (by decide +kernel)⟩
theorem lw_p20 : lw_okq (⟨"WhichOneAllKnow", "lateLedBy", "(II)I"⟩, 10) := ⟨⟨by decide +kernel, by decide +kernel⟩, List.mem_of_getElem? (i := 16) (by decide +kernel), List.mem_of_getElem? (i := 650) (by decide +kernel), List.mem_of_getElem? (i := 651) (by decide +kernel)⟩
theorem lw_p21 : lw_okq (⟨"WhichOneAllKnow", "noPart", "(II)I"⟩, 10) := ⟨⟨by decide +kernel, by decide +kernel⟩, List.mem_of_getElem? (i := 16) (by decide +kernel), List.mem_of_getElem? (i := 663) (by decide +kernel), List.mem_of_getElem? (i := 664) (by decide +kernel)⟩
theorem lw_p22 : lw_okq (⟨"WhichOneAllKnow", "firstWrong", "(II)I"⟩, 10) := ⟨⟨by decide +kernel, by decide +kernel⟩, List.mem_of_getElem? (i := 16) (by decide +kernel), List.mem_of_getElem? (i := 700) (by decide +kernel), List.mem_of_getElem? (i := 701) (by decide +kernel)⟩
theorem lw_p23 : lw_okq (⟨"WhichOneAllKnow", "maySing", "(II)Z"⟩, 10) := ⟨⟨by decide +kernel, by decide +kernel⟩, List.mem_of_getElem? (i := 16) (by decide +kernel), List.mem_of_getElem? (i := 713) (by decide +kernel), List.mem_of_getElem? (i := 714) (by decide +kernel)⟩
theorem lw_p24 : lw_okq (⟨"WhichOneAllKnow", "singTold", "(LWhichOneAllKnow$Church;I)I"⟩, 10) := ⟨⟨by decide +kernel, by decide +kernel⟩, List.mem_of_getElem? (i := 16) (by decide +kernel), List.mem_of_getElem? (i := 717) (by decide +kernel), List.mem_of_getElem? (i := 718) (by decide +kernel)⟩
theorem lw_p25 : lw_okq (⟨"WhichOneAllKnow", "singInTruth", "(LWhichOneAllKnow$Church;III)I"⟩, 10) := ⟨⟨by decide +kernel, by decide +kernel⟩, List.mem_of_getElem? (i := 16) (by decide +kernel), List.mem_of_getElem? (i := 721) (by decide +kernel), List.mem_of_getElem? (i := 722) (by decide +kernel)⟩
theorem lw_p26 : lw_okq (⟨"WhichOneAllKnow$Moves", "runFrom", "(IIII)I"⟩, 5) := ⟨⟨by decide +kernel, by decide +kernel⟩, List.mem_of_getElem? (i := 185) (by decide +kernel), List.mem_of_getElem? (i := 763) (by decide +kernel), List.mem_of_getElem? (i := 764) (by decide +kernel)⟩
theorem lw_p27 : lw_okq (⟨"WhichOneAllKnow$Moves", "note", "(I)V"⟩, 5) := ⟨⟨by decide +kernel, by decide +kernel⟩, List.mem_of_getElem? (i := 185) (by decide +kernel), List.mem_of_getElem? (i := 771) (by decide +kernel), List.mem_of_getElem? (i := 772) (by decide +kernel)⟩
theorem lw_p28 : lw_okq (⟨"WhichOneAllKnow$Moves", "runBody", "(IIII)I"⟩, 5) := ⟨⟨by decide +kernel, by decide +kernel⟩, List.mem_of_getElem? (i := 185) (by decide +kernel), List.mem_of_getElem? (i := 775) (by decide +kernel), List.mem_of_getElem? (i := 776) (by decide +kernel)⟩
theorem lw_p29 : lw_okq (⟨"WhichOneAllKnowModel", "no", "(I)I"⟩, 29) := ⟨⟨by decide +kernel, by decide +kernel⟩, List.mem_of_getElem? (i := 804) (by decide +kernel), List.mem_of_getElem? (i := 905) (by decide +kernel), List.mem_of_getElem? (i := 906) (by decide +kernel)⟩
theorem lw_p30 : lw_okq (⟨"WhichOneAllKnowModel", "noRow", "(I)I"⟩, 29) := ⟨⟨by decide +kernel, by decide +kernel⟩, List.mem_of_getElem? (i := 804) (by decide +kernel), List.mem_of_getElem? (i := 913) (by decide +kernel), List.mem_of_getElem? (i := 914) (by decide +kernel)⟩
theorem lw_p31 : lw_okq (⟨"WhichOneAllKnowModel", "isRow", "(I)Z"⟩, 29) := ⟨⟨by decide +kernel, by decide +kernel⟩, List.mem_of_getElem? (i := 804) (by decide +kernel), List.mem_of_getElem? (i := 917) (by decide +kernel), List.mem_of_getElem? (i := 918) (by decide +kernel)⟩
def lw_privs_2 : List (MethodName × Nat) := [(⟨"WhichOneAllKnow$Singing", "singsRight", "(I)Z"⟩, 11), (⟨"WhichOneAllKnow", "rightAt", "(LWhichOneAllKnow$Church;III)I"⟩, 10), (⟨"WhichOneAllKnow", "rightLedFrom", "(IIIII)I"⟩, 10), (⟨"WhichOneAllKnow", "catchesIfTaught", "(III)Z"⟩, 10), (⟨"WhichOneAllKnow", "lateLedBy", "(II)I"⟩, 10), (⟨"WhichOneAllKnow", "noPart", "(II)I"⟩, 10), (⟨"WhichOneAllKnow", "firstWrong", "(II)I"⟩, 10), (⟨"WhichOneAllKnow", "maySing", "(II)Z"⟩, 10), (⟨"WhichOneAllKnow", "singTold", "(LWhichOneAllKnow$Church;I)I"⟩, 10), (⟨"WhichOneAllKnow", "singInTruth", "(LWhichOneAllKnow$Church;III)I"⟩, 10), (⟨"WhichOneAllKnow$Moves", "runFrom", "(IIII)I"⟩, 5), (⟨"WhichOneAllKnow$Moves", "note", "(I)V"⟩, 5), (⟨"WhichOneAllKnow$Moves", "runBody", "(IIII)I"⟩, 5), (⟨"WhichOneAllKnowModel", "no", "(I)I"⟩, 29), (⟨"WhichOneAllKnowModel", "noRow", "(I)I"⟩, 29), (⟨"WhichOneAllKnowModel", "isRow", "(I)Z"⟩, 29)]
theorem lw_r2 : ∀ q ∈ lw_privs_2, lw_okq q := List.forall_mem_cons.mpr ⟨lw_p16, List.forall_mem_cons.mpr ⟨lw_p17, List.forall_mem_cons.mpr ⟨lw_p18, List.forall_mem_cons.mpr ⟨lw_p19, List.forall_mem_cons.mpr ⟨lw_p20, List.forall_mem_cons.mpr ⟨lw_p21, List.forall_mem_cons.mpr ⟨lw_p22, List.forall_mem_cons.mpr ⟨lw_p23, List.forall_mem_cons.mpr ⟨lw_p24, List.forall_mem_cons.mpr ⟨lw_p25, List.forall_mem_cons.mpr ⟨lw_p26, List.forall_mem_cons.mpr ⟨lw_p27, List.forall_mem_cons.mpr ⟨lw_p28, List.forall_mem_cons.mpr ⟨lw_p29, List.forall_mem_cons.mpr ⟨lw_p30, List.forall_mem_cons.mpr ⟨lw_p31, fun _ h => absurd h List.not_mem_nil⟩⟩⟩⟩⟩⟩⟩⟩⟩⟩⟩⟩⟩⟩⟩⟩
theorem lw_p32 : lw_okq (⟨"WhichOneAllKnowModel", "isVoice", "(I)Z"⟩, 29) := ⟨⟨by decide +kernel, by decide +kernel⟩, List.mem_of_getElem? (i := 804) (by decide +kernel), List.mem_of_getElem? (i := 933) (by decide +kernel), List.mem_of_getElem? (i := 934) (by decide +kernel)⟩
theorem lw_p33 : lw_okq (⟨"WhichOneAllKnowModel", "newTune", "(I)I"⟩, 29) := ⟨⟨by decide +kernel, by decide +kernel⟩, List.mem_of_getElem? (i := 804) (by decide +kernel), List.mem_of_getElem? (i := 956) (by decide +kernel), List.mem_of_getElem? (i := 957) (by decide +kernel)⟩
theorem lw_p34 : lw_okq (⟨"WhichOneAllKnowModel", "isFree", "(I)Z"⟩, 29) := ⟨⟨by decide +kernel, by decide +kernel⟩, List.mem_of_getElem? (i := 804) (by decide +kernel), List.mem_of_getElem? (i := 964) (by decide +kernel), List.mem_of_getElem? (i := 965) (by decide +kernel)⟩
theorem lw_p35 : lw_okq (⟨"WhichOneAllKnowModel", "isTaken", "(I)Z"⟩, 29) := ⟨⟨by decide +kernel, by decide +kernel⟩, List.mem_of_getElem? (i := 804) (by decide +kernel), List.mem_of_getElem? (i := 968) (by decide +kernel), List.mem_of_getElem? (i := 969) (by decide +kernel)⟩
theorem lw_p36 : lw_okq (⟨"WhichOneAllKnowModel", "newVoice", "(IIIII)I"⟩, 29) := ⟨⟨by decide +kernel, by decide +kernel⟩, List.mem_of_getElem? (i := 804) (by decide +kernel), List.mem_of_getElem? (i := 972) (by decide +kernel), List.mem_of_getElem? (i := 973) (by decide +kernel)⟩
theorem lw_p37 : lw_okq (⟨"WhichOneAllKnowModel", "isTune", "(I)Z"⟩, 29) := ⟨⟨by decide +kernel, by decide +kernel⟩, List.mem_of_getElem? (i := 804) (by decide +kernel), List.mem_of_getElem? (i := 980) (by decide +kernel), List.mem_of_getElem? (i := 981) (by decide +kernel)⟩
theorem lw_p38 : lw_okq (⟨"WhichOneAllKnowModel", "keep", "([I)V"⟩, 29) := ⟨⟨by decide +kernel, by decide +kernel⟩, List.mem_of_getElem? (i := 804) (by decide +kernel), List.mem_of_getElem? (i := 1004) (by decide +kernel), List.mem_of_getElem? (i := 1005) (by decide +kernel)⟩
theorem lw_p39 : lw_okq (⟨"WhichOneAllKnowModel", "item", "()Z"⟩, 29) := ⟨⟨by decide +kernel, by decide +kernel⟩, List.mem_of_getElem? (i := 804) (by decide +kernel), List.mem_of_getElem? (i := 1008) (by decide +kernel), List.mem_of_getElem? (i := 1009) (by decide +kernel)⟩
theorem lw_p40 : lw_okq (⟨"WhichOneAllKnowModel", "sign", "()I"⟩, 29) := ⟨⟨by decide +kernel, by decide +kernel⟩, List.mem_of_getElem? (i := 804) (by decide +kernel), List.mem_of_getElem? (i := 1012) (by decide +kernel), List.mem_of_getElem? (i := 1013) (by decide +kernel)⟩
theorem lw_p41 : lw_okq (⟨"WhichOneAllKnowModel", "word", "(Ljava/lang/String;Z)Z"⟩, 29) := ⟨⟨by decide +kernel, by decide +kernel⟩, List.mem_of_getElem? (i := 804) (by decide +kernel), List.mem_of_getElem? (i := 1017) (by decide +kernel), List.mem_of_getElem? (i := 1018) (by decide +kernel)⟩
theorem lw_p42 : lw_okq (⟨"WhichOneAllKnowModel", "word", "(Ljava/lang/String;)Z"⟩, 29) := ⟨⟨by decide +kernel, by decide +kernel⟩, List.mem_of_getElem? (i := 804) (by decide +kernel), List.mem_of_getElem? (i := 1021) (by decide +kernel), List.mem_of_getElem? (i := 1022) (by decide +kernel)⟩
theorem lw_p43 : lw_okq (⟨"WhichOneAllKnowModel", "is", "(C)Z"⟩, 29) := ⟨⟨by decide +kernel, by decide +kernel⟩, List.mem_of_getElem? (i := 804) (by decide +kernel), List.mem_of_getElem? (i := 1027) (by decide +kernel), List.mem_of_getElem? (i := 1028) (by decide +kernel)⟩
theorem lw_p44 : lw_okq (⟨"WhichOneAllKnowModel", "number", "(III)Z"⟩, 29) := ⟨⟨by decide +kernel, by decide +kernel⟩, List.mem_of_getElem? (i := 804) (by decide +kernel), List.mem_of_getElem? (i := 1031) (by decide +kernel), List.mem_of_getElem? (i := 1032) (by decide +kernel)⟩
theorem lw_p45 : lw_okq (⟨"WhichOneAllKnowModel", "stands", "(IZ)Z"⟩, 29) := ⟨⟨by decide +kernel, by decide +kernel⟩, List.mem_of_getElem? (i := 804) (by decide +kernel), List.mem_of_getElem? (i := 1036) (by decide +kernel), List.mem_of_getElem? (i := 1037) (by decide +kernel)⟩
theorem lw_p46 : lw_okq (⟨"WhichOneAllKnowModel", "again", "([I)V"⟩, 29) := ⟨⟨by decide +kernel, by decide +kernel⟩, List.mem_of_getElem? (i := 804) (by decide +kernel), List.mem_of_getElem? (i := 1043) (by decide +kernel), List.mem_of_getElem? (i := 1044) (by decide +kernel)⟩
theorem lw_p47 : lw_okq (⟨"WhichOneAllKnowModel", "hears", "(III)V"⟩, 29) := ⟨⟨by decide +kernel, by decide +kernel⟩, List.mem_of_getElem? (i := 804) (by decide +kernel), List.mem_of_getElem? (i := 1061) (by decide +kernel), List.mem_of_getElem? (i := 1062) (by decide +kernel)⟩
def lw_privs_3 : List (MethodName × Nat) := [(⟨"WhichOneAllKnowModel", "isVoice", "(I)Z"⟩, 29), (⟨"WhichOneAllKnowModel", "newTune", "(I)I"⟩, 29), (⟨"WhichOneAllKnowModel", "isFree", "(I)Z"⟩, 29), (⟨"WhichOneAllKnowModel", "isTaken", "(I)Z"⟩, 29), (⟨"WhichOneAllKnowModel", "newVoice", "(IIIII)I"⟩, 29), (⟨"WhichOneAllKnowModel", "isTune", "(I)Z"⟩, 29), (⟨"WhichOneAllKnowModel", "keep", "([I)V"⟩, 29), (⟨"WhichOneAllKnowModel", "item", "()Z"⟩, 29), (⟨"WhichOneAllKnowModel", "sign", "()I"⟩, 29), (⟨"WhichOneAllKnowModel", "word", "(Ljava/lang/String;Z)Z"⟩, 29), (⟨"WhichOneAllKnowModel", "word", "(Ljava/lang/String;)Z"⟩, 29), (⟨"WhichOneAllKnowModel", "is", "(C)Z"⟩, 29), (⟨"WhichOneAllKnowModel", "number", "(III)Z"⟩, 29), (⟨"WhichOneAllKnowModel", "stands", "(IZ)Z"⟩, 29), (⟨"WhichOneAllKnowModel", "again", "([I)V"⟩, 29), (⟨"WhichOneAllKnowModel", "hears", "(III)V"⟩, 29)]
theorem lw_r3 : ∀ q ∈ lw_privs_3, lw_okq q := List.forall_mem_cons.mpr ⟨lw_p32, List.forall_mem_cons.mpr ⟨lw_p33, List.forall_mem_cons.mpr ⟨lw_p34, List.forall_mem_cons.mpr ⟨lw_p35, List.forall_mem_cons.mpr ⟨lw_p36, List.forall_mem_cons.mpr ⟨lw_p37, List.forall_mem_cons.mpr ⟨lw_p38, List.forall_mem_cons.mpr ⟨lw_p39, List.forall_mem_cons.mpr ⟨lw_p40, List.forall_mem_cons.mpr ⟨lw_p41, List.forall_mem_cons.mpr ⟨lw_p42, List.forall_mem_cons.mpr ⟨lw_p43, List.forall_mem_cons.mpr ⟨lw_p44, List.forall_mem_cons.mpr ⟨lw_p45, List.forall_mem_cons.mpr ⟨lw_p46, List.forall_mem_cons.mpr ⟨lw_p47, fun _ h => absurd h List.not_mem_nil⟩⟩⟩⟩⟩⟩⟩⟩⟩⟩⟩⟩⟩⟩⟩⟩
theorem lw_p48 : lw_okq (⟨"WhichOneAllKnowModel", "sings", "(III)V"⟩, 29) := ⟨⟨by decide +kernel, by decide +kernel⟩, List.mem_of_getElem? (i := 804) (by decide +kernel), List.mem_of_getElem? (i := 1065) (by decide +kernel), List.mem_of_getElem? (i := 1066) (by decide +kernel)⟩
theorem lw_p49 : lw_okq (⟨"WhichOneAllKnowModel", "isEnough", "(III)Z"⟩, 29) := ⟨⟨by decide +kernel, by decide +kernel⟩, List.mem_of_getElem? (i := 804) (by decide +kernel), List.mem_of_getElem? (i := 1069) (by decide +kernel), List.mem_of_getElem? (i := 1070) (by decide +kernel)⟩
theorem lw_p50 : lw_okq (⟨"WhichOneAllKnowModel", "near", "(II)I"⟩, 29) := ⟨⟨by decide +kernel, by decide +kernel⟩, List.mem_of_getElem? (i := 804) (by decide +kernel), List.mem_of_getElem? (i := 1073) (by decide +kernel), List.mem_of_getElem? (i := 1074) (by decide +kernel)⟩
theorem lw_p51 : lw_okq (⟨"WhichOneAllKnowModel", "areNear", "(II)Z"⟩, 29) := ⟨⟨by decide +kernel, by decide +kernel⟩, List.mem_of_getElem? (i := 804) (by decide +kernel), List.mem_of_getElem? (i := 1080) (by decide +kernel), List.mem_of_getElem? (i := 1081) (by decide +kernel)⟩
theorem lw_p52 : lw_okq (⟨"WhichOneAllKnowModel", "need", "(II)I"⟩, 29) := ⟨⟨by decide +kernel, by decide +kernel⟩, List.mem_of_getElem? (i := 804) (by decide +kernel), List.mem_of_getElem? (i := 1085) (by decide +kernel), List.mem_of_getElem? (i := 1086) (by decide +kernel)⟩
theorem lw_p53 : lw_okq (⟨"WhichOneAllKnowModel", "no10", "(I)I"⟩, 29) := ⟨⟨by decide +kernel, by decide +kernel⟩, List.mem_of_getElem? (i := 804) (by decide +kernel), List.mem_of_getElem? (i := 1098) (by decide +kernel), List.mem_of_getElem? (i := 1099) (by decide +kernel)⟩
theorem lw_p54 : lw_okq (⟨"WhichOneAllKnowModel", "catches", "(II)I"⟩, 29) := ⟨⟨by decide +kernel, by decide +kernel⟩, List.mem_of_getElem? (i := 804) (by decide +kernel), List.mem_of_getElem? (i := 1102) (by decide +kernel), List.mem_of_getElem? (i := 1103) (by decide +kernel)⟩
theorem lw_p55 : lw_okq (⟨"WhichOneAllKnowModel", "settles", "(II)I"⟩, 29) := ⟨⟨by decide +kernel, by decide +kernel⟩, List.mem_of_getElem? (i := 804) (by decide +kernel), List.mem_of_getElem? (i := 1106) (by decide +kernel), List.mem_of_getElem? (i := 1107) (by decide +kernel)⟩
theorem lw_p56 : lw_okq (⟨"WhichOneAllKnowModel", "isSame", "(II)Z"⟩, 29) := ⟨⟨by decide +kernel, by decide +kernel⟩, List.mem_of_getElem? (i := 804) (by decide +kernel), List.mem_of_getElem? (i := 1110) (by decide +kernel), List.mem_of_getElem? (i := 1111) (by decide +kernel)⟩
theorem lw_p57 : lw_okq (⟨"WhichOneAllKnowModel", "manyAt", "(III)I"⟩, 29) := ⟨⟨by decide +kernel, by decide +kernel⟩, List.mem_of_getElem? (i := 804) (by decide +kernel), List.mem_of_getElem? (i := 1118) (by decide +kernel), List.mem_of_getElem? (i := 1119) (by decide +kernel)⟩
theorem lw_p58 : lw_okq (⟨"WhichOneAllKnowModel", "rightAt", "(III)I"⟩, 29) := ⟨⟨by decide +kernel, by decide +kernel⟩, List.mem_of_getElem? (i := 804) (by decide +kernel), List.mem_of_getElem? (i := 1122) (by decide +kernel), List.mem_of_getElem? (i := 1123) (by decide +kernel)⟩
theorem lw_p59 : lw_okq (⟨"WhichOneAllKnowModel", "bestLeaders", "(IIII)I"⟩, 29) := ⟨⟨by decide +kernel, by decide +kernel⟩, List.mem_of_getElem? (i := 804) (by decide +kernel), List.mem_of_getElem? (i := 1138) (by decide +kernel), List.mem_of_getElem? (i := 1139) (by decide +kernel)⟩
theorem lw_p60 : lw_okq (⟨"WhichOneAllKnowModel", "leads", "(I)V"⟩, 29) := ⟨⟨by decide +kernel, by decide +kernel⟩, List.mem_of_getElem? (i := 804) (by decide +kernel), List.mem_of_getElem? (i := 1142) (by decide +kernel), List.mem_of_getElem? (i := 1143) (by decide +kernel)⟩
theorem lw_p61 : lw_okq (⟨"WhichOneAllKnowModel", "ledAt", "(IIII)I"⟩, 29) := ⟨⟨by decide +kernel, by decide +kernel⟩, List.mem_of_getElem? (i := 804) (by decide +kernel), List.mem_of_getElem? (i := 1146) (by decide +kernel), List.mem_of_getElem? (i := 1147) (by decide +kernel)⟩
theorem lw_p62 : lw_okq (⟨"WhichOneAllKnowModel", "lateBy", "(II)I"⟩, 29) := ⟨⟨by decide +kernel, by decide +kernel⟩, List.mem_of_getElem? (i := 804) (by decide +kernel), List.mem_of_getElem? (i := 1162) (by decide +kernel), List.mem_of_getElem? (i := 1163) (by decide +kernel)⟩
theorem lw_p63 : lw_okq (⟨"WhichOneAllKnowModel", "noTold", "(IIII)I"⟩, 29) := ⟨⟨by decide +kernel, by decide +kernel⟩, List.mem_of_getElem? (i := 804) (by decide +kernel), List.mem_of_getElem? (i := 1174) (by decide +kernel), List.mem_of_getElem? (i := 1175) (by decide +kernel)⟩
def lw_privs_4 : List (MethodName × Nat) := [(⟨"WhichOneAllKnowModel", "sings", "(III)V"⟩, 29), (⟨"WhichOneAllKnowModel", "isEnough", "(III)Z"⟩, 29), (⟨"WhichOneAllKnowModel", "near", "(II)I"⟩, 29), (⟨"WhichOneAllKnowModel", "areNear", "(II)Z"⟩, 29), (⟨"WhichOneAllKnowModel", "need", "(II)I"⟩, 29), (⟨"WhichOneAllKnowModel", "no10", "(I)I"⟩, 29), (⟨"WhichOneAllKnowModel", "catches", "(II)I"⟩, 29), (⟨"WhichOneAllKnowModel", "settles", "(II)I"⟩, 29), (⟨"WhichOneAllKnowModel", "isSame", "(II)Z"⟩, 29), (⟨"WhichOneAllKnowModel", "manyAt", "(III)I"⟩, 29), (⟨"WhichOneAllKnowModel", "rightAt", "(III)I"⟩, 29), (⟨"WhichOneAllKnowModel", "bestLeaders", "(IIII)I"⟩, 29), (⟨"WhichOneAllKnowModel", "leads", "(I)V"⟩, 29), (⟨"WhichOneAllKnowModel", "ledAt", "(IIII)I"⟩, 29), (⟨"WhichOneAllKnowModel", "lateBy", "(II)I"⟩, 29), (⟨"WhichOneAllKnowModel", "noTold", "(IIII)I"⟩, 29)]
theorem lw_r4 : ∀ q ∈ lw_privs_4, lw_okq q := List.forall_mem_cons.mpr ⟨lw_p48, List.forall_mem_cons.mpr ⟨lw_p49, List.forall_mem_cons.mpr ⟨lw_p50, List.forall_mem_cons.mpr ⟨lw_p51, List.forall_mem_cons.mpr ⟨lw_p52, List.forall_mem_cons.mpr ⟨lw_p53, List.forall_mem_cons.mpr ⟨lw_p54, List.forall_mem_cons.mpr ⟨lw_p55, List.forall_mem_cons.mpr ⟨lw_p56, List.forall_mem_cons.mpr ⟨lw_p57, List.forall_mem_cons.mpr ⟨lw_p58, List.forall_mem_cons.mpr ⟨lw_p59, List.forall_mem_cons.mpr ⟨lw_p60, List.forall_mem_cons.mpr ⟨lw_p61, List.forall_mem_cons.mpr ⟨lw_p62, List.forall_mem_cons.mpr ⟨lw_p63, fun _ h => absurd h List.not_mem_nil⟩⟩⟩⟩⟩⟩⟩⟩⟩⟩⟩⟩⟩⟩⟩⟩
theorem lw_p64 : lw_okq (⟨"WhichOneAllKnowModel", "isFit", "(IIII)Z"⟩, 29) := ⟨⟨by decide +kernel, by decide +kernel⟩, List.mem_of_getElem? (i := 804) (by decide +kernel), List.mem_of_getElem? (i := 1178) (by decide +kernel), List.mem_of_getElem? (i := 1179) (by decide +kernel)⟩
theorem lw_p65 : lw_okq (⟨"WhichOneAllKnowModel", "toldAt", "(II)I"⟩, 29) := ⟨⟨by decide +kernel, by decide +kernel⟩, List.mem_of_getElem? (i := 804) (by decide +kernel), List.mem_of_getElem? (i := 1182) (by decide +kernel), List.mem_of_getElem? (i := 1183) (by decide +kernel)⟩
theorem lw_p66 : lw_okq (⟨"WhichOneAllKnowModel", "change", "(II)V"⟩, 29) := ⟨⟨by decide +kernel, by decide +kernel⟩, List.mem_of_getElem? (i := 804) (by decide +kernel), List.mem_of_getElem? (i := 1190) (by decide +kernel), List.mem_of_getElem? (i := 1191) (by decide +kernel)⟩
theorem lw_p67 : lw_okq (⟨"WhichOneAllKnowModel", "knownAll", "()I"⟩, 29) := ⟨⟨by decide +kernel, by decide +kernel⟩, List.mem_of_getElem? (i := 804) (by decide +kernel), List.mem_of_getElem? (i := 1198) (by decide +kernel), List.mem_of_getElem? (i := 1199) (by decide +kernel)⟩
theorem lw_p68 : lw_okq (⟨"WhichOneAllKnowModel", "whomToAsk", "()I"⟩, 29) := ⟨⟨by decide +kernel, by decide +kernel⟩, List.mem_of_getElem? (i := 804) (by decide +kernel), List.mem_of_getElem? (i := 1202) (by decide +kernel), List.mem_of_getElem? (i := 1203) (by decide +kernel)⟩
theorem lw_p69 : lw_okq (⟨"WhichOneAllKnowModel", "wrongAt", "(II)I"⟩, 29) := ⟨⟨by decide +kernel, by decide +kernel⟩, List.mem_of_getElem? (i := 804) (by decide +kernel), List.mem_of_getElem? (i := 1210) (by decide +kernel), List.mem_of_getElem? (i := 1211) (by decide +kernel)⟩
theorem lw_p70 : lw_okq (⟨"WhichOneAllKnowModel", "isSung", "(III)I"⟩, 29) := ⟨⟨by decide +kernel, by decide +kernel⟩, List.mem_of_getElem? (i := 804) (by decide +kernel), List.mem_of_getElem? (i := 1218) (by decide +kernel), List.mem_of_getElem? (i := 1219) (by decide +kernel)⟩
theorem lw_p71 : lw_okq (⟨"WhichOneAllKnowModel", "draw", "(I)I"⟩, 29) := ⟨⟨by decide +kernel, by decide +kernel⟩, List.mem_of_getElem? (i := 804) (by decide +kernel), List.mem_of_getElem? (i := 1234) (by decide +kernel), List.mem_of_getElem? (i := 1235) (by decide +kernel)⟩
theorem lw_p72 : lw_okq (⟨"WhichOneAllKnowModel", "breathesBy", "(II)I"⟩, 29) := ⟨⟨by decide +kernel, by decide +kernel⟩, List.mem_of_getElem? (i := 804) (by decide +kernel), List.mem_of_getElem? (i := 1247) (by decide +kernel), List.mem_of_getElem? (i := 1248) (by decide +kernel)⟩
theorem lw_p73 : lw_okq (⟨"WhichOneAllKnowModel", "ran", "(I)V"⟩, 29) := ⟨⟨by decide +kernel, by decide +kernel⟩, List.mem_of_getElem? (i := 804) (by decide +kernel), List.mem_of_getElem? (i := 1251) (by decide +kernel), List.mem_of_getElem? (i := 1252) (by decide +kernel)⟩
theorem lw_p74 : lw_okq (⟨"WhichOneAllKnowModel", "singsBy", "(II)I"⟩, 29) := ⟨⟨by decide +kernel, by decide +kernel⟩, List.mem_of_getElem? (i := 804) (by decide +kernel), List.mem_of_getElem? (i := 1255) (by decide +kernel), List.mem_of_getElem? (i := 1256) (by decide +kernel)⟩
theorem lw_p75 : lw_okq (⟨"WhichOneAllKnowModel", "sitsBy", "(II)I"⟩, 29) := ⟨⟨by decide +kernel, by decide +kernel⟩, List.mem_of_getElem? (i := 804) (by decide +kernel), List.mem_of_getElem? (i := 1259) (by decide +kernel), List.mem_of_getElem? (i := 1260) (by decide +kernel)⟩
def lw_privs_5 : List (MethodName × Nat) := [(⟨"WhichOneAllKnowModel", "isFit", "(IIII)Z"⟩, 29), (⟨"WhichOneAllKnowModel", "toldAt", "(II)I"⟩, 29), (⟨"WhichOneAllKnowModel", "change", "(II)V"⟩, 29), (⟨"WhichOneAllKnowModel", "knownAll", "()I"⟩, 29), (⟨"WhichOneAllKnowModel", "whomToAsk", "()I"⟩, 29), (⟨"WhichOneAllKnowModel", "wrongAt", "(II)I"⟩, 29), (⟨"WhichOneAllKnowModel", "isSung", "(III)I"⟩, 29), (⟨"WhichOneAllKnowModel", "draw", "(I)I"⟩, 29), (⟨"WhichOneAllKnowModel", "breathesBy", "(II)I"⟩, 29), (⟨"WhichOneAllKnowModel", "ran", "(I)V"⟩, 29), (⟨"WhichOneAllKnowModel", "singsBy", "(II)I"⟩, 29), (⟨"WhichOneAllKnowModel", "sitsBy", "(II)I"⟩, 29)]
theorem lw_r5 : ∀ q ∈ lw_privs_5, lw_okq q := List.forall_mem_cons.mpr ⟨lw_p64, List.forall_mem_cons.mpr ⟨lw_p65, List.forall_mem_cons.mpr ⟨lw_p66, List.forall_mem_cons.mpr ⟨lw_p67, List.forall_mem_cons.mpr ⟨lw_p68, List.forall_mem_cons.mpr ⟨lw_p69, List.forall_mem_cons.mpr ⟨lw_p70, List.forall_mem_cons.mpr ⟨lw_p71, List.forall_mem_cons.mpr ⟨lw_p72, List.forall_mem_cons.mpr ⟨lw_p73, List.forall_mem_cons.mpr ⟨lw_p74, List.forall_mem_cons.mpr ⟨lw_p75, fun _ h => absurd h List.not_mem_nil⟩⟩⟩⟩⟩⟩⟩⟩⟩⟩⟩⟩
def lw_privs : List (MethodName × Nat) := lw_privs_1 ++ (lw_privs_2 ++ (lw_privs_3 ++ (lw_privs_4 ++ (lw_privs_5))))
def lw_tbl : List Cond := k2_sels lw_privs ++ tables_1
theorem lw_privs_ok : ∀ q ∈ lw_privs, lw_okq q := by
  show ∀ q ∈ lw_privs_1 ++ (lw_privs_2 ++ (lw_privs_3 ++ (lw_privs_4 ++ (lw_privs_5)))), lw_okq q
  exact List.forall_mem_append.mpr ⟨lw_r1, List.forall_mem_append.mpr ⟨lw_r2, List.forall_mem_append.mpr ⟨lw_r3, List.forall_mem_append.mpr ⟨lw_r4, lw_r5⟩⟩⟩⟩

def RX0 : String := "WhichOneAllKnow$Church"
def TX0 : u_T := fun k => match k with
  | 0 => ("WhichOneAllKnow$Church", "kind", "[I", true)
  | 1 => ("WhichOneAllKnow$Church", "a", "[I", true)
  | 2 => ("WhichOneAllKnow$Church", "place", "[I", true)
  | 3 => ("WhichOneAllKnow$Church", "bold", "[I", true)
  | 4 => ("WhichOneAllKnow$Church", "top", "[I", true)
  | 5 => ("WhichOneAllKnow$Church", "knows", "[I", true)
  | 6 => ("WhichOneAllKnow$Church", "high", "[I", true)
  | 7 => ("WhichOneAllKnow$Church", "voices", "I", false)
  | 8 => ("WhichOneAllKnow$Church", "tunes", "I", false)
  | 9 => ("WhichOneAllKnow$Church", "wait", "I", false)
  | 10 => ("WhichOneAllKnow$Church", "hymns", "I", false)
  | _ => ("WhichOneAllKnow$Church", "seed", "I", false)
def tyX0 : Nat → FieldType := fun k => match k with
  | 0 => .array .int
  | 1 => .array .int
  | 2 => .array .int
  | 3 => .array .int
  | 4 => .array .int
  | 5 => .array .int
  | 6 => .array .int
  | 7 => .int
  | 8 => .int
  | 9 => .int
  | 10 => .int
  | _ => .int
abbrev wsX00 : List Cond := u_ws RX0 TX0 12
theorem nmX0 : ∀ a, a < 12 → ∀ b, b < 12 → a ≠ b → (TX0 a).2.1 ≠ (TX0 b).2.1 := by decide +kernel
theorem tyX0_ok : ∀ k, k < 12 → parseFieldDescriptor (TX0 k).2.2.1 = some (tyX0 k) := by decide +kernel

def RX1 : String := "WhichOneAllKnow$Moves"
def TX1 : u_T := fun k => match k with
  | 0 => ("WhichOneAllKnow$Moves", "bodies", "[I", true)
  | 1 => ("WhichOneAllKnow$Moves", "ran", "I", false)
  | 2 => ("WhichOneAllKnow$Moves", "kind", "I", false)
  | 3 => ("WhichOneAllKnow$Moves", "m", "I", false)
  | _ => ("WhichOneAllKnow$Moves", "k", "I", false)
def tyX1 : Nat → FieldType := fun k => match k with
  | 0 => .array .int
  | 1 => .int
  | 2 => .int
  | 3 => .int
  | _ => .int
abbrev wsX10 : List Cond := u_ws RX1 TX1 5
theorem nmX1 : ∀ a, a < 5 → ∀ b, b < 5 → a ≠ b → (TX1 a).2.1 ≠ (TX1 b).2.1 := by decide +kernel
theorem tyX1_ok : ∀ k, k < 5 → parseFieldDescriptor (TX1 k).2.2.1 = some (tyX1 k) := by decide +kernel

def RX2 : String := "WhichOneAllKnow$Shelves"
def TX2 : u_T := fun k => match k with
  | 0 => ("WhichOneAllKnow$Shelves", "rows", "[[J", true)
  | 1 => ("WhichOneAllKnow$Shelves", "sizes", "[I", true)
  | _ => ("WhichOneAllKnow$Shelves", "held", "[I", true)
def tyX2 : Nat → FieldType := fun k => match k with
  | 0 => .array (.array .long)
  | 1 => .array .int
  | _ => .array .int
abbrev wsX20 : List Cond := u_ws RX2 TX2 3
theorem nmX2 : ∀ a, a < 3 → ∀ b, b < 3 → a ≠ b → (TX2 a).2.1 ≠ (TX2 b).2.1 := by decide +kernel
theorem tyX2_ok : ∀ k, k < 3 → parseFieldDescriptor (TX2 k).2.2.1 = some (tyX2 k) := by decide +kernel

def RX3 : String := "WhichOneAllKnow$Singing"
def TX3 : u_T := fun k => match k with
  | 0 => ("WhichOneAllKnow$Singing", "near", "[I", true)
  | 1 => ("WhichOneAllKnow$Singing", "need", "[I", true)
  | 2 => ("WhichOneAllKnow$Singing", "who", "LWhichOneAllKnow$Church;", false)
  | 3 => ("WhichOneAllKnow$Singing", "inReach", "I", false)
  | 4 => ("WhichOneAllKnow$Singing", "knowing", "I", false)
  | 5 => ("WhichOneAllKnow$Singing", "right", "I", false)
  | 6 => ("WhichOneAllKnow$Singing", "wrong", "I", false)
  | 7 => ("WhichOneAllKnow$Singing", "miming", "I", false)
  | 8 => ("WhichOneAllKnow$Singing", "activeAhead", "I", false)
  | 9 => ("WhichOneAllKnow$Singing", "sameAsAhead", "Z", false)
  | _ => ("WhichOneAllKnow$Singing", "forEver", "Z", false)
def tyX3 : Nat → FieldType := fun k => match k with
  | 0 => .array .int
  | 1 => .array .int
  | 2 => .object "WhichOneAllKnow$Church"
  | 3 => .int
  | 4 => .int
  | 5 => .int
  | 6 => .int
  | 7 => .int
  | 8 => .int
  | 9 => .boolean
  | _ => .boolean
abbrev wsX30 : List Cond := u_ws RX3 TX3 11
theorem nmX3 : ∀ a, a < 11 → ∀ b, b < 11 → a ≠ b → (TX3 a).2.1 ≠ (TX3 b).2.1 := by decide +kernel
theorem tyX3_ok : ∀ k, k < 11 → parseFieldDescriptor (TX3 k).2.2.1 = some (tyX3 k) := by decide +kernel

def RX4 : String := "WhichOneAllKnow$Text"
def TX4 : u_T := fun k => match k with
  | 0 => ("WhichOneAllKnow$Text", "draft", "LWhichOneAllKnow$Church;", true)
  | 1 => ("WhichOneAllKnow$Text", "numbers", "[I", true)
  | 2 => ("WhichOneAllKnow$Text", "letters", "[J", false)
  | 3 => ("WhichOneAllKnow$Text", "size", "I", false)
  | 4 => ("WhichOneAllKnow$Text", "at", "I", false)
  | _ => ("WhichOneAllKnow$Text", "fault", "I", false)
def tyX4 : Nat → FieldType := fun k => match k with
  | 0 => .object "WhichOneAllKnow$Church"
  | 1 => .array .int
  | 2 => .array .long
  | 3 => .int
  | 4 => .int
  | _ => .int
abbrev wsX40 : List Cond := u_ws RX4 TX4 6
theorem nmX4 : ∀ a, a < 6 → ∀ b, b < 6 → a ≠ b → (TX4 a).2.1 ≠ (TX4 b).2.1 := by decide +kernel
theorem tyX4_ok : ∀ k, k < 6 → parseFieldDescriptor (TX4 k).2.2.1 = some (tyX4 k) := by decide +kernel

def RX5 : String := "WhichOneAllKnow"
def TX5 : u_T := fun k => match k with
  | 0 => ("WhichOneAllKnow", "now", "LWhichOneAllKnow$Church;", true)
  | 1 => ("WhichOneAllKnow", "kept", "LWhichOneAllKnow$Church;", true)
  | 2 => ("WhichOneAllKnow", "draft", "LWhichOneAllKnow$Church;", true)
  | 3 => ("WhichOneAllKnow", "shelves", "LWhichOneAllKnow$Shelves;", true)
  | 4 => ("WhichOneAllKnow", "singing", "LWhichOneAllKnow$Singing;", true)
  | 5 => ("WhichOneAllKnow", "text", "LWhichOneAllKnow$Text;", true)
  | 6 => ("WhichOneAllKnow", "moves", "LWhichOneAllKnow$Moves;", true)
  | 7 => ("WhichOneAllKnow", "refusals", "[I", true)
  | 8 => ("WhichOneAllKnow", "hasImage", "Z", false)
  | _ => ("WhichOneAllKnow", "latestFault", "I", false)
def tyX5 : Nat → FieldType := fun k => match k with
  | 0 => .object "WhichOneAllKnow$Church"
  | 1 => .object "WhichOneAllKnow$Church"
  | 2 => .object "WhichOneAllKnow$Church"
  | 3 => .object "WhichOneAllKnow$Shelves"
  | 4 => .object "WhichOneAllKnow$Singing"
  | 5 => .object "WhichOneAllKnow$Text"
  | 6 => .object "WhichOneAllKnow$Moves"
  | 7 => .array .int
  | 8 => .boolean
  | _ => .int
abbrev wsX50 : List Cond := u_ws RX5 TX5 10
theorem nmX5 : ∀ a, a < 10 → ∀ b, b < 10 → a ≠ b → (TX5 a).2.1 ≠ (TX5 b).2.1 := by decide +kernel
theorem tyX5_ok : ∀ k, k < 10 → parseFieldDescriptor (TX5 k).2.2.1 = some (tyX5 k) := by decide +kernel

def RX6 : String := "WhichOneAllKnowModel"
def TX6 : u_T := fun k => match k with
  | 0 => ("WhichOneAllKnowModel", "holding", "[I", true)
  | 1 => ("WhichOneAllKnowModel", "rowLength", "[I", true)
  | 2 => ("WhichOneAllKnowModel", "rowOf", "[J", true)
  | 3 => ("WhichOneAllKnowModel", "voices", "I", false)
  | 4 => ("WhichOneAllKnowModel", "kind", "[I", true)
  | 5 => ("WhichOneAllKnowModel", "a", "[I", true)
  | 6 => ("WhichOneAllKnowModel", "place", "[I", true)
  | 7 => ("WhichOneAllKnowModel", "bold", "[I", true)
  | 8 => ("WhichOneAllKnowModel", "top", "[I", true)
  | 9 => ("WhichOneAllKnowModel", "known", "[I", true)
  | 10 => ("WhichOneAllKnowModel", "tunes", "I", false)
  | 11 => ("WhichOneAllKnowModel", "high", "[I", true)
  | 12 => ("WhichOneAllKnowModel", "wait", "I", false)
  | 13 => ("WhichOneAllKnowModel", "hymns", "I", false)
  | 14 => ("WhichOneAllKnowModel", "seed", "I", false)
  | 15 => ("WhichOneAllKnowModel", "reading", "I", false)
  | 16 => ("WhichOneAllKnowModel", "at", "I", false)
  | 17 => ("WhichOneAllKnowModel", "fault", "I", false)
  | 18 => ("WhichOneAllKnowModel", "numbers", "[I", true)
  | 19 => ("WhichOneAllKnowModel", "traced", "I", false)
  | 20 => ("WhichOneAllKnowModel", "traces", "[I", true)
  | 21 => ("WhichOneAllKnowModel", "refusals", "[I", true)
  | 22 => ("WhichOneAllKnowModel", "imaged", "Z", false)
  | 23 => ("WhichOneAllKnowModel", "old", "[I", true)
  | 24 => ("WhichOneAllKnowModel", "ahead", "[I", true)
  | 25 => ("WhichOneAllKnowModel", "right", "[I", true)
  | 26 => ("WhichOneAllKnowModel", "wrong", "[I", true)
  | 27 => ("WhichOneAllKnowModel", "mimes", "[I", true)
  | _ => ("WhichOneAllKnowModel", "missing", "I", false)
def tyX6 : Nat → FieldType := fun k => match k with
  | 0 => .array .int
  | 1 => .array .int
  | 2 => .array .long
  | 3 => .int
  | 4 => .array .int
  | 5 => .array .int
  | 6 => .array .int
  | 7 => .array .int
  | 8 => .array .int
  | 9 => .array .int
  | 10 => .int
  | 11 => .array .int
  | 12 => .int
  | 13 => .int
  | 14 => .int
  | 15 => .int
  | 16 => .int
  | 17 => .int
  | 18 => .array .int
  | 19 => .int
  | 20 => .array .int
  | 21 => .array .int
  | 22 => .boolean
  | 23 => .array .int
  | 24 => .array .int
  | 25 => .array .int
  | 26 => .array .int
  | 27 => .array .int
  | _ => .int
abbrev wsX60 : List Cond := u_ws RX6 TX6 29
theorem nmX6 : ∀ a, a < 29 → ∀ b, b < 29 → a ≠ b → (TX6 a).2.1 ≠ (TX6 b).2.1 := by decide +kernel
theorem tyX6_ok : ∀ k, k < 29 → parseFieldDescriptor (TX6 k).2.2.1 = some (tyX6 k) := by decide +kernel

abbrev dmCl : List vw_C := [(RX0, TX0, 12), (RX1, TX1, 5), (RX2, TX2, 3), (RX3, TX3, 11), (RX4, TX4, 6), (RX5, TX5, 10), (RX6, TX6, 29)]
abbrev dmA : Type := Nat × ClassFile.Instr × Nat × Nat × Nat × Int32 × Nat × List Nat
abbrev dmM : Type := MethodName × ByteArray × Nat × Option FieldType × List (List dmA) × List Nat
def kO_init_0 : List dmA := [(0, .aload_n 0, 1, 0, 0, 0, 0, []), (1, .invokespecial 1, 2, 0, 0, 0, 96, [8]), (4, .aload_n 0, 3, 0, 0, 0, 0, []), (5, .new 7, 4, 0, 0, 0, 99, []), (8, .dup, 5, 0, 0, 0, 0, []), (9, .invokespecial 9, 6, 1, 0, 0, 101, [2]), (12, .putfield 10, 7, 0, 5, 1, 283, []), (15, .aload_n 0, 8, 0, 0, 0, 0, []), (16, .new 7, 9, 0, 0, 0, 99, []), (19, .dup, 10, 0, 0, 0, 0, []), (20, .invokespecial 9, 11, 1, 0, 0, 101, [2]), (23, .putfield 16, 12, 1, 5, 1, 284, []), (26, .aload_n 0, 13, 0, 0, 0, 0, []), (27, .new 7, 14, 0, 0, 0, 99, []), (30, .dup, 15, 0, 0, 0, 0, []), (31, .invokespecial 9, 16, 1, 0, 0, 101, [2])]
def kO_init_1 : List dmA := [(34, .putfield 19, 17, 2, 5, 1, 285, []), (37, .aload_n 0, 18, 0, 0, 0, 0, []), (38, .new 22, 19, 2, 0, 0, 160, []), (41, .dup, 20, 0, 0, 0, 0, []), (42, .invokespecial 24, 21, 2, 0, 0, 162, [2]), (45, .putfield 25, 22, 3, 5, 1, 286, []), (48, .aload_n 0, 23, 0, 0, 0, 0, []), (49, .new 29, 24, 3, 0, 0, 182, []), (52, .dup, 25, 0, 0, 0, 0, []), (53, .aload_n 0, 26, 0, 0, 0, 0, []), (54, .getfield 10, 27, 0, 5, 1, 283, []), (57, .invokespecial 31, 28, 3, 1, 0, 184, [2]), (60, .putfield 34, 29, 4, 5, 1, 287, []), (63, .aload_n 0, 30, 0, 0, 0, 0, []), (64, .new 38, 31, 4, 0, 0, 234, []), (67, .dup, 32, 0, 0, 0, 0, [])]
def kO_init_2 : List dmA := [(68, .aload_n 0, 33, 0, 0, 0, 0, []), (69, .getfield 19, 34, 2, 5, 1, 285, []), (72, .invokespecial 40, 35, 5, 1, 0, 236, [2]), (75, .putfield 41, 36, 5, 5, 1, 288, []), (78, .aload_n 0, 37, 0, 0, 0, 0, []), (79, .new 45, 38, 1, 0, 0, 260, []), (82, .dup, 39, 0, 0, 0, 0, []), (83, .invokespecial 47, 40, 6, 0, 0, 262, [2]), (86, .putfield 48, 41, 6, 5, 1, 289, []), (89, .aload_n 0, 42, 0, 0, 0, 0, []), (90, .bipush 8, 43, 0, 0, 8, 0, []), (92, .newarray .int, 44, 0, 0, 0, 0, []), (94, .putfield 52, 45, 7, 5, 1, 290, []), (97, .aload_n 0, 46, 0, 0, 0, 0, []), (98, .iconst 0, 47, 0, 0, 0, 0, []), (99, .putfield 56, 48, 8, 5, 0, 291, [])]
def kO_init_3 : List dmA := [(102, .aload_n 0, 49, 0, 0, 0, 0, []), (103, .iconst (-1), 50, 0, 0, -1, 0, []), (104, .putfield 60, 51, 9, 5, 0, 292, []), (107, .return_, 52, 0, 0, 0, 0, [])]
def kO_init : List (List dmA) := [kO_init_0, kO_init_1, kO_init_2, kO_init_3]
def mO_init : dmM := (⟨"WhichOneAllKnow", "<init>", "()V"⟩, prog_1_method_1_code, 1, none, kO_init, [95, 94, 0, 77])
def kC_init_0 : List dmA := [(0, .aload_n 0, 1, 0, 0, 0, 0, []), (1, .invokespecial 3, 2, 0, 0, 0, 104, [8]), (4, .aload_n 0, 3, 0, 0, 0, 0, []), (5, .bipush 14, 4, 0, 0, 14, 0, []), (7, .newarray .int, 5, 0, 0, 0, 0, []), (9, .putfield 11, 6, 0, 0, 1, 105, []), (12, .aload_n 0, 7, 0, 0, 0, 0, []), (13, .bipush 14, 8, 0, 0, 14, 0, []), (15, .newarray .int, 9, 0, 0, 0, 0, []), (17, .putfield 15, 10, 1, 0, 1, 108, []), (20, .aload_n 0, 11, 0, 0, 0, 0, []), (21, .bipush 14, 12, 0, 0, 14, 0, []), (23, .newarray .int, 13, 0, 0, 0, 0, []), (25, .putfield 18, 14, 2, 0, 1, 110, []), (28, .aload_n 0, 15, 0, 0, 0, 0, []), (29, .bipush 14, 16, 0, 0, 14, 0, [])]
def kC_init_1 : List dmA := [(31, .newarray .int, 17, 0, 0, 0, 0, []), (33, .putfield 21, 18, 3, 0, 1, 114, []), (36, .aload_n 0, 19, 0, 0, 0, 0, []), (37, .bipush 14, 20, 0, 0, 14, 0, []), (39, .newarray .int, 21, 0, 0, 0, 0, []), (41, .putfield 24, 22, 4, 0, 1, 116, []), (44, .aload_n 0, 23, 0, 0, 0, 0, []), (45, .bipush 14, 24, 0, 0, 14, 0, []), (47, .newarray .int, 25, 0, 0, 0, 0, []), (49, .putfield 27, 26, 5, 0, 1, 118, []), (52, .aload_n 0, 27, 0, 0, 0, 0, []), (53, .bipush 6, 28, 0, 0, 6, 0, []), (55, .newarray .int, 29, 0, 0, 0, 0, []), (57, .putfield 30, 30, 6, 0, 1, 120, []), (60, .aload_n 0, 31, 0, 0, 0, 0, []), (61, .iconst 0, 32, 0, 0, 0, 0, [])]
def kC_init_2 : List dmA := [(62, .putfield 33, 33, 7, 0, 0, 122, []), (65, .aload_n 0, 34, 0, 0, 0, 0, []), (66, .iconst 0, 35, 0, 0, 0, 0, []), (67, .putfield 37, 36, 8, 0, 0, 125, []), (70, .aload_n 0, 37, 0, 0, 0, 0, []), (71, .iconst 2, 38, 0, 0, 2, 0, []), (72, .putfield 40, 39, 9, 0, 0, 127, []), (75, .aload_n 0, 40, 0, 0, 0, 0, []), (76, .iconst 0, 41, 0, 0, 0, 0, []), (77, .putfield 43, 42, 10, 0, 0, 130, []), (80, .aload_n 0, 43, 0, 0, 0, 0, []), (81, .iconst 1, 44, 0, 0, 1, 0, []), (82, .putfield 46, 45, 11, 0, 0, 132, []), (85, .return_, 46, 0, 0, 0, 0, [])]
def kC_init : List (List dmA) := [kC_init_0, kC_init_1, kC_init_2]
def mC_init : dmM := (⟨"WhichOneAllKnow$Church", "<init>", "()V"⟩, prog_2_method_1_code, 1, none, kC_init, [103, 102, 0, 78])
def kH_init_0 : List dmA := [(0, .aload_n 0, 1, 0, 0, 0, 0, []), (1, .invokespecial 3, 2, 0, 0, 0, 165, [8]), (4, .aload_n 0, 3, 0, 0, 0, 0, []), (5, .bipush 8, 4, 0, 0, 8, 0, []), (7, .sipush 160, 5, 0, 0, 160, 0, []), (10, .multianewarray 11 2, 6, 0, 0, 0, 166, []), (14, .putfield 13, 7, 0, 2, 1, 168, []), (17, .aload_n 0, 8, 0, 0, 0, 0, []), (18, .bipush 8, 9, 0, 0, 8, 0, []), (20, .newarray .int, 10, 0, 0, 0, 0, []), (22, .putfield 16, 11, 1, 2, 1, 170, []), (25, .aload_n 0, 12, 0, 0, 0, 0, []), (26, .bipush 8, 13, 0, 0, 8, 0, []), (28, .newarray .int, 14, 0, 0, 0, 0, []), (30, .dup, 15, 0, 0, 0, 0, []), (31, .iconst 0, 16, 0, 0, 0, 0, [])]
def kH_init_1 : List dmA := [(32, .iconst (-1), 17, 0, 0, -1, 0, []), (33, .iastore, 18, 0, 0, 0, 0, []), (34, .dup, 19, 0, 0, 0, 0, []), (35, .iconst 1, 20, 0, 0, 1, 0, []), (36, .iconst (-1), 21, 0, 0, -1, 0, []), (37, .iastore, 22, 0, 0, 0, 0, []), (38, .dup, 23, 0, 0, 0, 0, []), (39, .iconst 2, 24, 0, 0, 2, 0, []), (40, .iconst (-1), 25, 0, 0, -1, 0, []), (41, .iastore, 26, 0, 0, 0, 0, []), (42, .dup, 27, 0, 0, 0, 0, []), (43, .iconst 3, 28, 0, 0, 3, 0, []), (44, .iconst (-1), 29, 0, 0, -1, 0, []), (45, .iastore, 30, 0, 0, 0, 0, []), (46, .dup, 31, 0, 0, 0, 0, []), (47, .iconst 4, 32, 0, 0, 4, 0, [])]
def kH_init_2 : List dmA := [(48, .iconst (-1), 33, 0, 0, -1, 0, []), (49, .iastore, 34, 0, 0, 0, 0, []), (50, .dup, 35, 0, 0, 0, 0, []), (51, .iconst 5, 36, 0, 0, 5, 0, []), (52, .iconst (-1), 37, 0, 0, -1, 0, []), (53, .iastore, 38, 0, 0, 0, 0, []), (54, .dup, 39, 0, 0, 0, 0, []), (55, .bipush 6, 40, 0, 0, 6, 0, []), (57, .iconst (-1), 41, 0, 0, -1, 0, []), (58, .iastore, 42, 0, 0, 0, 0, []), (59, .dup, 43, 0, 0, 0, 0, []), (60, .bipush 7, 44, 0, 0, 7, 0, []), (62, .iconst (-1), 45, 0, 0, -1, 0, []), (63, .iastore, 46, 0, 0, 0, 0, []), (64, .putfield 20, 47, 2, 2, 1, 172, []), (67, .return_, 48, 0, 0, 0, 0, [])]
def kH_init : List (List dmA) := [kH_init_0, kH_init_1, kH_init_2]
def mH_init : dmM := (⟨"WhichOneAllKnow$Shelves", "<init>", "()V"⟩, prog_4_method_1_code, 1, none, kH_init, [164, 163, 0, 79])
def kS_init_0 : List dmA := [(0, .aload_n 0, 1, 0, 0, 0, 0, []), (1, .invokespecial 3, 2, 0, 0, 0, 187, [8]), (4, .aload_n 0, 3, 0, 0, 0, 0, []), (5, .bipush 24, 4, 0, 0, 24, 0, []), (7, .newarray .int, 5, 0, 0, 0, 0, []), (9, .putfield 11, 6, 0, 3, 1, 197, []), (12, .aload_n 0, 7, 0, 0, 0, 0, []), (13, .bipush 14, 8, 0, 0, 14, 0, []), (15, .newarray .int, 9, 0, 0, 0, 0, []), (17, .putfield 17, 10, 1, 3, 1, 198, []), (20, .aload_n 0, 11, 0, 0, 0, 0, []), (21, .iconst 0, 12, 0, 0, 0, 0, []), (22, .putfield 20, 13, 3, 3, 0, 200, []), (25, .aload_n 0, 14, 0, 0, 0, 0, []), (26, .iconst 0, 15, 0, 0, 0, 0, []), (27, .putfield 24, 16, 4, 3, 0, 201, [])]
def kS_init_1 : List dmA := [(30, .aload_n 0, 17, 0, 0, 0, 0, []), (31, .iconst 0, 18, 0, 0, 0, 0, []), (32, .putfield 27, 19, 5, 3, 0, 202, []), (35, .aload_n 0, 20, 0, 0, 0, 0, []), (36, .iconst 0, 21, 0, 0, 0, 0, []), (37, .putfield 30, 22, 6, 3, 0, 204, []), (40, .aload_n 0, 23, 0, 0, 0, 0, []), (41, .iconst 0, 24, 0, 0, 0, 0, []), (42, .putfield 33, 25, 7, 3, 0, 206, []), (45, .aload_n 0, 26, 0, 0, 0, 0, []), (46, .iconst 0, 27, 0, 0, 0, 0, []), (47, .putfield 36, 28, 8, 3, 0, 208, []), (50, .aload_n 0, 29, 0, 0, 0, 0, []), (51, .iconst 0, 30, 0, 0, 0, 0, []), (52, .putfield 39, 31, 9, 3, 0, 209, []), (55, .aload_n 0, 32, 0, 0, 0, 0, [])]
def kS_init_2 : List dmA := [(56, .iconst 0, 33, 0, 0, 0, 0, []), (57, .putfield 43, 34, 10, 3, 0, 210, []), (60, .aload_n 0, 35, 0, 0, 0, 0, []), (61, .aload_n 1, 36, 1, 0, 0, 0, []), (62, .putfield 46, 37, 2, 3, 0, 199, []), (65, .iconst 0, 38, 0, 0, 0, 0, []), (66, .istore_n 2, 39, 2, 0, 0, 0, []), (67, .iload_n 2, 40, 2, 0, 0, 0, []), (68, .bipush 24, 41, 0, 0, 24, 0, []), (70, .if_icmp .ge 19, 42, 50, 0, 0, 0, []), (73, .aload_n 0, 43, 0, 0, 0, 0, []), (74, .getfield 11, 44, 0, 3, 1, 197, []), (77, .iload_n 2, 45, 2, 0, 0, 0, []), (78, .iload_n 2, 46, 2, 0, 0, 0, []), (79, .invokestatic 50, 47, 4, 1, 0, 188, [1]), (82, .iastore, 48, 0, 0, 0, 0, [])]
def kS_init_3 : List dmA := [(83, .iinc 2 1, 49, 2, 0, 1, 0, []), (86, .goto (-19), 50, 39, 0, 0, 0, []), (89, .return_, 51, 0, 0, 0, 0, [])]
def kS_init : List (List dmA) := [kS_init_0, kS_init_1, kS_init_2, kS_init_3]
def mS_init : dmM := (⟨"WhichOneAllKnow$Singing", "<init>", "(LWhichOneAllKnow$Church;)V"⟩, prog_5_method_1_code, 3, none, kS_init, [186, 185, 0, 80])
def kS_placesNearOne_0 : List dmA := [(0, .iconst 0, 1, 0, 0, 0, 0, []), (1, .istore_n 1, 2, 1, 0, 0, 0, []), (2, .iconst 0, 3, 0, 0, 0, 0, []), (3, .istore_n 2, 4, 2, 0, 0, 0, []), (4, .iload_n 2, 5, 2, 0, 0, 0, []), (5, .bipush 24, 6, 0, 0, 24, 0, []), (7, .if_icmp .ge 52, 7, 38, 0, 0, 0, []), (10, .iload_n 2, 8, 2, 0, 0, 0, []), (11, .bipush 6, 9, 0, 0, 6, 0, []), (13, .idiv, 10, 0, 0, 0, 0, []), (14, .iload_n 0, 11, 0, 0, 0, 0, []), (15, .bipush 6, 12, 0, 0, 6, 0, []), (17, .idiv, 13, 0, 0, 0, 0, []), (18, .isub, 14, 0, 0, 0, 0, []), (19, .invokestatic 54, 15, 0, 1, 0, 191, [6]), (22, .istore_n 3, 16, 3, 0, 0, 0, [])]
def kS_placesNearOne_1 : List dmA := [(23, .iload_n 2, 17, 2, 0, 0, 0, []), (24, .bipush 6, 18, 0, 0, 6, 0, []), (26, .irem, 19, 0, 0, 0, 0, []), (27, .iload_n 0, 20, 0, 0, 0, 0, []), (28, .bipush 6, 21, 0, 0, 6, 0, []), (30, .irem, 22, 0, 0, 0, 0, []), (31, .isub, 23, 0, 0, 0, 0, []), (32, .invokestatic 54, 24, 0, 1, 0, 191, [6]), (35, .istore 4, 25, 4, 0, 0, 0, []), (37, .iload_n 3, 26, 3, 0, 0, 0, []), (38, .iload 4, 27, 4, 0, 0, 0, []), (40, .invokestatic 59, 28, 0, 2, 0, 194, [4]), (43, .iconst 1, 29, 0, 0, 1, 0, []), (44, .if_icmp .ne 9, 30, 36, 0, 0, 0, []), (47, .iload_n 1, 31, 1, 0, 0, 0, []), (48, .iconst 1, 32, 0, 0, 1, 0, [])]
def kS_placesNearOne_2 : List dmA := [(49, .iload_n 2, 33, 2, 0, 0, 0, []), (50, .ishl, 34, 0, 0, 0, 0, []), (51, .ior, 35, 0, 0, 0, 0, []), (52, .istore_n 1, 36, 1, 0, 0, 0, []), (53, .iinc 2 1, 37, 2, 0, 1, 0, []), (56, .goto (-52), 38, 4, 0, 0, 0, []), (59, .iload_n 1, 39, 1, 0, 0, 0, []), (60, .ireturn, 40, 0, 0, 0, 0, [])]
def kS_placesNearOne : List (List dmA) := [kS_placesNearOne_0, kS_placesNearOne_1, kS_placesNearOne_2]
def mS_placesNearOne : dmM := (⟨"WhichOneAllKnow$Singing", "placesNearOne", "(I)I"⟩, prog_5_method_2_code, 5, some (.int), kS_placesNearOne, [190, 189, 0, 80])
def kT_init_0 : List dmA := [(0, .aload_n 0, 1, 0, 0, 0, 0, []), (1, .invokespecial 3, 2, 0, 0, 0, 239, [8]), (4, .aload_n 0, 3, 0, 0, 0, 0, []), (5, .iconst 5, 4, 0, 0, 5, 0, []), (6, .newarray .int, 5, 0, 0, 0, 0, []), (8, .putfield 9, 6, 1, 4, 1, 241, []), (11, .aload_n 0, 7, 0, 0, 0, 0, []), (12, .iconst 0, 8, 0, 0, 0, 0, []), (13, .newarray .long, 9, 1, 0, 0, 0, []), (15, .putfield 15, 10, 2, 4, 0, 242, []), (18, .aload_n 0, 11, 0, 0, 0, 0, []), (19, .iconst 0, 12, 0, 0, 0, 0, []), (20, .putfield 19, 13, 3, 4, 0, 243, []), (23, .aload_n 0, 14, 0, 0, 0, 0, []), (24, .iconst 0, 15, 0, 0, 0, 0, []), (25, .putfield 23, 16, 4, 4, 0, 244, [])]
def kT_init_1 : List dmA := [(28, .aload_n 0, 17, 0, 0, 0, 0, []), (29, .iconst (-1), 18, 0, 0, -1, 0, []), (30, .putfield 26, 19, 5, 4, 0, 245, []), (33, .aload_n 0, 20, 0, 0, 0, 0, []), (34, .aload_n 1, 21, 1, 0, 0, 0, []), (35, .putfield 29, 22, 0, 4, 1, 240, []), (38, .return_, 23, 0, 0, 0, 0, [])]
def kT_init : List (List dmA) := [kT_init_0, kT_init_1]
def mT_init : dmM := (⟨"WhichOneAllKnow$Text", "<init>", "(LWhichOneAllKnow$Church;)V"⟩, prog_6_method_1_code, 2, none, kT_init, [238, 237, 0, 82])
def kV_init_0 : List dmA := [(0, .aload_n 0, 1, 0, 0, 0, 0, []), (1, .invokespecial 3, 2, 0, 0, 0, 265, [8]), (4, .aload_n 0, 3, 0, 0, 0, 0, []), (5, .bipush 20, 4, 0, 0, 20, 0, []), (7, .newarray .int, 5, 0, 0, 0, 0, []), (9, .putfield 11, 6, 0, 1, 1, 266, []), (12, .aload_n 0, 7, 0, 0, 0, 0, []), (13, .iconst 0, 8, 0, 0, 0, 0, []), (14, .putfield 15, 9, 1, 1, 0, 267, []), (17, .aload_n 0, 10, 0, 0, 0, 0, []), (18, .iconst 0, 11, 0, 0, 0, 0, []), (19, .putfield 19, 12, 2, 1, 0, 269, []), (22, .aload_n 0, 13, 0, 0, 0, 0, []), (23, .iconst 0, 14, 0, 0, 0, 0, []), (24, .putfield 22, 15, 3, 1, 0, 270, []), (27, .aload_n 0, 16, 0, 0, 0, 0, [])]
def kV_init_1 : List dmA := [(28, .iconst 0, 17, 0, 0, 0, 0, []), (29, .putfield 25, 18, 4, 1, 0, 271, []), (32, .return_, 19, 0, 0, 0, 0, [])]
def kV_init : List (List dmA) := [kV_init_0, kV_init_1]
def mV_init : dmM := (⟨"WhichOneAllKnow$Moves", "<init>", "()V"⟩, prog_3_method_1_code, 1, none, kV_init, [264, 263, 0, 83])
def kO_row_0 : List dmA := [(0, .aload_n 0, 1, 0, 0, 0, 0, []), (1, .getfield 25, 2, 3, 5, 1, 286, []), (4, .iload_n 1, 3, 1, 0, 0, 0, []), (5, .invokevirtual 64, 4, 8, 1, 0, 318, []), (8, .ifCond .ne 9, 5, 9, 0, 0, 0, []), (11, .aload_n 0, 6, 0, 0, 0, 0, []), (12, .iconst (-1), 7, 0, 0, -1, 0, []), (13, .invokevirtual 68, 8, 9, 1, 0, 322, []), (16, .ireturn, 9, 0, 0, 0, 0, []), (17, .iload_n 3, 10, 3, 0, 0, 0, []), (18, .ifCond .ge 10, 11, 15, 0, 0, 0, []), (21, .aload_n 0, 12, 0, 0, 0, 0, []), (22, .bipush (-4), 13, 0, 0, -4, 0, []), (24, .invokevirtual 68, 14, 9, 1, 0, 322, []), (27, .ireturn, 15, 0, 0, 0, 0, []), (28, .iload_n 2, 16, 2, 0, 0, 0, [])]
def kO_row_1 : List dmA := [(29, .iconst 0, 17, 0, 0, 0, 0, []), (30, .iconst 3, 18, 0, 0, 3, 0, []), (31, .invokestatic 72, 19, 10, 3, 0, 326, [1]), (34, .ifCond .ne 10, 20, 24, 0, 0, 0, []), (37, .aload_n 0, 21, 0, 0, 0, 0, []), (38, .bipush (-6), 22, 0, 0, -6, 0, []), (40, .invokevirtual 68, 23, 9, 1, 0, 322, []), (43, .ireturn, 24, 0, 0, 0, 0, []), (44, .iload_n 3, 25, 3, 0, 0, 0, []), (45, .sipush 160, 26, 0, 0, 160, 0, []), (48, .if_icmp .le 10, 27, 31, 0, 0, 0, []), (51, .aload_n 0, 28, 0, 0, 0, 0, []), (52, .bipush (-7), 29, 0, 0, -7, 0, []), (54, .invokevirtual 68, 30, 9, 1, 0, 322, []), (57, .ireturn, 31, 0, 0, 0, 0, []), (58, .aload_n 0, 32, 0, 0, 0, 0, [])]
def kO_row_2 : List dmA := [(59, .getfield 25, 33, 3, 5, 1, 286, []), (62, .iload_n 1, 34, 1, 0, 0, 0, []), (63, .iload_n 2, 35, 2, 0, 0, 0, []), (64, .iload_n 3, 36, 3, 0, 0, 0, []), (65, .invokevirtual 76, 37, 11, 3, 0, 329, []), (68, .iconst 1, 38, 0, 0, 1, 0, []), (69, .ireturn, 39, 0, 0, 0, 0, [])]
def kO_row : List (List dmA) := [kO_row_0, kO_row_1, kO_row_2]
def mO_row : dmM := (⟨"WhichOneAllKnow", "row", "(III)I"⟩, prog_1_method_2_code, 4, some (.int), kO_row, [317, 315, 316, 77])
def kH_has_0 : List dmA := [(0, .iload_n 1, 1, 1, 0, 0, 0, []), (1, .ifCond .lt 13, 2, 7, 0, 0, 0, []), (4, .iload_n 1, 3, 1, 0, 0, 0, []), (5, .bipush 8, 4, 0, 0, 8, 0, []), (7, .if_icmp .ge 7, 5, 7, 0, 0, 0, []), (10, .iconst 1, 6, 0, 0, 1, 0, []), (11, .goto 4, 7, 8, 0, 0, 0, []), (14, .iconst 0, 8, 0, 0, 0, 0, []), (15, .ireturn, 9, 0, 0, 0, 0, [])]
def kH_has : List (List dmA) := [kH_has_0]
def mH_has : dmM := (⟨"WhichOneAllKnow$Shelves", "has", "(I)Z"⟩, prog_4_method_2_code, 2, some (.boolean), kH_has, [321, 319, 320, 79])
def kO_refuse_0 : List dmA := [(0, .iload_n 1, 1, 1, 0, 0, 0, []), (1, .ineg, 2, 0, 0, 0, 0, []), (2, .iconst 1, 3, 0, 0, 1, 0, []), (3, .bipush 7, 4, 0, 0, 7, 0, []), (5, .invokestatic 72, 5, 10, 3, 0, 326, [1]), (8, .ifCond .eq 14, 6, 15, 0, 0, 0, []), (11, .aload_n 0, 7, 0, 0, 0, 0, []), (12, .getfield 52, 8, 7, 5, 1, 290, []), (15, .iload_n 1, 9, 1, 0, 0, 0, []), (16, .ineg, 10, 0, 0, 0, 0, []), (17, .dup2, 11, 0, 0, 0, 0, []), (18, .iaload, 12, 0, 0, 0, 0, []), (19, .iconst 1, 13, 0, 0, 1, 0, []), (20, .iadd, 14, 0, 0, 0, 0, []), (21, .iastore, 15, 0, 0, 0, 0, []), (22, .iload_n 1, 16, 1, 0, 0, 0, [])]
def kO_refuse_1 : List dmA := [(23, .ireturn, 17, 0, 0, 0, 0, [])]
def kO_refuse : List (List dmA) := [kO_refuse_0, kO_refuse_1]
def mO_refuse : dmM := (⟨"WhichOneAllKnow", "refuse", "(I)I"⟩, prog_1_method_43_code, 2, some (.int), kO_refuse, [325, 324, 0, 77])
def kO_within_0 : List dmA := [(0, .iload_n 0, 1, 0, 0, 0, 0, []), (1, .iload_n 1, 2, 1, 0, 0, 0, []), (2, .if_icmp .lt 12, 3, 8, 0, 0, 0, []), (5, .iload_n 0, 4, 0, 0, 0, 0, []), (6, .iload_n 2, 5, 2, 0, 0, 0, []), (7, .if_icmp .gt 7, 6, 8, 0, 0, 0, []), (10, .iconst 1, 7, 0, 0, 1, 0, []), (11, .goto 4, 8, 9, 0, 0, 0, []), (14, .iconst 0, 9, 0, 0, 0, 0, []), (15, .ireturn, 10, 0, 0, 0, 0, [])]
def kO_within : List (List dmA) := [kO_within_0]
def mO_within : dmM := (⟨"WhichOneAllKnow", "within", "(III)Z"⟩, prog_1_method_47_code, 3, some (.boolean), kO_within, [328, 327, 0, 77])
def kH_holdRow_0 : List dmA := [(0, .aload_n 0, 1, 0, 0, 0, 0, []), (1, .getfield 20, 2, 2, 2, 1, 172, []), (4, .iload_n 1, 3, 1, 0, 0, 0, []), (5, .bipush 100, 4, 0, 0, 100, 0, []), (7, .iload_n 2, 5, 2, 0, 0, 0, []), (8, .iadd, 6, 0, 0, 0, 0, []), (9, .iastore, 7, 0, 0, 0, 0, []), (10, .aload_n 0, 8, 0, 0, 0, 0, []), (11, .getfield 16, 9, 1, 2, 1, 170, []), (14, .iload_n 1, 10, 1, 0, 0, 0, []), (15, .iload_n 3, 11, 3, 0, 0, 0, []), (16, .iastore, 12, 0, 0, 0, 0, []), (17, .iconst 0, 13, 0, 0, 0, 0, []), (18, .istore 4, 14, 4, 0, 0, 0, []), (20, .iload 4, 15, 4, 0, 0, 0, []), (22, .sipush 160, 16, 0, 0, 160, 0, [])]
def kH_holdRow_1 : List dmA := [(25, .if_icmp .ge 19, 17, 26, 0, 0, 0, []), (28, .aload_n 0, 18, 0, 0, 0, 0, []), (29, .getfield 13, 19, 0, 2, 1, 168, []), (32, .iload_n 1, 20, 1, 0, 0, 0, []), (33, .aaload, 21, 0, 0, 0, 0, []), (34, .iload 4, 22, 4, 0, 0, 0, []), (36, .lconst 0, 23, 0, 0, 0, 0, []), (37, .lastore, 24, 0, 0, 0, 0, []), (38, .iinc 4 1, 25, 4, 0, 1, 0, []), (41, .goto (-21), 26, 14, 0, 0, 0, []), (44, .return_, 27, 0, 0, 0, 0, [])]
def kH_holdRow : List (List dmA) := [kH_holdRow_0, kH_holdRow_1]
def mH_holdRow : dmM := (⟨"WhichOneAllKnow$Shelves", "holdRow", "(III)V"⟩, prog_4_method_6_code, 5, none, kH_holdRow, [332, 330, 331, 79])
def kO_set_0 : List dmA := [(0, .aload_n 0, 1, 0, 0, 0, 0, []), (1, .iload_n 1, 2, 1, 0, 0, 0, []), (2, .invokevirtual 80, 3, 13, 1, 0, 337, []), (5, .istore 5, 4, 5, 0, 0, 0, []), (7, .iload 5, 5, 5, 0, 0, 0, []), (9, .ifCond .ne 19, 6, 14, 0, 0, 0, []), (12, .aload_n 0, 7, 0, 0, 0, 0, []), (13, .getfield 25, 8, 3, 5, 1, 286, []), (16, .iload_n 1, 9, 1, 0, 0, 0, []), (17, .iload_n 2, 10, 2, 0, 0, 0, []), (18, .invokevirtual 83, 11, 15, 2, 0, 346, []), (21, .ifCond .ne 7, 12, 14, 0, 0, 0, []), (24, .bipush (-5), 13, 0, 0, -5, 0, []), (26, .istore 5, 14, 5, 0, 0, 0, []), (28, .iload 5, 15, 5, 0, 0, 0, []), (30, .ifCond .eq 10, 16, 20, 0, 0, 0, [])]
def kO_set_1 : List dmA := [(33, .aload_n 0, 17, 0, 0, 0, 0, []), (34, .iload 5, 18, 5, 0, 0, 0, []), (36, .invokevirtual 68, 19, 9, 1, 0, 322, []), (39, .ireturn, 20, 0, 0, 0, 0, []), (40, .aload_n 0, 21, 0, 0, 0, 0, []), (41, .getfield 25, 22, 3, 5, 1, 286, []), (44, .iload_n 1, 23, 1, 0, 0, 0, []), (45, .iload_n 2, 24, 2, 0, 0, 0, []), (46, .lload_n 3, 25, 3, 0, 0, 0, []), (47, .invokevirtual 87, 26, 16, 3, 0, 351, []), (50, .iconst 1, 27, 0, 0, 1, 0, []), (51, .ireturn, 28, 0, 0, 0, 0, [])]
def kO_set : List (List dmA) := [kO_set_0, kO_set_1]
def mO_set : dmM := (⟨"WhichOneAllKnow", "set", "(IIJ)I"⟩, prog_1_method_3_code, 6, some (.int), kO_set, [336, 334, 335, 77])
def kO_noRow_0 : List dmA := [(0, .aload_n 0, 1, 0, 0, 0, 0, []), (1, .getfield 25, 2, 3, 5, 1, 286, []), (4, .iload_n 1, 3, 1, 0, 0, 0, []), (5, .invokevirtual 64, 4, 8, 1, 0, 318, []), (8, .ifCond .ne 5, 5, 7, 0, 0, 0, []), (11, .iconst (-1), 6, 0, 0, -1, 0, []), (12, .ireturn, 7, 0, 0, 0, 0, []), (13, .aload_n 0, 8, 0, 0, 0, 0, []), (14, .getfield 25, 9, 3, 5, 1, 286, []), (17, .getfield 111, 10, 2, 2, 1, 173, []), (20, .iload_n 1, 11, 1, 0, 0, 0, []), (21, .iaload, 12, 0, 0, 0, 0, []), (22, .iconst (-1), 13, 0, 0, -1, 0, []), (23, .if_icmp .ne 6, 14, 16, 0, 0, 0, []), (26, .bipush (-3), 15, 0, 0, -3, 0, []), (28, .ireturn, 16, 0, 0, 0, 0, [])]
def kO_noRow_1 : List dmA := [(29, .aload_n 0, 17, 0, 0, 0, 0, []), (30, .getfield 25, 18, 3, 5, 1, 286, []), (33, .iload_n 1, 19, 1, 0, 0, 0, []), (34, .invokevirtual 310, 20, 14, 1, 0, 341, []), (37, .ifCond .eq 7, 21, 23, 0, 0, 0, []), (40, .iconst 0, 22, 0, 0, 0, 0, []), (41, .goto 5, 23, 24, 0, 0, 0, []), (44, .bipush (-2), 24, 0, 0, -2, 0, []), (46, .ireturn, 25, 0, 0, 0, 0, [])]
def kO_noRow : List (List dmA) := [kO_noRow_0, kO_noRow_1]
def mO_noRow : dmM := (⟨"WhichOneAllKnow", "noRow", "(I)I"⟩, prog_1_method_44_code, 2, some (.int), kO_noRow, [340, 339, 1, 77])
def kH_holdsRow_0 : List dmA := [(0, .aload_n 0, 1, 0, 0, 0, 0, []), (1, .iload_n 1, 2, 1, 0, 0, 0, []), (2, .invokevirtual 23, 3, 8, 1, 0, 345, []), (5, .ifCond .eq 18, 4, 12, 0, 0, 0, []), (8, .aload_n 0, 5, 0, 0, 0, 0, []), (9, .getfield 20, 6, 2, 2, 1, 172, []), (12, .iload_n 1, 7, 1, 0, 0, 0, []), (13, .iaload, 8, 0, 0, 0, 0, []), (14, .bipush 100, 9, 0, 0, 100, 0, []), (16, .if_icmp .lt 7, 10, 12, 0, 0, 0, []), (19, .iconst 1, 11, 0, 0, 1, 0, []), (20, .goto 4, 12, 13, 0, 0, 0, []), (23, .iconst 0, 13, 0, 0, 0, 0, []), (24, .ireturn, 14, 0, 0, 0, 0, [])]
def kH_holdsRow : List (List dmA) := [kH_holdsRow_0]
def mH_holdsRow : dmM := (⟨"WhichOneAllKnow$Shelves", "holdsRow", "(I)Z"⟩, prog_4_method_3_code, 2, some (.boolean), kH_holdsRow, [344, 342, 343, 79])
def kH_hasElement_0 : List dmA := [(0, .aload_n 0, 1, 0, 0, 0, 0, []), (1, .iload_n 1, 2, 1, 0, 0, 0, []), (2, .invokevirtual 27, 3, 14, 1, 0, 350, []), (5, .ifCond .eq 21, 4, 14, 0, 0, 0, []), (8, .iload_n 2, 5, 2, 0, 0, 0, []), (9, .ifCond .lt 17, 6, 14, 0, 0, 0, []), (12, .iload_n 2, 7, 2, 0, 0, 0, []), (13, .aload_n 0, 8, 0, 0, 0, 0, []), (14, .getfield 16, 9, 1, 2, 1, 170, []), (17, .iload_n 1, 10, 1, 0, 0, 0, []), (18, .iaload, 11, 0, 0, 0, 0, []), (19, .if_icmp .ge 7, 12, 14, 0, 0, 0, []), (22, .iconst 1, 13, 0, 0, 1, 0, []), (23, .goto 4, 14, 15, 0, 0, 0, []), (26, .iconst 0, 15, 0, 0, 0, 0, []), (27, .ireturn, 16, 0, 0, 0, 0, [])]
def kH_hasElement : List (List dmA) := [kH_hasElement_0]
def mH_hasElement : dmM := (⟨"WhichOneAllKnow$Shelves", "hasElement", "(II)Z"⟩, prog_4_method_4_code, 3, some (.boolean), kH_hasElement, [349, 347, 348, 79])
def kH_put_0 : List dmA := [(0, .aload_n 0, 1, 0, 0, 0, 0, []), (1, .getfield 13, 2, 0, 2, 1, 168, []), (4, .iload_n 1, 3, 1, 0, 0, 0, []), (5, .aaload, 4, 0, 0, 0, 0, []), (6, .iload_n 2, 5, 2, 0, 0, 0, []), (7, .aload_n 0, 6, 0, 0, 0, 0, []), (8, .getfield 20, 7, 2, 2, 1, 172, []), (11, .iload_n 1, 8, 1, 0, 0, 0, []), (12, .iaload, 9, 0, 0, 0, 0, []), (13, .bipush 100, 10, 0, 0, 100, 0, []), (15, .isub, 11, 0, 0, 0, 0, []), (16, .lload_n 3, 12, 3, 0, 0, 0, []), (17, .invokestatic 30, 13, 17, 2, 0, 355, [1]), (20, .lastore, 14, 0, 0, 0, 0, []), (21, .return_, 15, 0, 0, 0, 0, [])]
def kH_put : List (List dmA) := [kH_put_0]
def mH_put : dmM := (⟨"WhichOneAllKnow$Shelves", "put", "(IIJ)V"⟩, prog_4_method_7_code, 5, none, kH_put, [354, 352, 353, 79])
def kH_lowestBits_0 : List dmA := [(0, .iload_n 0, 1, 0, 0, 0, 0, []), (1, .tableswitch 41 0 2 #[27, 32, 37], 2, 16, 27, 0, 0, [2, 7, 12]), (28, .lload_n 1, 3, 1, 0, 0, 0, []), (29, .l2i, 4, 0, 0, 0, 0, []), (30, .i2b, 5, 0, 0, 0, 0, []), (31, .i2l, 6, 0, 0, 0, 0, []), (32, .lreturn, 7, 0, 0, 0, 0, []), (33, .lload_n 1, 8, 1, 0, 0, 0, []), (34, .l2i, 9, 0, 0, 0, 0, []), (35, .i2s, 10, 0, 0, 0, 0, []), (36, .i2l, 11, 0, 0, 0, 0, []), (37, .lreturn, 12, 0, 0, 0, 0, []), (38, .lload_n 1, 13, 1, 0, 0, 0, []), (39, .l2i, 14, 0, 0, 0, 0, []), (40, .i2l, 15, 0, 0, 0, 0, []), (41, .lreturn, 16, 0, 0, 0, 0, [])]
def kH_lowestBits_1 : List dmA := [(42, .lload_n 1, 17, 1, 0, 0, 0, []), (43, .lreturn, 18, 0, 0, 0, 0, [])]
def kH_lowestBits : List (List dmA) := [kH_lowestBits_0, kH_lowestBits_1]
def mH_lowestBits : dmM := (⟨"WhichOneAllKnow$Shelves", "lowestBits", "(IJ)J"⟩, prog_4_method_8_code, 3, some (.long), kH_lowestBits, [357, 356, 0, 79])
def kO_copy_0 : List dmA := [(0, .aload_n 0, 1, 0, 0, 0, 0, []), (1, .iload_n 1, 2, 1, 0, 0, 0, []), (2, .iload_n 2, 3, 2, 0, 0, 0, []), (3, .invokevirtual 91, 4, 19, 2, 0, 362, []), (6, .istore 6, 5, 6, 0, 0, 0, []), (8, .iload 6, 6, 6, 0, 0, 0, []), (10, .ifCond .ne 12, 7, 11, 0, 0, 0, []), (13, .iload 5, 8, 5, 0, 0, 0, []), (15, .ifCond .ge 7, 9, 11, 0, 0, 0, []), (18, .bipush (-4), 10, 0, 0, -4, 0, []), (20, .istore 6, 11, 6, 0, 0, 0, []), (22, .iload 6, 12, 6, 0, 0, 0, []), (24, .ifCond .ne 36, 13, 29, 0, 0, 0, []), (27, .aload_n 0, 14, 0, 0, 0, 0, []), (28, .getfield 25, 15, 3, 5, 1, 286, []), (31, .iload_n 1, 16, 1, 0, 0, 0, [])]
def kO_copy_1 : List dmA := [(32, .iload_n 3, 17, 3, 0, 0, 0, []), (33, .iload 5, 18, 5, 0, 0, 0, []), (35, .invokevirtual 95, 19, 20, 3, 0, 366, []), (38, .ifCond .eq 18, 20, 27, 0, 0, 0, []), (41, .aload_n 0, 21, 0, 0, 0, 0, []), (42, .getfield 25, 22, 3, 5, 1, 286, []), (45, .iload_n 2, 23, 2, 0, 0, 0, []), (46, .iload 4, 24, 4, 0, 0, 0, []), (48, .iload 5, 25, 5, 0, 0, 0, []), (50, .invokevirtual 95, 26, 20, 3, 0, 366, []), (53, .ifCond .ne 7, 27, 29, 0, 0, 0, []), (56, .bipush (-5), 28, 0, 0, -5, 0, []), (58, .istore 6, 29, 6, 0, 0, 0, []), (60, .iload 6, 30, 6, 0, 0, 0, []), (62, .ifCond .eq 10, 31, 35, 0, 0, 0, []), (65, .aload_n 0, 32, 0, 0, 0, 0, [])]
def kO_copy_2 : List dmA := [(66, .iload 6, 33, 6, 0, 0, 0, []), (68, .invokevirtual 68, 34, 9, 1, 0, 322, []), (71, .ireturn, 35, 0, 0, 0, 0, []), (72, .aload_n 0, 36, 0, 0, 0, 0, []), (73, .getfield 25, 37, 3, 5, 1, 286, []), (76, .getfield 98, 38, 0, 2, 1, 169, []), (79, .iload_n 1, 39, 1, 0, 0, 0, []), (80, .aaload, 40, 0, 0, 0, 0, []), (81, .iload_n 3, 41, 3, 0, 0, 0, []), (82, .aload_n 0, 42, 0, 0, 0, 0, []), (83, .getfield 25, 43, 3, 5, 1, 286, []), (86, .getfield 98, 44, 0, 2, 1, 169, []), (89, .iload_n 2, 45, 2, 0, 0, 0, []), (90, .aaload, 46, 0, 0, 0, 0, []), (91, .iload 4, 47, 4, 0, 0, 0, []), (93, .iload 5, 48, 5, 0, 0, 0, [])]
def kO_copy_3 : List dmA := [(95, .invokestatic 102, 49, 0, 5, 0, 370, [7]), (98, .iconst 1, 50, 0, 0, 1, 0, []), (99, .ireturn, 51, 0, 0, 0, 0, [])]
def kO_copy : List (List dmA) := [kO_copy_0, kO_copy_1, kO_copy_2, kO_copy_3]
def mO_copy : dmM := (⟨"WhichOneAllKnow", "copy", "(IIIII)I"⟩, prog_1_method_4_code, 7, some (.int), kO_copy, [361, 359, 360, 77])
def kO_noPairOfRows_0 : List dmA := [(0, .aload_n 0, 1, 0, 0, 0, 0, []), (1, .iload_n 1, 2, 1, 0, 0, 0, []), (2, .invokevirtual 80, 3, 13, 1, 0, 337, []), (5, .istore_n 3, 4, 3, 0, 0, 0, []), (6, .aload_n 0, 5, 0, 0, 0, 0, []), (7, .iload_n 2, 6, 2, 0, 0, 0, []), (8, .invokevirtual 80, 7, 13, 1, 0, 337, []), (11, .istore 4, 8, 4, 0, 0, 0, []), (13, .iload_n 3, 9, 3, 0, 0, 0, []), (14, .iconst (-1), 10, 0, 0, -1, 0, []), (15, .if_icmp .eq 9, 11, 14, 0, 0, 0, []), (18, .iload 4, 12, 4, 0, 0, 0, []), (20, .iconst (-1), 13, 0, 0, -1, 0, []), (21, .if_icmp .ne 5, 14, 16, 0, 0, 0, []), (24, .iconst (-1), 15, 0, 0, -1, 0, []), (25, .ireturn, 16, 0, 0, 0, 0, [])]
def kO_noPairOfRows_1 : List dmA := [(26, .iload_n 3, 17, 3, 0, 0, 0, []), (27, .bipush (-2), 18, 0, 0, -2, 0, []), (29, .if_icmp .eq 10, 19, 22, 0, 0, 0, []), (32, .iload 4, 20, 4, 0, 0, 0, []), (34, .bipush (-2), 21, 0, 0, -2, 0, []), (36, .if_icmp .ne 6, 22, 24, 0, 0, 0, []), (39, .bipush (-2), 23, 0, 0, -2, 0, []), (41, .ireturn, 24, 0, 0, 0, 0, []), (42, .iload_n 3, 25, 3, 0, 0, 0, []), (43, .bipush (-3), 26, 0, 0, -3, 0, []), (45, .if_icmp .eq 10, 27, 30, 0, 0, 0, []), (48, .iload 4, 28, 4, 0, 0, 0, []), (50, .bipush (-3), 29, 0, 0, -3, 0, []), (52, .if_icmp .ne 6, 30, 32, 0, 0, 0, []), (55, .bipush (-3), 31, 0, 0, -3, 0, []), (57, .ireturn, 32, 0, 0, 0, 0, [])]
def kO_noPairOfRows_2 : List dmA := [(58, .aload_n 0, 33, 0, 0, 0, 0, []), (59, .getfield 25, 34, 3, 5, 1, 286, []), (62, .getfield 111, 35, 2, 2, 1, 173, []), (65, .iload_n 1, 36, 1, 0, 0, 0, []), (66, .iaload, 37, 0, 0, 0, 0, []), (67, .aload_n 0, 38, 0, 0, 0, 0, []), (68, .getfield 25, 39, 3, 5, 1, 286, []), (71, .getfield 111, 40, 2, 2, 1, 173, []), (74, .iload_n 2, 41, 2, 0, 0, 0, []), (75, .iaload, 42, 0, 0, 0, 0, []), (76, .if_icmp .ne 7, 43, 45, 0, 0, 0, []), (79, .iconst 0, 44, 0, 0, 0, 0, []), (80, .goto 5, 45, 46, 0, 0, 0, []), (83, .bipush (-2), 46, 0, 0, -2, 0, []), (85, .ireturn, 47, 0, 0, 0, 0, [])]
def kO_noPairOfRows : List (List dmA) := [kO_noPairOfRows_0, kO_noPairOfRows_1, kO_noPairOfRows_2]
def mO_noPairOfRows : dmM := (⟨"WhichOneAllKnow", "noPairOfRows", "(II)I"⟩, prog_1_method_45_code, 5, some (.int), kO_noPairOfRows, [365, 364, 2, 77])
def kH_hasPart_0 : List dmA := [(0, .aload_n 0, 1, 0, 0, 0, 0, []), (1, .iload_n 1, 2, 1, 0, 0, 0, []), (2, .invokevirtual 27, 3, 14, 1, 0, 350, []), (5, .ifCond .eq 37, 4, 24, 0, 0, 0, []), (8, .iload_n 2, 5, 2, 0, 0, 0, []), (9, .ifCond .lt 33, 6, 24, 0, 0, 0, []), (12, .iload_n 2, 7, 2, 0, 0, 0, []), (13, .aload_n 0, 8, 0, 0, 0, 0, []), (14, .getfield 16, 9, 1, 2, 1, 170, []), (17, .iload_n 1, 10, 1, 0, 0, 0, []), (18, .iaload, 11, 0, 0, 0, 0, []), (19, .if_icmp .gt 23, 12, 24, 0, 0, 0, []), (22, .iload_n 3, 13, 3, 0, 0, 0, []), (23, .ifCond .lt 19, 14, 24, 0, 0, 0, []), (26, .iload_n 3, 15, 3, 0, 0, 0, []), (27, .aload_n 0, 16, 0, 0, 0, 0, [])]
def kH_hasPart_1 : List dmA := [(28, .getfield 16, 17, 1, 2, 1, 170, []), (31, .iload_n 1, 18, 1, 0, 0, 0, []), (32, .iaload, 19, 0, 0, 0, 0, []), (33, .iload_n 2, 20, 2, 0, 0, 0, []), (34, .isub, 21, 0, 0, 0, 0, []), (35, .if_icmp .gt 7, 22, 24, 0, 0, 0, []), (38, .iconst 1, 23, 0, 0, 1, 0, []), (39, .goto 4, 24, 25, 0, 0, 0, []), (42, .iconst 0, 25, 0, 0, 0, 0, []), (43, .ireturn, 26, 0, 0, 0, 0, [])]
def kH_hasPart : List (List dmA) := [kH_hasPart_0, kH_hasPart_1]
def mH_hasPart : dmM := (⟨"WhichOneAllKnow$Shelves", "hasPart", "(III)Z"⟩, prog_4_method_5_code, 4, some (.boolean), kH_hasPart, [369, 367, 368, 79])
def kO_element_0 : List dmA := [(0, .aload_n 0, 1, 0, 0, 0, 0, []), (1, .getfield 25, 2, 3, 5, 1, 286, []), (4, .iload_n 1, 3, 1, 0, 0, 0, []), (5, .iload_n 2, 4, 2, 0, 0, 0, []), (6, .invokevirtual 83, 5, 15, 2, 0, 346, []), (9, .ifCond .eq 17, 6, 14, 0, 0, 0, []), (12, .aload_n 0, 7, 0, 0, 0, 0, []), (13, .getfield 25, 8, 3, 5, 1, 286, []), (16, .getfield 98, 9, 0, 2, 1, 169, []), (19, .iload_n 1, 10, 1, 0, 0, 0, []), (20, .aaload, 11, 0, 0, 0, 0, []), (21, .iload_n 2, 12, 2, 0, 0, 0, []), (22, .laload, 13, 0, 0, 0, 0, []), (23, .goto 4, 14, 15, 0, 0, 0, []), (26, .lconst 0, 15, 0, 0, 0, 0, []), (27, .lreturn, 16, 0, 0, 0, 0, [])]
def kO_element : List (List dmA) := [kO_element_0]
def mO_element : dmM := (⟨"WhichOneAllKnow", "element", "(II)J"⟩, prog_1_method_5_code, 3, some (.long), kO_element, [376, 374, 375, 77])
def kO_show_0 : List dmA := [(0, .aload_n 0, 1, 0, 0, 0, 0, []), (1, .getfield 25, 2, 3, 5, 1, 286, []), (4, .iload_n 1, 3, 1, 0, 0, 0, []), (5, .invokevirtual 64, 4, 8, 1, 0, 318, []), (8, .ifCond .eq 19, 5, 13, 0, 0, 0, []), (11, .iload_n 2, 6, 2, 0, 0, 0, []), (12, .iconst (-1), 7, 0, 0, -1, 0, []), (13, .if_icmp .eq 20, 8, 17, 0, 0, 0, []), (16, .aload_n 0, 9, 0, 0, 0, 0, []), (17, .getfield 10, 10, 0, 5, 1, 283, []), (20, .iload_n 2, 11, 2, 0, 0, 0, []), (21, .invokevirtual 108, 12, 23, 1, 0, 381, []), (24, .ifCond .ne 9, 13, 17, 0, 0, 0, []), (27, .aload_n 0, 14, 0, 0, 0, 0, []), (28, .iconst (-1), 15, 0, 0, -1, 0, []), (29, .invokevirtual 68, 16, 9, 1, 0, 322, [])]
def kO_show_1 : List dmA := [(32, .ireturn, 17, 0, 0, 0, 0, []), (33, .aload_n 0, 18, 0, 0, 0, 0, []), (34, .getfield 25, 19, 3, 5, 1, 286, []), (37, .getfield 111, 20, 2, 2, 1, 173, []), (40, .iload_n 1, 21, 1, 0, 0, 0, []), (41, .iload_n 2, 22, 2, 0, 0, 0, []), (42, .iastore, 23, 0, 0, 0, 0, []), (43, .iload_n 2, 24, 2, 0, 0, 0, []), (44, .iconst (-1), 25, 0, 0, -1, 0, []), (45, .if_icmp .ne 7, 26, 28, 0, 0, 0, []), (48, .iconst 0, 27, 0, 0, 0, 0, []), (49, .goto 4, 28, 29, 0, 0, 0, []), (52, .iconst 1, 29, 0, 0, 1, 0, []), (53, .ireturn, 30, 0, 0, 0, 0, [])]
def kO_show : List (List dmA) := [kO_show_0, kO_show_1]
def mO_show : dmM := (⟨"WhichOneAllKnow", "show", "(II)I"⟩, prog_1_method_6_code, 3, some (.int), kO_show, [380, 378, 379, 77])
def kC_hasVoice_0 : List dmA := [(0, .iload_n 1, 1, 1, 0, 0, 0, []), (1, .ifCond .lt 15, 2, 8, 0, 0, 0, []), (4, .iload_n 1, 3, 1, 0, 0, 0, []), (5, .aload_n 0, 4, 0, 0, 0, 0, []), (6, .getfield 33, 5, 7, 0, 0, 122, []), (9, .if_icmp .ge 7, 6, 8, 0, 0, 0, []), (12, .iconst 1, 7, 0, 0, 1, 0, []), (13, .goto 4, 8, 9, 0, 0, 0, []), (16, .iconst 0, 9, 0, 0, 0, 0, []), (17, .ireturn, 10, 0, 0, 0, 0, [])]
def kC_hasVoice : List (List dmA) := [kC_hasVoice_0]
def mC_hasVoice : dmM := (⟨"WhichOneAllKnow$Church", "hasVoice", "(I)Z"⟩, prog_2_method_3_code, 2, some (.boolean), kC_hasVoice, [384, 382, 383, 78])
def kO_holds_0 : List dmA := [(0, .aload_n 0, 1, 0, 0, 0, 0, []), (1, .getfield 25, 2, 3, 5, 1, 286, []), (4, .iload_n 1, 3, 1, 0, 0, 0, []), (5, .invokevirtual 64, 4, 8, 1, 0, 318, []), (8, .ifCond .eq 15, 5, 11, 0, 0, 0, []), (11, .aload_n 0, 6, 0, 0, 0, 0, []), (12, .getfield 25, 7, 3, 5, 1, 286, []), (15, .getfield 111, 8, 2, 2, 1, 173, []), (18, .iload_n 1, 9, 1, 0, 0, 0, []), (19, .iaload, 10, 0, 0, 0, 0, []), (20, .goto 4, 11, 12, 0, 0, 0, []), (23, .iconst (-1), 12, 0, 0, -1, 0, []), (24, .ireturn, 13, 0, 0, 0, 0, [])]
def kO_holds : List (List dmA) := [kO_holds_0]
def mO_holds : dmM := (⟨"WhichOneAllKnow", "holds", "(I)I"⟩, prog_1_method_7_code, 2, some (.int), kO_holds, [388, 386, 387, 77])
def kO_says_0 : List dmA := [(0, .aload_n 0, 1, 0, 0, 0, 0, []), (1, .getfield 25, 2, 3, 5, 1, 286, []), (4, .iload_n 1, 3, 1, 0, 0, 0, []), (5, .invokevirtual 64, 4, 8, 1, 0, 318, []), (8, .ifCond .eq 10, 5, 8, 0, 0, 0, []), (11, .iload_n 2, 6, 2, 0, 0, 0, []), (12, .invokestatic 114, 7, 26, 1, 0, 393, [1]), (15, .ifCond .ne 9, 8, 12, 0, 0, 0, []), (18, .aload_n 0, 9, 0, 0, 0, 0, []), (19, .iconst (-1), 10, 0, 0, -1, 0, []), (20, .invokevirtual 68, 11, 9, 1, 0, 322, []), (23, .ireturn, 12, 0, 0, 0, 0, []), (24, .aload_n 0, 13, 0, 0, 0, 0, []), (25, .getfield 25, 14, 3, 5, 1, 286, []), (28, .getfield 111, 15, 2, 2, 1, 173, []), (31, .iload_n 1, 16, 1, 0, 0, 0, [])]
def kO_says_1 : List dmA := [(32, .iaload, 17, 0, 0, 0, 0, []), (33, .istore_n 3, 18, 3, 0, 0, 0, []), (34, .iload_n 3, 19, 3, 0, 0, 0, []), (35, .iconst (-1), 20, 0, 0, -1, 0, []), (36, .if_icmp .ne 10, 21, 25, 0, 0, 0, []), (39, .aload_n 0, 22, 0, 0, 0, 0, []), (40, .bipush (-3), 23, 0, 0, -3, 0, []), (42, .invokevirtual 68, 24, 9, 1, 0, 322, []), (45, .ireturn, 25, 0, 0, 0, 0, []), (46, .aload_n 0, 26, 0, 0, 0, 0, []), (47, .getfield 10, 27, 0, 5, 1, 283, []), (50, .iload_n 3, 28, 3, 0, 0, 0, []), (51, .invokevirtual 108, 29, 23, 1, 0, 381, []), (54, .ifCond .eq 19, 30, 38, 0, 0, 0, []), (57, .aload_n 0, 31, 0, 0, 0, 0, []), (58, .getfield 10, 32, 0, 5, 1, 283, [])]
def kO_says_2 : List dmA := [(61, .getfield 117, 33, 0, 0, 1, 107, []), (64, .iload_n 3, 34, 3, 0, 0, 0, []), (65, .iaload, 35, 0, 0, 0, 0, []), (66, .iload_n 2, 36, 2, 0, 0, 0, []), (67, .invokestatic 120, 37, 27, 2, 0, 398, [1]), (70, .ifCond .ne 10, 38, 42, 0, 0, 0, []), (73, .aload_n 0, 39, 0, 0, 0, 0, []), (74, .bipush (-2), 40, 0, 0, -2, 0, []), (76, .invokevirtual 68, 41, 9, 1, 0, 322, []), (79, .ireturn, 42, 0, 0, 0, 0, []), (80, .iload_n 2, 43, 2, 0, 0, 0, []), (81, .tableswitch 72 1 6 #[39, 49, 39, 59, 49, 59], 44, 63, 39, 0, 0, [44, 50, 44, 56, 50, 56]), (120, .aload_n 0, 45, 0, 0, 0, 0, []), (121, .getfield 10, 46, 0, 5, 1, 283, []), (124, .getfield 123, 47, 4, 0, 1, 117, []), (127, .iload_n 3, 48, 3, 0, 0, 0, [])]
def kO_says_3 : List dmA := [(128, .iaload, 49, 0, 0, 0, 0, []), (129, .ireturn, 50, 0, 0, 0, 0, []), (130, .aload_n 0, 51, 0, 0, 0, 0, []), (131, .getfield 10, 52, 0, 5, 1, 283, []), (134, .getfield 126, 53, 1, 0, 1, 109, []), (137, .iload_n 3, 54, 3, 0, 0, 0, []), (138, .iaload, 55, 0, 0, 0, 0, []), (139, .ireturn, 56, 0, 0, 0, 0, []), (140, .aload_n 0, 57, 0, 0, 0, 0, []), (141, .getfield 10, 58, 0, 5, 1, 283, []), (144, .getfield 129, 59, 5, 0, 1, 119, []), (147, .iload_n 3, 60, 3, 0, 0, 0, []), (148, .iaload, 61, 0, 0, 0, 0, []), (149, .invokestatic 132, 62, 28, 1, 0, 401, [1]), (152, .ireturn, 63, 0, 0, 0, 0, []), (153, .aload_n 0, 64, 0, 0, 0, 0, [])]
def kO_says_4 : List dmA := [(154, .getfield 10, 65, 0, 5, 1, 283, []), (157, .getfield 137, 66, 2, 0, 1, 112, []), (160, .iload_n 3, 67, 3, 0, 0, 0, []), (161, .iaload, 68, 0, 0, 0, 0, []), (162, .ireturn, 69, 0, 0, 0, 0, [])]
def kO_says : List (List dmA) := [kO_says_0, kO_says_1, kO_says_2, kO_says_3, kO_says_4]
def mO_says : dmM := (⟨"WhichOneAllKnow", "says", "(II)I"⟩, prog_1_method_8_code, 4, some (.int), kO_says, [392, 390, 391, 77])
def kO_isKind_0 : List dmA := [(0, .iload_n 0, 1, 0, 0, 0, 0, []), (1, .ifCond .lt 15, 2, 8, 0, 0, 0, []), (4, .iload_n 0, 3, 0, 0, 0, 0, []), (5, .getstatic 313, 4, 0, 0, 0, 396, []), (8, .arraylength, 5, 0, 0, 0, 0, []), (9, .if_icmp .ge 7, 6, 8, 0, 0, 0, []), (12, .iconst 1, 7, 0, 0, 1, 0, []), (13, .goto 4, 8, 9, 0, 0, 0, []), (16, .iconst 0, 9, 0, 0, 0, 0, []), (17, .ireturn, 10, 0, 0, 0, 0, [])]
def kO_isKind : List (List dmA) := [kO_isKind_0]
def mO_isKind : dmM := (⟨"WhichOneAllKnow", "isKind", "(I)Z"⟩, prog_1_method_48_code, 1, some (.boolean), kO_isKind, [395, 394, 0, 77])
def kO_isOrIsUnder_0 : List dmA := [(0, .iload_n 0, 1, 0, 0, 0, 0, []), (1, .istore_n 2, 2, 2, 0, 0, 0, []), (2, .iconst 0, 3, 0, 0, 0, 0, []), (3, .istore_n 3, 4, 3, 0, 0, 0, []), (4, .iload_n 3, 5, 3, 0, 0, 0, []), (5, .getstatic 313, 6, 0, 0, 0, 396, []), (8, .arraylength, 7, 0, 0, 0, 0, []), (9, .if_icmp .ge 29, 8, 22, 0, 0, 0, []), (12, .iload_n 2, 9, 2, 0, 0, 0, []), (13, .invokestatic 114, 10, 26, 1, 0, 393, [1]), (16, .ifCond .eq 22, 11, 22, 0, 0, 0, []), (19, .iload_n 2, 12, 2, 0, 0, 0, []), (20, .iload_n 1, 13, 1, 0, 0, 0, []), (21, .if_icmp .ne 5, 14, 16, 0, 0, 0, []), (24, .iconst 1, 15, 0, 0, 1, 0, []), (25, .ireturn, 16, 0, 0, 0, 0, [])]
def kO_isOrIsUnder_1 : List dmA := [(26, .getstatic 313, 17, 0, 0, 0, 396, []), (29, .iload_n 2, 18, 2, 0, 0, 0, []), (30, .iaload, 19, 0, 0, 0, 0, []), (31, .istore_n 2, 20, 2, 0, 0, 0, []), (32, .iinc 3 1, 21, 3, 0, 1, 0, []), (35, .goto (-31), 22, 4, 0, 0, 0, []), (38, .iconst 0, 23, 0, 0, 0, 0, []), (39, .ireturn, 24, 0, 0, 0, 0, [])]
def kO_isOrIsUnder : List (List dmA) := [kO_isOrIsUnder_0, kO_isOrIsUnder_1]
def mO_isOrIsUnder : dmM := (⟨"WhichOneAllKnow", "isOrIsUnder", "(II)Z"⟩, prog_1_method_51_code, 4, some (.boolean), kO_isOrIsUnder, [400, 399, 0, 77])
def kJ_bitCount_0 : List dmA := [(0, .iload_n 0, 1, 0, 0, 0, 0, []), (1, .iload_n 0, 2, 0, 0, 0, 0, []), (2, .iconst 1, 3, 0, 0, 1, 0, []), (3, .iushr, 4, 0, 0, 0, 0, []), (4, .ldc_w 265, 5, 0, 0, 1431655765, 404, []), (7, .iand, 6, 0, 0, 0, 0, []), (8, .isub, 7, 0, 0, 0, 0, []), (9, .istore_n 0, 8, 0, 0, 0, 0, []), (10, .iload_n 0, 9, 0, 0, 0, 0, []), (11, .ldc_w 266, 10, 0, 0, 858993459, 405, []), (14, .iand, 11, 0, 0, 0, 0, []), (15, .iload_n 0, 12, 0, 0, 0, 0, []), (16, .iconst 2, 13, 0, 0, 2, 0, []), (17, .iushr, 14, 0, 0, 0, 0, []), (18, .ldc_w 266, 15, 0, 0, 858993459, 405, []), (21, .iand, 16, 0, 0, 0, 0, [])]
def kJ_bitCount_1 : List dmA := [(22, .iadd, 17, 0, 0, 0, 0, []), (23, .istore_n 0, 18, 0, 0, 0, 0, []), (24, .iload_n 0, 19, 0, 0, 0, 0, []), (25, .iload_n 0, 20, 0, 0, 0, 0, []), (26, .iconst 4, 21, 0, 0, 4, 0, []), (27, .iushr, 22, 0, 0, 0, 0, []), (28, .iadd, 23, 0, 0, 0, 0, []), (29, .ldc_w 267, 24, 0, 0, 252645135, 406, []), (32, .iand, 25, 0, 0, 0, 0, []), (33, .istore_n 0, 26, 0, 0, 0, 0, []), (34, .iload_n 0, 27, 0, 0, 0, 0, []), (35, .iload_n 0, 28, 0, 0, 0, 0, []), (36, .bipush 8, 29, 0, 0, 8, 0, []), (38, .iushr, 30, 0, 0, 0, 0, []), (39, .iadd, 31, 0, 0, 0, 0, []), (40, .istore_n 0, 32, 0, 0, 0, 0, [])]
def kJ_bitCount_2 : List dmA := [(41, .iload_n 0, 33, 0, 0, 0, 0, []), (42, .iload_n 0, 34, 0, 0, 0, 0, []), (43, .bipush 16, 35, 0, 0, 16, 0, []), (45, .iushr, 36, 0, 0, 0, 0, []), (46, .iadd, 37, 0, 0, 0, 0, []), (47, .istore_n 0, 38, 0, 0, 0, 0, []), (48, .iload_n 0, 39, 0, 0, 0, 0, []), (49, .bipush 63, 40, 0, 0, 63, 0, []), (51, .iand, 41, 0, 0, 0, 0, []), (52, .ireturn, 42, 0, 0, 0, 0, [])]
def kJ_bitCount : List (List dmA) := [kJ_bitCount_0, kJ_bitCount_1, kJ_bitCount_2]
def mJ_bitCount : dmM := (⟨"java/lang/Integer", "bitCount", "(I)I"⟩, prog_9_method_49_code, 1, some (.int), kJ_bitCount, [403, 402, 0, 86])
def kO_tune_0 : List dmA := [(0, .iload_n 1, 1, 1, 0, 0, 0, []), (1, .iconst 0, 2, 0, 0, 0, 0, []), (2, .bipush 11, 3, 0, 0, 11, 0, []), (4, .invokestatic 72, 4, 10, 3, 0, 326, [1]), (7, .ifCond .ne 10, 5, 9, 0, 0, 0, []), (10, .aload_n 0, 6, 0, 0, 0, 0, []), (11, .bipush (-6), 7, 0, 0, -6, 0, []), (13, .invokevirtual 68, 8, 9, 1, 0, 322, []), (16, .ireturn, 9, 0, 0, 0, 0, []), (17, .aload_n 0, 10, 0, 0, 0, 0, []), (18, .getfield 10, 11, 0, 5, 1, 283, []), (21, .invokevirtual 140, 12, 30, 0, 0, 411, []), (24, .ifCond .eq 14, 13, 18, 0, 0, 0, []), (27, .aload_n 0, 14, 0, 0, 0, 0, []), (28, .getfield 10, 15, 0, 5, 1, 283, []), (31, .iload_n 1, 16, 1, 0, 0, 0, [])]
def kO_tune_1 : List dmA := [(32, .invokevirtual 144, 17, 31, 1, 0, 415, []), (35, .goto 9, 18, 21, 0, 0, 0, []), (38, .aload_n 0, 19, 0, 0, 0, 0, []), (39, .bipush (-7), 20, 0, 0, -7, 0, []), (41, .invokevirtual 68, 21, 9, 1, 0, 322, []), (44, .ireturn, 22, 0, 0, 0, 0, [])]
def kO_tune : List (List dmA) := [kO_tune_0, kO_tune_1]
def mO_tune : dmM := (⟨"WhichOneAllKnow", "tune", "(I)I"⟩, prog_1_method_9_code, 2, some (.int), kO_tune, [410, 408, 409, 77])
def kC_hasRoomForTune_0 : List dmA := [(0, .aload_n 0, 1, 0, 0, 0, 0, []), (1, .getfield 37, 2, 8, 0, 0, 125, []), (4, .bipush 6, 3, 0, 0, 6, 0, []), (6, .if_icmp .ge 7, 4, 6, 0, 0, 0, []), (9, .iconst 1, 5, 0, 0, 1, 0, []), (10, .goto 4, 6, 7, 0, 0, 0, []), (13, .iconst 0, 7, 0, 0, 0, 0, []), (14, .ireturn, 8, 0, 0, 0, 0, [])]
def kC_hasRoomForTune : List (List dmA) := [kC_hasRoomForTune_0]
def mC_hasRoomForTune : dmM := (⟨"WhichOneAllKnow$Church", "hasRoomForTune", "()Z"⟩, prog_2_method_6_code, 1, some (.boolean), kC_hasRoomForTune, [414, 412, 413, 78])
def kC_addTune_0 : List dmA := [(0, .aload_n 0, 1, 0, 0, 0, 0, []), (1, .getfield 37, 2, 8, 0, 0, 125, []), (4, .aload_n 0, 3, 0, 0, 0, 0, []), (5, .getfield 30, 4, 6, 0, 1, 120, []), (8, .arraylength, 5, 0, 0, 0, 0, []), (9, .if_icmp .lt 5, 6, 8, 0, 0, 0, []), (12, .iconst (-1), 7, 0, 0, -1, 0, []), (13, .ireturn, 8, 0, 0, 0, 0, []), (14, .aload_n 0, 9, 0, 0, 0, 0, []), (15, .getfield 30, 10, 6, 0, 1, 120, []), (18, .aload_n 0, 11, 0, 0, 0, 0, []), (19, .getfield 37, 12, 8, 0, 0, 125, []), (22, .iload_n 1, 13, 1, 0, 0, 0, []), (23, .iastore, 14, 0, 0, 0, 0, []), (24, .aload_n 0, 15, 0, 0, 0, 0, []), (25, .dup, 16, 0, 0, 0, 0, [])]
def kC_addTune_1 : List dmA := [(26, .getfield 37, 17, 8, 0, 0, 125, []), (29, .iconst 1, 18, 0, 0, 1, 0, []), (30, .iadd, 19, 0, 0, 0, 0, []), (31, .putfield 37, 20, 8, 0, 0, 125, []), (34, .aload_n 0, 21, 0, 0, 0, 0, []), (35, .getfield 37, 22, 8, 0, 0, 125, []), (38, .iconst 1, 23, 0, 0, 1, 0, []), (39, .isub, 24, 0, 0, 0, 0, []), (40, .ireturn, 25, 0, 0, 0, 0, [])]
def kC_addTune : List (List dmA) := [kC_addTune_0, kC_addTune_1]
def mC_addTune : dmM := (⟨"WhichOneAllKnow$Church", "addTune", "(I)I"⟩, prog_2_method_8_code, 2, some (.int), kC_addTune, [418, 416, 417, 78])
def kO_voice_0 : List dmA := [(0, .iload_n 1, 1, 1, 0, 0, 0, []), (1, .invokestatic 114, 2, 26, 1, 0, 393, [1]), (4, .ifCond .ne 9, 3, 7, 0, 0, 0, []), (7, .aload_n 0, 4, 0, 0, 0, 0, []), (8, .iconst (-1), 5, 0, 0, -1, 0, []), (9, .invokevirtual 68, 6, 9, 1, 0, 322, []), (12, .ireturn, 7, 0, 0, 0, 0, []), (13, .iload_n 2, 8, 2, 0, 0, 0, []), (14, .iconst 0, 9, 0, 0, 0, 0, []), (15, .bipush 9, 10, 0, 0, 9, 0, []), (17, .invokestatic 72, 11, 10, 3, 0, 326, [1]), (20, .ifCond .eq 35, 12, 27, 0, 0, 0, []), (23, .aload_n 0, 13, 0, 0, 0, 0, []), (24, .getfield 10, 14, 0, 5, 1, 283, []), (27, .iload_n 3, 15, 3, 0, 0, 0, []), (28, .invokevirtual 147, 16, 33, 1, 0, 423, [])]
def kO_voice_1 : List dmA := [(31, .ifCond .eq 24, 17, 27, 0, 0, 0, []), (34, .iload 4, 18, 4, 0, 0, 0, []), (36, .iconst 0, 19, 0, 0, 0, 0, []), (37, .iconst 5, 20, 0, 0, 5, 0, []), (38, .invokestatic 72, 21, 10, 3, 0, 326, [1]), (41, .ifCond .eq 14, 22, 27, 0, 0, 0, []), (44, .iload 5, 23, 5, 0, 0, 0, []), (46, .iconst 0, 24, 0, 0, 0, 0, []), (47, .bipush 11, 25, 0, 0, 11, 0, []), (49, .invokestatic 72, 26, 10, 3, 0, 326, [1]), (52, .ifCond .ne 10, 27, 31, 0, 0, 0, []), (55, .aload_n 0, 28, 0, 0, 0, 0, []), (56, .bipush (-6), 29, 0, 0, -6, 0, []), (58, .invokevirtual 68, 30, 9, 1, 0, 322, []), (61, .ireturn, 31, 0, 0, 0, 0, []), (62, .aload_n 0, 32, 0, 0, 0, 0, [])]
def kO_voice_2 : List dmA := [(63, .getfield 10, 33, 0, 5, 1, 283, []), (66, .invokevirtual 150, 34, 34, 0, 0, 427, []), (69, .ifCond .eq 20, 35, 44, 0, 0, 0, []), (72, .aload_n 0, 36, 0, 0, 0, 0, []), (73, .getfield 10, 37, 0, 5, 1, 283, []), (76, .iload_n 1, 38, 1, 0, 0, 0, []), (77, .iload_n 2, 39, 2, 0, 0, 0, []), (78, .iload_n 3, 40, 3, 0, 0, 0, []), (79, .iload 4, 41, 4, 0, 0, 0, []), (81, .iload 5, 42, 5, 0, 0, 0, []), (83, .invokevirtual 153, 43, 35, 5, 0, 431, []), (86, .goto 9, 44, 47, 0, 0, 0, []), (89, .aload_n 0, 45, 0, 0, 0, 0, []), (90, .bipush (-7), 46, 0, 0, -7, 0, []), (92, .invokevirtual 68, 47, 9, 1, 0, 322, []), (95, .ireturn, 48, 0, 0, 0, 0, [])]
def kO_voice : List (List dmA) := [kO_voice_0, kO_voice_1, kO_voice_2]
def mO_voice : dmM := (⟨"WhichOneAllKnow", "voice", "(IIIII)I"⟩, prog_1_method_10_code, 6, some (.int), kO_voice, [422, 420, 421, 77])
def kC_isFree_0 : List dmA := [(0, .iconst 0, 1, 0, 0, 0, 0, []), (1, .istore_n 2, 2, 2, 0, 0, 0, []), (2, .iload_n 2, 3, 2, 0, 0, 0, []), (3, .aload_n 0, 4, 0, 0, 0, 0, []), (4, .getfield 33, 5, 7, 0, 0, 122, []), (7, .if_icmp .ge 21, 6, 16, 0, 0, 0, []), (10, .aload_n 0, 7, 0, 0, 0, 0, []), (11, .getfield 18, 8, 2, 0, 1, 110, []), (14, .iload_n 2, 9, 2, 0, 0, 0, []), (15, .iaload, 10, 0, 0, 0, 0, []), (16, .iload_n 1, 11, 1, 0, 0, 0, []), (17, .if_icmp .ne 5, 12, 14, 0, 0, 0, []), (20, .iconst 0, 13, 0, 0, 0, 0, []), (21, .ireturn, 14, 0, 0, 0, 0, []), (22, .iinc 2 1, 15, 2, 0, 1, 0, []), (25, .goto (-23), 16, 2, 0, 0, 0, [])]
def kC_isFree_1 : List dmA := [(28, .iload_n 1, 17, 1, 0, 0, 0, []), (29, .ifCond .lt 13, 18, 23, 0, 0, 0, []), (32, .iload_n 1, 19, 1, 0, 0, 0, []), (33, .bipush 24, 20, 0, 0, 24, 0, []), (35, .if_icmp .ge 7, 21, 23, 0, 0, 0, []), (38, .iconst 1, 22, 0, 0, 1, 0, []), (39, .goto 4, 23, 24, 0, 0, 0, []), (42, .iconst 0, 24, 0, 0, 0, 0, []), (43, .ireturn, 25, 0, 0, 0, 0, [])]
def kC_isFree : List (List dmA) := [kC_isFree_0, kC_isFree_1]
def mC_isFree : dmM := (⟨"WhichOneAllKnow$Church", "isFree", "(I)Z"⟩, prog_2_method_7_code, 3, some (.boolean), kC_isFree, [426, 424, 425, 78])
def kC_hasRoomForVoice_0 : List dmA := [(0, .aload_n 0, 1, 0, 0, 0, 0, []), (1, .getfield 33, 2, 7, 0, 0, 122, []), (4, .bipush 12, 3, 0, 0, 12, 0, []), (6, .if_icmp .ge 7, 4, 6, 0, 0, 0, []), (9, .iconst 1, 5, 0, 0, 1, 0, []), (10, .goto 4, 6, 7, 0, 0, 0, []), (13, .iconst 0, 7, 0, 0, 0, 0, []), (14, .ireturn, 8, 0, 0, 0, 0, [])]
def kC_hasRoomForVoice : List (List dmA) := [kC_hasRoomForVoice_0]
def mC_hasRoomForVoice : dmM := (⟨"WhichOneAllKnow$Church", "hasRoomForVoice", "()Z"⟩, prog_2_method_5_code, 1, some (.boolean), kC_hasRoomForVoice, [430, 428, 429, 78])
def kC_addVoice_0 : List dmA := [(0, .aload_n 0, 1, 0, 0, 0, 0, []), (1, .getfield 33, 2, 7, 0, 0, 122, []), (4, .aload_n 0, 3, 0, 0, 0, 0, []), (5, .getfield 11, 4, 0, 0, 1, 105, []), (8, .arraylength, 5, 0, 0, 0, 0, []), (9, .if_icmp .lt 5, 6, 8, 0, 0, 0, []), (12, .iconst (-1), 7, 0, 0, -1, 0, []), (13, .ireturn, 8, 0, 0, 0, 0, []), (14, .aload_n 0, 9, 0, 0, 0, 0, []), (15, .getfield 11, 10, 0, 0, 1, 105, []), (18, .aload_n 0, 11, 0, 0, 0, 0, []), (19, .getfield 33, 12, 7, 0, 0, 122, []), (22, .iload_n 1, 13, 1, 0, 0, 0, []), (23, .iastore, 14, 0, 0, 0, 0, []), (24, .aload_n 0, 15, 0, 0, 0, 0, []), (25, .getfield 15, 16, 1, 0, 1, 108, [])]
def kC_addVoice_1 : List dmA := [(28, .aload_n 0, 17, 0, 0, 0, 0, []), (29, .getfield 33, 18, 7, 0, 0, 122, []), (32, .iload_n 2, 19, 2, 0, 0, 0, []), (33, .iastore, 20, 0, 0, 0, 0, []), (34, .aload_n 0, 21, 0, 0, 0, 0, []), (35, .getfield 18, 22, 2, 0, 1, 110, []), (38, .aload_n 0, 23, 0, 0, 0, 0, []), (39, .getfield 33, 24, 7, 0, 0, 122, []), (42, .iload_n 3, 25, 3, 0, 0, 0, []), (43, .iastore, 26, 0, 0, 0, 0, []), (44, .aload_n 0, 27, 0, 0, 0, 0, []), (45, .getfield 21, 28, 3, 0, 1, 114, []), (48, .aload_n 0, 29, 0, 0, 0, 0, []), (49, .getfield 33, 30, 7, 0, 0, 122, []), (52, .iload 4, 31, 4, 0, 0, 0, []), (54, .iastore, 32, 0, 0, 0, 0, [])]
def kC_addVoice_2 : List dmA := [(55, .aload_n 0, 33, 0, 0, 0, 0, []), (56, .getfield 24, 34, 4, 0, 1, 116, []), (59, .aload_n 0, 35, 0, 0, 0, 0, []), (60, .getfield 33, 36, 7, 0, 0, 122, []), (63, .iload 5, 37, 5, 0, 0, 0, []), (65, .iastore, 38, 0, 0, 0, 0, []), (66, .aload_n 0, 39, 0, 0, 0, 0, []), (67, .getfield 27, 40, 5, 0, 1, 118, []), (70, .aload_n 0, 41, 0, 0, 0, 0, []), (71, .getfield 33, 42, 7, 0, 0, 122, []), (74, .iconst 0, 43, 0, 0, 0, 0, []), (75, .iastore, 44, 0, 0, 0, 0, []), (76, .aload_n 0, 45, 0, 0, 0, 0, []), (77, .dup, 46, 0, 0, 0, 0, []), (78, .getfield 33, 47, 7, 0, 0, 122, []), (81, .iconst 1, 48, 0, 0, 1, 0, [])]
def kC_addVoice_3 : List dmA := [(82, .iadd, 49, 0, 0, 0, 0, []), (83, .putfield 33, 50, 7, 0, 0, 122, []), (86, .aload_n 0, 51, 0, 0, 0, 0, []), (87, .getfield 33, 52, 7, 0, 0, 122, []), (90, .iconst 1, 53, 0, 0, 1, 0, []), (91, .isub, 54, 0, 0, 0, 0, []), (92, .ireturn, 55, 0, 0, 0, 0, [])]
def kC_addVoice : List (List dmA) := [kC_addVoice_0, kC_addVoice_1, kC_addVoice_2, kC_addVoice_3]
def mC_addVoice : dmM := (⟨"WhichOneAllKnow$Church", "addVoice", "(IIIII)I"⟩, prog_2_method_9_code, 6, some (.int), kC_addVoice, [434, 432, 433, 78])
def kO_knows_0 : List dmA := [(0, .aload_n 0, 1, 0, 0, 0, 0, []), (1, .getfield 10, 2, 0, 5, 1, 283, []), (4, .iload_n 1, 3, 1, 0, 0, 0, []), (5, .invokevirtual 108, 4, 23, 1, 0, 381, []), (8, .ifCond .eq 14, 5, 10, 0, 0, 0, []), (11, .aload_n 0, 6, 0, 0, 0, 0, []), (12, .getfield 10, 7, 0, 5, 1, 283, []), (15, .iload_n 2, 8, 2, 0, 0, 0, []), (16, .invokevirtual 157, 9, 37, 1, 0, 439, []), (19, .ifCond .ne 9, 10, 14, 0, 0, 0, []), (22, .aload_n 0, 11, 0, 0, 0, 0, []), (23, .iconst (-1), 12, 0, 0, -1, 0, []), (24, .invokevirtual 68, 13, 9, 1, 0, 322, []), (27, .ireturn, 14, 0, 0, 0, 0, []), (28, .aload_n 0, 15, 0, 0, 0, 0, []), (29, .getfield 10, 16, 0, 5, 1, 283, [])]
def kO_knows_1 : List dmA := [(32, .iload_n 1, 17, 1, 0, 0, 0, []), (33, .iload_n 2, 18, 2, 0, 0, 0, []), (34, .invokevirtual 160, 19, 38, 2, 0, 443, []), (37, .istore 4, 20, 4, 0, 0, 0, []), (39, .aload_n 0, 21, 0, 0, 0, 0, []), (40, .getfield 10, 22, 0, 5, 1, 283, []), (43, .iload_n 1, 23, 1, 0, 0, 0, []), (44, .iload_n 2, 24, 2, 0, 0, 0, []), (45, .iload_n 3, 25, 3, 0, 0, 0, []), (46, .invokevirtual 163, 26, 39, 3, 0, 447, []), (49, .iload 4, 27, 4, 0, 0, 0, []), (51, .ifCond .eq 7, 28, 30, 0, 0, 0, []), (54, .iconst 1, 29, 0, 0, 1, 0, []), (55, .goto 4, 30, 31, 0, 0, 0, []), (58, .iconst 0, 31, 0, 0, 0, 0, []), (59, .ireturn, 32, 0, 0, 0, 0, [])]
def kO_knows : List (List dmA) := [kO_knows_0, kO_knows_1]
def mO_knows : dmM := (⟨"WhichOneAllKnow", "knows", "(IIZ)I"⟩, prog_1_method_11_code, 5, some (.int), kO_knows, [438, 436, 437, 77])
def kC_hasTune_0 : List dmA := [(0, .iload_n 1, 1, 1, 0, 0, 0, []), (1, .ifCond .lt 15, 2, 8, 0, 0, 0, []), (4, .iload_n 1, 3, 1, 0, 0, 0, []), (5, .aload_n 0, 4, 0, 0, 0, 0, []), (6, .getfield 37, 5, 8, 0, 0, 125, []), (9, .if_icmp .ge 7, 6, 8, 0, 0, 0, []), (12, .iconst 1, 7, 0, 0, 1, 0, []), (13, .goto 4, 8, 9, 0, 0, 0, []), (16, .iconst 0, 9, 0, 0, 0, 0, []), (17, .ireturn, 10, 0, 0, 0, 0, [])]
def kC_hasTune : List (List dmA) := [kC_hasTune_0]
def mC_hasTune : dmM := (⟨"WhichOneAllKnow$Church", "hasTune", "(I)Z"⟩, prog_2_method_4_code, 2, some (.boolean), kC_hasTune, [442, 440, 441, 78])
def kC_knowsIt_0 : List dmA := [(0, .aload_n 0, 1, 0, 0, 0, 0, []), (1, .getfield 27, 2, 5, 0, 1, 118, []), (4, .iload_n 1, 3, 1, 0, 0, 0, []), (5, .iaload, 4, 0, 0, 0, 0, []), (6, .iload_n 2, 5, 2, 0, 0, 0, []), (7, .ishr, 6, 0, 0, 0, 0, []), (8, .iconst 1, 7, 0, 0, 1, 0, []), (9, .iand, 8, 0, 0, 0, 0, []), (10, .ifCond .eq 7, 9, 11, 0, 0, 0, []), (13, .iconst 1, 10, 0, 0, 1, 0, []), (14, .goto 4, 11, 12, 0, 0, 0, []), (17, .iconst 0, 12, 0, 0, 0, 0, []), (18, .ireturn, 13, 0, 0, 0, 0, [])]
def kC_knowsIt : List (List dmA) := [kC_knowsIt_0]
def mC_knowsIt : dmM := (⟨"WhichOneAllKnow$Church", "knowsIt", "(II)Z"⟩, prog_2_method_12_code, 3, some (.boolean), kC_knowsIt, [446, 444, 445, 78])
def kC_learn_0 : List dmA := [(0, .aload_n 0, 1, 0, 0, 0, 0, []), (1, .getfield 27, 2, 5, 0, 1, 118, []), (4, .iload_n 1, 3, 1, 0, 0, 0, []), (5, .iload_n 3, 4, 3, 0, 0, 0, []), (6, .ifCond .eq 16, 5, 14, 0, 0, 0, []), (9, .aload_n 0, 6, 0, 0, 0, 0, []), (10, .getfield 27, 7, 5, 0, 1, 118, []), (13, .iload_n 1, 8, 1, 0, 0, 0, []), (14, .iaload, 9, 0, 0, 0, 0, []), (15, .iconst 1, 10, 0, 0, 1, 0, []), (16, .iload_n 2, 11, 2, 0, 0, 0, []), (17, .ishl, 12, 0, 0, 0, 0, []), (18, .ior, 13, 0, 0, 0, 0, []), (19, .goto 15, 14, 24, 0, 0, 0, []), (22, .aload_n 0, 15, 0, 0, 0, 0, []), (23, .getfield 27, 16, 5, 0, 1, 118, [])]
def kC_learn_1 : List dmA := [(26, .iload_n 1, 17, 1, 0, 0, 0, []), (27, .iaload, 18, 0, 0, 0, 0, []), (28, .iconst 1, 19, 0, 0, 1, 0, []), (29, .iload_n 2, 20, 2, 0, 0, 0, []), (30, .ishl, 21, 0, 0, 0, 0, []), (31, .iconst (-1), 22, 0, 0, -1, 0, []), (32, .ixor, 23, 0, 0, 0, 0, []), (33, .iand, 24, 0, 0, 0, 0, []), (34, .iastore, 25, 0, 0, 0, 0, []), (35, .return_, 26, 0, 0, 0, 0, [])]
def kC_learn : List (List dmA) := [kC_learn_0, kC_learn_1]
def mC_learn : dmM := (⟨"WhichOneAllKnow$Church", "learn", "(IIZ)V"⟩, prog_2_method_13_code, 4, none, kC_learn, [450, 448, 449, 78])
def kO_move_0 : List dmA := [(0, .aload_n 0, 1, 0, 0, 0, 0, []), (1, .getfield 10, 2, 0, 5, 1, 283, []), (4, .iload_n 1, 3, 1, 0, 0, 0, []), (5, .invokevirtual 108, 4, 23, 1, 0, 381, []), (8, .ifCond .ne 9, 5, 9, 0, 0, 0, []), (11, .aload_n 0, 6, 0, 0, 0, 0, []), (12, .iconst (-1), 7, 0, 0, -1, 0, []), (13, .invokevirtual 68, 8, 9, 1, 0, 322, []), (16, .ireturn, 9, 0, 0, 0, 0, []), (17, .aload_n 0, 10, 0, 0, 0, 0, []), (18, .getfield 10, 11, 0, 5, 1, 283, []), (21, .iload_n 2, 12, 2, 0, 0, 0, []), (22, .invokevirtual 147, 13, 33, 1, 0, 423, []), (25, .ifCond .ne 10, 14, 18, 0, 0, 0, []), (28, .aload_n 0, 15, 0, 0, 0, 0, []), (29, .bipush (-6), 16, 0, 0, -6, 0, [])]
def kO_move_1 : List dmA := [(31, .invokevirtual 68, 17, 9, 1, 0, 322, []), (34, .ireturn, 18, 0, 0, 0, 0, []), (35, .aload_n 0, 19, 0, 0, 0, 0, []), (36, .getfield 10, 20, 0, 5, 1, 283, []), (39, .getfield 137, 21, 2, 0, 1, 112, []), (42, .iload_n 1, 22, 1, 0, 0, 0, []), (43, .iaload, 23, 0, 0, 0, 0, []), (44, .istore_n 3, 24, 3, 0, 0, 0, []), (45, .aload_n 0, 25, 0, 0, 0, 0, []), (46, .getfield 10, 26, 0, 5, 1, 283, []), (49, .getfield 137, 27, 2, 0, 1, 112, []), (52, .iload_n 1, 28, 1, 0, 0, 0, []), (53, .iload_n 2, 29, 2, 0, 0, 0, []), (54, .iastore, 30, 0, 0, 0, 0, []), (55, .iload_n 3, 31, 3, 0, 0, 0, []), (56, .ireturn, 32, 0, 0, 0, 0, [])]
def kO_move : List (List dmA) := [kO_move_0, kO_move_1]
def mO_move : dmM := (⟨"WhichOneAllKnow", "move", "(II)I"⟩, prog_1_method_12_code, 4, some (.int), kO_move, [454, 452, 453, 77])
def kO_ask_0 : List dmA := [(0, .iload_n 1, 1, 1, 0, 0, 0, []), (1, .iconst 0, 2, 0, 0, 0, 0, []), (2, .bipush 9, 3, 0, 0, 9, 0, []), (4, .invokestatic 72, 4, 10, 3, 0, 326, [1]), (7, .ifCond .ne 10, 5, 9, 0, 0, 0, []), (10, .aload_n 0, 6, 0, 0, 0, 0, []), (11, .bipush (-6), 7, 0, 0, -6, 0, []), (13, .invokevirtual 68, 8, 9, 1, 0, 322, []), (16, .ireturn, 9, 0, 0, 0, 0, []), (17, .aload_n 0, 10, 0, 0, 0, 0, []), (18, .getfield 10, 11, 0, 5, 1, 283, []), (21, .getfield 167, 12, 9, 0, 0, 128, []), (24, .istore_n 2, 13, 2, 0, 0, 0, []), (25, .aload_n 0, 14, 0, 0, 0, 0, []), (26, .getfield 10, 15, 0, 5, 1, 283, []), (29, .iload_n 1, 16, 1, 0, 0, 0, [])]
def kO_ask_1 : List dmA := [(30, .putfield 167, 17, 9, 0, 0, 128, []), (33, .iload_n 2, 18, 2, 0, 0, 0, []), (34, .ireturn, 19, 0, 0, 0, 0, [])]
def kO_ask : List (List dmA) := [kO_ask_0, kO_ask_1]
def mO_ask : dmM := (⟨"WhichOneAllKnow", "ask", "(I)I"⟩, prog_1_method_13_code, 3, some (.int), kO_ask, [458, 456, 457, 77])
def kO_voiceOf_0 : List dmA := [(0, .aload_n 0, 1, 0, 0, 0, 0, []), (1, .getfield 10, 2, 0, 5, 1, 283, []), (4, .iload_n 1, 3, 1, 0, 0, 0, []), (5, .invokevirtual 108, 4, 23, 1, 0, 381, []), (8, .ifCond .ne 10, 5, 9, 0, 0, 0, []), (11, .aload_n 0, 6, 0, 0, 0, 0, []), (12, .bipush (-5), 7, 0, 0, -5, 0, []), (14, .invokevirtual 68, 8, 9, 1, 0, 322, []), (17, .ireturn, 9, 0, 0, 0, 0, []), (18, .iload_n 2, 10, 2, 0, 0, 0, []), (19, .tableswitch 97 0 5 #[37, 47, 57, 67, 77, 87], 11, 47, 37, 0, 0, [11, 17, 23, 29, 35, 41]), (56, .aload_n 0, 12, 0, 0, 0, 0, []), (57, .getfield 10, 13, 0, 5, 1, 283, []), (60, .getfield 117, 14, 0, 0, 1, 107, []), (63, .iload_n 1, 15, 1, 0, 0, 0, []), (64, .iaload, 16, 0, 0, 0, 0, [])]
def kO_voiceOf_1 : List dmA := [(65, .ireturn, 17, 0, 0, 0, 0, []), (66, .aload_n 0, 18, 0, 0, 0, 0, []), (67, .getfield 10, 19, 0, 5, 1, 283, []), (70, .getfield 126, 20, 1, 0, 1, 109, []), (73, .iload_n 1, 21, 1, 0, 0, 0, []), (74, .iaload, 22, 0, 0, 0, 0, []), (75, .ireturn, 23, 0, 0, 0, 0, []), (76, .aload_n 0, 24, 0, 0, 0, 0, []), (77, .getfield 10, 25, 0, 5, 1, 283, []), (80, .getfield 137, 26, 2, 0, 1, 112, []), (83, .iload_n 1, 27, 1, 0, 0, 0, []), (84, .iaload, 28, 0, 0, 0, 0, []), (85, .ireturn, 29, 0, 0, 0, 0, []), (86, .aload_n 0, 30, 0, 0, 0, 0, []), (87, .getfield 10, 31, 0, 5, 1, 283, []), (90, .getfield 170, 32, 3, 0, 1, 115, [])]
def kO_voiceOf_2 : List dmA := [(93, .iload_n 1, 33, 1, 0, 0, 0, []), (94, .iaload, 34, 0, 0, 0, 0, []), (95, .ireturn, 35, 0, 0, 0, 0, []), (96, .aload_n 0, 36, 0, 0, 0, 0, []), (97, .getfield 10, 37, 0, 5, 1, 283, []), (100, .getfield 123, 38, 4, 0, 1, 117, []), (103, .iload_n 1, 39, 1, 0, 0, 0, []), (104, .iaload, 40, 0, 0, 0, 0, []), (105, .ireturn, 41, 0, 0, 0, 0, []), (106, .aload_n 0, 42, 0, 0, 0, 0, []), (107, .getfield 10, 43, 0, 5, 1, 283, []), (110, .getfield 129, 44, 5, 0, 1, 119, []), (113, .iload_n 1, 45, 1, 0, 0, 0, []), (114, .iaload, 46, 0, 0, 0, 0, []), (115, .ireturn, 47, 0, 0, 0, 0, []), (116, .aload_n 0, 48, 0, 0, 0, 0, [])]
def kO_voiceOf_3 : List dmA := [(117, .bipush (-5), 49, 0, 0, -5, 0, []), (119, .invokevirtual 68, 50, 9, 1, 0, 322, []), (122, .ireturn, 51, 0, 0, 0, 0, [])]
def kO_voiceOf : List (List dmA) := [kO_voiceOf_0, kO_voiceOf_1, kO_voiceOf_2, kO_voiceOf_3]
def mO_voiceOf : dmM := (⟨"WhichOneAllKnow", "voiceOf", "(II)I"⟩, prog_1_method_14_code, 3, some (.int), kO_voiceOf, [462, 460, 461, 77])
def kO_highOf_0 : List dmA := [(0, .aload_n 0, 1, 0, 0, 0, 0, []), (1, .getfield 10, 2, 0, 5, 1, 283, []), (4, .iload_n 1, 3, 1, 0, 0, 0, []), (5, .invokevirtual 157, 4, 37, 1, 0, 439, []), (8, .ifCond .eq 15, 5, 11, 0, 0, 0, []), (11, .aload_n 0, 6, 0, 0, 0, 0, []), (12, .getfield 10, 7, 0, 5, 1, 283, []), (15, .getfield 173, 8, 6, 0, 1, 121, []), (18, .iload_n 1, 9, 1, 0, 0, 0, []), (19, .iaload, 10, 0, 0, 0, 0, []), (20, .goto 9, 11, 14, 0, 0, 0, []), (23, .aload_n 0, 12, 0, 0, 0, 0, []), (24, .bipush (-5), 13, 0, 0, -5, 0, []), (26, .invokevirtual 68, 14, 9, 1, 0, 322, []), (29, .ireturn, 15, 0, 0, 0, 0, [])]
def kO_highOf : List (List dmA) := [kO_highOf_0]
def mO_highOf : dmM := (⟨"WhichOneAllKnow", "highOf", "(I)I"⟩, prog_1_method_15_code, 2, some (.int), kO_highOf, [466, 464, 465, 77])
def kO_church_0 : List dmA := [(0, .aload_n 0, 1, 0, 0, 0, 0, []), (1, .iload_n 1, 2, 1, 0, 0, 0, []), (2, .invokevirtual 80, 3, 13, 1, 0, 337, []), (5, .istore_n 2, 4, 2, 0, 0, 0, []), (6, .iload_n 2, 5, 2, 0, 0, 0, []), (7, .ifCond .eq 9, 6, 10, 0, 0, 0, []), (10, .aload_n 0, 7, 0, 0, 0, 0, []), (11, .iload_n 2, 8, 2, 0, 0, 0, []), (12, .invokevirtual 68, 9, 9, 1, 0, 322, []), (15, .ireturn, 10, 0, 0, 0, 0, []), (16, .aload_n 0, 11, 0, 0, 0, 0, []), (17, .getfield 19, 12, 2, 5, 1, 285, []), (20, .aload_n 0, 13, 0, 0, 0, 0, []), (21, .getfield 10, 14, 0, 5, 1, 283, []), (24, .invokevirtual 176, 15, 45, 1, 0, 471, []), (27, .aload_n 0, 16, 0, 0, 0, 0, [])]
def kO_church_1 : List dmA := [(28, .getfield 41, 17, 5, 5, 1, 288, []), (31, .aload_n 0, 18, 0, 0, 0, 0, []), (32, .getfield 25, 19, 3, 5, 1, 286, []), (35, .getfield 98, 20, 0, 2, 1, 169, []), (38, .iload_n 1, 21, 1, 0, 0, 0, []), (39, .aaload, 22, 0, 0, 0, 0, []), (40, .aload_n 0, 23, 0, 0, 0, 0, []), (41, .getfield 25, 24, 3, 5, 1, 286, []), (44, .getfield 179, 25, 1, 2, 1, 171, []), (47, .iload_n 1, 26, 1, 0, 0, 0, []), (48, .iaload, 27, 0, 0, 0, 0, []), (49, .invokevirtual 182, 28, 46, 2, 0, 476, []), (52, .istore_n 3, 29, 3, 0, 0, 0, []), (53, .aload_n 0, 30, 0, 0, 0, 0, []), (54, .aload_n 0, 31, 0, 0, 0, 0, []), (55, .getfield 41, 32, 5, 5, 1, 288, [])]
def kO_church_2 : List dmA := [(58, .getfield 186, 33, 5, 4, 0, 246, []), (61, .putfield 60, 34, 9, 5, 0, 292, []), (64, .aload_n 0, 35, 0, 0, 0, 0, []), (65, .getfield 60, 36, 9, 5, 0, 292, []), (68, .iconst (-1), 37, 0, 0, -1, 0, []), (69, .if_icmp .eq 10, 38, 42, 0, 0, 0, []), (72, .aload_n 0, 39, 0, 0, 0, 0, []), (73, .bipush (-6), 40, 0, 0, -6, 0, []), (75, .invokevirtual 68, 41, 9, 1, 0, 322, []), (78, .ireturn, 42, 0, 0, 0, 0, []), (79, .aload_n 0, 43, 0, 0, 0, 0, []), (80, .getfield 10, 44, 0, 5, 1, 283, []), (83, .aload_n 0, 45, 0, 0, 0, 0, []), (84, .getfield 19, 46, 2, 5, 1, 285, []), (87, .invokevirtual 176, 47, 45, 1, 0, 471, []), (90, .iload_n 3, 48, 3, 0, 0, 0, [])]
def kO_church_3 : List dmA := [(91, .ireturn, 49, 0, 0, 0, 0, [])]
def kO_church : List (List dmA) := [kO_church_0, kO_church_1, kO_church_2, kO_church_3]
def mO_church : dmM := (⟨"WhichOneAllKnow", "church", "(I)I"⟩, prog_1_method_16_code, 4, some (.int), kO_church, [470, 468, 469, 77])
def kC_become_0 : List dmA := [(0, .aload_n 1, 1, 1, 0, 0, 0, []), (1, .getfield 11, 2, 0, 0, 1, 105, []), (4, .iconst 0, 3, 0, 0, 0, 0, []), (5, .aload_n 0, 4, 0, 0, 0, 0, []), (6, .getfield 11, 5, 0, 0, 1, 105, []), (9, .iconst 0, 6, 0, 0, 0, 0, []), (10, .aload_n 0, 7, 0, 0, 0, 0, []), (11, .getfield 11, 8, 0, 0, 1, 105, []), (14, .arraylength, 9, 0, 0, 0, 0, []), (15, .invokestatic 49, 10, 0, 5, 0, 475, [7]), (18, .aload_n 1, 11, 1, 0, 0, 0, []), (19, .getfield 15, 12, 1, 0, 1, 108, []), (22, .iconst 0, 13, 0, 0, 0, 0, []), (23, .aload_n 0, 14, 0, 0, 0, 0, []), (24, .getfield 15, 15, 1, 0, 1, 108, []), (27, .iconst 0, 16, 0, 0, 0, 0, [])]
def kC_become_1 : List dmA := [(28, .aload_n 0, 17, 0, 0, 0, 0, []), (29, .getfield 15, 18, 1, 0, 1, 108, []), (32, .arraylength, 19, 0, 0, 0, 0, []), (33, .invokestatic 49, 20, 0, 5, 0, 475, [7]), (36, .aload_n 1, 21, 1, 0, 0, 0, []), (37, .getfield 18, 22, 2, 0, 1, 110, []), (40, .iconst 0, 23, 0, 0, 0, 0, []), (41, .aload_n 0, 24, 0, 0, 0, 0, []), (42, .getfield 18, 25, 2, 0, 1, 110, []), (45, .iconst 0, 26, 0, 0, 0, 0, []), (46, .aload_n 0, 27, 0, 0, 0, 0, []), (47, .getfield 18, 28, 2, 0, 1, 110, []), (50, .arraylength, 29, 0, 0, 0, 0, []), (51, .invokestatic 49, 30, 0, 5, 0, 475, [7]), (54, .aload_n 1, 31, 1, 0, 0, 0, []), (55, .getfield 21, 32, 3, 0, 1, 114, [])]
def kC_become_2 : List dmA := [(58, .iconst 0, 33, 0, 0, 0, 0, []), (59, .aload_n 0, 34, 0, 0, 0, 0, []), (60, .getfield 21, 35, 3, 0, 1, 114, []), (63, .iconst 0, 36, 0, 0, 0, 0, []), (64, .aload_n 0, 37, 0, 0, 0, 0, []), (65, .getfield 21, 38, 3, 0, 1, 114, []), (68, .arraylength, 39, 0, 0, 0, 0, []), (69, .invokestatic 49, 40, 0, 5, 0, 475, [7]), (72, .aload_n 1, 41, 1, 0, 0, 0, []), (73, .getfield 24, 42, 4, 0, 1, 116, []), (76, .iconst 0, 43, 0, 0, 0, 0, []), (77, .aload_n 0, 44, 0, 0, 0, 0, []), (78, .getfield 24, 45, 4, 0, 1, 116, []), (81, .iconst 0, 46, 0, 0, 0, 0, []), (82, .aload_n 0, 47, 0, 0, 0, 0, []), (83, .getfield 24, 48, 4, 0, 1, 116, [])]
def kC_become_3 : List dmA := [(86, .arraylength, 49, 0, 0, 0, 0, []), (87, .invokestatic 49, 50, 0, 5, 0, 475, [7]), (90, .aload_n 1, 51, 1, 0, 0, 0, []), (91, .getfield 27, 52, 5, 0, 1, 118, []), (94, .iconst 0, 53, 0, 0, 0, 0, []), (95, .aload_n 0, 54, 0, 0, 0, 0, []), (96, .getfield 27, 55, 5, 0, 1, 118, []), (99, .iconst 0, 56, 0, 0, 0, 0, []), (100, .aload_n 0, 57, 0, 0, 0, 0, []), (101, .getfield 27, 58, 5, 0, 1, 118, []), (104, .arraylength, 59, 0, 0, 0, 0, []), (105, .invokestatic 49, 60, 0, 5, 0, 475, [7]), (108, .aload_n 1, 61, 1, 0, 0, 0, []), (109, .getfield 30, 62, 6, 0, 1, 120, []), (112, .iconst 0, 63, 0, 0, 0, 0, []), (113, .aload_n 0, 64, 0, 0, 0, 0, [])]
def kC_become_4 : List dmA := [(114, .getfield 30, 65, 6, 0, 1, 120, []), (117, .iconst 0, 66, 0, 0, 0, 0, []), (118, .aload_n 0, 67, 0, 0, 0, 0, []), (119, .getfield 30, 68, 6, 0, 1, 120, []), (122, .arraylength, 69, 0, 0, 0, 0, []), (123, .invokestatic 49, 70, 0, 5, 0, 475, [7]), (126, .aload_n 0, 71, 0, 0, 0, 0, []), (127, .aload_n 1, 72, 1, 0, 0, 0, []), (128, .getfield 33, 73, 7, 0, 0, 122, []), (131, .putfield 33, 74, 7, 0, 0, 122, []), (134, .aload_n 0, 75, 0, 0, 0, 0, []), (135, .aload_n 1, 76, 1, 0, 0, 0, []), (136, .getfield 37, 77, 8, 0, 0, 125, []), (139, .putfield 37, 78, 8, 0, 0, 125, []), (142, .aload_n 0, 79, 0, 0, 0, 0, []), (143, .aload_n 1, 80, 1, 0, 0, 0, [])]
def kC_become_5 : List dmA := [(144, .getfield 40, 81, 9, 0, 0, 127, []), (147, .putfield 40, 82, 9, 0, 0, 127, []), (150, .aload_n 0, 83, 0, 0, 0, 0, []), (151, .aload_n 1, 84, 1, 0, 0, 0, []), (152, .getfield 43, 85, 10, 0, 0, 130, []), (155, .putfield 43, 86, 10, 0, 0, 130, []), (158, .aload_n 0, 87, 0, 0, 0, 0, []), (159, .aload_n 1, 88, 1, 0, 0, 0, []), (160, .getfield 46, 89, 11, 0, 0, 132, []), (163, .putfield 46, 90, 11, 0, 0, 132, []), (166, .return_, 91, 0, 0, 0, 0, [])]
def kC_become : List (List dmA) := [kC_become_0, kC_become_1, kC_become_2, kC_become_3, kC_become_4, kC_become_5]
def mC_become : dmM := (⟨"WhichOneAllKnow$Church", "become", "(LWhichOneAllKnow$Church;)V"⟩, prog_2_method_2_code, 2, none, kC_become, [474, 472, 473, 78])
def kT_readItems_0 : List dmA := [(0, .aload_n 0, 1, 0, 0, 0, 0, []), (1, .aload_n 1, 2, 1, 0, 0, 0, []), (2, .putfield 15, 3, 2, 4, 0, 242, []), (5, .aload_n 0, 4, 0, 0, 0, 0, []), (6, .iload_n 2, 5, 2, 0, 0, 0, []), (7, .aload_n 1, 6, 1, 0, 0, 0, []), (8, .arraylength, 7, 0, 0, 0, 0, []), (9, .invokestatic 33, 8, 0, 2, 0, 480, [5]), (12, .putfield 19, 9, 3, 4, 0, 243, []), (15, .aload_n 0, 10, 0, 0, 0, 0, []), (16, .iconst 0, 11, 0, 0, 0, 0, []), (17, .putfield 23, 12, 4, 4, 0, 244, []), (20, .aload_n 0, 13, 0, 0, 0, 0, []), (21, .iconst (-1), 14, 0, 0, -1, 0, []), (22, .putfield 26, 15, 5, 4, 0, 245, []), (25, .iconst 0, 16, 0, 0, 0, 0, [])]
def kT_readItems_1 : List dmA := [(26, .istore_n 3, 17, 3, 0, 0, 0, []), (27, .iconst 1, 18, 0, 0, 1, 0, []), (28, .istore 4, 19, 4, 0, 0, 0, []), (30, .iconst 0, 20, 0, 0, 0, 0, []), (31, .istore 5, 21, 5, 0, 0, 0, []), (33, .iload 5, 22, 5, 0, 0, 0, []), (35, .aload_n 0, 23, 0, 0, 0, 0, []), (36, .getfield 19, 24, 3, 4, 0, 243, []), (39, .if_icmp .gt 51, 25, 46, 0, 0, 0, []), (42, .iload 4, 26, 4, 0, 0, 0, []), (44, .ifCond .eq 46, 27, 46, 0, 0, 0, []), (47, .aload_n 0, 28, 0, 0, 0, 0, []), (48, .invokevirtual 39, 29, 47, 0, 0, 483, []), (51, .ifCond .eq 27, 30, 41, 0, 0, 0, []), (54, .aload_n 0, 31, 0, 0, 0, 0, []), (55, .getfield 23, 32, 4, 4, 0, 244, [])]
def kT_readItems_2 : List dmA := [(58, .aload_n 0, 33, 0, 0, 0, 0, []), (59, .getfield 19, 34, 3, 4, 0, 243, []), (62, .if_icmp .ge 16, 35, 41, 0, 0, 0, []), (65, .aload_n 0, 36, 0, 0, 0, 0, []), (66, .bipush 59, 37, 0, 0, 59, 0, []), (68, .invokevirtual 43, 38, 60, 1, 0, 559, []), (71, .ifCond .eq 7, 39, 41, 0, 0, 0, []), (74, .iconst 1, 40, 0, 0, 1, 0, []), (75, .goto 4, 41, 42, 0, 0, 0, []), (78, .iconst 0, 42, 0, 0, 0, 0, []), (79, .istore 4, 43, 4, 0, 0, 0, []), (81, .iinc 3 1, 44, 3, 0, 1, 0, []), (84, .iinc 5 1, 45, 5, 0, 1, 0, []), (87, .goto (-54), 46, 21, 0, 0, 0, []), (90, .iload_n 3, 47, 3, 0, 0, 0, []), (91, .ireturn, 48, 0, 0, 0, 0, [])]
def kT_readItems : List (List dmA) := [kT_readItems_0, kT_readItems_1, kT_readItems_2]
def mT_readItems : dmM := (⟨"WhichOneAllKnow$Text", "readItems", "([JI)I"⟩, prog_6_method_2_code, 6, some (.int), kT_readItems, [479, 477, 478, 82])
def kT_readItem_0 : List dmA := [(0, .aload_n 0, 1, 0, 0, 0, 0, []), (1, .getfield 23, 2, 4, 4, 0, 244, []), (4, .istore_n 1, 3, 1, 0, 0, 0, []), (5, .aload_n 0, 4, 0, 0, 0, 0, []), (6, .invokevirtual 47, 5, 48, 0, 0, 487, []), (9, .istore_n 2, 6, 2, 0, 0, 0, []), (10, .iload_n 2, 7, 2, 0, 0, 0, []), (11, .iconst (-1), 8, 0, 0, -1, 0, []), (12, .if_icmp .ne 12, 9, 14, 0, 0, 0, []), (15, .aload_n 0, 10, 0, 0, 0, 0, []), (16, .aload_n 0, 11, 0, 0, 0, 0, []), (17, .getfield 23, 12, 4, 4, 0, 244, []), (20, .invokevirtual 51, 13, 56, 1, 0, 543, []), (23, .ireturn, 14, 0, 0, 0, 0, []), (24, .aload_n 0, 15, 0, 0, 0, 0, []), (25, .iload_n 2, 16, 2, 0, 0, 0, [])]
def kT_readItem_1 : List dmA := [(26, .invokestatic 55, 17, 50, 1, 0, 495, [1]), (29, .invokevirtual 59, 18, 57, 1, 0, 547, []), (32, .ifCond .ne 5, 19, 21, 0, 0, 0, []), (35, .iconst 0, 20, 0, 0, 0, 0, []), (36, .ireturn, 21, 0, 0, 0, 0, []), (37, .aload_n 0, 22, 0, 0, 0, 0, []), (38, .iload_n 2, 23, 2, 0, 0, 0, []), (39, .invokevirtual 63, 24, 61, 1, 0, 563, []), (42, .ifCond .ne 9, 25, 29, 0, 0, 0, []), (45, .aload_n 0, 26, 0, 0, 0, 0, []), (46, .iload_n 1, 27, 1, 0, 0, 0, []), (47, .invokevirtual 51, 28, 56, 1, 0, 543, []), (50, .ireturn, 29, 0, 0, 0, 0, []), (51, .iconst 0, 30, 0, 0, 0, 0, []), (52, .istore_n 3, 31, 3, 0, 0, 0, []), (53, .iload_n 3, 32, 3, 0, 0, 0, [])]
def kT_readItem_2 : List dmA := [(54, .getstatic 66, 33, 1, 0, 0, 569, []), (57, .iload_n 2, 34, 2, 0, 0, 0, []), (58, .iaload, 35, 0, 0, 0, 0, []), (59, .if_icmp .ge 29, 36, 49, 0, 0, 0, []), (62, .aload_n 0, 37, 0, 0, 0, 0, []), (63, .bipush 32, 38, 0, 0, 32, 0, []), (65, .invokevirtual 43, 39, 60, 1, 0, 559, []), (68, .ifCond .eq 12, 40, 45, 0, 0, 0, []), (71, .aload_n 0, 41, 0, 0, 0, 0, []), (72, .iload_n 2, 42, 2, 0, 0, 0, []), (73, .iload_n 3, 43, 3, 0, 0, 0, []), (74, .invokevirtual 69, 44, 62, 2, 0, 571, []), (77, .ifCond .ne 5, 45, 47, 0, 0, 0, []), (80, .iconst 0, 46, 0, 0, 0, 0, []), (81, .ireturn, 47, 0, 0, 0, 0, []), (82, .iinc 3 1, 48, 3, 0, 1, 0, [])]
def kT_readItem_3 : List dmA := [(85, .goto (-32), 49, 31, 0, 0, 0, []), (88, .aload_n 0, 50, 0, 0, 0, 0, []), (89, .iload_n 2, 51, 2, 0, 0, 0, []), (90, .invokevirtual 73, 52, 65, 1, 0, 588, []), (93, .iconst 1, 53, 0, 0, 1, 0, []), (94, .ireturn, 54, 0, 0, 0, 0, [])]
def kT_readItem : List (List dmA) := [kT_readItem_0, kT_readItem_1, kT_readItem_2, kT_readItem_3]
def mT_readItem : dmM := (⟨"WhichOneAllKnow$Text", "readItem", "()Z"⟩, prog_6_method_3_code, 4, some (.boolean), kT_readItem, [486, 485, 3, 82])
def kT_itemAt_0 : List dmA := [(0, .iconst 0, 1, 0, 0, 0, 0, []), (1, .istore_n 1, 2, 1, 0, 0, 0, []), (2, .iload_n 1, 3, 1, 0, 0, 0, []), (3, .iconst 5, 4, 0, 0, 5, 0, []), (4, .if_icmp .ge 26, 5, 16, 0, 0, 0, []), (7, .aload_n 0, 6, 0, 0, 0, 0, []), (8, .invokevirtual 77, 7, 49, 0, 0, 491, []), (11, .iload_n 1, 8, 1, 0, 0, 0, []), (12, .invokestatic 55, 9, 50, 1, 0, 495, [1]), (15, .iconst 0, 10, 0, 0, 0, 0, []), (16, .invokevirtual 80, 11, 51, 1, 0, 503, []), (19, .if_icmp .ne 5, 12, 14, 0, 0, 0, []), (22, .iload_n 1, 13, 1, 0, 0, 0, []), (23, .ireturn, 14, 0, 0, 0, 0, []), (24, .iinc 1 1, 15, 1, 0, 1, 0, []), (27, .goto (-25), 16, 2, 0, 0, 0, [])]
def kT_itemAt_1 : List dmA := [(30, .iconst (-1), 17, 0, 0, -1, 0, []), (31, .ireturn, 18, 0, 0, 0, 0, [])]
def kT_itemAt : List (List dmA) := [kT_itemAt_0, kT_itemAt_1]
def mT_itemAt : dmM := (⟨"WhichOneAllKnow$Text", "itemAt", "()I"⟩, prog_6_method_6_code, 2, some (.int), kT_itemAt, [490, 489, 4, 82])
def kT_letter_0 : List dmA := [(0, .aload_n 0, 1, 0, 0, 0, 0, []), (1, .getfield 23, 2, 4, 4, 0, 244, []), (4, .ifCond .lt 27, 3, 15, 0, 0, 0, []), (7, .aload_n 0, 4, 0, 0, 0, 0, []), (8, .getfield 23, 5, 4, 4, 0, 244, []), (11, .aload_n 0, 6, 0, 0, 0, 0, []), (12, .getfield 19, 7, 3, 4, 0, 243, []), (15, .if_icmp .ge 16, 8, 15, 0, 0, 0, []), (18, .aload_n 0, 9, 0, 0, 0, 0, []), (19, .getfield 15, 10, 2, 4, 0, 242, []), (22, .aload_n 0, 11, 0, 0, 0, 0, []), (23, .getfield 23, 12, 4, 4, 0, 244, []), (26, .laload, 13, 0, 0, 0, 0, []), (27, .l2i, 14, 0, 0, 0, 0, []), (28, .goto 4, 15, 16, 0, 0, 0, []), (31, .iconst (-1), 16, 0, 0, -1, 0, [])]
def kT_letter_1 : List dmA := [(32, .ireturn, 17, 0, 0, 0, 0, [])]
def kT_letter : List (List dmA) := [kT_letter_0, kT_letter_1]
def mT_letter : dmM := (⟨"WhichOneAllKnow$Text", "letter", "()I"⟩, prog_6_method_5_code, 1, some (.int), kT_letter, [494, 493, 5, 82])
def kT_wordOf_0 : List dmA := [(0, .iload_n 0, 1, 0, 0, 0, 0, []), (1, .tableswitch 43 0 3 #[31, 34, 37, 40], 2, 10, 31, 0, 0, [2, 4, 6, 8]), (32, .ldc 86, 3, 10, 1, 0, 498, []), (34, .areturn, 4, 0, 0, 0, 0, []), (35, .ldc 88, 5, 11, 1, 0, 499, []), (37, .areturn, 6, 0, 0, 0, 0, []), (38, .ldc 90, 7, 12, 1, 0, 500, []), (40, .areturn, 8, 0, 0, 0, 0, []), (41, .ldc 92, 9, 13, 1, 0, 501, []), (43, .areturn, 10, 0, 0, 0, 0, []), (44, .ldc 94, 11, 14, 1, 0, 502, []), (46, .areturn, 12, 0, 0, 0, 0, [])]
def kT_wordOf : List (List dmA) := [kT_wordOf_0]
def mT_wordOf : dmM := (⟨"WhichOneAllKnow$Text", "wordOf", "(I)Ljava/lang/String;"⟩, prog_6_method_7_code, 1, some (.object "java/lang/String"), kT_wordOf, [497, 496, 0, 82])
def kJS_charAt_0 : List dmA := [(0, .aload_n 0, 1, 0, 0, 0, 0, []), (1, .invokevirtual 492, 2, 52, 0, 0, 507, []), (4, .ifCond .eq 12, 3, 8, 0, 0, 0, []), (7, .aload_n 0, 4, 0, 0, 0, 0, []), (8, .getfield 9, 5, 0, 7, 0, 1356, []), (11, .iload_n 1, 6, 1, 0, 0, 0, []), (12, .invokestatic 495, 7, 53, 2, 0, 513, [1]), (15, .ireturn, 8, 0, 0, 0, 0, []), (16, .aload_n 0, 9, 0, 0, 0, 0, []), (17, .getfield 9, 10, 0, 7, 0, 1356, []), (20, .iload_n 1, 11, 1, 0, 0, 0, []), (21, .nop, 12, 0, 2, 0, 524, []), (24, .ireturn, 13, 0, 0, 0, 0, [])]
def kJS_charAt : List (List dmA) := [kJS_charAt_0]
def mJS_charAt : dmM := (⟨"java/lang/String", "charAt", "(I)C"⟩, prog_11_method_56_code, 2, some (.char), kJS_charAt, [506, 504, 505, 87])
def kJS_isLatin1_0 : List dmA := [(0, .getstatic 38, 1, 0, 2, 0, 511, []), (3, .ifCond .eq 14, 2, 7, 0, 0, 0, []), (6, .aload_n 0, 3, 0, 0, 0, 0, []), (7, .getfield 15, 4, 1, 7, 0, 1355, []), (10, .ifCond .ne 7, 5, 7, 0, 0, 0, []), (13, .iconst 1, 6, 0, 0, 1, 0, []), (14, .goto 4, 7, 8, 0, 0, 0, []), (17, .iconst 0, 8, 0, 0, 0, 0, []), (18, .ireturn, 9, 0, 0, 0, 0, [])]
def kJS_isLatin1 : List (List dmA) := [kJS_isLatin1_0]
def mJS_isLatin1 : dmM := (⟨"java/lang/String", "isLatin1", "()Z"⟩, prog_11_method_154_code, 1, some (.boolean), kJS_isLatin1, [510, 508, 509, 87])
def kJL_charAt_0 : List dmA := [(0, .iload_n 1, 1, 1, 0, 0, 0, []), (1, .aload_n 0, 2, 0, 0, 0, 0, []), (2, .arraylength, 3, 0, 0, 0, 0, []), (3, .invokestatic 9, 4, 54, 2, 0, 516, [1]), (6, .aload_n 0, 5, 0, 0, 0, 0, []), (7, .iload_n 1, 6, 1, 0, 0, 0, []), (8, .baload, 7, 0, 0, 0, 0, []), (9, .sipush 255, 8, 0, 0, 255, 0, []), (12, .iand, 9, 0, 0, 0, 0, []), (13, .i2c, 10, 0, 0, 0, 0, []), (14, .ireturn, 11, 0, 0, 0, 0, [])]
def kJL_charAt : List (List dmA) := [kJL_charAt_0]
def mJL_charAt : dmM := (⟨"java/lang/StringLatin1", "charAt", "([BI)C"⟩, prog_12_method_2_code, 2, some (.char), kJL_charAt, [515, 514, 0, 88])
def kJS_checkIndex_0 : List dmA := [(0, .iload_n 0, 1, 0, 0, 0, 0, []), (1, .iload_n 1, 2, 1, 0, 0, 0, []), (2, .getstatic 1053, 3, 0, 3, 0, 519, []), (5, .invokestatic 1059, 4, 55, 3, 0, 521, [1]), (8, .pop, 5, 0, 0, 0, 0, []), (9, .return_, 6, 0, 0, 0, 0, [])]
def kJS_checkIndex : List (List dmA) := [kJS_checkIndex_0]
def mJS_checkIndex : dmM := (⟨"java/lang/String", "checkIndex", "(II)V"⟩, prog_11_method_155_code, 2, none, kJS_checkIndex, [518, 517, 0, 87])
def kJP_checkIndex_0 : List dmA := [(0, .iload_n 0, 1, 0, 0, 0, 0, []), (1, .ifCond .lt 8, 2, 5, 0, 0, 0, []), (4, .iload_n 0, 3, 0, 0, 0, 0, []), (5, .iload_n 1, 4, 1, 0, 0, 0, []), (6, .if_icmp .lt 10, 5, 10, 0, 0, 0, []), (9, .aload_n 2, 6, 2, 0, 0, 0, []), (10, .iload_n 0, 7, 0, 0, 0, 0, []), (11, .iload_n 1, 8, 1, 0, 0, 0, []), (12, .nop, 9, 0, 0, 0, 0, []), (15, .athrow, 10, 0, 0, 0, 0, []), (16, .iload_n 0, 11, 0, 0, 0, 0, []), (17, .ireturn, 12, 0, 0, 0, 0, [])]
def kJP_checkIndex : List (List dmA) := [kJP_checkIndex_0]
def mJP_checkIndex : dmM := (⟨"jdk/internal/util/Preconditions", "checkIndex", "(IILjava/util/function/BiFunction;)I"⟩, prog_15_method_11_code, 3, some (.int), kJP_checkIndex, [523, 522, 0, 89])
def kT_faultAt_0 : List dmA := [(0, .aload_n 0, 1, 0, 0, 0, 0, []), (1, .iload_n 1, 2, 1, 0, 0, 0, []), (2, .putfield 26, 3, 5, 4, 0, 245, []), (5, .iconst 0, 4, 0, 0, 0, 0, []), (6, .ireturn, 5, 0, 0, 0, 0, [])]
def kT_faultAt : List (List dmA) := [kT_faultAt_0]
def mT_faultAt : dmM := (⟨"WhichOneAllKnow$Text", "faultAt", "(I)Z"⟩, prog_6_method_4_code, 2, some (.boolean), kT_faultAt, [546, 545, 6, 82])
def kT_takeWord_0 : List dmA := [(0, .iconst 0, 1, 0, 0, 0, 0, []), (1, .istore_n 2, 2, 2, 0, 0, 0, []), (2, .iload_n 2, 3, 2, 0, 0, 0, []), (3, .aload_n 1, 4, 1, 0, 0, 0, []), (4, .invokevirtual 96, 5, 58, 0, 0, 551, []), (7, .if_icmp .ge 23, 6, 16, 0, 0, 0, []), (10, .aload_n 0, 7, 0, 0, 0, 0, []), (11, .aload_n 1, 8, 1, 0, 0, 0, []), (12, .iload_n 2, 9, 2, 0, 0, 0, []), (13, .invokevirtual 80, 10, 51, 1, 0, 503, []), (16, .invokevirtual 43, 11, 60, 1, 0, 559, []), (19, .ifCond .ne 5, 12, 14, 0, 0, 0, []), (22, .iconst 0, 13, 0, 0, 0, 0, []), (23, .ireturn, 14, 0, 0, 0, 0, []), (24, .iinc 2 1, 15, 2, 0, 1, 0, []), (27, .goto (-25), 16, 2, 0, 0, 0, [])]
def kT_takeWord_1 : List dmA := [(30, .iconst 1, 17, 0, 0, 1, 0, []), (31, .ireturn, 18, 0, 0, 0, 0, [])]
def kT_takeWord : List (List dmA) := [kT_takeWord_0, kT_takeWord_1]
def mT_takeWord : dmM := (⟨"WhichOneAllKnow$Text", "takeWord", "(Ljava/lang/String;)Z"⟩, prog_6_method_8_code, 3, some (.boolean), kT_takeWord, [550, 549, 7, 82])
def kJS_length_0 : List dmA := [(0, .aload_n 0, 1, 0, 0, 0, 0, []), (1, .getfield 9, 2, 0, 7, 0, 1356, []), (4, .arraylength, 3, 0, 0, 0, 0, []), (5, .aload_n 0, 4, 0, 0, 0, 0, []), (6, .invokevirtual 335, 5, 59, 0, 0, 555, []), (9, .ishr, 6, 0, 0, 0, 0, []), (10, .ireturn, 7, 0, 0, 0, 0, [])]
def kJS_length : List (List dmA) := [kJS_length_0]
def mJS_length : dmM := (⟨"java/lang/String", "length", "()I"⟩, prog_11_method_54_code, 1, some (.int), kJS_length, [554, 552, 553, 87])
def kJS_coder_0 : List dmA := [(0, .getstatic 38, 1, 0, 2, 0, 511, []), (3, .ifCond .eq 10, 2, 5, 0, 0, 0, []), (6, .aload_n 0, 3, 0, 0, 0, 0, []), (7, .getfield 15, 4, 1, 7, 0, 1355, []), (10, .goto 4, 5, 6, 0, 0, 0, []), (13, .iconst 1, 6, 0, 0, 1, 0, []), (14, .ireturn, 7, 0, 0, 0, 0, [])]
def kJS_coder : List (List dmA) := [kJS_coder_0]
def mJS_coder : dmM := (⟨"java/lang/String", "coder", "()B"⟩, prog_11_method_152_code, 1, some (.byte), kJS_coder, [558, 556, 557, 87])
def kT_takeLetter_0 : List dmA := [(0, .aload_n 0, 1, 0, 0, 0, 0, []), (1, .invokevirtual 77, 2, 49, 0, 0, 491, []), (4, .iload_n 1, 3, 1, 0, 0, 0, []), (5, .if_icmp .eq 12, 4, 9, 0, 0, 0, []), (8, .aload_n 0, 5, 0, 0, 0, 0, []), (9, .aload_n 0, 6, 0, 0, 0, 0, []), (10, .getfield 23, 7, 4, 4, 0, 244, []), (13, .invokevirtual 51, 8, 56, 1, 0, 543, []), (16, .ireturn, 9, 0, 0, 0, 0, []), (17, .aload_n 0, 10, 0, 0, 0, 0, []), (18, .dup, 11, 0, 0, 0, 0, []), (19, .getfield 23, 12, 4, 4, 0, 244, []), (22, .iconst 1, 13, 0, 0, 1, 0, []), (23, .iadd, 14, 0, 0, 0, 0, []), (24, .putfield 23, 15, 4, 4, 0, 244, []), (27, .iconst 1, 16, 0, 0, 1, 0, [])]
def kT_takeLetter_1 : List dmA := [(28, .ireturn, 17, 0, 0, 0, 0, [])]
def kT_takeLetter : List (List dmA) := [kT_takeLetter_0, kT_takeLetter_1]
def mT_takeLetter : dmM := (⟨"WhichOneAllKnow$Text", "takeLetter", "(C)Z"⟩, prog_6_method_9_code, 2, some (.boolean), kT_takeLetter, [562, 561, 8, 82])
def kT_hasRoomFor_0 : List dmA := [(0, .iload_n 1, 1, 1, 0, 0, 0, []), (1, .lookupswitch 43 #[(0, 27), (1, 35)], 2, 10, 27, 0, 0, [2, 6]), (28, .aload_n 0, 3, 0, 0, 0, 0, []), (29, .getfield 29, 4, 0, 4, 1, 240, []), (32, .invokevirtual 106, 5, 30, 0, 0, 567, []), (35, .ireturn, 6, 0, 0, 0, 0, []), (36, .aload_n 0, 7, 0, 0, 0, 0, []), (37, .getfield 29, 8, 0, 4, 1, 240, []), (40, .invokevirtual 111, 9, 34, 0, 0, 568, []), (43, .ireturn, 10, 0, 0, 0, 0, []), (44, .iconst 1, 11, 0, 0, 1, 0, []), (45, .ireturn, 12, 0, 0, 0, 0, [])]
def kT_hasRoomFor : List (List dmA) := [kT_hasRoomFor_0]
def mT_hasRoomFor : dmM := (⟨"WhichOneAllKnow$Text", "hasRoomFor", "(I)Z"⟩, prog_6_method_11_code, 2, some (.boolean), kT_hasRoomFor, [566, 565, 9, 82])
def kT_takeNumber_0 : List dmA := [(0, .aload_n 0, 1, 0, 0, 0, 0, []), (1, .getfield 23, 2, 4, 4, 0, 244, []), (4, .istore_n 3, 3, 3, 0, 0, 0, []), (5, .iconst 0, 4, 0, 0, 0, 0, []), (6, .istore 4, 5, 4, 0, 0, 0, []), (8, .iconst 0, 6, 0, 0, 0, 0, []), (9, .istore 5, 7, 5, 0, 0, 0, []), (11, .iload 5, 8, 5, 0, 0, 0, []), (13, .iconst 2, 9, 0, 0, 2, 0, []), (14, .if_icmp .ge 48, 10, 33, 0, 0, 0, []), (17, .aload_n 0, 11, 0, 0, 0, 0, []), (18, .invokevirtual 77, 12, 49, 0, 0, 491, []), (21, .bipush 48, 13, 0, 0, 48, 0, []), (23, .bipush 57, 14, 0, 0, 57, 0, []), (25, .invokestatic 99, 15, 10, 3, 0, 575, [3]), (28, .ifCond .eq 34, 16, 33, 0, 0, 0, [])]
def kT_takeNumber_1 : List dmA := [(31, .bipush 10, 17, 0, 0, 10, 0, []), (33, .iload 4, 18, 4, 0, 0, 0, []), (35, .imul, 19, 0, 0, 0, 0, []), (36, .aload_n 0, 20, 0, 0, 0, 0, []), (37, .invokevirtual 77, 21, 49, 0, 0, 491, []), (40, .iadd, 22, 0, 0, 0, 0, []), (41, .bipush 48, 23, 0, 0, 48, 0, []), (43, .isub, 24, 0, 0, 0, 0, []), (44, .istore 4, 25, 4, 0, 0, 0, []), (46, .aload_n 0, 26, 0, 0, 0, 0, []), (47, .dup, 27, 0, 0, 0, 0, []), (48, .getfield 23, 28, 4, 4, 0, 244, []), (51, .iconst 1, 29, 0, 0, 1, 0, []), (52, .iadd, 30, 0, 0, 0, 0, []), (53, .putfield 23, 31, 4, 4, 0, 244, []), (56, .iinc 5 1, 32, 5, 0, 1, 0, [])]
def kT_takeNumber_2 : List dmA := [(59, .goto (-48), 33, 7, 0, 0, 0, []), (62, .aload_n 0, 34, 0, 0, 0, 0, []), (63, .getfield 23, 35, 4, 4, 0, 244, []), (66, .iload_n 3, 36, 3, 0, 0, 0, []), (67, .if_icmp .eq 14, 37, 43, 0, 0, 0, []), (70, .aload_n 0, 38, 0, 0, 0, 0, []), (71, .iload_n 1, 39, 1, 0, 0, 0, []), (72, .iload_n 2, 40, 2, 0, 0, 0, []), (73, .iload 4, 41, 4, 0, 0, 0, []), (75, .invokevirtual 103, 42, 63, 3, 0, 576, []), (78, .ifCond .ne 9, 43, 47, 0, 0, 0, []), (81, .aload_n 0, 44, 0, 0, 0, 0, []), (82, .iload_n 3, 45, 3, 0, 0, 0, []), (83, .invokevirtual 51, 46, 56, 1, 0, 543, []), (86, .ireturn, 47, 0, 0, 0, 0, []), (87, .aload_n 0, 48, 0, 0, 0, 0, [])]
def kT_takeNumber_3 : List dmA := [(88, .getfield 9, 49, 1, 4, 1, 241, []), (91, .iload_n 2, 50, 2, 0, 0, 0, []), (92, .iload 4, 51, 4, 0, 0, 0, []), (94, .iastore, 52, 0, 0, 0, 0, []), (95, .iconst 1, 53, 0, 0, 1, 0, []), (96, .ireturn, 54, 0, 0, 0, 0, [])]
def kT_takeNumber : List (List dmA) := [kT_takeNumber_0, kT_takeNumber_1, kT_takeNumber_2, kT_takeNumber_3]
def mT_takeNumber : dmM := (⟨"WhichOneAllKnow$Text", "takeNumber", "(II)Z"⟩, prog_6_method_10_code, 6, some (.boolean), kT_takeNumber, [574, 573, 10, 82])
def kT_mayBe_0 : List dmA := [(0, .iload_n 1, 1, 1, 0, 0, 0, []), (1, .tableswitch 98 0 3 #[31, 43, 50, 74], 2, 38, 31, 0, 0, [2, 9, 14, 26]), (32, .iload_n 3, 3, 3, 0, 0, 0, []), (33, .bipush 11, 4, 0, 0, 11, 0, []), (35, .if_icmp .gt 7, 5, 7, 0, 0, 0, []), (38, .iconst 1, 6, 0, 0, 1, 0, []), (39, .goto 4, 7, 8, 0, 0, 0, []), (42, .iconst 0, 8, 0, 0, 0, 0, []), (43, .ireturn, 9, 0, 0, 0, 0, []), (44, .aload_n 0, 10, 0, 0, 0, 0, []), (45, .iload_n 2, 11, 2, 0, 0, 0, []), (46, .iload_n 3, 12, 3, 0, 0, 0, []), (47, .invokevirtual 114, 13, 64, 2, 0, 580, []), (50, .ireturn, 14, 0, 0, 0, 0, []), (51, .iload_n 2, 15, 2, 0, 0, 0, []), (52, .ifCond .ne 14, 16, 21, 0, 0, 0, [])]
def kT_mayBe_1 : List dmA := [(55, .aload_n 0, 17, 0, 0, 0, 0, []), (56, .getfield 29, 18, 0, 4, 1, 240, []), (59, .iload_n 3, 19, 3, 0, 0, 0, []), (60, .invokevirtual 117, 20, 23, 1, 0, 586, []), (63, .goto 11, 21, 25, 0, 0, 0, []), (66, .aload_n 0, 22, 0, 0, 0, 0, []), (67, .getfield 29, 23, 0, 4, 1, 240, []), (70, .iload_n 3, 24, 3, 0, 0, 0, []), (71, .invokevirtual 120, 25, 37, 1, 0, 587, []), (74, .ireturn, 26, 0, 0, 0, 0, []), (75, .iload_n 2, 27, 2, 0, 0, 0, []), (76, .ifCond .ne 14, 28, 33, 0, 0, 0, []), (79, .aload_n 0, 29, 0, 0, 0, 0, []), (80, .getfield 29, 30, 0, 4, 1, 240, []), (83, .iload_n 3, 31, 3, 0, 0, 0, []), (84, .invokevirtual 117, 32, 23, 1, 0, 586, [])]
def kT_mayBe_2 : List dmA := [(87, .goto 11, 33, 37, 0, 0, 0, []), (90, .aload_n 0, 34, 0, 0, 0, 0, []), (91, .getfield 29, 35, 0, 4, 1, 240, []), (94, .iload_n 3, 36, 3, 0, 0, 0, []), (95, .invokevirtual 123, 37, 33, 1, 0, 585, []), (98, .ireturn, 38, 0, 0, 0, 0, []), (99, .iload_n 3, 39, 3, 0, 0, 0, []), (100, .bipush 9, 40, 0, 0, 9, 0, []), (102, .if_icmp .gt 7, 41, 43, 0, 0, 0, []), (105, .iconst 1, 42, 0, 0, 1, 0, []), (106, .goto 4, 43, 44, 0, 0, 0, []), (109, .iconst 0, 44, 0, 0, 0, 0, []), (110, .ireturn, 45, 0, 0, 0, 0, [])]
def kT_mayBe : List (List dmA) := [kT_mayBe_0, kT_mayBe_1, kT_mayBe_2]
def mT_mayBe : dmM := (⟨"WhichOneAllKnow$Text", "mayBe", "(III)Z"⟩, prog_6_method_12_code, 4, some (.boolean), kT_mayBe, [579, 578, 11, 82])
def kT_mayBeOfVoice_0 : List dmA := [(0, .iload_n 1, 1, 1, 0, 0, 0, []), (1, .tableswitch 68 0 3 #[31, 36, 48, 57], 2, 24, 31, 0, 0, [2, 5, 12, 17]), (32, .iload_n 2, 3, 2, 0, 0, 0, []), (33, .invokestatic 126, 4, 26, 1, 0, 584, [3]), (36, .ireturn, 5, 0, 0, 0, 0, []), (37, .iload_n 2, 6, 2, 0, 0, 0, []), (38, .bipush 9, 7, 0, 0, 9, 0, []), (40, .if_icmp .gt 7, 8, 10, 0, 0, 0, []), (43, .iconst 1, 9, 0, 0, 1, 0, []), (44, .goto 4, 10, 11, 0, 0, 0, []), (47, .iconst 0, 11, 0, 0, 0, 0, []), (48, .ireturn, 12, 0, 0, 0, 0, []), (49, .aload_n 0, 13, 0, 0, 0, 0, []), (50, .getfield 29, 14, 0, 4, 1, 240, []), (53, .iload_n 2, 15, 2, 0, 0, 0, []), (54, .invokevirtual 123, 16, 33, 1, 0, 585, [])]
def kT_mayBeOfVoice_1 : List dmA := [(57, .ireturn, 17, 0, 0, 0, 0, []), (58, .iload_n 2, 18, 2, 0, 0, 0, []), (59, .iconst 5, 19, 0, 0, 5, 0, []), (60, .if_icmp .gt 7, 20, 22, 0, 0, 0, []), (63, .iconst 1, 21, 0, 0, 1, 0, []), (64, .goto 4, 22, 23, 0, 0, 0, []), (67, .iconst 0, 23, 0, 0, 0, 0, []), (68, .ireturn, 24, 0, 0, 0, 0, []), (69, .iload_n 2, 25, 2, 0, 0, 0, []), (70, .bipush 11, 26, 0, 0, 11, 0, []), (72, .if_icmp .gt 7, 27, 29, 0, 0, 0, []), (75, .iconst 1, 28, 0, 0, 1, 0, []), (76, .goto 4, 29, 30, 0, 0, 0, []), (79, .iconst 0, 30, 0, 0, 0, 0, []), (80, .ireturn, 31, 0, 0, 0, 0, [])]
def kT_mayBeOfVoice : List (List dmA) := [kT_mayBeOfVoice_0, kT_mayBeOfVoice_1]
def mT_mayBeOfVoice : dmM := (⟨"WhichOneAllKnow$Text", "mayBeOfVoice", "(II)Z"⟩, prog_6_method_13_code, 3, some (.boolean), kT_mayBeOfVoice, [583, 582, 12, 82])
def kT_tell_0 : List dmA := [(0, .iload_n 1, 1, 1, 0, 0, 0, []), (1, .tableswitch 135 0 3 #[31, 48, 89, 112], 2, 62, 31, 0, 0, [2, 11, 36, 49]), (32, .aload_n 0, 3, 0, 0, 0, 0, []), (33, .getfield 29, 4, 0, 4, 1, 240, []), (36, .aload_n 0, 5, 0, 0, 0, 0, []), (37, .getfield 9, 6, 1, 4, 1, 241, []), (40, .iconst 0, 7, 0, 0, 0, 0, []), (41, .iaload, 8, 0, 0, 0, 0, []), (42, .invokevirtual 129, 9, 31, 1, 0, 592, []), (45, .pop, 10, 0, 0, 0, 0, []), (46, .goto 103, 11, 69, 0, 0, 0, []), (49, .aload_n 0, 12, 0, 0, 0, 0, []), (50, .getfield 29, 13, 0, 4, 1, 240, []), (53, .aload_n 0, 14, 0, 0, 0, 0, []), (54, .getfield 9, 15, 1, 4, 1, 241, []), (57, .iconst 0, 16, 0, 0, 0, 0, [])]
def kT_tell_1 : List dmA := [(58, .iaload, 17, 0, 0, 0, 0, []), (59, .aload_n 0, 18, 0, 0, 0, 0, []), (60, .getfield 9, 19, 1, 4, 1, 241, []), (63, .iconst 1, 20, 0, 0, 1, 0, []), (64, .iaload, 21, 0, 0, 0, 0, []), (65, .aload_n 0, 22, 0, 0, 0, 0, []), (66, .getfield 9, 23, 1, 4, 1, 241, []), (69, .iconst 2, 24, 0, 0, 2, 0, []), (70, .iaload, 25, 0, 0, 0, 0, []), (71, .aload_n 0, 26, 0, 0, 0, 0, []), (72, .getfield 9, 27, 1, 4, 1, 241, []), (75, .iconst 3, 28, 0, 0, 3, 0, []), (76, .iaload, 29, 0, 0, 0, 0, []), (77, .aload_n 0, 30, 0, 0, 0, 0, []), (78, .getfield 9, 31, 1, 4, 1, 241, []), (81, .iconst 4, 32, 0, 0, 4, 0, [])]
def kT_tell_2 : List dmA := [(82, .iaload, 33, 0, 0, 0, 0, []), (83, .invokevirtual 133, 34, 35, 5, 0, 593, []), (86, .pop, 35, 0, 0, 0, 0, []), (87, .goto 62, 36, 69, 0, 0, 0, []), (90, .aload_n 0, 37, 0, 0, 0, 0, []), (91, .getfield 29, 38, 0, 4, 1, 240, []), (94, .aload_n 0, 39, 0, 0, 0, 0, []), (95, .getfield 9, 40, 1, 4, 1, 241, []), (98, .iconst 0, 41, 0, 0, 0, 0, []), (99, .iaload, 42, 0, 0, 0, 0, []), (100, .aload_n 0, 43, 0, 0, 0, 0, []), (101, .getfield 9, 44, 1, 4, 1, 241, []), (104, .iconst 1, 45, 0, 0, 1, 0, []), (105, .iaload, 46, 0, 0, 0, 0, []), (106, .iconst 1, 47, 0, 0, 1, 0, []), (107, .invokevirtual 137, 48, 39, 3, 0, 594, [])]
def kT_tell_3 : List dmA := [(110, .goto 39, 49, 69, 0, 0, 0, []), (113, .aload_n 0, 50, 0, 0, 0, 0, []), (114, .getfield 29, 51, 0, 4, 1, 240, []), (117, .getfield 141, 52, 2, 0, 1, 113, []), (120, .aload_n 0, 53, 0, 0, 0, 0, []), (121, .getfield 9, 54, 1, 4, 1, 241, []), (124, .iconst 0, 55, 0, 0, 0, 0, []), (125, .iaload, 56, 0, 0, 0, 0, []), (126, .aload_n 0, 57, 0, 0, 0, 0, []), (127, .getfield 9, 58, 1, 4, 1, 241, []), (130, .iconst 1, 59, 0, 0, 1, 0, []), (131, .iaload, 60, 0, 0, 0, 0, []), (132, .iastore, 61, 0, 0, 0, 0, []), (133, .goto 16, 62, 69, 0, 0, 0, []), (136, .aload_n 0, 63, 0, 0, 0, 0, []), (137, .getfield 29, 64, 0, 4, 1, 240, [])]
def kT_tell_4 : List dmA := [(140, .aload_n 0, 65, 0, 0, 0, 0, []), (141, .getfield 9, 66, 1, 4, 1, 241, []), (144, .iconst 0, 67, 0, 0, 0, 0, []), (145, .iaload, 68, 0, 0, 0, 0, []), (146, .putfield 144, 69, 9, 0, 0, 129, []), (149, .return_, 70, 0, 0, 0, 0, [])]
def kT_tell : List (List dmA) := [kT_tell_0, kT_tell_1, kT_tell_2, kT_tell_3, kT_tell_4]
def mT_tell : dmM := (⟨"WhichOneAllKnow$Text", "tell", "(I)V"⟩, prog_6_method_14_code, 2, none, kT_tell, [591, 590, 13, 82])
def kO_fault_0 : List dmA := [(0, .aload_n 0, 1, 0, 0, 0, 0, []), (1, .getfield 60, 2, 9, 5, 0, 292, []), (4, .ireturn, 3, 0, 0, 0, 0, [])]
def kO_fault : List (List dmA) := [kO_fault_0]
def mO_fault : dmM := (⟨"WhichOneAllKnow", "fault", "()I"⟩, prog_1_method_17_code, 1, some (.int), kO_fault, [599, 597, 598, 77])
def kO_sung_0 : List dmA := [(0, .aload_n 0, 1, 0, 0, 0, 0, []), (1, .getfield 10, 2, 0, 5, 1, 283, []), (4, .iload_n 1, 3, 1, 0, 0, 0, []), (5, .invokevirtual 157, 4, 37, 1, 0, 439, []), (8, .ifCond .ne 9, 5, 9, 0, 0, 0, []), (11, .aload_n 0, 6, 0, 0, 0, 0, []), (12, .iconst (-1), 7, 0, 0, -1, 0, []), (13, .invokevirtual 68, 8, 9, 1, 0, 322, []), (16, .ireturn, 9, 0, 0, 0, 0, []), (17, .iload 4, 10, 4, 0, 0, 0, []), (19, .iconst 0, 11, 0, 0, 0, 0, []), (20, .iconst 3, 12, 0, 0, 3, 0, []), (21, .invokestatic 72, 13, 10, 3, 0, 326, [1]), (24, .ifCond .ne 10, 14, 18, 0, 0, 0, []), (27, .aload_n 0, 15, 0, 0, 0, 0, []), (28, .bipush (-5), 16, 0, 0, -5, 0, [])]
def kO_sung_1 : List dmA := [(30, .invokevirtual 68, 17, 9, 1, 0, 322, []), (33, .ireturn, 18, 0, 0, 0, 0, []), (34, .iload_n 2, 19, 2, 0, 0, 0, []), (35, .invokestatic 189, 20, 68, 1, 0, 604, [1]), (38, .ifCond .eq 10, 21, 24, 0, 0, 0, []), (41, .iload_n 3, 22, 3, 0, 0, 0, []), (42, .invokestatic 192, 23, 69, 1, 0, 607, [1]), (45, .ifCond .ne 10, 24, 28, 0, 0, 0, []), (48, .aload_n 0, 25, 0, 0, 0, 0, []), (49, .bipush (-6), 26, 0, 0, -6, 0, []), (51, .invokevirtual 68, 27, 9, 1, 0, 322, []), (54, .ireturn, 28, 0, 0, 0, 0, []), (55, .aload_n 0, 29, 0, 0, 0, 0, []), (56, .getfield 34, 30, 4, 5, 1, 287, []), (59, .aload_n 0, 31, 0, 0, 0, 0, []), (60, .getfield 10, 32, 0, 5, 1, 283, [])]
def kO_sung_2 : List dmA := [(63, .iload_n 1, 33, 1, 0, 0, 0, []), (64, .iload_n 2, 34, 2, 0, 0, 0, []), (65, .invokevirtual 195, 35, 70, 3, 0, 610, []), (68, .aload_n 0, 36, 0, 0, 0, 0, []), (69, .getfield 34, 37, 4, 5, 1, 287, []), (72, .iload_n 3, 38, 3, 0, 0, 0, []), (73, .invokevirtual 199, 39, 74, 1, 0, 629, []), (76, .pop, 40, 0, 0, 0, 0, []), (77, .iload 4, 41, 4, 0, 0, 0, []), (79, .tableswitch 70 0 2 #[25, 40, 55], 42, 63, 25, 0, 0, [42, 49, 56]), (104, .aload_n 0, 43, 0, 0, 0, 0, []), (105, .getfield 10, 44, 0, 5, 1, 283, []), (108, .aload_n 0, 45, 0, 0, 0, 0, []), (109, .getfield 34, 46, 4, 5, 1, 287, []), (112, .getfield 202, 47, 5, 3, 0, 203, []), (115, .invokevirtual 205, 48, 78, 1, 0, 646, [])]
def kO_sung_3 : List dmA := [(118, .ireturn, 49, 0, 0, 0, 0, []), (119, .aload_n 0, 50, 0, 0, 0, 0, []), (120, .getfield 10, 51, 0, 5, 1, 283, []), (123, .aload_n 0, 52, 0, 0, 0, 0, []), (124, .getfield 34, 53, 4, 5, 1, 287, []), (127, .getfield 208, 54, 6, 3, 0, 205, []), (130, .invokevirtual 205, 55, 78, 1, 0, 646, []), (133, .ireturn, 56, 0, 0, 0, 0, []), (134, .aload_n 0, 57, 0, 0, 0, 0, []), (135, .getfield 10, 58, 0, 5, 1, 283, []), (138, .aload_n 0, 59, 0, 0, 0, 0, []), (139, .getfield 34, 60, 4, 5, 1, 287, []), (142, .getfield 211, 61, 7, 3, 0, 207, []), (145, .invokevirtual 205, 62, 78, 1, 0, 646, []), (148, .ireturn, 63, 0, 0, 0, 0, []), (149, .aload_n 0, 64, 0, 0, 0, 0, [])]
def kO_sung_4 : List dmA := [(150, .getfield 10, 65, 0, 5, 1, 283, []), (153, .aload_n 0, 66, 0, 0, 0, 0, []), (154, .getfield 34, 67, 4, 5, 1, 287, []), (157, .aload_n 0, 68, 0, 0, 0, 0, []), (158, .getfield 34, 69, 4, 5, 1, 287, []), (161, .getfield 202, 70, 5, 3, 0, 203, []), (164, .invokevirtual 214, 71, 79, 1, 0, 650, []), (167, .invokevirtual 205, 72, 78, 1, 0, 646, []), (170, .ireturn, 73, 0, 0, 0, 0, [])]
def kO_sung : List (List dmA) := [kO_sung_0, kO_sung_1, kO_sung_2, kO_sung_3, kO_sung_4]
def mO_sung : dmM := (⟨"WhichOneAllKnow", "sung", "(IIII)I"⟩, prog_1_method_18_code, 5, some (.int), kO_sung, [603, 601, 602, 77])
def kO_isPitch_0 : List dmA := [(0, .iload_n 0, 1, 0, 0, 0, 0, []), (1, .iconst 0, 2, 0, 0, 0, 0, []), (2, .iconst 5, 3, 0, 0, 5, 0, []), (3, .invokestatic 72, 4, 10, 3, 0, 326, [1]), (6, .ireturn, 5, 0, 0, 0, 0, [])]
def kO_isPitch : List (List dmA) := [kO_isPitch_0]
def mO_isPitch : dmM := (⟨"WhichOneAllKnow", "isPitch", "(I)Z"⟩, prog_1_method_49_code, 1, some (.boolean), kO_isPitch, [606, 605, 0, 77])
def kO_isVerse_0 : List dmA := [(0, .iload_n 0, 1, 0, 0, 0, 0, []), (1, .iconst 0, 2, 0, 0, 0, 0, []), (2, .bipush 40, 3, 0, 0, 40, 0, []), (4, .invokestatic 72, 4, 10, 3, 0, 326, [1]), (7, .ireturn, 5, 0, 0, 0, 0, [])]
def kO_isVerse : List (List dmA) := [kO_isVerse_0]
def mO_isVerse : dmM := (⟨"WhichOneAllKnow", "isVerse", "(I)Z"⟩, prog_1_method_50_code, 1, some (.boolean), kO_isVerse, [609, 608, 0, 77])
def kS_begin_0 : List dmA := [(0, .aload_n 0, 1, 0, 0, 0, 0, []), (1, .aload_n 1, 2, 1, 0, 0, 0, []), (2, .putfield 46, 3, 2, 3, 0, 199, []), (5, .aload_n 0, 4, 0, 0, 0, 0, []), (6, .iconst 0, 5, 0, 0, 0, 0, []), (7, .putfield 20, 6, 3, 3, 0, 200, []), (10, .aload_n 0, 7, 0, 0, 0, 0, []), (11, .iconst 0, 8, 0, 0, 0, 0, []), (12, .putfield 24, 9, 4, 3, 0, 201, []), (15, .iconst 0, 10, 0, 0, 0, 0, []), (16, .istore 4, 11, 4, 0, 0, 0, []), (18, .iload 4, 12, 4, 0, 0, 0, []), (20, .aload_n 0, 13, 0, 0, 0, 0, []), (21, .getfield 46, 14, 2, 3, 0, 199, []), (24, .getfield 63, 15, 7, 0, 0, 123, []), (27, .if_icmp .ge 87, 16, 60, 0, 0, 0, [])]
def kS_begin_1 : List dmA := [(30, .aload_n 0, 17, 0, 0, 0, 0, []), (31, .getfield 17, 18, 1, 3, 1, 198, []), (34, .iload 4, 19, 4, 0, 0, 0, []), (36, .aload_n 0, 20, 0, 0, 0, 0, []), (37, .getfield 46, 21, 2, 3, 0, 199, []), (40, .iload 4, 22, 4, 0, 0, 0, []), (42, .iload_n 2, 23, 2, 0, 0, 0, []), (43, .invokevirtual 66, 24, 71, 2, 0, 614, []), (46, .iastore, 25, 0, 0, 0, 0, []), (47, .aload_n 0, 26, 0, 0, 0, 0, []), (48, .dup, 27, 0, 0, 0, 0, []), (49, .getfield 20, 28, 3, 3, 0, 200, []), (52, .aload_n 0, 29, 0, 0, 0, 0, []), (53, .getfield 46, 30, 2, 3, 0, 199, []), (56, .iload 4, 31, 4, 0, 0, 0, []), (58, .iload_n 2, 32, 2, 0, 0, 0, [])]
def kS_begin_2 : List dmA := [(59, .iload_n 3, 33, 3, 0, 0, 0, []), (60, .invokevirtual 69, 34, 73, 3, 0, 624, []), (63, .ifCond .eq 7, 35, 37, 0, 0, 0, []), (66, .iconst 1, 36, 0, 0, 1, 0, []), (67, .goto 4, 37, 38, 0, 0, 0, []), (70, .iconst 0, 38, 0, 0, 0, 0, []), (71, .iload 4, 39, 4, 0, 0, 0, []), (73, .ishl, 40, 0, 0, 0, 0, []), (74, .ior, 41, 0, 0, 0, 0, []), (75, .putfield 20, 42, 3, 3, 0, 200, []), (78, .aload_n 0, 43, 0, 0, 0, 0, []), (79, .dup, 44, 0, 0, 0, 0, []), (80, .getfield 24, 45, 4, 3, 0, 201, []), (83, .aload_n 0, 46, 0, 0, 0, 0, []), (84, .getfield 46, 47, 2, 3, 0, 199, []), (87, .iload 4, 48, 4, 0, 0, 0, [])]
def kS_begin_3 : List dmA := [(89, .iload_n 2, 49, 2, 0, 0, 0, []), (90, .invokevirtual 73, 50, 38, 2, 0, 628, []), (93, .ifCond .eq 7, 51, 53, 0, 0, 0, []), (96, .iconst 1, 52, 0, 0, 1, 0, []), (97, .goto 4, 53, 54, 0, 0, 0, []), (100, .iconst 0, 54, 0, 0, 0, 0, []), (101, .iload 4, 55, 4, 0, 0, 0, []), (103, .ishl, 56, 0, 0, 0, 0, []), (104, .ior, 57, 0, 0, 0, 0, []), (105, .putfield 24, 58, 4, 3, 0, 201, []), (108, .iinc 4 1, 59, 4, 0, 1, 0, []), (111, .goto (-93), 60, 11, 0, 0, 0, []), (114, .aload_n 0, 61, 0, 0, 0, 0, []), (115, .iconst 0, 62, 0, 0, 0, 0, []), (116, .putfield 27, 63, 5, 3, 0, 202, []), (119, .aload_n 0, 64, 0, 0, 0, 0, [])]
def kS_begin_4 : List dmA := [(120, .iconst 0, 65, 0, 0, 0, 0, []), (121, .putfield 30, 66, 6, 3, 0, 204, []), (124, .aload_n 0, 67, 0, 0, 0, 0, []), (125, .iconst 0, 68, 0, 0, 0, 0, []), (126, .putfield 33, 69, 7, 3, 0, 206, []), (129, .aload_n 0, 70, 0, 0, 0, 0, []), (130, .iconst 0, 71, 0, 0, 0, 0, []), (131, .putfield 36, 72, 8, 3, 0, 208, []), (134, .aload_n 0, 73, 0, 0, 0, 0, []), (135, .iconst 0, 74, 0, 0, 0, 0, []), (136, .putfield 39, 75, 9, 3, 0, 209, []), (139, .aload_n 0, 76, 0, 0, 0, 0, []), (140, .iconst 0, 77, 0, 0, 0, 0, []), (141, .putfield 43, 78, 10, 3, 0, 210, []), (144, .return_, 79, 0, 0, 0, 0, [])]
def kS_begin : List (List dmA) := [kS_begin_0, kS_begin_1, kS_begin_2, kS_begin_3, kS_begin_4]
def mS_begin : dmM := (⟨"WhichOneAllKnow$Singing", "begin", "(LWhichOneAllKnow$Church;II)V"⟩, prog_5_method_4_code, 5, none, kS_begin, [613, 611, 612, 80])
def kC_needOf_0 : List dmA := [(0, .aload_n 0, 1, 0, 0, 0, 0, []), (1, .iload_n 1, 2, 1, 0, 0, 0, []), (2, .iload_n 2, 3, 2, 0, 0, 0, []), (3, .invokevirtual 71, 4, 38, 2, 0, 618, []), (6, .istore_n 3, 5, 3, 0, 0, 0, []), (7, .aload_n 0, 6, 0, 0, 0, 0, []), (8, .getfield 11, 7, 0, 0, 1, 105, []), (11, .iload_n 1, 8, 1, 0, 0, 0, []), (12, .iaload, 9, 0, 0, 0, 0, []), (13, .tableswitch 59 1 5 #[44, 37, 35, 59, 37], 10, 26, 35, 0, 0, [17, 12, 10, 26, 12]), (48, .iconst 0, 11, 0, 0, 0, 0, []), (49, .ireturn, 12, 0, 0, 0, 0, []), (50, .aload_n 0, 13, 0, 0, 0, 0, []), (51, .getfield 15, 14, 1, 0, 1, 108, []), (54, .iload_n 1, 15, 1, 0, 0, 0, []), (55, .iaload, 16, 0, 0, 0, 0, [])]
def kC_needOf_1 : List dmA := [(56, .ireturn, 17, 0, 0, 0, 0, []), (57, .iload_n 3, 18, 3, 0, 0, 0, []), (58, .ifCond .eq 7, 19, 21, 0, 0, 0, []), (61, .iconst 0, 20, 0, 0, 0, 0, []), (62, .goto 9, 21, 25, 0, 0, 0, []), (65, .aload_n 0, 22, 0, 0, 0, 0, []), (66, .iload_n 1, 23, 1, 0, 0, 0, []), (67, .iload_n 3, 24, 3, 0, 0, 0, []), (68, .invokevirtual 75, 25, 72, 2, 0, 619, []), (71, .ireturn, 26, 0, 0, 0, 0, []), (72, .aload_n 0, 27, 0, 0, 0, 0, []), (73, .iload_n 1, 28, 1, 0, 0, 0, []), (74, .iload_n 3, 29, 3, 0, 0, 0, []), (75, .invokevirtual 75, 30, 72, 2, 0, 619, []), (78, .ireturn, 31, 0, 0, 0, 0, [])]
def kC_needOf : List (List dmA) := [kC_needOf_0, kC_needOf_1]
def mC_needOf : dmM := (⟨"WhichOneAllKnow$Church", "needOf", "(II)I"⟩, prog_2_method_17_code, 4, some (.int), kC_needOf, [617, 615, 616, 78])
def kC_needByBold_0 : List dmA := [(0, .iload_n 2, 1, 2, 0, 0, 0, []), (1, .ifCond .eq 18, 2, 11, 0, 0, 0, []), (4, .iconst 0, 3, 0, 0, 0, 0, []), (5, .iconst 2, 4, 0, 0, 2, 0, []), (6, .aload_n 0, 5, 0, 0, 0, 0, []), (7, .getfield 21, 6, 3, 0, 1, 114, []), (10, .iload_n 1, 7, 1, 0, 0, 0, []), (11, .iaload, 8, 0, 0, 0, 0, []), (12, .isub, 9, 0, 0, 0, 0, []), (13, .invokestatic 79, 10, 0, 2, 0, 623, [4]), (16, .goto 15, 11, 19, 0, 0, 0, []), (19, .iconst 1, 12, 0, 0, 1, 0, []), (20, .iconst 4, 13, 0, 0, 4, 0, []), (21, .aload_n 0, 14, 0, 0, 0, 0, []), (22, .getfield 21, 15, 3, 0, 1, 114, []), (25, .iload_n 1, 16, 1, 0, 0, 0, [])]
def kC_needByBold_1 : List dmA := [(26, .iaload, 17, 0, 0, 0, 0, []), (27, .isub, 18, 0, 0, 0, 0, []), (28, .invokestatic 79, 19, 0, 2, 0, 623, [4]), (31, .ireturn, 20, 0, 0, 0, 0, [])]
def kC_needByBold : List (List dmA) := [kC_needByBold_0, kC_needByBold_1]
def mC_needByBold : dmM := (⟨"WhichOneAllKnow$Church", "needByBold", "(IZ)I"⟩, prog_2_method_18_code, 3, some (.int), kC_needByBold, [622, 621, 14, 78])
def kC_isInReach_0 : List dmA := [(0, .aload_n 0, 1, 0, 0, 0, 0, []), (1, .getfield 30, 2, 6, 0, 1, 120, []), (4, .iload_n 2, 3, 2, 0, 0, 0, []), (5, .iaload, 4, 0, 0, 0, 0, []), (6, .iload_n 3, 5, 3, 0, 0, 0, []), (7, .iadd, 6, 0, 0, 0, 0, []), (8, .aload_n 0, 7, 0, 0, 0, 0, []), (9, .getfield 24, 8, 4, 0, 1, 116, []), (12, .iload_n 1, 9, 1, 0, 0, 0, []), (13, .iaload, 10, 0, 0, 0, 0, []), (14, .if_icmp .gt 7, 11, 13, 0, 0, 0, []), (17, .iconst 1, 12, 0, 0, 1, 0, []), (18, .goto 4, 13, 14, 0, 0, 0, []), (21, .iconst 0, 14, 0, 0, 0, 0, []), (22, .ireturn, 15, 0, 0, 0, 0, [])]
def kC_isInReach : List (List dmA) := [kC_isInReach_0]
def mC_isInReach : dmM := (⟨"WhichOneAllKnow$Church", "isInReach", "(III)Z"⟩, prog_2_method_16_code, 4, some (.boolean), kC_isInReach, [627, 625, 626, 78])
def kS_singTo_0 : List dmA := [(0, .iconst 0, 1, 0, 0, 0, 0, []), (1, .istore_n 2, 2, 2, 0, 0, 0, []), (2, .iload_n 2, 3, 2, 0, 0, 0, []), (3, .iload_n 1, 4, 1, 0, 0, 0, []), (4, .if_icmp .gt 20, 5, 12, 0, 0, 0, []), (7, .aload_n 0, 6, 0, 0, 0, 0, []), (8, .getfield 43, 7, 10, 3, 0, 210, []), (11, .ifCond .ne 13, 8, 12, 0, 0, 0, []), (14, .aload_n 0, 9, 0, 0, 0, 0, []), (15, .invokevirtual 95, 10, 75, 0, 0, 633, []), (18, .iinc 2 1, 11, 2, 0, 1, 0, []), (21, .goto (-19), 12, 2, 0, 0, 0, []), (24, .aload_n 0, 13, 0, 0, 0, 0, []), (25, .getfield 27, 14, 5, 3, 0, 202, []), (28, .ireturn, 15, 0, 0, 0, 0, [])]
def kS_singTo : List (List dmA) := [kS_singTo_0]
def mS_singTo : dmM := (⟨"WhichOneAllKnow$Singing", "singTo", "(I)I"⟩, prog_5_method_9_code, 3, some (.int), kS_singTo, [632, 630, 631, 80])
def kS_nextVerse_0 : List dmA := [(0, .iconst 0, 1, 0, 0, 0, 0, []), (1, .istore_n 1, 2, 1, 0, 0, 0, []), (2, .iconst 0, 3, 0, 0, 0, 0, []), (3, .istore_n 2, 4, 2, 0, 0, 0, []), (4, .iconst 0, 5, 0, 0, 0, 0, []), (5, .istore_n 3, 6, 3, 0, 0, 0, []), (6, .iconst 0, 7, 0, 0, 0, 0, []), (7, .istore 4, 8, 4, 0, 0, 0, []), (9, .iload 4, 9, 4, 0, 0, 0, []), (11, .aload_n 0, 10, 0, 0, 0, 0, []), (12, .getfield 46, 11, 2, 3, 0, 199, []), (15, .getfield 63, 12, 7, 0, 0, 123, []), (18, .if_icmp .ge 79, 13, 53, 0, 0, 0, []), (21, .iconst 1, 14, 0, 0, 1, 0, []), (22, .aload_n 0, 15, 0, 0, 0, 0, []), (23, .getfield 46, 16, 2, 3, 0, 199, [])]
def kS_nextVerse_1 : List dmA := [(26, .getfield 77, 17, 2, 0, 1, 111, []), (29, .iload 4, 18, 4, 0, 0, 0, []), (31, .iaload, 19, 0, 0, 0, 0, []), (32, .ishl, 20, 0, 0, 0, 0, []), (33, .istore 5, 21, 5, 0, 0, 0, []), (35, .aload_n 0, 22, 0, 0, 0, 0, []), (36, .iload 4, 23, 4, 0, 0, 0, []), (38, .invokevirtual 80, 24, 76, 1, 0, 637, []), (41, .ifCond .ne 6, 25, 26, 0, 0, 0, []), (44, .goto 47, 26, 51, 0, 0, 0, []), (47, .aload_n 0, 27, 0, 0, 0, 0, []), (48, .getfield 46, 28, 2, 3, 0, 199, []), (51, .getfield 84, 29, 0, 0, 1, 106, []), (54, .iload 4, 30, 4, 0, 0, 0, []), (56, .iaload, 31, 0, 0, 0, 0, []), (57, .iconst 5, 32, 0, 0, 5, 0, [])]
def kS_nextVerse_2 : List dmA := [(58, .if_icmp .ne 11, 33, 38, 0, 0, 0, []), (61, .iload_n 3, 34, 3, 0, 0, 0, []), (62, .iload 5, 35, 5, 0, 0, 0, []), (64, .ior, 36, 0, 0, 0, 0, []), (65, .istore_n 3, 37, 3, 0, 0, 0, []), (66, .goto 25, 38, 51, 0, 0, 0, []), (69, .aload_n 0, 39, 0, 0, 0, 0, []), (70, .iload 4, 40, 4, 0, 0, 0, []), (72, .invokevirtual 87, 41, 77, 1, 0, 642, []), (75, .ifCond .eq 11, 42, 47, 0, 0, 0, []), (78, .iload_n 1, 43, 1, 0, 0, 0, []), (79, .iload 5, 44, 5, 0, 0, 0, []), (81, .ior, 45, 0, 0, 0, 0, []), (82, .istore_n 1, 46, 1, 0, 0, 0, []), (83, .goto 8, 47, 51, 0, 0, 0, []), (86, .iload_n 2, 48, 2, 0, 0, 0, [])]
def kS_nextVerse_3 : List dmA := [(87, .iload 5, 49, 5, 0, 0, 0, []), (89, .ior, 50, 0, 0, 0, 0, []), (90, .istore_n 2, 51, 2, 0, 0, 0, []), (91, .iinc 4 1, 52, 4, 0, 1, 0, []), (94, .goto (-85), 53, 8, 0, 0, 0, []), (97, .aload_n 0, 54, 0, 0, 0, 0, []), (98, .getfield 27, 55, 5, 3, 0, 202, []), (101, .aload_n 0, 56, 0, 0, 0, 0, []), (102, .getfield 30, 57, 6, 3, 0, 204, []), (105, .ior, 58, 0, 0, 0, 0, []), (106, .aload_n 0, 59, 0, 0, 0, 0, []), (107, .getfield 33, 60, 7, 3, 0, 206, []), (110, .ior, 61, 0, 0, 0, 0, []), (111, .istore 4, 62, 4, 0, 0, 0, []), (113, .aload_n 0, 63, 0, 0, 0, 0, []), (114, .iload_n 1, 64, 1, 0, 0, 0, [])]
def kS_nextVerse_4 : List dmA := [(115, .aload_n 0, 65, 0, 0, 0, 0, []), (116, .getfield 27, 66, 5, 3, 0, 202, []), (119, .if_icmp .ne 23, 67, 77, 0, 0, 0, []), (122, .iload_n 2, 68, 2, 0, 0, 0, []), (123, .aload_n 0, 69, 0, 0, 0, 0, []), (124, .getfield 30, 70, 6, 3, 0, 204, []), (127, .if_icmp .ne 15, 71, 77, 0, 0, 0, []), (130, .iload_n 3, 72, 3, 0, 0, 0, []), (131, .aload_n 0, 73, 0, 0, 0, 0, []), (132, .getfield 33, 74, 7, 3, 0, 206, []), (135, .if_icmp .ne 7, 75, 77, 0, 0, 0, []), (138, .iconst 1, 76, 0, 0, 1, 0, []), (139, .goto 4, 77, 78, 0, 0, 0, []), (142, .iconst 0, 78, 0, 0, 0, 0, []), (143, .putfield 39, 79, 9, 3, 0, 209, []), (146, .aload_n 0, 80, 0, 0, 0, 0, [])]
def kS_nextVerse_5 : List dmA := [(147, .aload_n 0, 81, 0, 0, 0, 0, []), (148, .getfield 39, 82, 9, 3, 0, 209, []), (151, .ifCond .eq 16, 83, 89, 0, 0, 0, []), (154, .iload 4, 84, 4, 0, 0, 0, []), (156, .aload_n 0, 85, 0, 0, 0, 0, []), (157, .getfield 36, 86, 8, 3, 0, 208, []), (160, .if_icmp .ne 7, 87, 89, 0, 0, 0, []), (163, .iconst 1, 88, 0, 0, 1, 0, []), (164, .goto 4, 89, 90, 0, 0, 0, []), (167, .iconst 0, 90, 0, 0, 0, 0, []), (168, .putfield 43, 91, 10, 3, 0, 210, []), (171, .aload_n 0, 92, 0, 0, 0, 0, []), (172, .iload 4, 93, 4, 0, 0, 0, []), (174, .putfield 36, 94, 8, 3, 0, 208, []), (177, .aload_n 0, 95, 0, 0, 0, 0, []), (178, .iload_n 1, 96, 1, 0, 0, 0, [])]
def kS_nextVerse_6 : List dmA := [(179, .putfield 27, 97, 5, 3, 0, 202, []), (182, .aload_n 0, 98, 0, 0, 0, 0, []), (183, .iload_n 2, 99, 2, 0, 0, 0, []), (184, .putfield 30, 100, 6, 3, 0, 204, []), (187, .aload_n 0, 101, 0, 0, 0, 0, []), (188, .iload_n 3, 102, 3, 0, 0, 0, []), (189, .putfield 33, 103, 7, 3, 0, 206, []), (192, .return_, 104, 0, 0, 0, 0, [])]
def kS_nextVerse : List (List dmA) := [kS_nextVerse_0, kS_nextVerse_1, kS_nextVerse_2, kS_nextVerse_3, kS_nextVerse_4, kS_nextVerse_5, kS_nextVerse_6]
def mS_nextVerse : dmM := (⟨"WhichOneAllKnow$Singing", "nextVerse", "()V"⟩, prog_5_method_6_code, 6, none, kS_nextVerse, [636, 634, 635, 80])
def kS_joinsIn_0 : List dmA := [(0, .aload_n 0, 1, 0, 0, 0, 0, []), (1, .getfield 20, 2, 3, 3, 0, 200, []), (4, .iload_n 1, 3, 1, 0, 0, 0, []), (5, .ishr, 4, 0, 0, 0, 0, []), (6, .iconst 1, 5, 0, 0, 1, 0, []), (7, .iand, 6, 0, 0, 0, 0, []), (8, .ifCond .ne 5, 7, 9, 0, 0, 0, []), (11, .iconst 0, 8, 0, 0, 0, 0, []), (12, .ireturn, 9, 0, 0, 0, 0, []), (13, .aload_n 0, 10, 0, 0, 0, 0, []), (14, .getfield 11, 11, 0, 3, 1, 197, []), (17, .aload_n 0, 12, 0, 0, 0, 0, []), (18, .getfield 46, 13, 2, 3, 0, 199, []), (21, .getfield 77, 14, 2, 0, 1, 111, []), (24, .iload_n 1, 15, 1, 0, 0, 0, []), (25, .iaload, 16, 0, 0, 0, 0, [])]
def kS_joinsIn_1 : List dmA := [(26, .iaload, 17, 0, 0, 0, 0, []), (27, .istore_n 2, 18, 2, 0, 0, 0, []), (28, .iload_n 2, 19, 2, 0, 0, 0, []), (29, .aload_n 0, 20, 0, 0, 0, 0, []), (30, .getfield 27, 21, 5, 3, 0, 202, []), (33, .aload_n 0, 22, 0, 0, 0, 0, []), (34, .getfield 30, 23, 6, 3, 0, 204, []), (37, .ior, 24, 0, 0, 0, 0, []), (38, .aload_n 0, 25, 0, 0, 0, 0, []), (39, .getfield 33, 26, 7, 3, 0, 206, []), (42, .ior, 27, 0, 0, 0, 0, []), (43, .iand, 28, 0, 0, 0, 0, []), (44, .invokestatic 90, 29, 28, 1, 0, 641, [1]), (47, .aload_n 0, 30, 0, 0, 0, 0, []), (48, .getfield 17, 31, 1, 3, 1, 198, []), (51, .iload_n 1, 32, 1, 0, 0, 0, [])]
def kS_joinsIn_2 : List dmA := [(52, .iaload, 33, 0, 0, 0, 0, []), (53, .if_icmp .ge 5, 34, 36, 0, 0, 0, []), (56, .iconst 0, 35, 0, 0, 0, 0, []), (57, .ireturn, 36, 0, 0, 0, 0, []), (58, .aload_n 0, 37, 0, 0, 0, 0, []), (59, .getfield 46, 38, 2, 3, 0, 199, []), (62, .getfield 84, 39, 0, 0, 1, 106, []), (65, .iload_n 1, 40, 1, 0, 0, 0, []), (66, .iaload, 41, 0, 0, 0, 0, []), (67, .bipush 6, 42, 0, 0, 6, 0, []), (69, .if_icmp .ne 21, 43, 53, 0, 0, 0, []), (72, .iload_n 2, 44, 2, 0, 0, 0, []), (73, .aload_n 0, 45, 0, 0, 0, 0, []), (74, .getfield 36, 46, 8, 3, 0, 208, []), (77, .iand, 47, 0, 0, 0, 0, []), (78, .invokestatic 90, 48, 28, 1, 0, 641, [1])]
def kS_joinsIn_3 : List dmA := [(81, .aload_n 0, 49, 0, 0, 0, 0, []), (82, .getfield 17, 50, 1, 3, 1, 198, []), (85, .iload_n 1, 51, 1, 0, 0, 0, []), (86, .iaload, 52, 0, 0, 0, 0, []), (87, .if_icmp .lt 7, 53, 55, 0, 0, 0, []), (90, .iconst 1, 54, 0, 0, 1, 0, []), (91, .goto 4, 55, 56, 0, 0, 0, []), (94, .iconst 0, 56, 0, 0, 0, 0, []), (95, .ireturn, 57, 0, 0, 0, 0, [])]
def kS_joinsIn : List (List dmA) := [kS_joinsIn_0, kS_joinsIn_1, kS_joinsIn_2, kS_joinsIn_3]
def mS_joinsIn : dmM := (⟨"WhichOneAllKnow$Singing", "joinsIn", "(I)Z"⟩, prog_5_method_7_code, 3, some (.boolean), kS_joinsIn, [640, 639, 15, 80])
def kS_singsRight_0 : List dmA := [(0, .aload_n 0, 1, 0, 0, 0, 0, []), (1, .getfield 11, 2, 0, 3, 1, 197, []), (4, .aload_n 0, 3, 0, 0, 0, 0, []), (5, .getfield 46, 4, 2, 3, 0, 199, []), (8, .getfield 77, 5, 2, 0, 1, 111, []), (11, .iload_n 1, 6, 1, 0, 0, 0, []), (12, .iaload, 7, 0, 0, 0, 0, []), (13, .iaload, 8, 0, 0, 0, 0, []), (14, .istore_n 2, 9, 2, 0, 0, 0, []), (15, .iload_n 2, 10, 2, 0, 0, 0, []), (16, .aload_n 0, 11, 0, 0, 0, 0, []), (17, .getfield 30, 12, 6, 3, 0, 204, []), (20, .iand, 13, 0, 0, 0, 0, []), (21, .invokestatic 90, 14, 28, 1, 0, 641, [1]), (24, .iload_n 2, 15, 2, 0, 0, 0, []), (25, .aload_n 0, 16, 0, 0, 0, 0, [])]
def kS_singsRight_1 : List dmA := [(26, .getfield 27, 17, 5, 3, 0, 202, []), (29, .iand, 18, 0, 0, 0, 0, []), (30, .invokestatic 90, 19, 28, 1, 0, 641, [1]), (33, .if_icmp .le 7, 20, 22, 0, 0, 0, []), (36, .iconst 1, 21, 0, 0, 1, 0, []), (37, .goto 4, 22, 23, 0, 0, 0, []), (40, .iconst 0, 23, 0, 0, 0, 0, []), (41, .istore_n 3, 24, 3, 0, 0, 0, []), (42, .aload_n 0, 25, 0, 0, 0, 0, []), (43, .getfield 24, 26, 4, 3, 0, 201, []), (46, .iload_n 1, 27, 1, 0, 0, 0, []), (47, .ishr, 28, 0, 0, 0, 0, []), (48, .iconst 1, 29, 0, 0, 1, 0, []), (49, .iand, 30, 0, 0, 0, 0, []), (50, .ifCond .eq 7, 31, 33, 0, 0, 0, []), (53, .iconst 1, 32, 0, 0, 1, 0, [])]
def kS_singsRight_2 : List dmA := [(54, .goto 4, 33, 34, 0, 0, 0, []), (57, .iconst 0, 34, 0, 0, 0, 0, []), (58, .istore 4, 35, 4, 0, 0, 0, []), (60, .aload_n 0, 36, 0, 0, 0, 0, []), (61, .getfield 46, 37, 2, 3, 0, 199, []), (64, .getfield 84, 38, 0, 0, 1, 106, []), (67, .iload_n 1, 39, 1, 0, 0, 0, []), (68, .iaload, 40, 0, 0, 0, 0, []), (69, .tableswitch 44 3 6 #[41, 31, 44, 31], 41, 49, 31, 0, 0, [47, 41, 49, 41]), (100, .iload_n 3, 42, 3, 0, 0, 0, []), (101, .ifCond .ne 7, 43, 45, 0, 0, 0, []), (104, .iconst 1, 44, 0, 0, 1, 0, []), (105, .goto 4, 45, 46, 0, 0, 0, []), (108, .iconst 0, 46, 0, 0, 0, 0, []), (109, .ireturn, 47, 0, 0, 0, 0, []), (110, .iload 4, 48, 4, 0, 0, 0, [])]
def kS_singsRight_3 : List dmA := [(112, .ireturn, 49, 0, 0, 0, 0, []), (113, .iload 4, 50, 4, 0, 0, 0, []), (115, .ifCond .ne 7, 51, 53, 0, 0, 0, []), (118, .iload_n 3, 52, 3, 0, 0, 0, []), (119, .ifCond .ne 7, 53, 55, 0, 0, 0, []), (122, .iconst 1, 54, 0, 0, 1, 0, []), (123, .goto 4, 55, 56, 0, 0, 0, []), (126, .iconst 0, 56, 0, 0, 0, 0, []), (127, .ireturn, 57, 0, 0, 0, 0, [])]
def kS_singsRight : List (List dmA) := [kS_singsRight_0, kS_singsRight_1, kS_singsRight_2, kS_singsRight_3]
def mS_singsRight : dmM := (⟨"WhichOneAllKnow$Singing", "singsRight", "(I)Z"⟩, prog_5_method_8_code, 5, some (.boolean), kS_singsRight, [645, 644, 16, 80])
def kC_voicesIn_0 : List dmA := [(0, .iconst 0, 1, 0, 0, 0, 0, []), (1, .istore_n 2, 2, 2, 0, 0, 0, []), (2, .iconst 0, 3, 0, 0, 0, 0, []), (3, .istore_n 3, 4, 3, 0, 0, 0, []), (4, .iload_n 3, 5, 3, 0, 0, 0, []), (5, .aload_n 0, 6, 0, 0, 0, 0, []), (6, .getfield 33, 7, 7, 0, 0, 122, []), (9, .if_icmp .ge 24, 8, 23, 0, 0, 0, []), (12, .iload_n 2, 9, 2, 0, 0, 0, []), (13, .iload_n 1, 10, 1, 0, 0, 0, []), (14, .aload_n 0, 11, 0, 0, 0, 0, []), (15, .getfield 18, 12, 2, 0, 1, 110, []), (18, .iload_n 3, 13, 3, 0, 0, 0, []), (19, .iaload, 14, 0, 0, 0, 0, []), (20, .ishr, 15, 0, 0, 0, 0, []), (21, .iconst 1, 16, 0, 0, 1, 0, [])]
def kC_voicesIn_1 : List dmA := [(22, .iand, 17, 0, 0, 0, 0, []), (23, .iload_n 3, 18, 3, 0, 0, 0, []), (24, .ishl, 19, 0, 0, 0, 0, []), (25, .ior, 20, 0, 0, 0, 0, []), (26, .istore_n 2, 21, 2, 0, 0, 0, []), (27, .iinc 3 1, 22, 3, 0, 1, 0, []), (30, .goto (-26), 23, 4, 0, 0, 0, []), (33, .iload_n 2, 24, 2, 0, 0, 0, []), (34, .ireturn, 25, 0, 0, 0, 0, [])]
def kC_voicesIn : List (List dmA) := [kC_voicesIn_0, kC_voicesIn_1]
def mC_voicesIn : dmM := (⟨"WhichOneAllKnow$Church", "voicesIn", "(I)I"⟩, prog_2_method_15_code, 4, some (.int), kC_voicesIn, [649, 647, 648, 78])
def kS_placesNear_0 : List dmA := [(0, .iconst 0, 1, 0, 0, 0, 0, []), (1, .istore_n 2, 2, 2, 0, 0, 0, []), (2, .iconst 0, 3, 0, 0, 0, 0, []), (3, .istore_n 3, 4, 3, 0, 0, 0, []), (4, .iload_n 3, 5, 3, 0, 0, 0, []), (5, .bipush 24, 6, 0, 0, 24, 0, []), (7, .if_icmp .ge 26, 7, 22, 0, 0, 0, []), (10, .aload_n 0, 8, 0, 0, 0, 0, []), (11, .getfield 11, 9, 0, 3, 1, 197, []), (14, .iload_n 3, 10, 3, 0, 0, 0, []), (15, .iaload, 11, 0, 0, 0, 0, []), (16, .iload_n 1, 12, 1, 0, 0, 0, []), (17, .iand, 13, 0, 0, 0, 0, []), (18, .ifCond .eq 9, 14, 20, 0, 0, 0, []), (21, .iload_n 2, 15, 2, 0, 0, 0, []), (22, .iconst 1, 16, 0, 0, 1, 0, [])]
def kS_placesNear_1 : List dmA := [(23, .iload_n 3, 17, 3, 0, 0, 0, []), (24, .ishl, 18, 0, 0, 0, 0, []), (25, .ior, 19, 0, 0, 0, 0, []), (26, .istore_n 2, 20, 2, 0, 0, 0, []), (27, .iinc 3 1, 21, 3, 0, 1, 0, []), (30, .goto (-26), 22, 4, 0, 0, 0, []), (33, .iload_n 2, 23, 2, 0, 0, 0, []), (34, .ireturn, 24, 0, 0, 0, 0, [])]
def kS_placesNear : List (List dmA) := [kS_placesNear_0, kS_placesNear_1]
def mS_placesNear : dmM := (⟨"WhichOneAllKnow$Singing", "placesNear", "(I)I"⟩, prog_5_method_3_code, 4, some (.int), kS_placesNear, [653, 651, 652, 80])
def kO_needs_0 : List dmA := [(0, .aload_n 0, 1, 0, 0, 0, 0, []), (1, .getfield 10, 2, 0, 5, 1, 283, []), (4, .iload_n 1, 3, 1, 0, 0, 0, []), (5, .invokevirtual 108, 4, 23, 1, 0, 381, []), (8, .ifCond .eq 14, 5, 10, 0, 0, 0, []), (11, .aload_n 0, 6, 0, 0, 0, 0, []), (12, .getfield 10, 7, 0, 5, 1, 283, []), (15, .iload_n 2, 8, 2, 0, 0, 0, []), (16, .invokevirtual 157, 9, 37, 1, 0, 439, []), (19, .ifCond .ne 9, 10, 14, 0, 0, 0, []), (22, .aload_n 0, 11, 0, 0, 0, 0, []), (23, .iconst (-1), 12, 0, 0, -1, 0, []), (24, .invokevirtual 68, 13, 9, 1, 0, 322, []), (27, .ireturn, 14, 0, 0, 0, 0, []), (28, .aload_n 0, 15, 0, 0, 0, 0, []), (29, .getfield 10, 16, 0, 5, 1, 283, [])]
def kO_needs_1 : List dmA := [(32, .iload_n 1, 17, 1, 0, 0, 0, []), (33, .iload_n 2, 18, 2, 0, 0, 0, []), (34, .invokevirtual 217, 19, 71, 2, 0, 658, []), (37, .ireturn, 20, 0, 0, 0, 0, [])]
def kO_needs : List (List dmA) := [kO_needs_0, kO_needs_1]
def mO_needs : dmM := (⟨"WhichOneAllKnow", "needs", "(II)I"⟩, prog_1_method_19_code, 3, some (.int), kO_needs, [657, 655, 656, 77])
def kO_verse_0 : List dmA := [(0, .aload_n 0, 1, 0, 0, 0, 0, []), (1, .getfield 10, 2, 0, 5, 1, 283, []), (4, .iload_n 1, 3, 1, 0, 0, 0, []), (5, .invokevirtual 157, 4, 37, 1, 0, 439, []), (8, .ifCond .ne 12, 5, 11, 0, 0, 0, []), (11, .aload_n 0, 6, 0, 0, 0, 0, []), (12, .iconst (-1), 7, 0, 0, -1, 0, []), (13, .invokevirtual 68, 8, 9, 1, 0, 322, []), (16, .bipush 10, 9, 0, 0, 10, 0, []), (18, .isub, 10, 0, 0, 0, 0, []), (19, .ireturn, 11, 0, 0, 0, 0, []), (20, .iload_n 3, 12, 3, 0, 0, 0, []), (21, .iconst 0, 13, 0, 0, 0, 0, []), (22, .iconst 1, 14, 0, 0, 1, 0, []), (23, .invokestatic 72, 15, 10, 3, 0, 326, [1]), (26, .ifCond .ne 13, 16, 22, 0, 0, 0, [])]
def kO_verse_1 : List dmA := [(29, .aload_n 0, 17, 0, 0, 0, 0, []), (30, .bipush (-5), 18, 0, 0, -5, 0, []), (32, .invokevirtual 68, 19, 9, 1, 0, 322, []), (35, .bipush 10, 20, 0, 0, 10, 0, []), (37, .isub, 21, 0, 0, 0, 0, []), (38, .ireturn, 22, 0, 0, 0, 0, []), (39, .iload_n 2, 23, 2, 0, 0, 0, []), (40, .invokestatic 189, 24, 68, 1, 0, 604, [1]), (43, .ifCond .ne 13, 25, 31, 0, 0, 0, []), (46, .aload_n 0, 26, 0, 0, 0, 0, []), (47, .bipush (-6), 27, 0, 0, -6, 0, []), (49, .invokevirtual 68, 28, 9, 1, 0, 322, []), (52, .bipush 10, 29, 0, 0, 10, 0, []), (54, .isub, 30, 0, 0, 0, 0, []), (55, .ireturn, 31, 0, 0, 0, 0, []), (56, .aload_n 0, 32, 0, 0, 0, 0, [])]
def kO_verse_2 : List dmA := [(57, .getfield 34, 33, 4, 5, 1, 287, []), (60, .aload_n 0, 34, 0, 0, 0, 0, []), (61, .getfield 10, 35, 0, 5, 1, 283, []), (64, .iload_n 1, 36, 1, 0, 0, 0, []), (65, .iload_n 2, 37, 2, 0, 0, 0, []), (66, .invokevirtual 195, 38, 70, 3, 0, 610, []), (69, .iload_n 3, 39, 3, 0, 0, 0, []), (70, .ifCond .ne 13, 40, 44, 0, 0, 0, []), (73, .aload_n 0, 41, 0, 0, 0, 0, []), (74, .getfield 34, 42, 4, 5, 1, 287, []), (77, .invokevirtual 220, 43, 82, 0, 0, 663, []), (80, .goto 10, 44, 47, 0, 0, 0, []), (83, .aload_n 0, 45, 0, 0, 0, 0, []), (84, .getfield 34, 46, 4, 5, 1, 287, []), (87, .invokevirtual 224, 47, 83, 0, 0, 667, []), (90, .ireturn, 48, 0, 0, 0, 0, [])]
def kO_verse : List (List dmA) := [kO_verse_0, kO_verse_1, kO_verse_2]
def mO_verse : dmM := (⟨"WhichOneAllKnow", "verse", "(III)I"⟩, prog_1_method_20_code, 4, some (.int), kO_verse, [662, 660, 661, 77])
def kS_catchesAt_0 : List dmA := [(0, .iconst 0, 1, 0, 0, 0, 0, []), (1, .istore_n 1, 2, 1, 0, 0, 0, []), (2, .iload_n 1, 3, 1, 0, 0, 0, []), (3, .bipush 40, 4, 0, 0, 40, 0, []), (5, .if_icmp .gt 41, 5, 23, 0, 0, 0, []), (8, .aload_n 0, 6, 0, 0, 0, 0, []), (9, .getfield 43, 7, 10, 3, 0, 210, []), (12, .ifCond .ne 34, 8, 23, 0, 0, 0, []), (15, .aload_n 0, 9, 0, 0, 0, 0, []), (16, .invokevirtual 95, 10, 75, 0, 0, 633, []), (19, .iconst 2, 11, 0, 0, 2, 0, []), (20, .aload_n 0, 12, 0, 0, 0, 0, []), (21, .getfield 27, 13, 5, 3, 0, 202, []), (24, .invokestatic 90, 14, 28, 1, 0, 641, [1]), (27, .imul, 15, 0, 0, 0, 0, []), (28, .aload_n 0, 16, 0, 0, 0, 0, [])]
def kS_catchesAt_1 : List dmA := [(29, .getfield 46, 17, 2, 3, 0, 199, []), (32, .getfield 63, 18, 7, 0, 0, 123, []), (35, .if_icmp .lt 5, 19, 21, 0, 0, 0, []), (38, .iload_n 1, 20, 1, 0, 0, 0, []), (39, .ireturn, 21, 0, 0, 0, 0, []), (40, .iinc 1 1, 22, 1, 0, 1, 0, []), (43, .goto (-41), 23, 2, 0, 0, 0, []), (46, .iconst (-1), 24, 0, 0, -1, 0, []), (47, .ireturn, 25, 0, 0, 0, 0, [])]
def kS_catchesAt : List (List dmA) := [kS_catchesAt_0, kS_catchesAt_1]
def mS_catchesAt : dmM := (⟨"WhichOneAllKnow$Singing", "catchesAt", "()I"⟩, prog_5_method_10_code, 2, some (.int), kS_catchesAt, [666, 664, 665, 80])
def kS_settlesAt_0 : List dmA := [(0, .iconst 0, 1, 0, 0, 0, 0, []), (1, .istore_n 1, 2, 1, 0, 0, 0, []), (2, .iconst 0, 3, 0, 0, 0, 0, []), (3, .istore_n 2, 4, 2, 0, 0, 0, []), (4, .iload_n 2, 5, 2, 0, 0, 0, []), (5, .bipush 43, 6, 0, 0, 43, 0, []), (7, .if_icmp .gt 31, 7, 23, 0, 0, 0, []), (10, .aload_n 0, 8, 0, 0, 0, 0, []), (11, .invokevirtual 95, 9, 75, 0, 0, 633, []), (14, .aload_n 0, 10, 0, 0, 0, 0, []), (15, .getfield 39, 11, 9, 3, 0, 209, []), (18, .ifCond .ne 5, 12, 14, 0, 0, 0, []), (21, .iload_n 2, 13, 2, 0, 0, 0, []), (22, .istore_n 1, 14, 1, 0, 0, 0, []), (23, .iload_n 2, 15, 2, 0, 0, 0, []), (24, .iload_n 1, 16, 1, 0, 0, 0, [])]
def kS_settlesAt_1 : List dmA := [(25, .isub, 17, 0, 0, 0, 0, []), (26, .iconst 3, 18, 0, 0, 3, 0, []), (27, .if_icmp .ne 5, 19, 21, 0, 0, 0, []), (30, .iload_n 1, 20, 1, 0, 0, 0, []), (31, .ireturn, 21, 0, 0, 0, 0, []), (32, .iinc 2 1, 22, 2, 0, 1, 0, []), (35, .goto (-31), 23, 4, 0, 0, 0, []), (38, .iconst (-1), 24, 0, 0, -1, 0, []), (39, .ireturn, 25, 0, 0, 0, 0, [])]
def kS_settlesAt : List (List dmA) := [kS_settlesAt_0, kS_settlesAt_1]
def mS_settlesAt : dmM := (⟨"WhichOneAllKnow$Singing", "settlesAt", "()I"⟩, prog_5_method_11_code, 3, some (.int), kS_settlesAt, [670, 668, 669, 80])
def kO_best_0 : List dmA := [(0, .aload_n 0, 1, 0, 0, 0, 0, []), (1, .getfield 10, 2, 0, 5, 1, 283, []), (4, .getfield 227, 3, 8, 0, 0, 126, []), (7, .ifCond .ne 10, 4, 8, 0, 0, 0, []), (10, .aload_n 0, 5, 0, 0, 0, 0, []), (11, .bipush (-5), 6, 0, 0, -5, 0, []), (13, .invokevirtual 68, 7, 9, 1, 0, 322, []), (16, .ireturn, 8, 0, 0, 0, 0, []), (17, .iload_n 1, 9, 1, 0, 0, 0, []), (18, .invokestatic 189, 10, 68, 1, 0, 604, [1]), (21, .ifCond .eq 10, 11, 14, 0, 0, 0, []), (24, .iload_n 2, 12, 2, 0, 0, 0, []), (25, .invokestatic 192, 13, 69, 1, 0, 607, [1]), (28, .ifCond .ne 10, 14, 18, 0, 0, 0, []), (31, .aload_n 0, 15, 0, 0, 0, 0, []), (32, .bipush (-6), 16, 0, 0, -6, 0, [])]
def kO_best_1 : List dmA := [(34, .invokevirtual 68, 17, 9, 1, 0, 322, []), (37, .ireturn, 18, 0, 0, 0, 0, []), (38, .iconst (-1), 19, 0, 0, -1, 0, []), (39, .istore_n 3, 20, 3, 0, 0, 0, []), (40, .iconst (-1), 21, 0, 0, -1, 0, []), (41, .istore 4, 22, 4, 0, 0, 0, []), (43, .iconst 0, 23, 0, 0, 0, 0, []), (44, .istore 5, 24, 5, 0, 0, 0, []), (46, .iload 5, 25, 5, 0, 0, 0, []), (48, .aload_n 0, 26, 0, 0, 0, 0, []), (49, .getfield 10, 27, 0, 5, 1, 283, []), (52, .getfield 227, 28, 8, 0, 0, 126, []), (55, .if_icmp .ge 40, 29, 47, 0, 0, 0, []), (58, .aload_n 0, 30, 0, 0, 0, 0, []), (59, .aload_n 0, 31, 0, 0, 0, 0, []), (60, .getfield 10, 32, 0, 5, 1, 283, [])]
def kO_best_2 : List dmA := [(63, .iload 5, 33, 5, 0, 0, 0, []), (65, .iload_n 1, 34, 1, 0, 0, 0, []), (66, .iload_n 2, 35, 2, 0, 0, 0, []), (67, .invokevirtual 230, 36, 85, 4, 0, 675, []), (70, .invokestatic 132, 37, 28, 1, 0, 401, [1]), (73, .istore 6, 38, 6, 0, 0, 0, []), (75, .iload 6, 39, 6, 0, 0, 0, []), (77, .iload 4, 40, 4, 0, 0, 0, []), (79, .if_icmp .le 10, 41, 45, 0, 0, 0, []), (82, .iload 6, 42, 6, 0, 0, 0, []), (84, .istore 4, 43, 4, 0, 0, 0, []), (86, .iload 5, 44, 5, 0, 0, 0, []), (88, .istore_n 3, 45, 3, 0, 0, 0, []), (89, .iinc 5 1, 46, 5, 0, 1, 0, []), (92, .goto (-46), 47, 24, 0, 0, 0, []), (95, .iload_n 3, 48, 3, 0, 0, 0, [])]
def kO_best_3 : List dmA := [(96, .ireturn, 49, 0, 0, 0, 0, [])]
def kO_best : List (List dmA) := [kO_best_0, kO_best_1, kO_best_2, kO_best_3]
def mO_best : dmM := (⟨"WhichOneAllKnow", "best", "(II)I"⟩, prog_1_method_21_code, 7, some (.int), kO_best, [674, 672, 673, 77])
def kO_rightAt_0 : List dmA := [(0, .aload_n 0, 1, 0, 0, 0, 0, []), (1, .getfield 34, 2, 4, 5, 1, 287, []), (4, .aload_n 1, 3, 1, 0, 0, 0, []), (5, .iload_n 2, 4, 2, 0, 0, 0, []), (6, .iload_n 3, 5, 3, 0, 0, 0, []), (7, .invokevirtual 195, 6, 70, 3, 0, 610, []), (10, .aload_n 0, 7, 0, 0, 0, 0, []), (11, .getfield 34, 8, 4, 5, 1, 287, []), (14, .iload 4, 9, 4, 0, 0, 0, []), (16, .invokevirtual 199, 10, 74, 1, 0, 629, []), (19, .ireturn, 11, 0, 0, 0, 0, [])]
def kO_rightAt : List (List dmA) := [kO_rightAt_0]
def mO_rightAt : dmM := (⟨"WhichOneAllKnow", "rightAt", "(LWhichOneAllKnow$Church;III)I"⟩, prog_1_method_52_code, 5, some (.int), kO_rightAt, [678, 677, 17, 77])
def kO_pitch_0 : List dmA := [(0, .aload_n 0, 1, 0, 0, 0, 0, []), (1, .getfield 10, 2, 0, 5, 1, 283, []), (4, .iload_n 1, 3, 1, 0, 0, 0, []), (5, .invokevirtual 157, 4, 37, 1, 0, 439, []), (8, .ifCond .ne 9, 5, 9, 0, 0, 0, []), (11, .aload_n 0, 6, 0, 0, 0, 0, []), (12, .iconst (-1), 7, 0, 0, -1, 0, []), (13, .invokevirtual 68, 8, 9, 1, 0, 322, []), (16, .ireturn, 9, 0, 0, 0, 0, []), (17, .iload_n 2, 10, 2, 0, 0, 0, []), (18, .invokestatic 192, 11, 69, 1, 0, 607, [1]), (21, .ifCond .ne 10, 12, 16, 0, 0, 0, []), (24, .aload_n 0, 13, 0, 0, 0, 0, []), (25, .bipush (-6), 14, 0, 0, -6, 0, []), (27, .invokevirtual 68, 15, 9, 1, 0, 322, []), (30, .ireturn, 16, 0, 0, 0, 0, [])]
def kO_pitch_1 : List dmA := [(31, .iconst (-1), 17, 0, 0, -1, 0, []), (32, .istore_n 3, 18, 3, 0, 0, 0, []), (33, .iconst (-1), 19, 0, 0, -1, 0, []), (34, .istore 4, 20, 4, 0, 0, 0, []), (36, .iconst 0, 21, 0, 0, 0, 0, []), (37, .istore 5, 22, 5, 0, 0, 0, []), (39, .iload 5, 23, 5, 0, 0, 0, []), (41, .bipush 6, 24, 0, 0, 6, 0, []), (43, .if_icmp .ge 40, 25, 43, 0, 0, 0, []), (46, .aload_n 0, 26, 0, 0, 0, 0, []), (47, .aload_n 0, 27, 0, 0, 0, 0, []), (48, .getfield 10, 28, 0, 5, 1, 283, []), (51, .iload_n 1, 29, 1, 0, 0, 0, []), (52, .iload 5, 30, 5, 0, 0, 0, []), (54, .iload_n 2, 31, 2, 0, 0, 0, []), (55, .invokevirtual 230, 32, 85, 4, 0, 675, [])]
def kO_pitch_2 : List dmA := [(58, .invokestatic 132, 33, 28, 1, 0, 401, [1]), (61, .istore 6, 34, 6, 0, 0, 0, []), (63, .iload 6, 35, 6, 0, 0, 0, []), (65, .iload 4, 36, 4, 0, 0, 0, []), (67, .if_icmp .lt 10, 37, 41, 0, 0, 0, []), (70, .iload 6, 38, 6, 0, 0, 0, []), (72, .istore 4, 39, 4, 0, 0, 0, []), (74, .iload 5, 40, 5, 0, 0, 0, []), (76, .istore_n 3, 41, 3, 0, 0, 0, []), (77, .iinc 5 1, 42, 5, 0, 1, 0, []), (80, .goto (-41), 43, 22, 0, 0, 0, []), (83, .iload_n 3, 44, 3, 0, 0, 0, []), (84, .ireturn, 45, 0, 0, 0, 0, [])]
def kO_pitch : List (List dmA) := [kO_pitch_0, kO_pitch_1, kO_pitch_2]
def mO_pitch : dmM := (⟨"WhichOneAllKnow", "pitch", "(II)I"⟩, prog_1_method_22_code, 7, some (.int), kO_pitch, [682, 680, 681, 77])
def kO_two_0 : List dmA := [(0, .iload_n 1, 1, 1, 0, 0, 0, []), (1, .invokestatic 192, 2, 69, 1, 0, 607, [1]), (4, .ifCond .ne 13, 3, 9, 0, 0, 0, []), (7, .aload_n 0, 4, 0, 0, 0, 0, []), (8, .bipush (-6), 5, 0, 0, -6, 0, []), (10, .invokevirtual 68, 6, 9, 1, 0, 322, []), (13, .bipush 10, 7, 0, 0, 10, 0, []), (15, .isub, 8, 0, 0, 0, 0, []), (16, .ireturn, 9, 0, 0, 0, 0, []), (17, .iconst (-1), 10, 0, 0, -1, 0, []), (18, .istore_n 2, 11, 2, 0, 0, 0, []), (19, .iconst (-1), 12, 0, 0, -1, 0, []), (20, .istore_n 3, 13, 3, 0, 0, 0, []), (21, .iconst 0, 14, 0, 0, 0, 0, []), (22, .istore 4, 15, 4, 0, 0, 0, []), (24, .iload 4, 16, 4, 0, 0, 0, [])]
def kO_two_1 : List dmA := [(26, .aload_n 0, 17, 0, 0, 0, 0, []), (27, .getfield 10, 18, 0, 5, 1, 283, []), (30, .getfield 227, 19, 8, 0, 0, 126, []), (33, .if_icmp .ge 85, 20, 63, 0, 0, 0, []), (36, .aload_n 0, 21, 0, 0, 0, 0, []), (37, .aload_n 0, 22, 0, 0, 0, 0, []), (38, .getfield 10, 23, 0, 5, 1, 283, []), (41, .iload 4, 24, 4, 0, 0, 0, []), (43, .iconst 0, 25, 0, 0, 0, 0, []), (44, .iload_n 1, 26, 1, 0, 0, 0, []), (45, .invokevirtual 230, 27, 85, 4, 0, 675, []), (48, .istore 5, 28, 5, 0, 0, 0, []), (50, .iload 4, 29, 4, 0, 0, 0, []), (52, .iconst 1, 30, 0, 0, 1, 0, []), (53, .iadd, 31, 0, 0, 0, 0, []), (54, .istore 6, 32, 6, 0, 0, 0, [])]
def kO_two_2 : List dmA := [(56, .iload 6, 33, 6, 0, 0, 0, []), (58, .aload_n 0, 34, 0, 0, 0, 0, []), (59, .getfield 10, 35, 0, 5, 1, 283, []), (62, .getfield 227, 36, 8, 0, 0, 126, []), (65, .if_icmp .ge 47, 37, 61, 0, 0, 0, []), (68, .iload 5, 38, 5, 0, 0, 0, []), (70, .aload_n 0, 39, 0, 0, 0, 0, []), (71, .aload_n 0, 40, 0, 0, 0, 0, []), (72, .getfield 10, 41, 0, 5, 1, 283, []), (75, .iload 6, 42, 6, 0, 0, 0, []), (77, .iconst 0, 43, 0, 0, 0, 0, []), (78, .iload_n 1, 44, 1, 0, 0, 0, []), (79, .invokevirtual 230, 45, 85, 4, 0, 675, []), (82, .ior, 46, 0, 0, 0, 0, []), (83, .invokestatic 132, 47, 28, 1, 0, 401, [1]), (86, .istore 7, 48, 7, 0, 0, 0, [])]
def kO_two_3 : List dmA := [(88, .iload 7, 49, 7, 0, 0, 0, []), (90, .iload_n 3, 50, 3, 0, 0, 0, []), (91, .if_icmp .le 15, 51, 59, 0, 0, 0, []), (94, .iload 7, 52, 7, 0, 0, 0, []), (96, .istore_n 3, 53, 3, 0, 0, 0, []), (97, .bipush 10, 54, 0, 0, 10, 0, []), (99, .iload 4, 55, 4, 0, 0, 0, []), (101, .imul, 56, 0, 0, 0, 0, []), (102, .iload 6, 57, 6, 0, 0, 0, []), (104, .iadd, 58, 0, 0, 0, 0, []), (105, .istore_n 2, 59, 2, 0, 0, 0, []), (106, .iinc 6 1, 60, 6, 0, 1, 0, []), (109, .goto (-53), 61, 32, 0, 0, 0, []), (112, .iinc 4 1, 62, 4, 0, 1, 0, []), (115, .goto (-91), 63, 15, 0, 0, 0, []), (118, .iload_n 2, 64, 2, 0, 0, 0, [])]
def kO_two_4 : List dmA := [(119, .ireturn, 65, 0, 0, 0, 0, [])]
def kO_two : List (List dmA) := [kO_two_0, kO_two_1, kO_two_2, kO_two_3, kO_two_4]
def mO_two : dmM := (⟨"WhichOneAllKnow", "two", "(I)I"⟩, prog_1_method_23_code, 8, some (.int), kO_two, [686, 684, 685, 77])
def kO_leaders_0 : List dmA := [(0, .aload_n 0, 1, 0, 0, 0, 0, []), (1, .getfield 10, 2, 0, 5, 1, 283, []), (4, .iload_n 1, 3, 1, 0, 0, 0, []), (5, .invokevirtual 157, 4, 37, 1, 0, 439, []), (8, .ifCond .ne 9, 5, 9, 0, 0, 0, []), (11, .aload_n 0, 6, 0, 0, 0, 0, []), (12, .iconst (-1), 7, 0, 0, -1, 0, []), (13, .invokevirtual 68, 8, 9, 1, 0, 322, []), (16, .ireturn, 9, 0, 0, 0, 0, []), (17, .iload 4, 10, 4, 0, 0, 0, []), (19, .iconst 1, 11, 0, 0, 1, 0, []), (20, .iconst 2, 12, 0, 0, 2, 0, []), (21, .invokestatic 72, 13, 10, 3, 0, 326, [1]), (24, .istore 6, 14, 6, 0, 0, 0, []), (26, .iload 6, 15, 6, 0, 0, 0, []), (28, .ifCond .eq 23, 16, 27, 0, 0, 0, [])]
def kO_leaders_1 : List dmA := [(31, .iload 5, 17, 5, 0, 0, 0, []), (33, .iconst (-1), 18, 0, 0, -1, 0, []), (34, .iload 4, 19, 4, 0, 0, 0, []), (36, .iconst 1, 20, 0, 0, 1, 0, []), (37, .isub, 21, 0, 0, 0, 0, []), (38, .invokestatic 72, 22, 10, 3, 0, 326, [1]), (41, .ifCond .ne 10, 23, 27, 0, 0, 0, []), (44, .aload_n 0, 24, 0, 0, 0, 0, []), (45, .bipush (-5), 25, 0, 0, -5, 0, []), (47, .invokevirtual 68, 26, 9, 1, 0, 322, []), (50, .ireturn, 27, 0, 0, 0, 0, []), (51, .iload 6, 28, 6, 0, 0, 0, []), (53, .ifCond .eq 17, 29, 35, 0, 0, 0, []), (56, .iload_n 2, 30, 2, 0, 0, 0, []), (57, .invokestatic 189, 31, 68, 1, 0, 604, [1]), (60, .ifCond .eq 10, 32, 35, 0, 0, 0, [])]
def kO_leaders_2 : List dmA := [(63, .iload_n 3, 33, 3, 0, 0, 0, []), (64, .invokestatic 192, 34, 69, 1, 0, 607, [1]), (67, .ifCond .ne 10, 35, 39, 0, 0, 0, []), (70, .aload_n 0, 36, 0, 0, 0, 0, []), (71, .bipush (-6), 37, 0, 0, -6, 0, []), (73, .invokevirtual 68, 38, 9, 1, 0, 322, []), (76, .ireturn, 39, 0, 0, 0, 0, []), (77, .iconst (-1), 40, 0, 0, -1, 0, []), (78, .istore 7, 41, 7, 0, 0, 0, []), (80, .iconst (-1), 42, 0, 0, -1, 0, []), (81, .istore 8, 43, 8, 0, 0, 0, []), (83, .aload_n 0, 44, 0, 0, 0, 0, []), (84, .getfield 19, 45, 2, 5, 1, 285, []), (87, .aload_n 0, 46, 0, 0, 0, 0, []), (88, .getfield 10, 47, 0, 5, 1, 283, []), (91, .invokevirtual 176, 48, 45, 1, 0, 471, [])]
def kO_leaders_3 : List dmA := [(94, .iconst 0, 49, 0, 0, 0, 0, []), (95, .istore 9, 50, 9, 0, 0, 0, []), (97, .iload 9, 51, 9, 0, 0, 0, []), (99, .bipush 24, 52, 0, 0, 24, 0, []), (101, .if_icmp .ge 80, 53, 92, 0, 0, 0, []), (104, .iload 4, 54, 4, 0, 0, 0, []), (106, .iconst 1, 55, 0, 0, 1, 0, []), (107, .if_icmp .ne 8, 56, 58, 0, 0, 0, []), (110, .iload 9, 57, 9, 0, 0, 0, []), (112, .goto 5, 58, 59, 0, 0, 0, []), (115, .bipush 23, 59, 0, 0, 23, 0, []), (117, .istore 10, 60, 10, 0, 0, 0, []), (119, .iload 9, 61, 9, 0, 0, 0, []), (121, .iload 4, 62, 4, 0, 0, 0, []), (123, .iadd, 63, 0, 0, 0, 0, []), (124, .iconst 1, 64, 0, 0, 1, 0, [])]
def kO_leaders_4 : List dmA := [(125, .isub, 65, 0, 0, 0, 0, []), (126, .istore 11, 66, 11, 0, 0, 0, []), (128, .iload 11, 67, 11, 0, 0, 0, []), (130, .iload 10, 68, 10, 0, 0, 0, []), (132, .if_icmp .gt 43, 69, 90, 0, 0, 0, []), (135, .aload_n 0, 70, 0, 0, 0, 0, []), (136, .iload 9, 71, 9, 0, 0, 0, []), (138, .iload 11, 72, 11, 0, 0, 0, []), (140, .iload_n 1, 73, 1, 0, 0, 0, []), (141, .iload_n 2, 74, 2, 0, 0, 0, []), (142, .iload_n 3, 75, 3, 0, 0, 0, []), (143, .invokevirtual 234, 76, 89, 5, 0, 691, []), (146, .istore 12, 77, 12, 0, 0, 0, []), (148, .iload 12, 78, 12, 0, 0, 0, []), (150, .iload 8, 79, 8, 0, 0, 0, []), (152, .if_icmp .le 17, 80, 88, 0, 0, 0, [])]
def kO_leaders_5 : List dmA := [(155, .iload 12, 81, 12, 0, 0, 0, []), (157, .istore 8, 82, 8, 0, 0, 0, []), (159, .bipush 24, 83, 0, 0, 24, 0, []), (161, .iload 9, 84, 9, 0, 0, 0, []), (163, .imul, 85, 0, 0, 0, 0, []), (164, .iload 11, 86, 11, 0, 0, 0, []), (166, .iadd, 87, 0, 0, 0, 0, []), (167, .istore 7, 88, 7, 0, 0, 0, []), (169, .iinc 11 1, 89, 11, 0, 1, 0, []), (172, .goto (-44), 90, 66, 0, 0, 0, []), (175, .iinc 9 1, 91, 9, 0, 1, 0, []), (178, .goto (-81), 92, 50, 0, 0, 0, []), (181, .iload 5, 93, 5, 0, 0, 0, []), (183, .iconst (-1), 94, 0, 0, -1, 0, []), (184, .if_icmp .ne 6, 95, 97, 0, 0, 0, []), (187, .iload 8, 96, 8, 0, 0, 0, [])]
def kO_leaders_6 : List dmA := [(189, .ireturn, 97, 0, 0, 0, 0, []), (190, .iload 5, 98, 5, 0, 0, 0, []), (192, .ifCond .ne 11, 99, 103, 0, 0, 0, []), (195, .iload 7, 100, 7, 0, 0, 0, []), (197, .bipush 24, 101, 0, 0, 24, 0, []), (199, .idiv, 102, 0, 0, 0, 0, []), (200, .goto 8, 103, 106, 0, 0, 0, []), (203, .iload 7, 104, 7, 0, 0, 0, []), (205, .bipush 24, 105, 0, 0, 24, 0, []), (207, .irem, 106, 0, 0, 0, 0, []), (208, .ireturn, 107, 0, 0, 0, 0, [])]
def kO_leaders : List (List dmA) := [kO_leaders_0, kO_leaders_1, kO_leaders_2, kO_leaders_3, kO_leaders_4, kO_leaders_5, kO_leaders_6]
def mO_leaders : dmM := (⟨"WhichOneAllKnow", "leaders", "(IIIII)I"⟩, prog_1_method_24_code, 13, some (.int), kO_leaders, [690, 688, 689, 77])
def kO_rightLedFrom_0 : List dmA := [(0, .aload_n 0, 1, 0, 0, 0, 0, []), (1, .getfield 10, 2, 0, 5, 1, 283, []), (4, .iload_n 1, 3, 1, 0, 0, 0, []), (5, .invokevirtual 147, 4, 33, 1, 0, 423, []), (8, .ifCond .eq 14, 5, 10, 0, 0, 0, []), (11, .aload_n 0, 6, 0, 0, 0, 0, []), (12, .getfield 10, 7, 0, 5, 1, 283, []), (15, .iload_n 2, 8, 2, 0, 0, 0, []), (16, .invokevirtual 147, 9, 33, 1, 0, 423, []), (19, .ifCond .ne 5, 10, 12, 0, 0, 0, []), (22, .iconst (-1), 11, 0, 0, -1, 0, []), (23, .ireturn, 12, 0, 0, 0, 0, []), (24, .aload_n 0, 13, 0, 0, 0, 0, []), (25, .getfield 19, 14, 2, 5, 1, 285, []), (28, .aload_n 0, 15, 0, 0, 0, 0, []), (29, .getfield 10, 16, 0, 5, 1, 283, [])]
def kO_rightLedFrom_1 : List dmA := [(32, .getfield 237, 17, 7, 0, 0, 124, []), (35, .putfield 237, 18, 7, 0, 0, 124, []), (38, .aload_n 0, 19, 0, 0, 0, 0, []), (39, .getfield 19, 20, 2, 5, 1, 285, []), (42, .iload_n 1, 21, 1, 0, 0, 0, []), (43, .invokevirtual 316, 22, 90, 1, 0, 695, []), (46, .iload_n 2, 23, 2, 0, 0, 0, []), (47, .iload_n 1, 24, 1, 0, 0, 0, []), (48, .if_icmp .eq 11, 25, 29, 0, 0, 0, []), (51, .aload_n 0, 26, 0, 0, 0, 0, []), (52, .getfield 19, 27, 2, 5, 1, 285, []), (55, .iload_n 2, 28, 2, 0, 0, 0, []), (56, .invokevirtual 316, 29, 90, 1, 0, 695, []), (59, .iconst 1, 30, 0, 0, 1, 0, []), (60, .iload_n 1, 31, 1, 0, 0, 0, []), (61, .ishl, 32, 0, 0, 0, 0, [])]
def kO_rightLedFrom_2 : List dmA := [(62, .iconst 1, 33, 0, 0, 1, 0, []), (63, .iload_n 2, 34, 2, 0, 0, 0, []), (64, .ishl, 35, 0, 0, 0, 0, []), (65, .ior, 36, 0, 0, 0, 0, []), (66, .istore 6, 37, 6, 0, 0, 0, []), (68, .aload_n 0, 38, 0, 0, 0, 0, []), (69, .aload_n 0, 39, 0, 0, 0, 0, []), (70, .getfield 19, 40, 2, 5, 1, 285, []), (73, .iload_n 3, 41, 3, 0, 0, 0, []), (74, .iload 4, 42, 4, 0, 0, 0, []), (76, .iload 5, 43, 5, 0, 0, 0, []), (78, .invokevirtual 230, 44, 85, 4, 0, 675, []), (81, .iload 6, 45, 6, 0, 0, 0, []), (83, .iconst (-1), 46, 0, 0, -1, 0, []), (84, .ixor, 47, 0, 0, 0, 0, []), (85, .iand, 48, 0, 0, 0, 0, [])]
def kO_rightLedFrom_3 : List dmA := [(86, .invokestatic 132, 49, 28, 1, 0, 401, [1]), (89, .ireturn, 50, 0, 0, 0, 0, [])]
def kO_rightLedFrom : List (List dmA) := [kO_rightLedFrom_0, kO_rightLedFrom_1, kO_rightLedFrom_2, kO_rightLedFrom_3]
def mO_rightLedFrom : dmM := (⟨"WhichOneAllKnow", "rightLedFrom", "(IIIII)I"⟩, prog_1_method_53_code, 7, some (.int), kO_rightLedFrom, [694, 693, 18, 77])
def kC_addLeader_0 : List dmA := [(0, .aload_n 0, 1, 0, 0, 0, 0, []), (1, .iconst 1, 2, 0, 0, 1, 0, []), (2, .iconst 0, 3, 0, 0, 0, 0, []), (3, .iload_n 1, 4, 1, 0, 0, 0, []), (4, .iconst 5, 5, 0, 0, 5, 0, []), (5, .bipush 11, 6, 0, 0, 11, 0, []), (7, .invokevirtual 55, 7, 35, 5, 0, 699, []), (10, .istore_n 2, 8, 2, 0, 0, 0, []), (11, .aload_n 0, 9, 0, 0, 0, 0, []), (12, .iload_n 2, 10, 2, 0, 0, 0, []), (13, .invokevirtual 59, 11, 23, 1, 0, 700, []), (16, .ifCond .eq 13, 12, 18, 0, 0, 0, []), (19, .aload_n 0, 13, 0, 0, 0, 0, []), (20, .getfield 27, 14, 5, 0, 1, 118, []), (23, .iload_n 2, 15, 2, 0, 0, 0, []), (24, .aload_n 0, 16, 0, 0, 0, 0, [])]
def kC_addLeader_1 : List dmA := [(25, .invokevirtual 63, 17, 91, 0, 0, 701, []), (28, .iastore, 18, 0, 0, 0, 0, []), (29, .return_, 19, 0, 0, 0, 0, [])]
def kC_addLeader : List (List dmA) := [kC_addLeader_0, kC_addLeader_1]
def mC_addLeader : dmM := (⟨"WhichOneAllKnow$Church", "addLeader", "(I)V"⟩, prog_2_method_10_code, 3, none, kC_addLeader, [698, 696, 697, 78])
def kC_allTunes_0 : List dmA := [(0, .iconst 1, 1, 0, 0, 1, 0, []), (1, .aload_n 0, 2, 0, 0, 0, 0, []), (2, .getfield 37, 3, 8, 0, 0, 125, []), (5, .ishl, 4, 0, 0, 0, 0, []), (6, .iconst 1, 5, 0, 0, 1, 0, []), (7, .isub, 6, 0, 0, 0, 0, []), (8, .ireturn, 7, 0, 0, 0, 0, [])]
def kC_allTunes : List (List dmA) := [kC_allTunes_0]
def mC_allTunes : dmM := (⟨"WhichOneAllKnow$Church", "allTunes", "()I"⟩, prog_2_method_19_code, 1, some (.int), kC_allTunes, [704, 702, 703, 78])
def kO_taught_0 : List dmA := [(0, .aload_n 0, 1, 0, 0, 0, 0, []), (1, .getfield 10, 2, 0, 5, 1, 283, []), (4, .iload_n 1, 3, 1, 0, 0, 0, []), (5, .invokevirtual 157, 4, 37, 1, 0, 439, []), (8, .ifCond .ne 12, 5, 11, 0, 0, 0, []), (11, .aload_n 0, 6, 0, 0, 0, 0, []), (12, .iconst (-1), 7, 0, 0, -1, 0, []), (13, .invokevirtual 68, 8, 9, 1, 0, 322, []), (16, .bipush 10, 9, 0, 0, 10, 0, []), (18, .isub, 10, 0, 0, 0, 0, []), (19, .ireturn, 11, 0, 0, 0, 0, []), (20, .iload_n 2, 12, 2, 0, 0, 0, []), (21, .invokestatic 189, 13, 68, 1, 0, 604, [1]), (24, .ifCond .ne 13, 14, 20, 0, 0, 0, []), (27, .aload_n 0, 15, 0, 0, 0, 0, []), (28, .bipush (-6), 16, 0, 0, -6, 0, [])]
def kO_taught_1 : List dmA := [(30, .invokevirtual 68, 17, 9, 1, 0, 322, []), (33, .bipush 10, 18, 0, 0, 10, 0, []), (35, .isub, 19, 0, 0, 0, 0, []), (36, .ireturn, 20, 0, 0, 0, 0, []), (37, .aload_n 0, 21, 0, 0, 0, 0, []), (38, .getfield 19, 22, 2, 5, 1, 285, []), (41, .aload_n 0, 23, 0, 0, 0, 0, []), (42, .getfield 10, 24, 0, 5, 1, 283, []), (45, .invokevirtual 176, 25, 45, 1, 0, 471, []), (48, .iconst 0, 26, 0, 0, 0, 0, []), (49, .istore_n 3, 27, 3, 0, 0, 0, []), (50, .iload_n 3, 28, 3, 0, 0, 0, []), (51, .iconst 3, 29, 0, 0, 3, 0, []), (52, .if_icmp .gt 55, 30, 55, 0, 0, 0, []), (55, .iconst 0, 31, 0, 0, 0, 0, []), (56, .istore 4, 32, 4, 0, 0, 0, [])]
def kO_taught_2 : List dmA := [(58, .iload 4, 33, 4, 0, 0, 0, []), (60, .iconst 1, 34, 0, 0, 1, 0, []), (61, .aload_n 0, 35, 0, 0, 0, 0, []), (62, .getfield 10, 36, 0, 5, 1, 283, []), (65, .getfield 237, 37, 7, 0, 0, 124, []), (68, .ishl, 38, 0, 0, 0, 0, []), (69, .if_icmp .ge 32, 39, 53, 0, 0, 0, []), (72, .iload 4, 40, 4, 0, 0, 0, []), (74, .invokestatic 132, 41, 28, 1, 0, 401, [1]), (77, .iload_n 3, 42, 3, 0, 0, 0, []), (78, .if_icmp .ne 17, 43, 51, 0, 0, 0, []), (81, .aload_n 0, 44, 0, 0, 0, 0, []), (82, .iload 4, 45, 4, 0, 0, 0, []), (84, .iload_n 1, 46, 1, 0, 0, 0, []), (85, .iload_n 2, 47, 2, 0, 0, 0, []), (86, .invokevirtual 240, 48, 93, 3, 0, 709, [])]
def kO_taught_3 : List dmA := [(89, .ifCond .eq 6, 49, 51, 0, 0, 0, []), (92, .iload 4, 50, 4, 0, 0, 0, []), (94, .ireturn, 51, 0, 0, 0, 0, []), (95, .iinc 4 1, 52, 4, 0, 1, 0, []), (98, .goto (-40), 53, 32, 0, 0, 0, []), (101, .iinc 3 1, 54, 3, 0, 1, 0, []), (104, .goto (-54), 55, 27, 0, 0, 0, []), (107, .iconst (-1), 56, 0, 0, -1, 0, []), (108, .ireturn, 57, 0, 0, 0, 0, [])]
def kO_taught : List (List dmA) := [kO_taught_0, kO_taught_1, kO_taught_2, kO_taught_3]
def mO_taught : dmM := (⟨"WhichOneAllKnow", "taught", "(II)I"⟩, prog_1_method_25_code, 5, some (.int), kO_taught, [708, 706, 707, 77])
def kO_catchesIfTaught_0 : List dmA := [(0, .iconst 0, 1, 0, 0, 0, 0, []), (1, .istore 4, 2, 4, 0, 0, 0, []), (3, .iload 4, 3, 4, 0, 0, 0, []), (5, .aload_n 0, 4, 0, 0, 0, 0, []), (6, .getfield 10, 5, 0, 5, 1, 283, []), (9, .getfield 237, 6, 7, 0, 0, 124, []), (12, .if_icmp .ge 46, 7, 29, 0, 0, 0, []), (15, .aload_n 0, 8, 0, 0, 0, 0, []), (16, .getfield 19, 9, 2, 5, 1, 285, []), (19, .iload 4, 10, 4, 0, 0, 0, []), (21, .iload_n 2, 11, 2, 0, 0, 0, []), (22, .aload_n 0, 12, 0, 0, 0, 0, []), (23, .getfield 10, 13, 0, 5, 1, 283, []), (26, .iload 4, 14, 4, 0, 0, 0, []), (28, .iload_n 2, 15, 2, 0, 0, 0, []), (29, .invokevirtual 160, 16, 38, 2, 0, 443, [])]
def kO_catchesIfTaught_1 : List dmA := [(32, .ifCond .ne 12, 17, 23, 0, 0, 0, []), (35, .iload_n 1, 18, 1, 0, 0, 0, []), (36, .iload 4, 19, 4, 0, 0, 0, []), (38, .ishr, 20, 0, 0, 0, 0, []), (39, .iconst 1, 21, 0, 0, 1, 0, []), (40, .iand, 22, 0, 0, 0, 0, []), (41, .ifCond .eq 7, 23, 25, 0, 0, 0, []), (44, .iconst 1, 24, 0, 0, 1, 0, []), (45, .goto 4, 25, 26, 0, 0, 0, []), (48, .iconst 0, 26, 0, 0, 0, 0, []), (49, .invokevirtual 163, 27, 39, 3, 0, 447, []), (52, .iinc 4 1, 28, 4, 0, 1, 0, []), (55, .goto (-52), 29, 2, 0, 0, 0, []), (58, .aload_n 0, 30, 0, 0, 0, 0, []), (59, .getfield 34, 31, 4, 5, 1, 287, []), (62, .aload_n 0, 32, 0, 0, 0, 0, [])]
def kO_catchesIfTaught_2 : List dmA := [(63, .getfield 19, 33, 2, 5, 1, 285, []), (66, .iload_n 2, 34, 2, 0, 0, 0, []), (67, .iload_n 3, 35, 3, 0, 0, 0, []), (68, .invokevirtual 195, 36, 70, 3, 0, 610, []), (71, .aload_n 0, 37, 0, 0, 0, 0, []), (72, .getfield 34, 38, 4, 5, 1, 287, []), (75, .invokevirtual 220, 39, 82, 0, 0, 663, []), (78, .iconst (-1), 40, 0, 0, -1, 0, []), (79, .if_icmp .eq 7, 41, 43, 0, 0, 0, []), (82, .iconst 1, 42, 0, 0, 1, 0, []), (83, .goto 4, 43, 44, 0, 0, 0, []), (86, .iconst 0, 44, 0, 0, 0, 0, []), (87, .ireturn, 45, 0, 0, 0, 0, [])]
def kO_catchesIfTaught : List (List dmA) := [kO_catchesIfTaught_0, kO_catchesIfTaught_1, kO_catchesIfTaught_2]
def mO_catchesIfTaught : dmM := (⟨"WhichOneAllKnow", "catchesIfTaught", "(III)Z"⟩, prog_1_method_54_code, 5, some (.boolean), kO_catchesIfTaught, [712, 711, 19, 77])
def kO_helps_0 : List dmA := [(0, .aload_n 0, 1, 0, 0, 0, 0, []), (1, .getfield 10, 2, 0, 5, 1, 283, []), (4, .iload_n 1, 3, 1, 0, 0, 0, []), (5, .invokevirtual 108, 4, 23, 1, 0, 381, []), (8, .ifCond .eq 14, 5, 10, 0, 0, 0, []), (11, .aload_n 0, 6, 0, 0, 0, 0, []), (12, .getfield 10, 7, 0, 5, 1, 283, []), (15, .iload_n 2, 8, 2, 0, 0, 0, []), (16, .invokevirtual 157, 9, 37, 1, 0, 439, []), (19, .ifCond .ne 12, 10, 16, 0, 0, 0, []), (22, .aload_n 0, 11, 0, 0, 0, 0, []), (23, .iconst (-1), 12, 0, 0, -1, 0, []), (24, .invokevirtual 68, 13, 9, 1, 0, 322, []), (27, .bipush 100, 14, 0, 0, 100, 0, []), (29, .isub, 15, 0, 0, 0, 0, []), (30, .ireturn, 16, 0, 0, 0, 0, [])]
def kO_helps_1 : List dmA := [(31, .iload_n 3, 17, 3, 0, 0, 0, []), (32, .invokestatic 189, 18, 68, 1, 0, 604, [1]), (35, .ifCond .eq 11, 19, 22, 0, 0, 0, []), (38, .iload 4, 20, 4, 0, 0, 0, []), (40, .invokestatic 192, 21, 69, 1, 0, 607, [1]), (43, .ifCond .ne 13, 22, 28, 0, 0, 0, []), (46, .aload_n 0, 23, 0, 0, 0, 0, []), (47, .bipush (-6), 24, 0, 0, -6, 0, []), (49, .invokevirtual 68, 25, 9, 1, 0, 322, []), (52, .bipush 100, 26, 0, 0, 100, 0, []), (54, .isub, 27, 0, 0, 0, 0, []), (55, .ireturn, 28, 0, 0, 0, 0, []), (56, .iconst 1, 29, 0, 0, 1, 0, []), (57, .aload_n 0, 30, 0, 0, 0, 0, []), (58, .getfield 10, 31, 0, 5, 1, 283, []), (61, .getfield 137, 32, 2, 0, 1, 112, [])]
def kO_helps_2 : List dmA := [(64, .iload_n 1, 33, 1, 0, 0, 0, []), (65, .iaload, 34, 0, 0, 0, 0, []), (66, .ishl, 35, 0, 0, 0, 0, []), (67, .istore 5, 36, 5, 0, 0, 0, []), (69, .aload_n 0, 37, 0, 0, 0, 0, []), (70, .aload_n 0, 38, 0, 0, 0, 0, []), (71, .getfield 10, 39, 0, 5, 1, 283, []), (74, .iload_n 2, 40, 2, 0, 0, 0, []), (75, .iload_n 3, 41, 3, 0, 0, 0, []), (76, .iload 4, 42, 4, 0, 0, 0, []), (78, .invokevirtual 230, 43, 85, 4, 0, 675, []), (81, .iload 5, 44, 5, 0, 0, 0, []), (83, .iconst (-1), 45, 0, 0, -1, 0, []), (84, .ixor, 46, 0, 0, 0, 0, []), (85, .iand, 47, 0, 0, 0, 0, []), (86, .invokestatic 132, 48, 28, 1, 0, 401, [1])]
def kO_helps_3 : List dmA := [(89, .istore 6, 49, 6, 0, 0, 0, []), (91, .aload_n 0, 50, 0, 0, 0, 0, []), (92, .getfield 34, 51, 4, 5, 1, 287, []), (95, .aload_n 0, 52, 0, 0, 0, 0, []), (96, .getfield 10, 53, 0, 5, 1, 283, []), (99, .iload_n 2, 54, 2, 0, 0, 0, []), (100, .iload_n 3, 55, 3, 0, 0, 0, []), (101, .invokevirtual 195, 56, 70, 3, 0, 610, []), (104, .aload_n 0, 57, 0, 0, 0, 0, []), (105, .getfield 34, 58, 4, 5, 1, 287, []), (108, .iload_n 1, 59, 1, 0, 0, 0, []), (109, .invokevirtual 243, 60, 95, 1, 0, 717, []), (112, .iload 6, 61, 6, 0, 0, 0, []), (114, .aload_n 0, 62, 0, 0, 0, 0, []), (115, .getfield 34, 63, 4, 5, 1, 287, []), (118, .iload 4, 64, 4, 0, 0, 0, [])]
def kO_helps_4 : List dmA := [(120, .invokevirtual 199, 65, 74, 1, 0, 629, []), (123, .invokestatic 132, 66, 28, 1, 0, 401, [1]), (126, .isub, 67, 0, 0, 0, 0, []), (127, .ireturn, 68, 0, 0, 0, 0, [])]
def kO_helps : List (List dmA) := [kO_helps_0, kO_helps_1, kO_helps_2, kO_helps_3, kO_helps_4]
def mO_helps : dmM := (⟨"WhichOneAllKnow", "helps", "(IIII)I"⟩, prog_1_method_26_code, 7, some (.int), kO_helps, [716, 714, 715, 77])
def kS_leaveOut_0 : List dmA := [(0, .aload_n 0, 1, 0, 0, 0, 0, []), (1, .dup, 2, 0, 0, 0, 0, []), (2, .getfield 20, 3, 3, 3, 0, 200, []), (5, .iconst 1, 4, 0, 0, 1, 0, []), (6, .iload_n 1, 5, 1, 0, 0, 0, []), (7, .ishl, 6, 0, 0, 0, 0, []), (8, .iconst (-1), 7, 0, 0, -1, 0, []), (9, .ixor, 8, 0, 0, 0, 0, []), (10, .iand, 9, 0, 0, 0, 0, []), (11, .putfield 20, 10, 3, 3, 0, 200, []), (14, .return_, 11, 0, 0, 0, 0, [])]
def kS_leaveOut : List (List dmA) := [kS_leaveOut_0]
def mS_leaveOut : dmM := (⟨"WhichOneAllKnow$Singing", "leaveOut", "(I)V"⟩, prog_5_method_5_code, 2, none, kS_leaveOut, [720, 718, 719, 80])
def kO_late_0 : List dmA := [(0, .iload_n 1, 1, 1, 0, 0, 0, []), (1, .iconst 0, 2, 0, 0, 0, 0, []), (2, .bipush 99, 3, 0, 0, 99, 0, []), (4, .invokestatic 72, 4, 10, 3, 0, 326, [1]), (7, .ifCond .eq 13, 5, 10, 0, 0, 0, []), (10, .iload_n 2, 6, 2, 0, 0, 0, []), (11, .iconst (-1), 7, 0, 0, -1, 0, []), (12, .bipush 9, 8, 0, 0, 9, 0, []), (14, .invokestatic 72, 9, 10, 3, 0, 326, [1]), (17, .ifCond .ne 10, 10, 14, 0, 0, 0, []), (20, .aload_n 0, 11, 0, 0, 0, 0, []), (21, .bipush (-6), 12, 0, 0, -6, 0, []), (23, .invokevirtual 68, 13, 9, 1, 0, 322, []), (26, .ireturn, 14, 0, 0, 0, 0, []), (27, .iload_n 2, 15, 2, 0, 0, 0, []), (28, .iconst (-1), 16, 0, 0, -1, 0, [])]
def kO_late_1 : List dmA := [(29, .if_icmp .ne 15, 17, 23, 0, 0, 0, []), (32, .aload_n 0, 18, 0, 0, 0, 0, []), (33, .getfield 10, 19, 0, 5, 1, 283, []), (36, .getfield 167, 20, 9, 0, 0, 128, []), (39, .iload_n 1, 21, 1, 0, 0, 0, []), (40, .imul, 22, 0, 0, 0, 0, []), (41, .goto 9, 23, 27, 0, 0, 0, []), (44, .aload_n 0, 24, 0, 0, 0, 0, []), (45, .iload_n 1, 25, 1, 0, 0, 0, []), (46, .iload_n 2, 26, 2, 0, 0, 0, []), (47, .invokevirtual 247, 27, 97, 2, 0, 725, []), (50, .ireturn, 28, 0, 0, 0, 0, [])]
def kO_late : List (List dmA) := [kO_late_0, kO_late_1]
def mO_late : dmM := (⟨"WhichOneAllKnow", "late", "(II)I"⟩, prog_1_method_27_code, 3, some (.int), kO_late, [724, 722, 723, 77])
def kO_lateLedBy_0 : List dmA := [(0, .iload_n 1, 1, 1, 0, 0, 0, []), (1, .iconst 0, 2, 0, 0, 0, 0, []), (2, .aload_n 0, 3, 0, 0, 0, 0, []), (3, .getfield 10, 4, 0, 5, 1, 283, []), (6, .getfield 167, 5, 9, 0, 0, 128, []), (9, .iload_n 2, 6, 2, 0, 0, 0, []), (10, .isub, 7, 0, 0, 0, 0, []), (11, .invokestatic 319, 8, 0, 2, 0, 729, [4]), (14, .imul, 9, 0, 0, 0, 0, []), (15, .ireturn, 10, 0, 0, 0, 0, [])]
def kO_lateLedBy : List (List dmA) := [kO_lateLedBy_0]
def mO_lateLedBy : dmM := (⟨"WhichOneAllKnow", "lateLedBy", "(II)I"⟩, prog_1_method_55_code, 3, some (.int), kO_lateLedBy, [728, 727, 20, 77])
def kO_ahead_0 : List dmA := [(0, .iload_n 1, 1, 1, 0, 0, 0, []), (1, .iconst 0, 2, 0, 0, 0, 0, []), (2, .bipush 99, 3, 0, 0, 99, 0, []), (4, .invokestatic 72, 4, 10, 3, 0, 326, [1]), (7, .ifCond .eq 13, 5, 10, 0, 0, 0, []), (10, .iload_n 2, 6, 2, 0, 0, 0, []), (11, .iconst 0, 7, 0, 0, 0, 0, []), (12, .bipush 99, 8, 0, 0, 99, 0, []), (14, .invokestatic 72, 9, 10, 3, 0, 326, [1]), (17, .ifCond .ne 13, 10, 16, 0, 0, 0, []), (20, .aload_n 0, 11, 0, 0, 0, 0, []), (21, .bipush (-6), 12, 0, 0, -6, 0, []), (23, .invokevirtual 68, 13, 9, 1, 0, 322, []), (26, .bipush 10, 14, 0, 0, 10, 0, []), (28, .isub, 15, 0, 0, 0, 0, []), (29, .ireturn, 16, 0, 0, 0, 0, [])]
def kO_ahead_1 : List dmA := [(30, .iconst 0, 17, 0, 0, 0, 0, []), (31, .istore_n 3, 18, 3, 0, 0, 0, []), (32, .iload_n 3, 19, 3, 0, 0, 0, []), (33, .bipush 9, 20, 0, 0, 9, 0, []), (35, .if_icmp .gt 21, 21, 31, 0, 0, 0, []), (38, .aload_n 0, 22, 0, 0, 0, 0, []), (39, .iload_n 1, 23, 1, 0, 0, 0, []), (40, .iload_n 3, 24, 3, 0, 0, 0, []), (41, .invokevirtual 247, 25, 97, 2, 0, 725, []), (44, .iload_n 2, 26, 2, 0, 0, 0, []), (45, .if_icmp .gt 5, 27, 29, 0, 0, 0, []), (48, .iload_n 3, 28, 3, 0, 0, 0, []), (49, .ireturn, 29, 0, 0, 0, 0, []), (50, .iinc 3 1, 30, 3, 0, 1, 0, []), (53, .goto (-21), 31, 18, 0, 0, 0, []), (56, .iconst (-1), 32, 0, 0, -1, 0, [])]
def kO_ahead_2 : List dmA := [(57, .ireturn, 33, 0, 0, 0, 0, [])]
def kO_ahead : List (List dmA) := [kO_ahead_0, kO_ahead_1, kO_ahead_2]
def mO_ahead : dmM := (⟨"WhichOneAllKnow", "ahead", "(II)I"⟩, prog_1_method_28_code, 4, some (.int), kO_ahead, [733, 731, 732, 77])
def kO_fits_0 : List dmA := [(0, .aload_n 0, 1, 0, 0, 0, 0, []), (1, .iload_n 1, 2, 1, 0, 0, 0, []), (2, .iload_n 2, 3, 2, 0, 0, 0, []), (3, .invokevirtual 250, 4, 100, 2, 0, 738, []), (6, .istore 4, 5, 4, 0, 0, 0, []), (8, .iload 4, 6, 4, 0, 0, 0, []), (10, .ifCond .ne 24, 7, 17, 0, 0, 0, []), (13, .iload_n 2, 8, 2, 0, 0, 0, []), (14, .iconst 1, 9, 0, 0, 1, 0, []), (15, .bipush 40, 10, 0, 0, 40, 0, []), (17, .invokestatic 72, 11, 10, 3, 0, 326, [1]), (20, .ifCond .eq 10, 12, 15, 0, 0, 0, []), (23, .iload_n 3, 13, 3, 0, 0, 0, []), (24, .invokestatic 189, 14, 68, 1, 0, 604, [1]), (27, .ifCond .ne 7, 15, 17, 0, 0, 0, []), (30, .bipush (-6), 16, 0, 0, -6, 0, [])]
def kO_fits_1 : List dmA := [(32, .istore 4, 17, 4, 0, 0, 0, []), (34, .iload 4, 18, 4, 0, 0, 0, []), (36, .ifCond .eq 10, 19, 23, 0, 0, 0, []), (39, .aload_n 0, 20, 0, 0, 0, 0, []), (40, .iload 4, 21, 4, 0, 0, 0, []), (42, .invokevirtual 68, 22, 9, 1, 0, 322, []), (45, .ireturn, 23, 0, 0, 0, 0, []), (46, .iconst 0, 24, 0, 0, 0, 0, []), (47, .istore 5, 25, 5, 0, 0, 0, []), (49, .iconst 0, 26, 0, 0, 0, 0, []), (50, .istore 6, 27, 6, 0, 0, 0, []), (52, .iload 6, 28, 6, 0, 0, 0, []), (54, .aload_n 0, 29, 0, 0, 0, 0, []), (55, .getfield 10, 30, 0, 5, 1, 283, []), (58, .getfield 227, 31, 8, 0, 0, 126, []), (61, .if_icmp .ge 52, 32, 57, 0, 0, 0, [])]
def kO_fits_2 : List dmA := [(64, .aload_n 0, 33, 0, 0, 0, 0, []), (65, .getfield 34, 34, 4, 5, 1, 287, []), (68, .aload_n 0, 35, 0, 0, 0, 0, []), (69, .getfield 10, 36, 0, 5, 1, 283, []), (72, .iload 6, 37, 6, 0, 0, 0, []), (74, .iload_n 3, 38, 3, 0, 0, 0, []), (75, .invokevirtual 195, 39, 70, 3, 0, 610, []), (78, .aload_n 0, 40, 0, 0, 0, 0, []), (79, .getfield 34, 41, 4, 5, 1, 287, []), (82, .aload_n 0, 42, 0, 0, 0, 0, []), (83, .getfield 25, 43, 3, 5, 1, 286, []), (86, .getfield 98, 44, 0, 2, 1, 169, []), (89, .iload_n 1, 45, 1, 0, 0, 0, []), (90, .aaload, 46, 0, 0, 0, 0, []), (91, .iload_n 2, 47, 2, 0, 0, 0, []), (92, .invokevirtual 253, 48, 101, 2, 0, 742, [])]
def kO_fits_3 : List dmA := [(95, .ifCond .eq 12, 49, 55, 0, 0, 0, []), (98, .iload 5, 50, 5, 0, 0, 0, []), (100, .iconst 1, 51, 0, 0, 1, 0, []), (101, .iload 6, 52, 6, 0, 0, 0, []), (103, .ishl, 53, 0, 0, 0, 0, []), (104, .ior, 54, 0, 0, 0, 0, []), (105, .istore 5, 55, 5, 0, 0, 0, []), (107, .iinc 6 1, 56, 6, 0, 1, 0, []), (110, .goto (-58), 57, 27, 0, 0, 0, []), (113, .iload 5, 58, 5, 0, 0, 0, []), (115, .ireturn, 59, 0, 0, 0, 0, [])]
def kO_fits : List (List dmA) := [kO_fits_0, kO_fits_1, kO_fits_2, kO_fits_3]
def mO_fits : dmM := (⟨"WhichOneAllKnow", "fits", "(III)I"⟩, prog_1_method_29_code, 7, some (.int), kO_fits, [737, 735, 736, 77])
def kO_noPart_0 : List dmA := [(0, .aload_n 0, 1, 0, 0, 0, 0, []), (1, .iload_n 1, 2, 1, 0, 0, 0, []), (2, .invokevirtual 80, 3, 13, 1, 0, 337, []), (5, .istore_n 3, 4, 3, 0, 0, 0, []), (6, .iload_n 3, 5, 3, 0, 0, 0, []), (7, .ifCond .eq 5, 6, 8, 0, 0, 0, []), (10, .iload_n 3, 7, 3, 0, 0, 0, []), (11, .ireturn, 8, 0, 0, 0, 0, []), (12, .iload_n 2, 9, 2, 0, 0, 0, []), (13, .ifCond .ge 6, 10, 12, 0, 0, 0, []), (16, .bipush (-4), 11, 0, 0, -4, 0, []), (18, .ireturn, 12, 0, 0, 0, 0, []), (19, .aload_n 0, 13, 0, 0, 0, 0, []), (20, .getfield 25, 14, 3, 5, 1, 286, []), (23, .iload_n 1, 15, 1, 0, 0, 0, []), (24, .iconst 0, 16, 0, 0, 0, 0, [])]
def kO_noPart_1 : List dmA := [(25, .iload_n 2, 17, 2, 0, 0, 0, []), (26, .invokevirtual 95, 18, 20, 3, 0, 366, []), (29, .ifCond .eq 7, 19, 21, 0, 0, 0, []), (32, .iconst 0, 20, 0, 0, 0, 0, []), (33, .goto 5, 21, 22, 0, 0, 0, []), (36, .bipush (-5), 22, 0, 0, -5, 0, []), (38, .ireturn, 23, 0, 0, 0, 0, [])]
def kO_noPart : List (List dmA) := [kO_noPart_0, kO_noPart_1]
def mO_noPart : dmM := (⟨"WhichOneAllKnow", "noPart", "(II)I"⟩, prog_1_method_46_code, 4, some (.int), kO_noPart, [741, 740, 21, 77])
def kS_isHeardAs_0 : List dmA := [(0, .iconst 0, 1, 0, 0, 0, 0, []), (1, .istore_n 3, 2, 3, 0, 0, 0, []), (2, .iload_n 3, 3, 3, 0, 0, 0, []), (3, .iload_n 2, 4, 2, 0, 0, 0, []), (4, .if_icmp .ge 40, 5, 26, 0, 0, 0, []), (7, .iload_n 3, 6, 3, 0, 0, 0, []), (8, .aload_n 1, 7, 1, 0, 0, 0, []), (9, .arraylength, 8, 0, 0, 0, 0, []), (10, .if_icmp .ge 34, 9, 26, 0, 0, 0, []), (13, .aload_n 0, 10, 0, 0, 0, 0, []), (14, .invokevirtual 95, 11, 75, 0, 0, 633, []), (17, .aload_n 0, 12, 0, 0, 0, 0, []), (18, .getfield 27, 13, 5, 3, 0, 202, []), (21, .aload_n 0, 14, 0, 0, 0, 0, []), (22, .getfield 30, 15, 6, 3, 0, 204, []), (25, .ior, 16, 0, 0, 0, 0, [])]
def kS_isHeardAs_1 : List dmA := [(26, .invokestatic 90, 17, 28, 1, 0, 641, [1]), (29, .aload_n 1, 18, 1, 0, 0, 0, []), (30, .iload_n 3, 19, 3, 0, 0, 0, []), (31, .laload, 20, 0, 0, 0, 0, []), (32, .l2i, 21, 0, 0, 0, 0, []), (33, .if_icmp .eq 5, 22, 24, 0, 0, 0, []), (36, .iconst 0, 23, 0, 0, 0, 0, []), (37, .ireturn, 24, 0, 0, 0, 0, []), (38, .iinc 3 1, 25, 3, 0, 1, 0, []), (41, .goto (-39), 26, 2, 0, 0, 0, []), (44, .iconst 1, 27, 0, 0, 1, 0, []), (45, .ireturn, 28, 0, 0, 0, 0, [])]
def kS_isHeardAs : List (List dmA) := [kS_isHeardAs_0, kS_isHeardAs_1]
def mS_isHeardAs : dmM := (⟨"WhichOneAllKnow$Singing", "isHeardAs", "([JI)Z"⟩, prog_5_method_12_code, 4, some (.boolean), kS_isHeardAs, [745, 743, 744, 80])
def kO_changed_0 : List dmA := [(0, .aload_n 0, 1, 0, 0, 0, 0, []), (1, .getfield 10, 2, 0, 5, 1, 283, []), (4, .iload_n 3, 3, 3, 0, 0, 0, []), (5, .invokevirtual 157, 4, 37, 1, 0, 439, []), (8, .ifCond .eq 12, 5, 10, 0, 0, 0, []), (11, .aload_n 0, 6, 0, 0, 0, 0, []), (12, .iload_n 1, 7, 1, 0, 0, 0, []), (13, .iload_n 2, 8, 2, 0, 0, 0, []), (14, .invokevirtual 250, 9, 100, 2, 0, 738, []), (17, .goto 4, 10, 11, 0, 0, 0, []), (20, .iconst (-1), 11, 0, 0, -1, 0, []), (21, .istore 5, 12, 5, 0, 0, 0, []), (23, .iload 5, 13, 5, 0, 0, 0, []), (25, .ifCond .ne 25, 14, 24, 0, 0, 0, []), (28, .iload_n 2, 15, 2, 0, 0, 0, []), (29, .iconst 1, 16, 0, 0, 1, 0, [])]
def kO_changed_1 : List dmA := [(30, .bipush 40, 17, 0, 0, 40, 0, []), (32, .invokestatic 72, 18, 10, 3, 0, 326, [1]), (35, .ifCond .eq 11, 19, 22, 0, 0, 0, []), (38, .iload 4, 20, 4, 0, 0, 0, []), (40, .invokestatic 189, 21, 68, 1, 0, 604, [1]), (43, .ifCond .ne 7, 22, 24, 0, 0, 0, []), (46, .bipush (-6), 23, 0, 0, -6, 0, []), (48, .istore 5, 24, 5, 0, 0, 0, []), (50, .iload 5, 25, 5, 0, 0, 0, []), (52, .ifCond .eq 13, 26, 32, 0, 0, 0, []), (55, .aload_n 0, 27, 0, 0, 0, 0, []), (56, .iload 5, 28, 5, 0, 0, 0, []), (58, .invokevirtual 68, 29, 9, 1, 0, 322, []), (61, .bipush 10, 30, 0, 0, 10, 0, []), (63, .isub, 31, 0, 0, 0, 0, []), (64, .ireturn, 32, 0, 0, 0, 0, [])]
def kO_changed_2 : List dmA := [(65, .aload_n 0, 33, 0, 0, 0, 0, []), (66, .getfield 19, 34, 2, 5, 1, 285, []), (69, .aload_n 0, 35, 0, 0, 0, 0, []), (70, .getfield 10, 36, 0, 5, 1, 283, []), (73, .invokevirtual 176, 37, 45, 1, 0, 471, []), (76, .iconst 0, 38, 0, 0, 0, 0, []), (77, .istore 6, 39, 6, 0, 0, 0, []), (79, .iload 6, 40, 6, 0, 0, 0, []), (81, .aload_n 0, 41, 0, 0, 0, 0, []), (82, .getfield 10, 42, 0, 5, 1, 283, []), (85, .getfield 237, 43, 7, 0, 0, 124, []), (88, .if_icmp .ge 98, 44, 90, 0, 0, 0, []), (91, .iload 6, 45, 6, 0, 0, 0, []), (93, .iconst 1, 46, 0, 0, 1, 0, []), (94, .iadd, 47, 0, 0, 0, 0, []), (95, .istore 7, 48, 7, 0, 0, 0, [])]
def kO_changed_3 : List dmA := [(97, .iload 7, 49, 7, 0, 0, 0, []), (99, .aload_n 0, 50, 0, 0, 0, 0, []), (100, .getfield 10, 51, 0, 5, 1, 283, []), (103, .getfield 237, 52, 7, 0, 0, 124, []), (106, .if_icmp .ge 74, 53, 88, 0, 0, 0, []), (109, .aload_n 0, 54, 0, 0, 0, 0, []), (110, .getfield 19, 55, 2, 5, 1, 285, []), (113, .iload 6, 56, 6, 0, 0, 0, []), (115, .iload 7, 57, 7, 0, 0, 0, []), (117, .invokevirtual 257, 58, 103, 2, 0, 750, []), (120, .aload_n 0, 59, 0, 0, 0, 0, []), (121, .getfield 34, 60, 4, 5, 1, 287, []), (124, .aload_n 0, 61, 0, 0, 0, 0, []), (125, .getfield 19, 62, 2, 5, 1, 285, []), (128, .iload_n 3, 63, 3, 0, 0, 0, []), (129, .iload 4, 64, 4, 0, 0, 0, [])]
def kO_changed_4 : List dmA := [(131, .invokevirtual 195, 65, 70, 3, 0, 610, []), (134, .aload_n 0, 66, 0, 0, 0, 0, []), (135, .getfield 34, 67, 4, 5, 1, 287, []), (138, .aload_n 0, 68, 0, 0, 0, 0, []), (139, .getfield 25, 69, 3, 5, 1, 286, []), (142, .getfield 98, 70, 0, 2, 1, 169, []), (145, .iload_n 1, 71, 1, 0, 0, 0, []), (146, .aaload, 72, 0, 0, 0, 0, []), (147, .iload_n 2, 73, 2, 0, 0, 0, []), (148, .invokevirtual 253, 74, 101, 2, 0, 742, []), (151, .ifCond .eq 12, 75, 81, 0, 0, 0, []), (154, .bipush 20, 76, 0, 0, 20, 0, []), (156, .iload 6, 77, 6, 0, 0, 0, []), (158, .imul, 78, 0, 0, 0, 0, []), (159, .iload 7, 79, 7, 0, 0, 0, []), (161, .iadd, 80, 0, 0, 0, 0, [])]
def kO_changed_5 : List dmA := [(162, .ireturn, 81, 0, 0, 0, 0, []), (163, .aload_n 0, 82, 0, 0, 0, 0, []), (164, .getfield 19, 83, 2, 5, 1, 285, []), (167, .iload 6, 84, 6, 0, 0, 0, []), (169, .iload 7, 85, 7, 0, 0, 0, []), (171, .invokevirtual 257, 86, 103, 2, 0, 750, []), (174, .iinc 7 1, 87, 7, 0, 1, 0, []), (177, .goto (-80), 88, 48, 0, 0, 0, []), (180, .iinc 6 1, 89, 6, 0, 1, 0, []), (183, .goto (-104), 90, 39, 0, 0, 0, []), (186, .iconst (-1), 91, 0, 0, -1, 0, []), (187, .ireturn, 92, 0, 0, 0, 0, [])]
def kO_changed : List (List dmA) := [kO_changed_0, kO_changed_1, kO_changed_2, kO_changed_3, kO_changed_4, kO_changed_5]
def mO_changed : dmM := (⟨"WhichOneAllKnow", "changed", "(IIII)I"⟩, prog_1_method_30_code, 8, some (.int), kO_changed, [749, 747, 748, 77])
def kC_changePlaces_0 : List dmA := [(0, .aload_n 0, 1, 0, 0, 0, 0, []), (1, .getfield 18, 2, 2, 0, 1, 110, []), (4, .iload_n 1, 3, 1, 0, 0, 0, []), (5, .iaload, 4, 0, 0, 0, 0, []), (6, .istore_n 3, 5, 3, 0, 0, 0, []), (7, .aload_n 0, 6, 0, 0, 0, 0, []), (8, .getfield 18, 7, 2, 0, 1, 110, []), (11, .iload_n 1, 8, 1, 0, 0, 0, []), (12, .aload_n 0, 9, 0, 0, 0, 0, []), (13, .getfield 18, 10, 2, 0, 1, 110, []), (16, .iload_n 2, 11, 2, 0, 0, 0, []), (17, .iaload, 12, 0, 0, 0, 0, []), (18, .iastore, 13, 0, 0, 0, 0, []), (19, .aload_n 0, 14, 0, 0, 0, 0, []), (20, .getfield 18, 15, 2, 0, 1, 110, []), (23, .iload_n 2, 16, 2, 0, 0, 0, [])]
def kC_changePlaces_1 : List dmA := [(24, .iload_n 3, 17, 3, 0, 0, 0, []), (25, .iastore, 18, 0, 0, 0, 0, []), (26, .return_, 19, 0, 0, 0, 0, [])]
def kC_changePlaces : List (List dmA) := [kC_changePlaces_0, kC_changePlaces_1]
def mC_changePlaces : dmM := (⟨"WhichOneAllKnow$Church", "changePlaces", "(II)V"⟩, prog_2_method_11_code, 4, none, kC_changePlaces, [753, 751, 752, 78])
def kO_known_0 : List dmA := [(0, .iload_n 2, 1, 2, 0, 0, 0, []), (1, .ifCond .ne 20, 2, 11, 0, 0, 0, []), (4, .aload_n 0, 3, 0, 0, 0, 0, []), (5, .getfield 10, 4, 0, 5, 1, 283, []), (8, .iload_n 1, 5, 1, 0, 0, 0, []), (9, .invokevirtual 108, 6, 23, 1, 0, 381, []), (12, .ifCond .ne 9, 7, 11, 0, 0, 0, []), (15, .aload_n 0, 8, 0, 0, 0, 0, []), (16, .iconst (-1), 9, 0, 0, -1, 0, []), (17, .invokevirtual 68, 10, 9, 1, 0, 322, []), (20, .ireturn, 11, 0, 0, 0, 0, []), (21, .iload_n 2, 12, 2, 0, 0, 0, []), (22, .tableswitch 86 0 3 #[30, 43, 51, 59], 13, 40, 30, 0, 0, [13, 20, 24, 28]), (52, .aload_n 0, 14, 0, 0, 0, 0, []), (53, .getfield 10, 15, 0, 5, 1, 283, []), (56, .getfield 129, 16, 5, 0, 1, 119, [])]
def kO_known_1 : List dmA := [(59, .iload_n 1, 17, 1, 0, 0, 0, []), (60, .iaload, 18, 0, 0, 0, 0, []), (61, .invokestatic 132, 19, 28, 1, 0, 401, [1]), (64, .ireturn, 20, 0, 0, 0, 0, []), (65, .aload_n 0, 21, 0, 0, 0, 0, []), (66, .getfield 10, 22, 0, 5, 1, 283, []), (69, .invokevirtual 261, 23, 105, 0, 0, 758, []), (72, .ireturn, 24, 0, 0, 0, 0, []), (73, .aload_n 0, 25, 0, 0, 0, 0, []), (74, .getfield 10, 26, 0, 5, 1, 283, []), (77, .invokevirtual 264, 27, 106, 0, 0, 763, []), (80, .ireturn, 28, 0, 0, 0, 0, []), (81, .aload_n 0, 29, 0, 0, 0, 0, []), (82, .getfield 10, 30, 0, 5, 1, 283, []), (85, .getfield 237, 31, 7, 0, 0, 124, []), (88, .ifCond .ne 12, 32, 36, 0, 0, 0, [])]
def kO_known_2 : List dmA := [(91, .aload_n 0, 33, 0, 0, 0, 0, []), (92, .bipush (-5), 34, 0, 0, -5, 0, []), (94, .invokevirtual 68, 35, 9, 1, 0, 322, []), (97, .goto 10, 36, 39, 0, 0, 0, []), (100, .aload_n 0, 37, 0, 0, 0, 0, []), (101, .getfield 10, 38, 0, 5, 1, 283, []), (104, .invokevirtual 267, 39, 107, 0, 0, 767, []), (107, .ireturn, 40, 0, 0, 0, 0, []), (108, .aload_n 0, 41, 0, 0, 0, 0, []), (109, .bipush (-5), 42, 0, 0, -5, 0, []), (111, .invokevirtual 68, 43, 9, 1, 0, 322, []), (114, .ireturn, 44, 0, 0, 0, 0, [])]
def kO_known : List (List dmA) := [kO_known_0, kO_known_1, kO_known_2]
def mO_known : dmM := (⟨"WhichOneAllKnow", "known", "(II)I"⟩, prog_1_method_31_code, 3, some (.int), kO_known, [757, 755, 756, 77])
def kC_knownTogether_0 : List dmA := [(0, .iconst 0, 1, 0, 0, 0, 0, []), (1, .istore_n 1, 2, 1, 0, 0, 0, []), (2, .iconst 0, 3, 0, 0, 0, 0, []), (3, .istore_n 2, 4, 2, 0, 0, 0, []), (4, .iload_n 2, 5, 2, 0, 0, 0, []), (5, .aload_n 0, 6, 0, 0, 0, 0, []), (6, .getfield 33, 7, 7, 0, 0, 122, []), (9, .if_icmp .ge 21, 8, 18, 0, 0, 0, []), (12, .iload_n 1, 9, 1, 0, 0, 0, []), (13, .aload_n 0, 10, 0, 0, 0, 0, []), (14, .getfield 27, 11, 5, 0, 1, 118, []), (17, .iload_n 2, 12, 2, 0, 0, 0, []), (18, .iaload, 13, 0, 0, 0, 0, []), (19, .invokestatic 85, 14, 28, 1, 0, 762, [1]), (22, .iadd, 15, 0, 0, 0, 0, []), (23, .istore_n 1, 16, 1, 0, 0, 0, [])]
def kC_knownTogether_1 : List dmA := [(24, .iinc 2 1, 17, 2, 0, 1, 0, []), (27, .goto (-23), 18, 4, 0, 0, 0, []), (30, .iload_n 1, 19, 1, 0, 0, 0, []), (31, .ireturn, 20, 0, 0, 0, 0, [])]
def kC_knownTogether : List (List dmA) := [kC_knownTogether_0, kC_knownTogether_1]
def mC_knownTogether : dmM := (⟨"WhichOneAllKnow$Church", "knownTogether", "()I"⟩, prog_2_method_20_code, 3, some (.int), kC_knownTogether, [761, 759, 760, 78])
def kC_knownToAll_0 : List dmA := [(0, .aload_n 0, 1, 0, 0, 0, 0, []), (1, .invokevirtual 63, 2, 91, 0, 0, 701, []), (4, .istore_n 1, 3, 1, 0, 0, 0, []), (5, .iconst 0, 4, 0, 0, 0, 0, []), (6, .istore_n 2, 5, 2, 0, 0, 0, []), (7, .iload_n 2, 6, 2, 0, 0, 0, []), (8, .aload_n 0, 7, 0, 0, 0, 0, []), (9, .getfield 33, 8, 7, 0, 0, 122, []), (12, .if_icmp .ge 18, 9, 18, 0, 0, 0, []), (15, .iload_n 1, 10, 1, 0, 0, 0, []), (16, .aload_n 0, 11, 0, 0, 0, 0, []), (17, .getfield 27, 12, 5, 0, 1, 118, []), (20, .iload_n 2, 13, 2, 0, 0, 0, []), (21, .iaload, 14, 0, 0, 0, 0, []), (22, .iand, 15, 0, 0, 0, 0, []), (23, .istore_n 1, 16, 1, 0, 0, 0, [])]
def kC_knownToAll_1 : List dmA := [(24, .iinc 2 1, 17, 2, 0, 1, 0, []), (27, .goto (-20), 18, 5, 0, 0, 0, []), (30, .iload_n 1, 19, 1, 0, 0, 0, []), (31, .ireturn, 20, 0, 0, 0, 0, [])]
def kC_knownToAll : List (List dmA) := [kC_knownToAll_0, kC_knownToAll_1]
def mC_knownToAll : dmM := (⟨"WhichOneAllKnow$Church", "knownToAll", "()I"⟩, prog_2_method_21_code, 3, some (.int), kC_knownToAll, [766, 764, 765, 78])
def kC_likestVoice_0 : List dmA := [(0, .iconst (-1), 1, 0, 0, -1, 0, []), (1, .istore_n 1, 2, 1, 0, 0, 0, []), (2, .iconst 0, 3, 0, 0, 0, 0, []), (3, .istore_n 2, 4, 2, 0, 0, 0, []), (4, .iconst 0, 5, 0, 0, 0, 0, []), (5, .istore_n 3, 6, 3, 0, 0, 0, []), (6, .iload_n 3, 7, 3, 0, 0, 0, []), (7, .aload_n 0, 8, 0, 0, 0, 0, []), (8, .getfield 33, 9, 7, 0, 0, 122, []), (11, .if_icmp .ge 67, 10, 44, 0, 0, 0, []), (14, .iconst 0, 11, 0, 0, 0, 0, []), (15, .istore 4, 12, 4, 0, 0, 0, []), (17, .iconst 0, 13, 0, 0, 0, 0, []), (18, .istore 5, 14, 5, 0, 0, 0, []), (20, .iload 5, 15, 5, 0, 0, 0, []), (22, .aload_n 0, 16, 0, 0, 0, 0, [])]
def kC_likestVoice_1 : List dmA := [(23, .getfield 33, 17, 7, 0, 0, 122, []), (26, .if_icmp .ge 35, 18, 35, 0, 0, 0, []), (29, .iload 4, 19, 4, 0, 0, 0, []), (31, .aload_n 0, 20, 0, 0, 0, 0, []), (32, .getfield 27, 21, 5, 0, 1, 118, []), (35, .iload 5, 22, 5, 0, 0, 0, []), (37, .iaload, 23, 0, 0, 0, 0, []), (38, .aload_n 0, 24, 0, 0, 0, 0, []), (39, .getfield 27, 25, 5, 0, 1, 118, []), (42, .iload_n 3, 26, 3, 0, 0, 0, []), (43, .iaload, 27, 0, 0, 0, 0, []), (44, .if_icmp .ne 7, 28, 30, 0, 0, 0, []), (47, .iconst 1, 29, 0, 0, 1, 0, []), (48, .goto 4, 30, 31, 0, 0, 0, []), (51, .iconst 0, 31, 0, 0, 0, 0, []), (52, .iadd, 32, 0, 0, 0, 0, [])]
def kC_likestVoice_2 : List dmA := [(53, .istore 4, 33, 4, 0, 0, 0, []), (55, .iinc 5 1, 34, 5, 0, 1, 0, []), (58, .goto (-38), 35, 14, 0, 0, 0, []), (61, .iload 4, 36, 4, 0, 0, 0, []), (63, .iload_n 2, 37, 2, 0, 0, 0, []), (64, .if_icmp .le 8, 38, 42, 0, 0, 0, []), (67, .iload 4, 39, 4, 0, 0, 0, []), (69, .istore_n 2, 40, 2, 0, 0, 0, []), (70, .iload_n 3, 41, 3, 0, 0, 0, []), (71, .istore_n 1, 42, 1, 0, 0, 0, []), (72, .iinc 3 1, 43, 3, 0, 1, 0, []), (75, .goto (-69), 44, 6, 0, 0, 0, []), (78, .iload_n 1, 45, 1, 0, 0, 0, []), (79, .ireturn, 46, 0, 0, 0, 0, [])]
def kC_likestVoice : List (List dmA) := [kC_likestVoice_0, kC_likestVoice_1, kC_likestVoice_2]
def mC_likestVoice : dmM := (⟨"WhichOneAllKnow$Church", "likestVoice", "()I"⟩, prog_2_method_22_code, 6, some (.int), kC_likestVoice, [770, 768, 769, 78])
def kO_judge_0 : List dmA := [(0, .aload_n 0, 1, 0, 0, 0, 0, []), (1, .iload_n 1, 2, 1, 0, 0, 0, []), (2, .iload_n 2, 3, 2, 0, 0, 0, []), (3, .invokevirtual 250, 4, 100, 2, 0, 738, []), (6, .istore_n 3, 5, 3, 0, 0, 0, []), (7, .iload_n 3, 6, 3, 0, 0, 0, []), (8, .ifCond .ne 12, 7, 12, 0, 0, 0, []), (11, .iload_n 2, 8, 2, 0, 0, 0, []), (12, .bipush 40, 9, 0, 0, 40, 0, []), (14, .if_icmp .le 6, 10, 12, 0, 0, 0, []), (17, .bipush (-6), 11, 0, 0, -6, 0, []), (19, .istore_n 3, 12, 3, 0, 0, 0, []), (20, .iload_n 3, 13, 3, 0, 0, 0, []), (21, .ifCond .ne 12, 14, 19, 0, 0, 0, []), (24, .aload_n 0, 15, 0, 0, 0, 0, []), (25, .iload_n 1, 16, 1, 0, 0, 0, [])]
def kO_judge_1 : List dmA := [(26, .iload_n 2, 17, 2, 0, 0, 0, []), (27, .invokevirtual 270, 18, 109, 2, 0, 775, []), (30, .goto 11, 19, 24, 0, 0, 0, []), (33, .aload_n 0, 20, 0, 0, 0, 0, []), (34, .iload_n 3, 21, 3, 0, 0, 0, []), (35, .invokevirtual 68, 22, 9, 1, 0, 322, []), (38, .bipush 10, 23, 0, 0, 10, 0, []), (40, .isub, 24, 0, 0, 0, 0, []), (41, .ireturn, 25, 0, 0, 0, 0, [])]
def kO_judge : List (List dmA) := [kO_judge_0, kO_judge_1]
def mO_judge : dmM := (⟨"WhichOneAllKnow", "judge", "(II)I"⟩, prog_1_method_32_code, 4, some (.int), kO_judge, [774, 772, 773, 77])
def kO_firstWrong_0 : List dmA := [(0, .iconst 0, 1, 0, 0, 0, 0, []), (1, .istore_n 3, 2, 3, 0, 0, 0, []), (2, .iload_n 3, 3, 3, 0, 0, 0, []), (3, .iload_n 2, 4, 2, 0, 0, 0, []), (4, .if_icmp .ge 64, 5, 35, 0, 0, 0, []), (7, .aload_n 0, 6, 0, 0, 0, 0, []), (8, .getfield 25, 7, 3, 5, 1, 286, []), (11, .iload_n 1, 8, 1, 0, 0, 0, []), (12, .iload_n 3, 9, 3, 0, 0, 0, []), (13, .invokevirtual 276, 10, 110, 2, 0, 779, []), (16, .istore 4, 11, 4, 0, 0, 0, []), (18, .iload 4, 12, 4, 0, 0, 0, []), (20, .ifCond .lt 40, 13, 31, 0, 0, 0, []), (23, .aload_n 0, 14, 0, 0, 0, 0, []), (24, .getfield 10, 15, 0, 5, 1, 283, []), (27, .iload 4, 16, 4, 0, 0, 0, [])]
def kO_firstWrong_1 : List dmA := [(29, .bipush 100, 17, 0, 0, 100, 0, []), (31, .idiv, 18, 0, 0, 0, 0, []), (32, .invokevirtual 157, 19, 37, 1, 0, 439, []), (35, .ifCond .eq 25, 20, 31, 0, 0, 0, []), (38, .iload 4, 21, 4, 0, 0, 0, []), (40, .bipush 10, 22, 0, 0, 10, 0, []), (42, .idiv, 23, 0, 0, 0, 0, []), (43, .bipush 10, 24, 0, 0, 10, 0, []), (45, .irem, 25, 0, 0, 0, 0, []), (46, .invokestatic 189, 26, 68, 1, 0, 604, [1]), (49, .ifCond .eq 11, 27, 31, 0, 0, 0, []), (52, .iload 4, 28, 4, 0, 0, 0, []), (54, .bipush 10, 29, 0, 0, 10, 0, []), (56, .irem, 30, 0, 0, 0, 0, []), (57, .ifCond .ne 5, 31, 33, 0, 0, 0, []), (60, .iload_n 3, 32, 3, 0, 0, 0, [])]
def kO_firstWrong_2 : List dmA := [(61, .ireturn, 33, 0, 0, 0, 0, []), (62, .iinc 3 1, 34, 3, 0, 1, 0, []), (65, .goto (-63), 35, 2, 0, 0, 0, []), (68, .iconst (-1), 36, 0, 0, -1, 0, []), (69, .ireturn, 37, 0, 0, 0, 0, [])]
def kO_firstWrong : List (List dmA) := [kO_firstWrong_0, kO_firstWrong_1, kO_firstWrong_2]
def mO_firstWrong : dmM := (⟨"WhichOneAllKnow", "firstWrong", "(II)I"⟩, prog_1_method_59_code, 5, some (.int), kO_firstWrong, [778, 777, 22, 77])
def kH_told_0 : List dmA := [(0, .aload_n 0, 1, 0, 0, 0, 0, []), (1, .iload_n 1, 2, 1, 0, 0, 0, []), (2, .iload_n 2, 3, 2, 0, 0, 0, []), (3, .invokevirtual 34, 4, 15, 2, 0, 783, []), (6, .ifCond .eq 15, 5, 13, 0, 0, 0, []), (9, .aload_n 0, 6, 0, 0, 0, 0, []), (10, .getfield 13, 7, 0, 2, 1, 168, []), (13, .iload_n 1, 8, 1, 0, 0, 0, []), (14, .aaload, 9, 0, 0, 0, 0, []), (15, .iload_n 2, 10, 2, 0, 0, 0, []), (16, .laload, 11, 0, 0, 0, 0, []), (17, .l2i, 12, 0, 0, 0, 0, []), (18, .goto 4, 13, 14, 0, 0, 0, []), (21, .iconst 0, 14, 0, 0, 0, 0, []), (22, .ireturn, 15, 0, 0, 0, 0, [])]
def kH_told : List (List dmA) := [kH_told_0]
def mH_told : dmM := (⟨"WhichOneAllKnow$Shelves", "told", "(II)I"⟩, prog_4_method_9_code, 3, some (.int), kH_told, [782, 780, 781, 79])
def kO_behind_0 : List dmA := [(0, .aload_n 0, 1, 0, 0, 0, 0, []), (1, .iload_n 1, 2, 1, 0, 0, 0, []), (2, .iload_n 2, 3, 2, 0, 0, 0, []), (3, .invokevirtual 250, 4, 100, 2, 0, 738, []), (6, .istore 4, 5, 4, 0, 0, 0, []), (8, .iload 4, 6, 4, 0, 0, 0, []), (10, .ifCond .ne 16, 7, 14, 0, 0, 0, []), (13, .iload_n 3, 8, 3, 0, 0, 0, []), (14, .iconst 0, 9, 0, 0, 0, 0, []), (15, .iconst 2, 10, 0, 0, 2, 0, []), (16, .invokestatic 72, 11, 10, 3, 0, 326, [1]), (19, .ifCond .ne 7, 12, 14, 0, 0, 0, []), (22, .bipush (-5), 13, 0, 0, -5, 0, []), (24, .istore 4, 14, 4, 0, 0, 0, []), (26, .iload 4, 15, 4, 0, 0, 0, []), (28, .ifCond .ne 16, 16, 23, 0, 0, 0, [])]
def kO_behind_1 : List dmA := [(31, .aload_n 0, 17, 0, 0, 0, 0, []), (32, .iload_n 1, 18, 1, 0, 0, 0, []), (33, .iload_n 2, 19, 2, 0, 0, 0, []), (34, .invokevirtual 273, 20, 112, 2, 0, 788, []), (37, .ifCond .ne 7, 21, 23, 0, 0, 0, []), (40, .bipush (-6), 22, 0, 0, -6, 0, []), (42, .istore 4, 23, 4, 0, 0, 0, []), (44, .iload 4, 24, 4, 0, 0, 0, []), (46, .ifCond .eq 10, 25, 29, 0, 0, 0, []), (49, .aload_n 0, 26, 0, 0, 0, 0, []), (50, .iload 4, 27, 4, 0, 0, 0, []), (52, .invokevirtual 68, 28, 9, 1, 0, 322, []), (55, .ireturn, 29, 0, 0, 0, 0, []), (56, .aload_n 0, 30, 0, 0, 0, 0, []), (57, .getfield 19, 31, 2, 5, 1, 285, []), (60, .aload_n 0, 32, 0, 0, 0, 0, [])]
def kO_behind_2 : List dmA := [(61, .getfield 10, 33, 0, 5, 1, 283, []), (64, .invokevirtual 176, 34, 45, 1, 0, 471, []), (67, .iconst 0, 35, 0, 0, 0, 0, []), (68, .istore 5, 36, 5, 0, 0, 0, []), (70, .iconst 0, 37, 0, 0, 0, 0, []), (71, .istore 6, 38, 6, 0, 0, 0, []), (73, .iconst 0, 39, 0, 0, 0, 0, []), (74, .istore 7, 40, 7, 0, 0, 0, []), (76, .iload 7, 41, 7, 0, 0, 0, []), (78, .iload_n 2, 42, 2, 0, 0, 0, []), (79, .if_icmp .ge 60, 43, 72, 0, 0, 0, []), (82, .aload_n 0, 44, 0, 0, 0, 0, []), (83, .aload_n 0, 45, 0, 0, 0, 0, []), (84, .getfield 19, 46, 2, 5, 1, 285, []), (87, .aload_n 0, 47, 0, 0, 0, 0, []), (88, .getfield 25, 48, 3, 5, 1, 286, [])]
def kO_behind_3 : List dmA := [(91, .iload_n 1, 49, 1, 0, 0, 0, []), (92, .iload 7, 50, 7, 0, 0, 0, []), (94, .invokevirtual 276, 51, 110, 2, 0, 779, []), (97, .invokevirtual 279, 52, 113, 2, 0, 792, []), (100, .istore 8, 53, 8, 0, 0, 0, []), (102, .iload 5, 54, 5, 0, 0, 0, []), (104, .iload 8, 55, 8, 0, 0, 0, []), (106, .iadd, 56, 0, 0, 0, 0, []), (107, .istore 5, 57, 5, 0, 0, 0, []), (109, .iload 6, 58, 6, 0, 0, 0, []), (111, .iconst 2, 59, 0, 0, 2, 0, []), (112, .iload 8, 60, 8, 0, 0, 0, []), (114, .imul, 61, 0, 0, 0, 0, []), (115, .aload_n 0, 62, 0, 0, 0, 0, []), (116, .getfield 19, 63, 2, 5, 1, 285, []), (119, .getfield 237, 64, 7, 0, 0, 124, [])]
def kO_behind_4 : List dmA := [(122, .if_icmp .lt 7, 65, 67, 0, 0, 0, []), (125, .iconst 1, 66, 0, 0, 1, 0, []), (126, .goto 4, 67, 68, 0, 0, 0, []), (129, .iconst 0, 68, 0, 0, 0, 0, []), (130, .iadd, 69, 0, 0, 0, 0, []), (131, .istore 6, 70, 6, 0, 0, 0, []), (133, .iinc 7 1, 71, 7, 0, 1, 0, []), (136, .goto (-60), 72, 40, 0, 0, 0, []), (139, .iload_n 3, 73, 3, 0, 0, 0, []), (140, .ifCond .ne 11, 74, 78, 0, 0, 0, []), (143, .aload_n 0, 75, 0, 0, 0, 0, []), (144, .getfield 19, 76, 2, 5, 1, 285, []), (147, .invokevirtual 261, 77, 105, 0, 0, 758, []), (150, .ireturn, 78, 0, 0, 0, 0, []), (151, .iload_n 3, 79, 3, 0, 0, 0, []), (152, .iconst 1, 80, 0, 0, 1, 0, [])]
def kO_behind_5 : List dmA := [(153, .if_icmp .ne 8, 81, 83, 0, 0, 0, []), (156, .iload 5, 82, 5, 0, 0, 0, []), (158, .goto 5, 83, 84, 0, 0, 0, []), (161, .iload 6, 84, 6, 0, 0, 0, []), (163, .ireturn, 85, 0, 0, 0, 0, [])]
def kO_behind : List (List dmA) := [kO_behind_0, kO_behind_1, kO_behind_2, kO_behind_3, kO_behind_4, kO_behind_5]
def mO_behind : dmM := (⟨"WhichOneAllKnow", "behind", "(III)I"⟩, prog_1_method_33_code, 9, some (.int), kO_behind, [787, 785, 786, 77])
def kO_maySing_0 : List dmA := [(0, .iload_n 2, 1, 2, 0, 0, 0, []), (1, .bipush 40, 2, 0, 0, 40, 0, []), (3, .if_icmp .gt 17, 3, 11, 0, 0, 0, []), (6, .aload_n 0, 4, 0, 0, 0, 0, []), (7, .iload_n 1, 5, 1, 0, 0, 0, []), (8, .iload_n 2, 6, 2, 0, 0, 0, []), (9, .invokevirtual 270, 7, 109, 2, 0, 775, []), (12, .iconst (-1), 8, 0, 0, -1, 0, []), (13, .if_icmp .ne 7, 9, 11, 0, 0, 0, []), (16, .iconst 1, 10, 0, 0, 1, 0, []), (17, .goto 4, 11, 12, 0, 0, 0, []), (20, .iconst 0, 12, 0, 0, 0, 0, []), (21, .ireturn, 13, 0, 0, 0, 0, [])]
def kO_maySing : List (List dmA) := [kO_maySing_0]
def mO_maySing : dmM := (⟨"WhichOneAllKnow", "maySing", "(II)Z"⟩, prog_1_method_58_code, 3, some (.boolean), kO_maySing, [791, 790, 23, 77])
def kO_singTold_0 : List dmA := [(0, .aload_n 0, 1, 0, 0, 0, 0, []), (1, .aload_n 1, 2, 1, 0, 0, 0, []), (2, .iload_n 2, 3, 2, 0, 0, 0, []), (3, .bipush 100, 4, 0, 0, 100, 0, []), (5, .idiv, 5, 0, 0, 0, 0, []), (6, .iload_n 2, 6, 2, 0, 0, 0, []), (7, .bipush 10, 7, 0, 0, 10, 0, []), (9, .idiv, 8, 0, 0, 0, 0, []), (10, .bipush 10, 9, 0, 0, 10, 0, []), (12, .irem, 10, 0, 0, 0, 0, []), (13, .iload_n 2, 11, 2, 0, 0, 0, []), (14, .bipush 10, 12, 0, 0, 10, 0, []), (16, .irem, 13, 0, 0, 0, 0, []), (17, .invokevirtual 286, 14, 114, 4, 0, 796, []), (20, .ireturn, 15, 0, 0, 0, 0, [])]
def kO_singTold : List (List dmA) := [kO_singTold_0]
def mO_singTold : dmM := (⟨"WhichOneAllKnow", "singTold", "(LWhichOneAllKnow$Church;I)I"⟩, prog_1_method_57_code, 3, some (.int), kO_singTold, [795, 794, 24, 77])
def kO_singInTruth_0 : List dmA := [(0, .aload_n 0, 1, 0, 0, 0, 0, []), (1, .getfield 34, 2, 4, 5, 1, 287, []), (4, .aload_n 1, 3, 1, 0, 0, 0, []), (5, .iload_n 2, 4, 2, 0, 0, 0, []), (6, .iload_n 3, 5, 3, 0, 0, 0, []), (7, .invokevirtual 195, 6, 70, 3, 0, 610, []), (10, .aload_n 0, 7, 0, 0, 0, 0, []), (11, .getfield 34, 8, 4, 5, 1, 287, []), (14, .iload 4, 9, 4, 0, 0, 0, []), (16, .iconst 1, 10, 0, 0, 1, 0, []), (17, .isub, 11, 0, 0, 0, 0, []), (18, .invokevirtual 199, 12, 74, 1, 0, 629, []), (21, .istore 5, 13, 5, 0, 0, 0, []), (23, .aload_n 1, 14, 1, 0, 0, 0, []), (24, .iload 5, 15, 5, 0, 0, 0, []), (26, .iload_n 2, 16, 2, 0, 0, 0, [])]
def kO_singInTruth_1 : List dmA := [(27, .invokevirtual 324, 17, 115, 2, 0, 800, []), (30, .aload_n 1, 18, 1, 0, 0, 0, []), (31, .dup, 19, 0, 0, 0, 0, []), (32, .getfield 283, 20, 10, 0, 0, 131, []), (35, .iconst 1, 21, 0, 0, 1, 0, []), (36, .iadd, 22, 0, 0, 0, 0, []), (37, .putfield 283, 23, 10, 0, 0, 131, []), (40, .iload 5, 24, 5, 0, 0, 0, []), (42, .invokestatic 132, 25, 28, 1, 0, 401, [1]), (45, .ireturn, 26, 0, 0, 0, 0, [])]
def kO_singInTruth : List (List dmA) := [kO_singInTruth_0, kO_singInTruth_1]
def mO_singInTruth : dmM := (⟨"WhichOneAllKnow", "singInTruth", "(LWhichOneAllKnow$Church;III)I"⟩, prog_1_method_56_code, 6, some (.int), kO_singInTruth, [799, 798, 25, 77])
def kC_learnAll_0 : List dmA := [(0, .iconst 0, 1, 0, 0, 0, 0, []), (1, .istore_n 3, 2, 3, 0, 0, 0, []), (2, .iload_n 3, 3, 3, 0, 0, 0, []), (3, .aload_n 0, 4, 0, 0, 0, 0, []), (4, .getfield 33, 5, 7, 0, 0, 122, []), (7, .if_icmp .ge 29, 6, 22, 0, 0, 0, []), (10, .iload_n 1, 7, 1, 0, 0, 0, []), (11, .aload_n 0, 8, 0, 0, 0, 0, []), (12, .getfield 18, 9, 2, 0, 1, 110, []), (15, .iload_n 3, 10, 3, 0, 0, 0, []), (16, .iaload, 11, 0, 0, 0, 0, []), (17, .ishr, 12, 0, 0, 0, 0, []), (18, .iconst 1, 13, 0, 0, 1, 0, []), (19, .iand, 14, 0, 0, 0, 0, []), (20, .ifCond .eq 10, 15, 20, 0, 0, 0, []), (23, .aload_n 0, 16, 0, 0, 0, 0, [])]
def kC_learnAll_1 : List dmA := [(24, .iload_n 3, 17, 3, 0, 0, 0, []), (25, .iload_n 2, 18, 2, 0, 0, 0, []), (26, .iconst 1, 19, 0, 0, 1, 0, []), (27, .invokevirtual 67, 20, 39, 3, 0, 804, []), (30, .iinc 3 1, 21, 3, 0, 1, 0, []), (33, .goto (-31), 22, 2, 0, 0, 0, []), (36, .return_, 23, 0, 0, 0, 0, [])]
def kC_learnAll : List (List dmA) := [kC_learnAll_0, kC_learnAll_1]
def mC_learnAll : dmM := (⟨"WhichOneAllKnow$Church", "learnAll", "(II)V"⟩, prog_2_method_14_code, 4, none, kC_learnAll, [803, 801, 802, 78])
def kO_done_0 : List dmA := [(0, .aload_n 0, 1, 0, 0, 0, 0, []), (1, .iload_n 1, 2, 1, 0, 0, 0, []), (2, .iload_n 2, 3, 2, 0, 0, 0, []), (3, .invokevirtual 250, 4, 100, 2, 0, 738, []), (6, .istore_n 3, 5, 3, 0, 0, 0, []), (7, .iload_n 3, 6, 3, 0, 0, 0, []), (8, .ifCond .ne 15, 7, 14, 0, 0, 0, []), (11, .aload_n 0, 8, 0, 0, 0, 0, []), (12, .iload_n 1, 9, 1, 0, 0, 0, []), (13, .iload_n 2, 10, 2, 0, 0, 0, []), (14, .invokevirtual 273, 11, 112, 2, 0, 788, []), (17, .ifCond .ne 6, 12, 14, 0, 0, 0, []), (20, .bipush (-6), 13, 0, 0, -6, 0, []), (22, .istore_n 3, 14, 3, 0, 0, 0, []), (23, .iload_n 3, 15, 3, 0, 0, 0, []), (24, .ifCond .eq 9, 16, 20, 0, 0, 0, [])]
def kO_done_1 : List dmA := [(27, .aload_n 0, 17, 0, 0, 0, 0, []), (28, .iload_n 3, 18, 3, 0, 0, 0, []), (29, .invokevirtual 68, 19, 9, 1, 0, 322, []), (32, .ireturn, 20, 0, 0, 0, 0, []), (33, .iconst 0, 21, 0, 0, 0, 0, []), (34, .istore 4, 22, 4, 0, 0, 0, []), (36, .iload 4, 23, 4, 0, 0, 0, []), (38, .iload_n 2, 24, 2, 0, 0, 0, []), (39, .if_icmp .ge 28, 25, 37, 0, 0, 0, []), (42, .aload_n 0, 26, 0, 0, 0, 0, []), (43, .aload_n 0, 27, 0, 0, 0, 0, []), (44, .getfield 10, 28, 0, 5, 1, 283, []), (47, .aload_n 0, 29, 0, 0, 0, 0, []), (48, .getfield 25, 30, 3, 5, 1, 286, []), (51, .iload_n 1, 31, 1, 0, 0, 0, []), (52, .iload 4, 32, 4, 0, 0, 0, [])]
def kO_done_2 : List dmA := [(54, .invokevirtual 276, 33, 110, 2, 0, 779, []), (57, .invokevirtual 279, 34, 113, 2, 0, 792, []), (60, .pop, 35, 0, 0, 0, 0, []), (61, .iinc 4 1, 36, 4, 0, 1, 0, []), (64, .goto (-28), 37, 22, 0, 0, 0, []), (67, .aload_n 0, 38, 0, 0, 0, 0, []), (68, .getfield 10, 39, 0, 5, 1, 283, []), (71, .getfield 283, 40, 10, 0, 0, 131, []), (74, .ireturn, 41, 0, 0, 0, 0, [])]
def kO_done : List (List dmA) := [kO_done_0, kO_done_1, kO_done_2]
def mO_done : dmM := (⟨"WhichOneAllKnow", "done", "(II)I"⟩, prog_1_method_34_code, 5, some (.int), kO_done, [808, 806, 807, 77])
def kO_hymn_0 : List dmA := [(0, .aload_n 0, 1, 0, 0, 0, 0, []), (1, .getfield 10, 2, 0, 5, 1, 283, []), (4, .iload_n 1, 3, 1, 0, 0, 0, []), (5, .invokevirtual 157, 4, 37, 1, 0, 439, []), (8, .ifCond .ne 9, 5, 9, 0, 0, 0, []), (11, .aload_n 0, 6, 0, 0, 0, 0, []), (12, .iconst (-1), 7, 0, 0, -1, 0, []), (13, .invokevirtual 68, 8, 9, 1, 0, 322, []), (16, .ireturn, 9, 0, 0, 0, 0, []), (17, .iload_n 2, 10, 2, 0, 0, 0, []), (18, .invokestatic 189, 11, 68, 1, 0, 604, [1]), (21, .ifCond .eq 13, 12, 17, 0, 0, 0, []), (24, .iload_n 3, 13, 3, 0, 0, 0, []), (25, .iconst 1, 14, 0, 0, 1, 0, []), (26, .bipush 9, 15, 0, 0, 9, 0, []), (28, .invokestatic 72, 16, 10, 3, 0, 326, [1])]
def kO_hymn_1 : List dmA := [(31, .ifCond .ne 10, 17, 21, 0, 0, 0, []), (34, .aload_n 0, 18, 0, 0, 0, 0, []), (35, .bipush (-6), 19, 0, 0, -6, 0, []), (37, .invokevirtual 68, 20, 9, 1, 0, 322, []), (40, .ireturn, 21, 0, 0, 0, 0, []), (41, .aload_n 0, 22, 0, 0, 0, 0, []), (42, .aload_n 0, 23, 0, 0, 0, 0, []), (43, .getfield 10, 24, 0, 5, 1, 283, []), (46, .iload_n 1, 25, 1, 0, 0, 0, []), (47, .iload_n 2, 26, 2, 0, 0, 0, []), (48, .iload_n 3, 27, 3, 0, 0, 0, []), (49, .invokevirtual 286, 28, 114, 4, 0, 796, []), (52, .ireturn, 29, 0, 0, 0, 0, [])]
def kO_hymn : List (List dmA) := [kO_hymn_0, kO_hymn_1]
def mO_hymn : dmM := (⟨"WhichOneAllKnow", "hymn", "(III)I"⟩, prog_1_method_35_code, 4, some (.int), kO_hymn, [812, 810, 811, 77])
def kO_years_0 : List dmA := [(0, .aload_n 0, 1, 0, 0, 0, 0, []), (1, .getfield 10, 2, 0, 5, 1, 283, []), (4, .getfield 227, 3, 8, 0, 0, 126, []), (7, .ifCond .ne 10, 4, 8, 0, 0, 0, []), (10, .aload_n 0, 5, 0, 0, 0, 0, []), (11, .bipush (-5), 6, 0, 0, -5, 0, []), (13, .invokevirtual 68, 7, 9, 1, 0, 322, []), (16, .ireturn, 8, 0, 0, 0, 0, []), (17, .iload_n 1, 9, 1, 0, 0, 0, []), (18, .iconst 1, 10, 0, 0, 1, 0, []), (19, .bipush 60, 11, 0, 0, 60, 0, []), (21, .invokestatic 72, 12, 10, 3, 0, 326, [1]), (24, .ifCond .ne 10, 13, 17, 0, 0, 0, []), (27, .aload_n 0, 14, 0, 0, 0, 0, []), (28, .bipush (-6), 15, 0, 0, -6, 0, []), (30, .invokevirtual 68, 16, 9, 1, 0, 322, [])]
def kO_years_1 : List dmA := [(33, .ireturn, 17, 0, 0, 0, 0, []), (34, .iconst 0, 18, 0, 0, 0, 0, []), (35, .istore_n 2, 19, 2, 0, 0, 0, []), (36, .iload_n 2, 20, 2, 0, 0, 0, []), (37, .iload_n 1, 21, 1, 0, 0, 0, []), (38, .if_icmp .ge 62, 22, 51, 0, 0, 0, []), (41, .aload_n 0, 23, 0, 0, 0, 0, []), (42, .getfield 10, 24, 0, 5, 1, 283, []), (45, .aload_n 0, 25, 0, 0, 0, 0, []), (46, .getfield 10, 26, 0, 5, 1, 283, []), (49, .getfield 227, 27, 8, 0, 0, 126, []), (52, .invokevirtual 289, 28, 119, 1, 0, 817, []), (55, .istore_n 3, 29, 3, 0, 0, 0, []), (56, .aload_n 0, 30, 0, 0, 0, 0, []), (57, .getfield 10, 31, 0, 5, 1, 283, []), (60, .bipush 6, 32, 0, 0, 6, 0, [])]
def kO_years_2 : List dmA := [(62, .invokevirtual 289, 33, 119, 1, 0, 817, []), (65, .istore 4, 34, 4, 0, 0, 0, []), (67, .iconst 1, 35, 0, 0, 1, 0, []), (68, .aload_n 0, 36, 0, 0, 0, 0, []), (69, .getfield 10, 37, 0, 5, 1, 283, []), (72, .bipush 9, 38, 0, 0, 9, 0, []), (74, .invokevirtual 289, 39, 119, 1, 0, 817, []), (77, .iadd, 40, 0, 0, 0, 0, []), (78, .istore 5, 41, 5, 0, 0, 0, []), (80, .aload_n 0, 42, 0, 0, 0, 0, []), (81, .aload_n 0, 43, 0, 0, 0, 0, []), (82, .getfield 10, 44, 0, 5, 1, 283, []), (85, .iload_n 3, 45, 3, 0, 0, 0, []), (86, .iload 4, 46, 4, 0, 0, 0, []), (88, .iload 5, 47, 5, 0, 0, 0, []), (90, .invokevirtual 286, 48, 114, 4, 0, 796, [])]
def kO_years_3 : List dmA := [(93, .pop, 49, 0, 0, 0, 0, []), (94, .iinc 2 1, 50, 2, 0, 1, 0, []), (97, .goto (-61), 51, 19, 0, 0, 0, []), (100, .aload_n 0, 52, 0, 0, 0, 0, []), (101, .getfield 10, 53, 0, 5, 1, 283, []), (104, .invokevirtual 261, 54, 105, 0, 0, 758, []), (107, .ireturn, 55, 0, 0, 0, 0, [])]
def kO_years : List (List dmA) := [kO_years_0, kO_years_1, kO_years_2, kO_years_3]
def mO_years : dmM := (⟨"WhichOneAllKnow", "years", "(I)I"⟩, prog_1_method_36_code, 6, some (.int), kO_years, [816, 814, 815, 77])
def kC_draw_0 : List dmA := [(0, .aload_n 0, 1, 0, 0, 0, 0, []), (1, .aload_n 0, 2, 0, 0, 0, 0, []), (2, .getfield 46, 3, 11, 0, 0, 132, []), (5, .ldc 91, 4, 0, 0, 1103515245, 821, []), (7, .imul, 5, 0, 0, 0, 0, []), (8, .sipush 12345, 6, 0, 0, 12345, 0, []), (11, .iadd, 7, 0, 0, 0, 0, []), (12, .putfield 46, 8, 11, 0, 0, 132, []), (15, .iload_n 1, 9, 1, 0, 0, 0, []), (16, .ifCond .le 15, 10, 17, 0, 0, 0, []), (19, .aload_n 0, 11, 0, 0, 0, 0, []), (20, .getfield 46, 12, 11, 0, 0, 132, []), (23, .bipush 16, 13, 0, 0, 16, 0, []), (25, .iushr, 14, 0, 0, 0, 0, []), (26, .iload_n 1, 15, 1, 0, 0, 0, []), (27, .irem, 16, 0, 0, 0, 0, [])]
def kC_draw_1 : List dmA := [(28, .goto 4, 17, 18, 0, 0, 0, []), (31, .iconst 0, 18, 0, 0, 0, 0, []), (32, .ireturn, 19, 0, 0, 0, 0, [])]
def kC_draw : List (List dmA) := [kC_draw_0, kC_draw_1]
def mC_draw : dmM := (⟨"WhichOneAllKnow$Church", "draw", "(I)I"⟩, prog_2_method_23_code, 2, some (.int), kC_draw, [820, 818, 819, 78])
def kO_seed_0 : List dmA := [(0, .aload_n 0, 1, 0, 0, 0, 0, []), (1, .getfield 10, 2, 0, 5, 1, 283, []), (4, .getfield 292, 3, 11, 0, 0, 133, []), (7, .istore_n 2, 4, 2, 0, 0, 0, []), (8, .aload_n 0, 5, 0, 0, 0, 0, []), (9, .getfield 10, 6, 0, 5, 1, 283, []), (12, .iload_n 1, 7, 1, 0, 0, 0, []), (13, .putfield 292, 8, 11, 0, 0, 133, []), (16, .iload_n 2, 9, 2, 0, 0, 0, []), (17, .ireturn, 10, 0, 0, 0, 0, [])]
def kO_seed : List (List dmA) := [kO_seed_0]
def mO_seed : dmM := (⟨"WhichOneAllKnow", "seed", "(I)I"⟩, prog_1_method_37_code, 3, some (.int), kO_seed, [825, 823, 824, 77])
def kO_act_0 : List dmA := [(0, .aload_n 0, 1, 0, 0, 0, 0, []), (1, .getfield 48, 2, 6, 5, 1, 289, []), (4, .invokevirtual 295, 3, 122, 0, 0, 830, []), (7, .aload_n 0, 4, 0, 0, 0, 0, []), (8, .getfield 10, 5, 0, 5, 1, 283, []), (11, .iload_n 1, 6, 1, 0, 0, 0, []), (12, .invokevirtual 108, 7, 23, 1, 0, 381, []), (15, .ifCond .eq 12, 8, 13, 0, 0, 0, []), (18, .iload_n 2, 9, 2, 0, 0, 0, []), (19, .iconst 0, 10, 0, 0, 0, 0, []), (20, .iconst 2, 11, 0, 0, 2, 0, []), (21, .invokestatic 72, 12, 10, 3, 0, 326, [1]), (24, .ifCond .ne 5, 13, 15, 0, 0, 0, []), (27, .iconst 0, 14, 0, 0, 0, 0, []), (28, .ireturn, 15, 0, 0, 0, 0, []), (29, .aload_n 0, 16, 0, 0, 0, 0, [])]
def kO_act_1 : List dmA := [(30, .getfield 48, 17, 6, 5, 1, 289, []), (33, .aload_n 0, 18, 0, 0, 0, 0, []), (34, .getfield 10, 19, 0, 5, 1, 283, []), (37, .getfield 117, 20, 0, 0, 1, 107, []), (40, .iload_n 1, 21, 1, 0, 0, 0, []), (41, .iaload, 22, 0, 0, 0, 0, []), (42, .iload_n 1, 23, 1, 0, 0, 0, []), (43, .aload_n 0, 24, 0, 0, 0, 0, []), (44, .getfield 10, 25, 0, 5, 1, 283, []), (47, .getfield 126, 26, 1, 0, 1, 109, []), (50, .iload_n 1, 27, 1, 0, 0, 0, []), (51, .iaload, 28, 0, 0, 0, 0, []), (52, .iload_n 2, 29, 2, 0, 0, 0, []), (53, .iload_n 3, 30, 3, 0, 0, 0, []), (54, .invokevirtual 298, 31, 123, 5, 0, 834, []), (57, .ireturn, 32, 0, 0, 0, 0, [])]
def kO_act : List (List dmA) := [kO_act_0, kO_act_1]
def mO_act : dmM := (⟨"WhichOneAllKnow", "act", "(III)I"⟩, prog_1_method_38_code, 4, some (.int), kO_act, [829, 827, 828, 77])
def kV_forget_0 : List dmA := [(0, .aload_n 0, 1, 0, 0, 0, 0, []), (1, .iconst 0, 2, 0, 0, 0, 0, []), (2, .putfield 15, 3, 1, 1, 0, 267, []), (5, .return_, 4, 0, 0, 0, 0, [])]
def kV_forget : List (List dmA) := [kV_forget_0]
def mV_forget : dmM := (⟨"WhichOneAllKnow$Moves", "forget", "()V"⟩, prog_3_method_2_code, 1, none, kV_forget, [833, 831, 832, 83])
def kV_start_0 : List dmA := [(0, .aload_n 0, 1, 0, 0, 0, 0, []), (1, .iload_n 1, 2, 1, 0, 0, 0, []), (2, .putfield 19, 3, 2, 1, 0, 269, []), (5, .aload_n 0, 4, 0, 0, 0, 0, []), (6, .iload_n 2, 5, 2, 0, 0, 0, []), (7, .putfield 22, 6, 3, 1, 0, 270, []), (10, .aload_n 0, 7, 0, 0, 0, 0, []), (11, .iload_n 3, 8, 3, 0, 0, 0, []), (12, .putfield 25, 9, 4, 1, 0, 271, []), (15, .aload_n 0, 10, 0, 0, 0, 0, []), (16, .aload_n 0, 11, 0, 0, 0, 0, []), (17, .getfield 19, 12, 2, 1, 0, 269, []), (20, .iload 4, 13, 4, 0, 0, 0, []), (22, .iload 5, 14, 5, 0, 0, 0, []), (24, .iconst 0, 15, 0, 0, 0, 0, []), (25, .invokevirtual 28, 16, 124, 4, 0, 838, [])]
def kV_start_1 : List dmA := [(28, .ireturn, 17, 0, 0, 0, 0, [])]
def kV_start : List (List dmA) := [kV_start_0, kV_start_1]
def mV_start : dmM := (⟨"WhichOneAllKnow$Moves", "start", "(IIIII)I"⟩, prog_3_method_3_code, 6, some (.int), kV_start, [837, 835, 836, 83])
def kV_runFrom_0 : List dmA := [(0, .iload 4, 1, 4, 0, 0, 0, []), (2, .bipush 40, 2, 0, 0, 40, 0, []), (4, .if_icmp .gt 19, 3, 11, 0, 0, 0, []), (7, .iload_n 1, 4, 1, 0, 0, 0, []), (8, .invokestatic 32, 5, 26, 1, 0, 842, [3]), (11, .ifCond .eq 12, 6, 11, 0, 0, 0, []), (14, .iload_n 2, 7, 2, 0, 0, 0, []), (15, .iconst 0, 8, 0, 0, 0, 0, []), (16, .iconst 2, 9, 0, 0, 2, 0, []), (17, .invokestatic 36, 10, 10, 3, 0, 843, [3]), (20, .ifCond .ne 5, 11, 13, 0, 0, 0, []), (23, .iconst 0, 12, 0, 0, 0, 0, []), (24, .ireturn, 13, 0, 0, 0, 0, []), (25, .getstatic 40, 14, 2, 0, 0, 844, []), (28, .iconst 3, 15, 0, 0, 3, 0, []), (29, .iload_n 1, 16, 1, 0, 0, 0, [])]
def kV_runFrom_1 : List dmA := [(30, .imul, 17, 0, 0, 0, 0, []), (31, .iload_n 2, 18, 2, 0, 0, 0, []), (32, .iadd, 19, 0, 0, 0, 0, []), (33, .iaload, 20, 0, 0, 0, 0, []), (34, .istore 5, 21, 5, 0, 0, 0, []), (36, .aload_n 0, 22, 0, 0, 0, 0, []), (37, .iload 5, 23, 5, 0, 0, 0, []), (39, .invokevirtual 43, 24, 125, 1, 0, 846, []), (42, .aload_n 0, 25, 0, 0, 0, 0, []), (43, .iload 5, 26, 5, 0, 0, 0, []), (45, .iload_n 2, 27, 2, 0, 0, 0, []), (46, .iload_n 3, 28, 3, 0, 0, 0, []), (47, .iload 4, 29, 4, 0, 0, 0, []), (49, .iconst 1, 30, 0, 0, 1, 0, []), (50, .iadd, 31, 0, 0, 0, 0, []), (51, .invokevirtual 47, 32, 126, 4, 0, 850, [])]
def kV_runFrom_2 : List dmA := [(54, .ireturn, 33, 0, 0, 0, 0, [])]
def kV_runFrom : List (List dmA) := [kV_runFrom_0, kV_runFrom_1, kV_runFrom_2]
def mV_runFrom : dmM := (⟨"WhichOneAllKnow$Moves", "runFrom", "(IIII)I"⟩, prog_3_method_6_code, 6, some (.int), kV_runFrom, [841, 840, 26, 83])
def kV_note_0 : List dmA := [(0, .aload_n 0, 1, 0, 0, 0, 0, []), (1, .getfield 15, 2, 1, 1, 0, 267, []), (4, .bipush 20, 3, 0, 0, 20, 0, []), (6, .if_icmp .ge 13, 4, 10, 0, 0, 0, []), (9, .aload_n 0, 5, 0, 0, 0, 0, []), (10, .getfield 11, 6, 0, 1, 1, 266, []), (13, .aload_n 0, 7, 0, 0, 0, 0, []), (14, .getfield 15, 8, 1, 1, 0, 267, []), (17, .iload_n 1, 9, 1, 0, 0, 0, []), (18, .iastore, 10, 0, 0, 0, 0, []), (19, .aload_n 0, 11, 0, 0, 0, 0, []), (20, .dup, 12, 0, 0, 0, 0, []), (21, .getfield 15, 13, 1, 1, 0, 267, []), (24, .iconst 1, 14, 0, 0, 1, 0, []), (25, .iadd, 15, 0, 0, 0, 0, []), (26, .putfield 15, 16, 1, 1, 0, 267, [])]
def kV_note_1 : List dmA := [(29, .return_, 17, 0, 0, 0, 0, [])]
def kV_note : List (List dmA) := [kV_note_0, kV_note_1]
def mV_note : dmM := (⟨"WhichOneAllKnow$Moves", "note", "(I)V"⟩, prog_3_method_5_code, 2, none, kV_note, [849, 848, 27, 83])
def kV_runBody_0 : List dmA := [(0, .getstatic 50, 1, 0, 1, 0, 854, []), (3, .iload_n 1, 2, 1, 0, 0, 0, []), (4, .bipush 10, 3, 0, 0, 10, 0, []), (6, .idiv, 4, 0, 0, 0, 0, []), (7, .iconst 1, 5, 0, 0, 1, 0, []), (8, .isub, 6, 0, 0, 0, 0, []), (9, .iaload, 7, 0, 0, 0, 0, []), (10, .istore 5, 8, 5, 0, 0, 0, []), (12, .iload_n 1, 9, 1, 0, 0, 0, []), (13, .lookupswitch 264 #[(10, 99), (11, 106), (12, 121), (20, 152), (30, 168), (40, 181), (50, 194), (51, 206), (60, 222), (70, 235), (71, 248)], 10, 118, 99, 0, 0, [10, 15, 25, 44, 54, 63, 72, 80, 90, 99, 108]), (112, .iload_n 3, 11, 3, 0, 0, 0, []), (113, .aload_n 0, 12, 0, 0, 0, 0, []), (114, .getfield 22, 13, 3, 1, 0, 270, []), (117, .iadd, 14, 0, 0, 0, 0, []), (118, .ireturn, 15, 0, 0, 0, 0, []), (119, .aload_n 0, 16, 0, 0, 0, 0, [])]
def kV_runBody_1 : List dmA := [(120, .aload_n 0, 17, 0, 0, 0, 0, []), (121, .getfield 19, 18, 2, 1, 0, 269, []), (124, .iconst 0, 19, 0, 0, 0, 0, []), (125, .iload_n 3, 20, 3, 0, 0, 0, []), (126, .iload 4, 21, 4, 0, 0, 0, []), (128, .invokevirtual 28, 22, 124, 4, 0, 838, []), (131, .iconst 2, 23, 0, 0, 2, 0, []), (132, .imul, 24, 0, 0, 0, 0, []), (133, .ireturn, 25, 0, 0, 0, 0, []), (134, .aload_n 0, 26, 0, 0, 0, 0, []), (135, .aload_n 0, 27, 0, 0, 0, 0, []), (136, .getfield 19, 28, 2, 1, 0, 269, []), (139, .iconst 1, 29, 0, 0, 1, 0, []), (140, .iload_n 3, 30, 3, 0, 0, 0, []), (141, .iload 4, 31, 4, 0, 0, 0, []), (143, .invokevirtual 28, 32, 124, 4, 0, 838, [])]
def kV_runBody_2 : List dmA := [(146, .aload_n 0, 33, 0, 0, 0, 0, []), (147, .aload_n 0, 34, 0, 0, 0, 0, []), (148, .getfield 19, 35, 2, 1, 0, 269, []), (151, .iconst 0, 36, 0, 0, 0, 0, []), (152, .iload_n 3, 37, 3, 0, 0, 0, []), (153, .aload_n 0, 38, 0, 0, 0, 0, []), (154, .getfield 25, 39, 4, 1, 0, 271, []), (157, .isub, 40, 0, 0, 0, 0, []), (158, .iload 4, 41, 4, 0, 0, 0, []), (160, .invokevirtual 28, 42, 124, 4, 0, 838, []), (163, .ixor, 43, 0, 0, 0, 0, []), (164, .ireturn, 44, 0, 0, 0, 0, []), (165, .aload_n 0, 45, 0, 0, 0, 0, []), (166, .iload 5, 46, 5, 0, 0, 0, []), (168, .iload_n 2, 47, 2, 0, 0, 0, []), (169, .iload_n 3, 48, 3, 0, 0, 0, [])]
def kV_runBody_3 : List dmA := [(170, .iload 4, 49, 4, 0, 0, 0, []), (172, .invokevirtual 28, 50, 124, 4, 0, 838, []), (175, .aload_n 0, 51, 0, 0, 0, 0, []), (176, .getfield 25, 52, 4, 1, 0, 271, []), (179, .iadd, 53, 0, 0, 0, 0, []), (180, .ireturn, 54, 0, 0, 0, 0, []), (181, .aload_n 0, 55, 0, 0, 0, 0, []), (182, .iload 5, 56, 5, 0, 0, 0, []), (184, .iload_n 2, 57, 2, 0, 0, 0, []), (185, .iload_n 3, 58, 3, 0, 0, 0, []), (186, .iload 4, 59, 4, 0, 0, 0, []), (188, .invokevirtual 28, 60, 124, 4, 0, 838, []), (191, .iconst 3, 61, 0, 0, 3, 0, []), (192, .imul, 62, 0, 0, 0, 0, []), (193, .ireturn, 63, 0, 0, 0, 0, []), (194, .aload_n 0, 64, 0, 0, 0, 0, [])]
def kV_runBody_4 : List dmA := [(195, .iload 5, 65, 5, 0, 0, 0, []), (197, .iload_n 2, 66, 2, 0, 0, 0, []), (198, .iload_n 3, 67, 3, 0, 0, 0, []), (199, .iconst 1, 68, 0, 0, 1, 0, []), (200, .iadd, 69, 0, 0, 0, 0, []), (201, .iload 4, 70, 4, 0, 0, 0, []), (203, .invokevirtual 28, 71, 124, 4, 0, 838, []), (206, .ireturn, 72, 0, 0, 0, 0, []), (207, .aload_n 0, 73, 0, 0, 0, 0, []), (208, .iload 5, 74, 5, 0, 0, 0, []), (210, .iload_n 2, 75, 2, 0, 0, 0, []), (211, .iload_n 3, 76, 3, 0, 0, 0, []), (212, .iload 4, 77, 4, 0, 0, 0, []), (214, .invokevirtual 28, 78, 124, 4, 0, 838, []), (217, .ineg, 79, 0, 0, 0, 0, []), (218, .ireturn, 80, 0, 0, 0, 0, [])]
def kV_runBody_5 : List dmA := [(219, .aload_n 0, 81, 0, 0, 0, 0, []), (220, .iload 5, 82, 5, 0, 0, 0, []), (222, .iload_n 2, 83, 2, 0, 0, 0, []), (223, .iload_n 3, 84, 3, 0, 0, 0, []), (224, .iload 4, 85, 4, 0, 0, 0, []), (226, .invokevirtual 28, 86, 124, 4, 0, 838, []), (229, .aload_n 0, 87, 0, 0, 0, 0, []), (230, .getfield 22, 88, 3, 1, 0, 270, []), (233, .isub, 89, 0, 0, 0, 0, []), (234, .ireturn, 90, 0, 0, 0, 0, []), (235, .aload_n 0, 91, 0, 0, 0, 0, []), (236, .iload 5, 92, 5, 0, 0, 0, []), (238, .iload_n 2, 93, 2, 0, 0, 0, []), (239, .iload_n 3, 94, 3, 0, 0, 0, []), (240, .iload 4, 95, 4, 0, 0, 0, []), (242, .invokevirtual 28, 96, 124, 4, 0, 838, [])]
def kV_runBody_6 : List dmA := [(245, .iconst 5, 97, 0, 0, 5, 0, []), (246, .ixor, 98, 0, 0, 0, 0, []), (247, .ireturn, 99, 0, 0, 0, 0, []), (248, .aload_n 0, 100, 0, 0, 0, 0, []), (249, .iload 5, 101, 5, 0, 0, 0, []), (251, .iload_n 2, 102, 2, 0, 0, 0, []), (252, .iload_n 3, 103, 3, 0, 0, 0, []), (253, .iload 4, 104, 4, 0, 0, 0, []), (255, .invokevirtual 28, 105, 124, 4, 0, 838, []), (258, .iconst 2, 106, 0, 0, 2, 0, []), (259, .imul, 107, 0, 0, 0, 0, []), (260, .ireturn, 108, 0, 0, 0, 0, []), (261, .aload_n 0, 109, 0, 0, 0, 0, []), (262, .iload 5, 110, 5, 0, 0, 0, []), (264, .iload_n 2, 111, 2, 0, 0, 0, []), (265, .iload_n 3, 112, 3, 0, 0, 0, [])]
def kV_runBody_7 : List dmA := [(266, .aload_n 0, 113, 0, 0, 0, 0, []), (267, .getfield 25, 114, 4, 1, 0, 271, []), (270, .isub, 115, 0, 0, 0, 0, []), (271, .iload 4, 116, 4, 0, 0, 0, []), (273, .invokevirtual 28, 117, 124, 4, 0, 838, []), (276, .ireturn, 118, 0, 0, 0, 0, []), (277, .iconst 0, 119, 0, 0, 0, 0, []), (278, .ireturn, 120, 0, 0, 0, 0, [])]
def kV_runBody : List (List dmA) := [kV_runBody_0, kV_runBody_1, kV_runBody_2, kV_runBody_3, kV_runBody_4, kV_runBody_5, kV_runBody_6, kV_runBody_7]
def mV_runBody : dmM := (⟨"WhichOneAllKnow$Moves", "runBody", "(IIII)I"⟩, prog_3_method_7_code, 6, some (.int), kV_runBody, [853, 852, 28, 83])
def kO_trace_0 : List dmA := [(0, .aload_n 0, 1, 0, 0, 0, 0, []), (1, .getfield 48, 2, 6, 5, 1, 289, []), (4, .iload_n 1, 3, 1, 0, 0, 0, []), (5, .invokevirtual 301, 4, 128, 1, 0, 859, []), (8, .ireturn, 5, 0, 0, 0, 0, [])]
def kO_trace : List (List dmA) := [kO_trace_0]
def mO_trace : dmM := (⟨"WhichOneAllKnow", "trace", "(I)I"⟩, prog_1_method_39_code, 2, some (.int), kO_trace, [858, 856, 857, 77])
def kV_bodyAt_0 : List dmA := [(0, .iload_n 1, 1, 1, 0, 0, 0, []), (1, .ifCond .lt 26, 2, 14, 0, 0, 0, []), (4, .iload_n 1, 3, 1, 0, 0, 0, []), (5, .bipush 20, 4, 0, 0, 20, 0, []), (7, .if_icmp .ge 20, 5, 14, 0, 0, 0, []), (10, .iload_n 1, 6, 1, 0, 0, 0, []), (11, .aload_n 0, 7, 0, 0, 0, 0, []), (12, .getfield 15, 8, 1, 1, 0, 267, []), (15, .if_icmp .ge 12, 9, 14, 0, 0, 0, []), (18, .aload_n 0, 10, 0, 0, 0, 0, []), (19, .getfield 11, 11, 0, 1, 1, 266, []), (22, .iload_n 1, 12, 1, 0, 0, 0, []), (23, .iaload, 13, 0, 0, 0, 0, []), (24, .goto 4, 14, 15, 0, 0, 0, []), (27, .iconst (-1), 15, 0, 0, -1, 0, []), (28, .ireturn, 16, 0, 0, 0, 0, [])]
def kV_bodyAt : List (List dmA) := [kV_bodyAt_0]
def mV_bodyAt : dmM := (⟨"WhichOneAllKnow$Moves", "bodyAt", "(I)I"⟩, prog_3_method_4_code, 2, some (.int), kV_bodyAt, [862, 860, 861, 83])
def kO_image_0 : List dmA := [(0, .aload_n 0, 1, 0, 0, 0, 0, []), (1, .getfield 16, 2, 1, 5, 1, 284, []), (4, .aload_n 0, 3, 0, 0, 0, 0, []), (5, .getfield 10, 4, 0, 5, 1, 283, []), (8, .invokevirtual 176, 5, 45, 1, 0, 471, []), (11, .aload_n 0, 6, 0, 0, 0, 0, []), (12, .iconst 1, 7, 0, 0, 1, 0, []), (13, .putfield 56, 8, 8, 5, 0, 291, []), (16, .aload_n 0, 9, 0, 0, 0, 0, []), (17, .getfield 10, 10, 0, 5, 1, 283, []), (20, .getfield 237, 11, 7, 0, 0, 124, []), (23, .ireturn, 12, 0, 0, 0, 0, [])]
def kO_image : List (List dmA) := [kO_image_0]
def mO_image : dmM := (⟨"WhichOneAllKnow", "image", "()I"⟩, prog_1_method_40_code, 1, some (.int), kO_image, [866, 864, 865, 77])
def kO_restore_0 : List dmA := [(0, .aload_n 0, 1, 0, 0, 0, 0, []), (1, .getfield 56, 2, 8, 5, 0, 291, []), (4, .ifCond .ne 10, 3, 7, 0, 0, 0, []), (7, .aload_n 0, 4, 0, 0, 0, 0, []), (8, .bipush (-6), 5, 0, 0, -6, 0, []), (10, .invokevirtual 68, 6, 9, 1, 0, 322, []), (13, .ireturn, 7, 0, 0, 0, 0, []), (14, .aload_n 0, 8, 0, 0, 0, 0, []), (15, .getfield 10, 9, 0, 5, 1, 283, []), (18, .aload_n 0, 10, 0, 0, 0, 0, []), (19, .getfield 16, 11, 1, 5, 1, 284, []), (22, .invokevirtual 176, 12, 45, 1, 0, 471, []), (25, .aload_n 0, 13, 0, 0, 0, 0, []), (26, .getfield 25, 14, 3, 5, 1, 286, []), (29, .aload_n 0, 15, 0, 0, 0, 0, []), (30, .getfield 10, 16, 0, 5, 1, 283, [])]
def kO_restore_1 : List dmA := [(33, .getfield 237, 17, 7, 0, 0, 124, []), (36, .invokevirtual 304, 18, 131, 1, 0, 871, []), (39, .aload_n 0, 19, 0, 0, 0, 0, []), (40, .getfield 10, 20, 0, 5, 1, 283, []), (43, .getfield 237, 21, 7, 0, 0, 124, []), (46, .ireturn, 22, 0, 0, 0, 0, [])]
def kO_restore : List (List dmA) := [kO_restore_0, kO_restore_1]
def mO_restore : dmM := (⟨"WhichOneAllKnow", "restore", "()I"⟩, prog_1_method_41_code, 1, some (.int), kO_restore, [870, 868, 869, 77])
def kH_dropVoicesFrom_0 : List dmA := [(0, .iconst 0, 1, 0, 0, 0, 0, []), (1, .istore_n 2, 2, 2, 0, 0, 0, []), (2, .iload_n 2, 3, 2, 0, 0, 0, []), (3, .bipush 8, 4, 0, 0, 8, 0, []), (5, .if_icmp .ge 37, 5, 24, 0, 0, 0, []), (8, .aload_n 0, 6, 0, 0, 0, 0, []), (9, .getfield 20, 7, 2, 2, 1, 172, []), (12, .iload_n 2, 8, 2, 0, 0, 0, []), (13, .iaload, 9, 0, 0, 0, 0, []), (14, .iload_n 1, 10, 1, 0, 0, 0, []), (15, .if_icmp .lt 21, 11, 22, 0, 0, 0, []), (18, .aload_n 0, 12, 0, 0, 0, 0, []), (19, .getfield 20, 13, 2, 2, 1, 172, []), (22, .iload_n 2, 14, 2, 0, 0, 0, []), (23, .iaload, 15, 0, 0, 0, 0, []), (24, .bipush 100, 16, 0, 0, 100, 0, [])]
def kH_dropVoicesFrom_1 : List dmA := [(26, .if_icmp .ge 10, 17, 22, 0, 0, 0, []), (29, .aload_n 0, 18, 0, 0, 0, 0, []), (30, .getfield 20, 19, 2, 2, 1, 172, []), (33, .iload_n 2, 20, 2, 0, 0, 0, []), (34, .iconst (-1), 21, 0, 0, -1, 0, []), (35, .iastore, 22, 0, 0, 0, 0, []), (36, .iinc 2 1, 23, 2, 0, 1, 0, []), (39, .goto (-37), 24, 2, 0, 0, 0, []), (42, .return_, 25, 0, 0, 0, 0, [])]
def kH_dropVoicesFrom : List (List dmA) := [kH_dropVoicesFrom_0, kH_dropVoicesFrom_1]
def mH_dropVoicesFrom : dmM := (⟨"WhichOneAllKnow$Shelves", "dropVoicesFrom", "(I)V"⟩, prog_4_method_10_code, 3, none, kH_dropVoicesFrom, [874, 872, 873, 79])
def kO_status_0 : List dmA := [(0, .iload_n 1, 1, 1, 0, 0, 0, []), (1, .bipush 11, 2, 0, 0, 11, 0, []), (3, .bipush 17, 3, 0, 0, 17, 0, []), (5, .invokestatic 72, 4, 10, 3, 0, 326, [1]), (8, .ifCond .eq 13, 5, 12, 0, 0, 0, []), (11, .aload_n 0, 6, 0, 0, 0, 0, []), (12, .getfield 52, 7, 7, 5, 1, 290, []), (15, .iload_n 1, 8, 1, 0, 0, 0, []), (16, .bipush 10, 9, 0, 0, 10, 0, []), (18, .isub, 10, 0, 0, 0, 0, []), (19, .iaload, 11, 0, 0, 0, 0, []), (20, .ireturn, 12, 0, 0, 0, 0, []), (21, .iload_n 1, 13, 1, 0, 0, 0, []), (22, .tableswitch 113 0 7 #[46, 54, 62, 70, 78, 86, 97, 105], 14, 48, 46, 0, 0, [14, 18, 22, 26, 30, 34, 40, 44]), (68, .aload_n 0, 15, 0, 0, 0, 0, []), (69, .getfield 10, 16, 0, 5, 1, 283, [])]
def kO_status_1 : List dmA := [(72, .getfield 237, 17, 7, 0, 0, 124, []), (75, .ireturn, 18, 0, 0, 0, 0, []), (76, .aload_n 0, 19, 0, 0, 0, 0, []), (77, .getfield 10, 20, 0, 5, 1, 283, []), (80, .getfield 227, 21, 8, 0, 0, 126, []), (83, .ireturn, 22, 0, 0, 0, 0, []), (84, .aload_n 0, 23, 0, 0, 0, 0, []), (85, .getfield 10, 24, 0, 5, 1, 283, []), (88, .getfield 283, 25, 10, 0, 0, 131, []), (91, .ireturn, 26, 0, 0, 0, 0, []), (92, .aload_n 0, 27, 0, 0, 0, 0, []), (93, .getfield 10, 28, 0, 5, 1, 283, []), (96, .getfield 167, 29, 9, 0, 0, 128, []), (99, .ireturn, 30, 0, 0, 0, 0, []), (100, .aload_n 0, 31, 0, 0, 0, 0, []), (101, .getfield 10, 32, 0, 5, 1, 283, [])]
def kO_status_2 : List dmA := [(104, .invokevirtual 261, 33, 105, 0, 0, 758, []), (107, .ireturn, 34, 0, 0, 0, 0, []), (108, .bipush 24, 35, 0, 0, 24, 0, []), (110, .aload_n 0, 36, 0, 0, 0, 0, []), (111, .getfield 10, 37, 0, 5, 1, 283, []), (114, .getfield 237, 38, 7, 0, 0, 124, []), (117, .isub, 39, 0, 0, 0, 0, []), (118, .ireturn, 40, 0, 0, 0, 0, []), (119, .aload_n 0, 41, 0, 0, 0, 0, []), (120, .getfield 10, 42, 0, 5, 1, 283, []), (123, .getfield 292, 43, 11, 0, 0, 133, []), (126, .ireturn, 44, 0, 0, 0, 0, []), (127, .aload_n 0, 45, 0, 0, 0, 0, []), (128, .getfield 48, 46, 6, 5, 1, 289, []), (131, .getfield 307, 47, 1, 1, 0, 268, []), (134, .ireturn, 48, 0, 0, 0, 0, [])]
def kO_status_3 : List dmA := [(135, .iconst (-1), 49, 0, 0, -1, 0, []), (136, .ireturn, 50, 0, 0, 0, 0, [])]
def kO_status : List (List dmA) := [kO_status_0, kO_status_1, kO_status_2, kO_status_3]
def mO_status : dmM := (⟨"WhichOneAllKnow", "status", "(I)I"⟩, prog_1_method_42_code, 2, some (.int), kO_status, [878, 876, 877, 77])
def kM_init_0 : List dmA := [(0, .aload_n 0, 1, 0, 0, 0, 0, []), (1, .invokespecial 1, 2, 0, 0, 0, 884, [8]), (4, .aload_n 0, 3, 0, 0, 0, 0, []), (5, .bipush 8, 4, 0, 0, 8, 0, []), (7, .newarray .int, 5, 0, 0, 0, 0, []), (9, .putfield 7, 6, 0, 6, 1, 885, []), (12, .aload_n 0, 7, 0, 0, 0, 0, []), (13, .bipush 8, 8, 0, 0, 8, 0, []), (15, .newarray .int, 9, 0, 0, 0, 0, []), (17, .putfield 13, 10, 1, 6, 1, 886, []), (20, .aload_n 0, 11, 0, 0, 0, 0, []), (21, .sipush 1280, 12, 0, 0, 1280, 0, []), (24, .newarray .long, 13, 1, 0, 0, 0, []), (26, .putfield 16, 14, 2, 6, 1, 887, []), (29, .aload_n 0, 15, 0, 0, 0, 0, []), (30, .bipush 14, 16, 0, 0, 14, 0, [])]
def kM_init_1 : List dmA := [(32, .newarray .int, 17, 0, 0, 0, 0, []), (34, .putfield 20, 18, 4, 6, 1, 889, []), (37, .aload_n 0, 19, 0, 0, 0, 0, []), (38, .bipush 14, 20, 0, 0, 14, 0, []), (40, .newarray .int, 21, 0, 0, 0, 0, []), (42, .putfield 23, 22, 5, 6, 1, 890, []), (45, .aload_n 0, 23, 0, 0, 0, 0, []), (46, .bipush 14, 24, 0, 0, 14, 0, []), (48, .newarray .int, 25, 0, 0, 0, 0, []), (50, .putfield 26, 26, 6, 6, 1, 891, []), (53, .aload_n 0, 27, 0, 0, 0, 0, []), (54, .bipush 14, 28, 0, 0, 14, 0, []), (56, .newarray .int, 29, 0, 0, 0, 0, []), (58, .putfield 29, 30, 7, 6, 1, 892, []), (61, .aload_n 0, 31, 0, 0, 0, 0, []), (62, .bipush 14, 32, 0, 0, 14, 0, [])]
def kM_init_2 : List dmA := [(64, .newarray .int, 33, 0, 0, 0, 0, []), (66, .putfield 32, 34, 8, 6, 1, 893, []), (69, .aload_n 0, 35, 0, 0, 0, 0, []), (70, .bipush 14, 36, 0, 0, 14, 0, []), (72, .newarray .int, 37, 0, 0, 0, 0, []), (74, .putfield 35, 38, 9, 6, 1, 894, []), (77, .aload_n 0, 39, 0, 0, 0, 0, []), (78, .bipush 6, 40, 0, 0, 6, 0, []), (80, .newarray .int, 41, 0, 0, 0, 0, []), (82, .putfield 38, 42, 11, 6, 1, 896, []), (85, .aload_n 0, 43, 0, 0, 0, 0, []), (86, .iconst 5, 44, 0, 0, 5, 0, []), (87, .newarray .int, 45, 0, 0, 0, 0, []), (89, .putfield 41, 46, 18, 6, 1, 903, []), (92, .aload_n 0, 47, 0, 0, 0, 0, []), (93, .bipush 20, 48, 0, 0, 20, 0, [])]
def kM_init_3 : List dmA := [(95, .newarray .int, 49, 0, 0, 0, 0, []), (97, .putfield 44, 50, 20, 6, 1, 905, []), (100, .aload_n 0, 51, 0, 0, 0, 0, []), (101, .bipush 8, 52, 0, 0, 8, 0, []), (103, .newarray .int, 53, 0, 0, 0, 0, []), (105, .putfield 47, 54, 21, 6, 1, 906, []), (108, .aload_n 0, 55, 0, 0, 0, 0, []), (109, .bipush 83, 56, 0, 0, 83, 0, []), (111, .newarray .int, 57, 0, 0, 0, 0, []), (113, .putfield 50, 58, 23, 6, 1, 908, []), (116, .aload_n 0, 59, 0, 0, 0, 0, []), (117, .bipush 83, 60, 0, 0, 83, 0, []), (119, .newarray .int, 61, 0, 0, 0, 0, []), (121, .putfield 53, 62, 24, 6, 1, 909, []), (124, .aload_n 0, 63, 0, 0, 0, 0, []), (125, .bipush 44, 64, 0, 0, 44, 0, [])]
def kM_init_4 : List dmA := [(127, .newarray .int, 65, 0, 0, 0, 0, []), (129, .putfield 56, 66, 25, 6, 1, 910, []), (132, .aload_n 0, 67, 0, 0, 0, 0, []), (133, .bipush 44, 68, 0, 0, 44, 0, []), (135, .newarray .int, 69, 0, 0, 0, 0, []), (137, .putfield 59, 70, 26, 6, 1, 911, []), (140, .aload_n 0, 71, 0, 0, 0, 0, []), (141, .bipush 44, 72, 0, 0, 44, 0, []), (143, .newarray .int, 73, 0, 0, 0, 0, []), (145, .putfield 62, 74, 27, 6, 1, 912, []), (148, .aload_n 0, 75, 0, 0, 0, 0, []), (149, .iconst 2, 76, 0, 0, 2, 0, []), (150, .putfield 65, 77, 12, 6, 0, 897, []), (153, .aload_n 0, 78, 0, 0, 0, 0, []), (154, .iconst 1, 79, 0, 0, 1, 0, []), (155, .putfield 69, 80, 14, 6, 0, 899, [])]
def kM_init_5 : List dmA := [(158, .aload_n 0, 81, 0, 0, 0, 0, []), (159, .iconst (-1), 82, 0, 0, -1, 0, []), (160, .putfield 72, 83, 17, 6, 0, 902, []), (163, .aload_n 0, 84, 0, 0, 0, 0, []), (164, .iconst (-1), 85, 0, 0, -1, 0, []), (165, .putfield 75, 86, 28, 6, 0, 913, []), (168, .iconst 0, 87, 0, 0, 0, 0, []), (169, .istore_n 1, 88, 1, 0, 0, 0, []), (170, .iload_n 1, 89, 1, 0, 0, 0, []), (171, .bipush 8, 90, 0, 0, 8, 0, []), (173, .if_icmp .ge 16, 91, 98, 0, 0, 0, []), (176, .aload_n 0, 92, 0, 0, 0, 0, []), (177, .getfield 7, 93, 0, 6, 1, 885, []), (180, .iload_n 1, 94, 1, 0, 0, 0, []), (181, .iconst (-1), 95, 0, 0, -1, 0, []), (182, .iastore, 96, 0, 0, 0, 0, [])]
def kM_init_6 : List dmA := [(183, .iinc 1 1, 97, 1, 0, 1, 0, []), (186, .goto (-16), 98, 88, 0, 0, 0, []), (189, .return_, 99, 0, 0, 0, 0, [])]
def kM_init : List (List dmA) := [kM_init_0, kM_init_1, kM_init_2, kM_init_3, kM_init_4, kM_init_5, kM_init_6]
def mM_init : dmM := (⟨"WhichOneAllKnowModel", "<init>", "()V"⟩, prog_8_method_1_code, 2, none, kM_init, [883, 882, 0, 84])
def kM_row_0 : List dmA := [(0, .iload_n 1, 1, 1, 0, 0, 0, []), (1, .iconst 0, 2, 0, 0, 0, 0, []), (2, .bipush 7, 3, 0, 0, 7, 0, []), (4, .invokestatic 85, 4, 135, 3, 0, 977, [1]), (7, .ifCond .ne 9, 5, 9, 0, 0, 0, []), (10, .aload_n 0, 6, 0, 0, 0, 0, []), (11, .iconst (-1), 7, 0, 0, -1, 0, []), (12, .invokevirtual 78, 8, 136, 1, 0, 980, []), (15, .ireturn, 9, 0, 0, 0, 0, []), (16, .iload_n 3, 10, 3, 0, 0, 0, []), (17, .ifCond .ge 10, 11, 15, 0, 0, 0, []), (20, .aload_n 0, 12, 0, 0, 0, 0, []), (21, .bipush (-4), 13, 0, 0, -4, 0, []), (23, .invokevirtual 78, 14, 136, 1, 0, 980, []), (26, .ireturn, 15, 0, 0, 0, 0, []), (27, .iload_n 2, 16, 2, 0, 0, 0, [])]
def kM_row_1 : List dmA := [(28, .iconst 0, 17, 0, 0, 0, 0, []), (29, .iconst 3, 18, 0, 0, 3, 0, []), (30, .invokestatic 85, 19, 135, 3, 0, 977, [1]), (33, .ifCond .ne 10, 20, 24, 0, 0, 0, []), (36, .aload_n 0, 21, 0, 0, 0, 0, []), (37, .bipush (-6), 22, 0, 0, -6, 0, []), (39, .invokevirtual 78, 23, 136, 1, 0, 980, []), (42, .ireturn, 24, 0, 0, 0, 0, []), (43, .iload_n 3, 25, 3, 0, 0, 0, []), (44, .sipush 160, 26, 0, 0, 160, 0, []), (47, .if_icmp .le 10, 27, 31, 0, 0, 0, []), (50, .aload_n 0, 28, 0, 0, 0, 0, []), (51, .bipush (-7), 29, 0, 0, -7, 0, []), (53, .invokevirtual 78, 30, 136, 1, 0, 980, []), (56, .ireturn, 31, 0, 0, 0, 0, []), (57, .aload_n 0, 32, 0, 0, 0, 0, [])]
def kM_row_2 : List dmA := [(58, .getfield 7, 33, 0, 6, 1, 885, []), (61, .iload_n 1, 34, 1, 0, 0, 0, []), (62, .bipush 100, 35, 0, 0, 100, 0, []), (64, .iload_n 2, 36, 2, 0, 0, 0, []), (65, .iadd, 37, 0, 0, 0, 0, []), (66, .iastore, 38, 0, 0, 0, 0, []), (67, .aload_n 0, 39, 0, 0, 0, 0, []), (68, .getfield 13, 40, 1, 6, 1, 886, []), (71, .iload_n 1, 41, 1, 0, 0, 0, []), (72, .iload_n 3, 42, 3, 0, 0, 0, []), (73, .iastore, 43, 0, 0, 0, 0, []), (74, .iconst 0, 44, 0, 0, 0, 0, []), (75, .istore 4, 45, 4, 0, 0, 0, []), (77, .iload 4, 46, 4, 0, 0, 0, []), (79, .sipush 160, 47, 0, 0, 160, 0, []), (82, .if_icmp .ge 23, 48, 59, 0, 0, 0, [])]
def kM_row_3 : List dmA := [(85, .aload_n 0, 49, 0, 0, 0, 0, []), (86, .getfield 16, 50, 2, 6, 1, 887, []), (89, .sipush 160, 51, 0, 0, 160, 0, []), (92, .iload_n 1, 52, 1, 0, 0, 0, []), (93, .imul, 53, 0, 0, 0, 0, []), (94, .iload 4, 54, 4, 0, 0, 0, []), (96, .iadd, 55, 0, 0, 0, 0, []), (97, .lconst 0, 56, 0, 0, 0, 0, []), (98, .lastore, 57, 0, 0, 0, 0, []), (99, .iinc 4 1, 58, 4, 0, 1, 0, []), (102, .goto (-25), 59, 45, 0, 0, 0, []), (105, .iconst 1, 60, 0, 0, 1, 0, []), (106, .ireturn, 61, 0, 0, 0, 0, [])]
def kM_row : List (List dmA) := [kM_row_0, kM_row_1, kM_row_2, kM_row_3]
def mM_row : dmM := (⟨"WhichOneAllKnowModel", "row", "(III)I"⟩, prog_8_method_13_code, 5, some (.int), kM_row, [976, 974, 975, 84])
def kM_within_0 : List dmA := [(0, .iload_n 0, 1, 0, 0, 0, 0, []), (1, .iload_n 1, 2, 1, 0, 0, 0, []), (2, .if_icmp .lt 12, 3, 8, 0, 0, 0, []), (5, .iload_n 0, 4, 0, 0, 0, 0, []), (6, .iload_n 2, 5, 2, 0, 0, 0, []), (7, .if_icmp .gt 7, 6, 8, 0, 0, 0, []), (10, .iconst 1, 7, 0, 0, 1, 0, []), (11, .goto 4, 8, 9, 0, 0, 0, []), (14, .iconst 0, 9, 0, 0, 0, 0, []), (15, .ireturn, 10, 0, 0, 0, 0, [])]
def kM_within : List (List dmA) := [kM_within_0]
def mM_within : dmM := (⟨"WhichOneAllKnowModel", "within", "(III)Z"⟩, prog_8_method_4_code, 3, some (.boolean), kM_within, [979, 978, 0, 84])
def kM_no_0 : List dmA := [(0, .aload_n 0, 1, 0, 0, 0, 0, []), (1, .getfield 47, 2, 21, 6, 1, 906, []), (4, .iload_n 1, 3, 1, 0, 0, 0, []), (5, .ineg, 4, 0, 0, 0, 0, []), (6, .dup2, 5, 0, 0, 0, 0, []), (7, .iaload, 6, 0, 0, 0, 0, []), (8, .iconst 1, 7, 0, 0, 1, 0, []), (9, .iadd, 8, 0, 0, 0, 0, []), (10, .iastore, 9, 0, 0, 0, 0, []), (11, .iload_n 1, 10, 1, 0, 0, 0, []), (12, .ireturn, 11, 0, 0, 0, 0, [])]
def kM_no : List (List dmA) := [kM_no_0]
def mM_no : dmM := (⟨"WhichOneAllKnowModel", "no", "(I)I"⟩, prog_8_method_2_code, 2, some (.int), kM_no, [983, 982, 29, 84])
def kM_set_0 : List dmA := [(0, .aload_n 0, 1, 0, 0, 0, 0, []), (1, .iload_n 1, 2, 1, 0, 0, 0, []), (2, .invokevirtual 99, 3, 138, 1, 0, 988, []), (5, .istore 5, 4, 5, 0, 0, 0, []), (7, .iload 5, 5, 5, 0, 0, 0, []), (9, .ifCond .ge 10, 6, 10, 0, 0, 0, []), (12, .aload_n 0, 7, 0, 0, 0, 0, []), (13, .iload 5, 8, 5, 0, 0, 0, []), (15, .invokevirtual 78, 9, 136, 1, 0, 980, []), (18, .ireturn, 10, 0, 0, 0, 0, []), (19, .iload_n 2, 11, 2, 0, 0, 0, []), (20, .iconst 0, 12, 0, 0, 0, 0, []), (21, .aload_n 0, 13, 0, 0, 0, 0, []), (22, .getfield 13, 14, 1, 6, 1, 886, []), (25, .iload_n 1, 15, 1, 0, 0, 0, []), (26, .iaload, 16, 0, 0, 0, 0, [])]
def kM_set_1 : List dmA := [(27, .iconst 1, 17, 0, 0, 1, 0, []), (28, .isub, 18, 0, 0, 0, 0, []), (29, .invokestatic 85, 19, 135, 3, 0, 977, [1]), (32, .ifCond .ne 10, 20, 24, 0, 0, 0, []), (35, .aload_n 0, 21, 0, 0, 0, 0, []), (36, .bipush (-5), 22, 0, 0, -5, 0, []), (38, .invokevirtual 78, 23, 136, 1, 0, 980, []), (41, .ireturn, 24, 0, 0, 0, 0, []), (42, .aload_n 0, 25, 0, 0, 0, 0, []), (43, .getfield 7, 26, 0, 6, 1, 885, []), (46, .iload_n 1, 27, 1, 0, 0, 0, []), (47, .iaload, 28, 0, 0, 0, 0, []), (48, .bipush 100, 29, 0, 0, 100, 0, []), (50, .isub, 30, 0, 0, 0, 0, []), (51, .istore 6, 31, 6, 0, 0, 0, []), (53, .aload_n 0, 32, 0, 0, 0, 0, [])]
def kM_set_2 : List dmA := [(54, .getfield 16, 33, 2, 6, 1, 887, []), (57, .sipush 160, 34, 0, 0, 160, 0, []), (60, .iload_n 1, 35, 1, 0, 0, 0, []), (61, .imul, 36, 0, 0, 0, 0, []), (62, .iload_n 2, 37, 2, 0, 0, 0, []), (63, .iadd, 38, 0, 0, 0, 0, []), (64, .iload 6, 39, 6, 0, 0, 0, []), (66, .ifCond .ne 10, 40, 45, 0, 0, 0, []), (69, .lload_n 3, 41, 3, 0, 0, 0, []), (70, .l2i, 42, 0, 0, 0, 0, []), (71, .i2b, 43, 0, 0, 0, 0, []), (72, .i2l, 44, 0, 0, 0, 0, []), (73, .goto 29, 45, 61, 0, 0, 0, []), (76, .iload 6, 46, 6, 0, 0, 0, []), (78, .iconst 1, 47, 0, 0, 1, 0, []), (79, .if_icmp .ne 10, 48, 53, 0, 0, 0, [])]
def kM_set_3 : List dmA := [(82, .lload_n 3, 49, 3, 0, 0, 0, []), (83, .l2i, 50, 0, 0, 0, 0, []), (84, .i2s, 51, 0, 0, 0, 0, []), (85, .i2l, 52, 0, 0, 0, 0, []), (86, .goto 16, 53, 61, 0, 0, 0, []), (89, .iload 6, 54, 6, 0, 0, 0, []), (91, .iconst 2, 55, 0, 0, 2, 0, []), (92, .if_icmp .ne 9, 56, 60, 0, 0, 0, []), (95, .lload_n 3, 57, 3, 0, 0, 0, []), (96, .l2i, 58, 0, 0, 0, 0, []), (97, .i2l, 59, 0, 0, 0, 0, []), (98, .goto 4, 60, 61, 0, 0, 0, []), (101, .lload_n 3, 61, 3, 0, 0, 0, []), (102, .lastore, 62, 0, 0, 0, 0, []), (103, .iconst 1, 63, 0, 0, 1, 0, []), (104, .ireturn, 64, 0, 0, 0, 0, [])]
def kM_set : List (List dmA) := [kM_set_0, kM_set_1, kM_set_2, kM_set_3]
def mM_set : dmM := (⟨"WhichOneAllKnowModel", "set", "(IIJ)I"⟩, prog_8_method_15_code, 7, some (.int), kM_set, [987, 985, 986, 84])
def kM_noRow_0 : List dmA := [(0, .iload_n 1, 1, 1, 0, 0, 0, []), (1, .iconst 0, 2, 0, 0, 0, 0, []), (2, .bipush 7, 3, 0, 0, 7, 0, []), (4, .invokestatic 85, 4, 135, 3, 0, 977, [1]), (7, .ifCond .ne 5, 5, 7, 0, 0, 0, []), (10, .iconst (-1), 6, 0, 0, -1, 0, []), (11, .ireturn, 7, 0, 0, 0, 0, []), (12, .aload_n 0, 8, 0, 0, 0, 0, []), (13, .getfield 7, 9, 0, 6, 1, 885, []), (16, .iload_n 1, 10, 1, 0, 0, 0, []), (17, .iaload, 11, 0, 0, 0, 0, []), (18, .ifCond .lt 14, 12, 18, 0, 0, 0, []), (21, .aload_n 0, 13, 0, 0, 0, 0, []), (22, .iload_n 1, 14, 1, 0, 0, 0, []), (23, .invokevirtual 96, 15, 139, 1, 0, 992, []), (26, .ifCond .ne 6, 16, 18, 0, 0, 0, [])]
def kM_noRow_1 : List dmA := [(29, .bipush (-2), 17, 0, 0, -2, 0, []), (31, .ireturn, 18, 0, 0, 0, 0, []), (32, .aload_n 0, 19, 0, 0, 0, 0, []), (33, .getfield 7, 20, 0, 6, 1, 885, []), (36, .iload_n 1, 21, 1, 0, 0, 0, []), (37, .iaload, 22, 0, 0, 0, 0, []), (38, .ifCond .ge 8, 23, 25, 0, 0, 0, []), (41, .bipush (-3), 24, 0, 0, -3, 0, []), (43, .goto 4, 25, 26, 0, 0, 0, []), (46, .iconst 0, 26, 0, 0, 0, 0, []), (47, .ireturn, 27, 0, 0, 0, 0, [])]
def kM_noRow : List (List dmA) := [kM_noRow_0, kM_noRow_1]
def mM_noRow : dmM := (⟨"WhichOneAllKnowModel", "noRow", "(I)I"⟩, prog_8_method_14_code, 2, some (.int), kM_noRow, [991, 990, 30, 84])
def kM_isRow_0 : List dmA := [(0, .aload_n 0, 1, 0, 0, 0, 0, []), (1, .getfield 7, 2, 0, 6, 1, 885, []), (4, .iload_n 1, 3, 1, 0, 0, 0, []), (5, .iaload, 4, 0, 0, 0, 0, []), (6, .bipush 100, 5, 0, 0, 100, 0, []), (8, .if_icmp .lt 7, 6, 8, 0, 0, 0, []), (11, .iconst 1, 7, 0, 0, 1, 0, []), (12, .goto 4, 8, 9, 0, 0, 0, []), (15, .iconst 0, 9, 0, 0, 0, 0, []), (16, .ireturn, 10, 0, 0, 0, 0, [])]
def kM_isRow : List (List dmA) := [kM_isRow_0]
def mM_isRow : dmM := (⟨"WhichOneAllKnowModel", "isRow", "(I)Z"⟩, prog_8_method_12_code, 2, some (.boolean), kM_isRow, [995, 994, 31, 84])
def kM_copy_0 : List dmA := [(0, .iload_n 1, 1, 1, 0, 0, 0, []), (1, .iconst 0, 2, 0, 0, 0, 0, []), (2, .bipush 7, 3, 0, 0, 7, 0, []), (4, .invokestatic 85, 4, 135, 3, 0, 977, [1]), (7, .ifCond .eq 13, 5, 10, 0, 0, 0, []), (10, .iload_n 2, 6, 2, 0, 0, 0, []), (11, .iconst 0, 7, 0, 0, 0, 0, []), (12, .bipush 7, 8, 0, 0, 7, 0, []), (14, .invokestatic 85, 9, 135, 3, 0, 977, [1]), (17, .ifCond .ne 9, 10, 14, 0, 0, 0, []), (20, .aload_n 0, 11, 0, 0, 0, 0, []), (21, .iconst (-1), 12, 0, 0, -1, 0, []), (22, .invokevirtual 78, 13, 136, 1, 0, 980, []), (25, .ireturn, 14, 0, 0, 0, 0, []), (26, .aload_n 0, 15, 0, 0, 0, 0, []), (27, .getfield 7, 16, 0, 6, 1, 885, [])]
def kM_copy_1 : List dmA := [(30, .iload_n 1, 17, 1, 0, 0, 0, []), (31, .iaload, 18, 0, 0, 0, 0, []), (32, .ifCond .lt 11, 19, 23, 0, 0, 0, []), (35, .aload_n 0, 20, 0, 0, 0, 0, []), (36, .iload_n 1, 21, 1, 0, 0, 0, []), (37, .invokevirtual 96, 22, 139, 1, 0, 992, []), (40, .ifCond .eq 51, 23, 49, 0, 0, 0, []), (43, .aload_n 0, 24, 0, 0, 0, 0, []), (44, .getfield 7, 25, 0, 6, 1, 885, []), (47, .iload_n 2, 26, 2, 0, 0, 0, []), (48, .iaload, 27, 0, 0, 0, 0, []), (49, .ifCond .lt 11, 28, 32, 0, 0, 0, []), (52, .aload_n 0, 29, 0, 0, 0, 0, []), (53, .iload_n 2, 30, 2, 0, 0, 0, []), (54, .invokevirtual 96, 31, 139, 1, 0, 992, []), (57, .ifCond .eq 34, 32, 49, 0, 0, 0, [])]
def kM_copy_2 : List dmA := [(60, .aload_n 0, 33, 0, 0, 0, 0, []), (61, .iload_n 1, 34, 1, 0, 0, 0, []), (62, .invokevirtual 96, 35, 139, 1, 0, 992, []), (65, .ifCond .eq 33, 36, 53, 0, 0, 0, []), (68, .aload_n 0, 37, 0, 0, 0, 0, []), (69, .iload_n 2, 38, 2, 0, 0, 0, []), (70, .invokevirtual 96, 39, 139, 1, 0, 992, []), (73, .ifCond .eq 25, 40, 53, 0, 0, 0, []), (76, .aload_n 0, 41, 0, 0, 0, 0, []), (77, .getfield 7, 42, 0, 6, 1, 885, []), (80, .iload_n 1, 43, 1, 0, 0, 0, []), (81, .iaload, 44, 0, 0, 0, 0, []), (82, .aload_n 0, 45, 0, 0, 0, 0, []), (83, .getfield 7, 46, 0, 6, 1, 885, []), (86, .iload_n 2, 47, 2, 0, 0, 0, []), (87, .iaload, 48, 0, 0, 0, 0, [])]
def kM_copy_3 : List dmA := [(88, .if_icmp .eq 10, 49, 53, 0, 0, 0, []), (91, .aload_n 0, 50, 0, 0, 0, 0, []), (92, .bipush (-2), 51, 0, 0, -2, 0, []), (94, .invokevirtual 78, 52, 136, 1, 0, 980, []), (97, .ireturn, 53, 0, 0, 0, 0, []), (98, .aload_n 0, 54, 0, 0, 0, 0, []), (99, .getfield 7, 55, 0, 6, 1, 885, []), (102, .iload_n 1, 56, 1, 0, 0, 0, []), (103, .iaload, 57, 0, 0, 0, 0, []), (104, .ifCond .lt 12, 58, 63, 0, 0, 0, []), (107, .aload_n 0, 59, 0, 0, 0, 0, []), (108, .getfield 7, 60, 0, 6, 1, 885, []), (111, .iload_n 2, 61, 2, 0, 0, 0, []), (112, .iaload, 62, 0, 0, 0, 0, []), (113, .ifCond .ge 10, 63, 67, 0, 0, 0, []), (116, .aload_n 0, 64, 0, 0, 0, 0, [])]
def kM_copy_4 : List dmA := [(117, .bipush (-3), 65, 0, 0, -3, 0, []), (119, .invokevirtual 78, 66, 136, 1, 0, 980, []), (122, .ireturn, 67, 0, 0, 0, 0, []), (123, .iload 5, 68, 5, 0, 0, 0, []), (125, .ifCond .ge 10, 69, 73, 0, 0, 0, []), (128, .aload_n 0, 70, 0, 0, 0, 0, []), (129, .bipush (-4), 71, 0, 0, -4, 0, []), (131, .invokevirtual 78, 72, 136, 1, 0, 980, []), (134, .ireturn, 73, 0, 0, 0, 0, []), (135, .iload_n 3, 74, 3, 0, 0, 0, []), (136, .ifCond .lt 43, 75, 101, 0, 0, 0, []), (139, .iload 4, 76, 4, 0, 0, 0, []), (141, .ifCond .lt 38, 77, 101, 0, 0, 0, []), (144, .iload_n 3, 78, 3, 0, 0, 0, []), (145, .i2l, 79, 0, 0, 0, 0, []), (146, .iload 5, 80, 5, 0, 0, 0, [])]
def kM_copy_5 : List dmA := [(148, .i2l, 81, 0, 0, 0, 0, []), (149, .ladd, 82, 0, 0, 0, 0, []), (150, .aload_n 0, 83, 0, 0, 0, 0, []), (151, .getfield 13, 84, 1, 6, 1, 886, []), (154, .iload_n 1, 85, 1, 0, 0, 0, []), (155, .iaload, 86, 0, 0, 0, 0, []), (156, .i2l, 87, 0, 0, 0, 0, []), (157, .lcmp, 88, 0, 0, 0, 0, []), (158, .ifCond .gt 21, 89, 101, 0, 0, 0, []), (161, .iload 4, 90, 4, 0, 0, 0, []), (163, .i2l, 91, 0, 0, 0, 0, []), (164, .iload 5, 92, 5, 0, 0, 0, []), (166, .i2l, 93, 0, 0, 0, 0, []), (167, .ladd, 94, 0, 0, 0, 0, []), (168, .aload_n 0, 95, 0, 0, 0, 0, []), (169, .getfield 13, 96, 1, 6, 1, 886, [])]
def kM_copy_6 : List dmA := [(172, .iload_n 2, 97, 2, 0, 0, 0, []), (173, .iaload, 98, 0, 0, 0, 0, []), (174, .i2l, 99, 0, 0, 0, 0, []), (175, .lcmp, 100, 0, 0, 0, 0, []), (176, .ifCond .le 10, 101, 105, 0, 0, 0, []), (179, .aload_n 0, 102, 0, 0, 0, 0, []), (180, .bipush (-5), 103, 0, 0, -5, 0, []), (182, .invokevirtual 78, 104, 136, 1, 0, 980, []), (185, .ireturn, 105, 0, 0, 0, 0, []), (186, .iload_n 1, 106, 1, 0, 0, 0, []), (187, .iload_n 2, 107, 2, 0, 0, 0, []), (188, .if_icmp .ne 60, 108, 140, 0, 0, 0, []), (191, .iload_n 3, 109, 3, 0, 0, 0, []), (192, .iload 4, 110, 4, 0, 0, 0, []), (194, .if_icmp .ge 54, 111, 140, 0, 0, 0, []), (197, .iload 5, 112, 5, 0, 0, 0, [])]
def kM_copy_7 : List dmA := [(199, .iconst 1, 113, 0, 0, 1, 0, []), (200, .isub, 114, 0, 0, 0, 0, []), (201, .istore 6, 115, 6, 0, 0, 0, []), (203, .iload 6, 116, 6, 0, 0, 0, []), (205, .ifCond .lt 40, 117, 139, 0, 0, 0, []), (208, .aload_n 0, 118, 0, 0, 0, 0, []), (209, .getfield 16, 119, 2, 6, 1, 887, []), (212, .sipush 160, 120, 0, 0, 160, 0, []), (215, .iload_n 2, 121, 2, 0, 0, 0, []), (216, .imul, 122, 0, 0, 0, 0, []), (217, .iload 4, 123, 4, 0, 0, 0, []), (219, .iadd, 124, 0, 0, 0, 0, []), (220, .iload 6, 125, 6, 0, 0, 0, []), (222, .iadd, 126, 0, 0, 0, 0, []), (223, .aload_n 0, 127, 0, 0, 0, 0, []), (224, .getfield 16, 128, 2, 6, 1, 887, [])]
def kM_copy_8 : List dmA := [(227, .sipush 160, 129, 0, 0, 160, 0, []), (230, .iload_n 1, 130, 1, 0, 0, 0, []), (231, .imul, 131, 0, 0, 0, 0, []), (232, .iload_n 3, 132, 3, 0, 0, 0, []), (233, .iadd, 133, 0, 0, 0, 0, []), (234, .iload 6, 134, 6, 0, 0, 0, []), (236, .iadd, 135, 0, 0, 0, 0, []), (237, .laload, 136, 0, 0, 0, 0, []), (238, .lastore, 137, 0, 0, 0, 0, []), (239, .iinc 6 (-1), 138, 6, 0, -1, 0, []), (242, .goto (-39), 139, 115, 0, 0, 0, []), (245, .goto 50, 140, 167, 0, 0, 0, []), (248, .iconst 0, 141, 0, 0, 0, 0, []), (249, .istore 6, 142, 6, 0, 0, 0, []), (251, .iload 6, 143, 6, 0, 0, 0, []), (253, .iload 5, 144, 5, 0, 0, 0, [])]
def kM_copy_9 : List dmA := [(255, .if_icmp .ge 40, 145, 167, 0, 0, 0, []), (258, .aload_n 0, 146, 0, 0, 0, 0, []), (259, .getfield 16, 147, 2, 6, 1, 887, []), (262, .sipush 160, 148, 0, 0, 160, 0, []), (265, .iload_n 2, 149, 2, 0, 0, 0, []), (266, .imul, 150, 0, 0, 0, 0, []), (267, .iload 4, 151, 4, 0, 0, 0, []), (269, .iadd, 152, 0, 0, 0, 0, []), (270, .iload 6, 153, 6, 0, 0, 0, []), (272, .iadd, 154, 0, 0, 0, 0, []), (273, .aload_n 0, 155, 0, 0, 0, 0, []), (274, .getfield 16, 156, 2, 6, 1, 887, []), (277, .sipush 160, 157, 0, 0, 160, 0, []), (280, .iload_n 1, 158, 1, 0, 0, 0, []), (281, .imul, 159, 0, 0, 0, 0, []), (282, .iload_n 3, 160, 3, 0, 0, 0, [])]
def kM_copy_10 : List dmA := [(283, .iadd, 161, 0, 0, 0, 0, []), (284, .iload 6, 162, 6, 0, 0, 0, []), (286, .iadd, 163, 0, 0, 0, 0, []), (287, .laload, 164, 0, 0, 0, 0, []), (288, .lastore, 165, 0, 0, 0, 0, []), (289, .iinc 6 1, 166, 6, 0, 1, 0, []), (292, .goto (-41), 167, 142, 0, 0, 0, []), (295, .iconst 1, 168, 0, 0, 1, 0, []), (296, .ireturn, 169, 0, 0, 0, 0, [])]
def kM_copy : List (List dmA) := [kM_copy_0, kM_copy_1, kM_copy_2, kM_copy_3, kM_copy_4, kM_copy_5, kM_copy_6, kM_copy_7, kM_copy_8, kM_copy_9, kM_copy_10]
def mM_copy : dmM := (⟨"WhichOneAllKnowModel", "copy", "(IIIII)I"⟩, prog_8_method_16_code, 7, some (.int), kM_copy, [999, 997, 998, 84])
def kM_element_0 : List dmA := [(0, .iload_n 1, 1, 1, 0, 0, 0, []), (1, .iconst 0, 2, 0, 0, 0, 0, []), (2, .bipush 7, 3, 0, 0, 7, 0, []), (4, .invokestatic 85, 4, 135, 3, 0, 977, [1]), (7, .ifCond .eq 42, 5, 28, 0, 0, 0, []), (10, .aload_n 0, 6, 0, 0, 0, 0, []), (11, .iload_n 1, 7, 1, 0, 0, 0, []), (12, .invokevirtual 96, 8, 139, 1, 0, 992, []), (15, .ifCond .eq 34, 9, 28, 0, 0, 0, []), (18, .iload_n 2, 10, 2, 0, 0, 0, []), (19, .iconst 0, 11, 0, 0, 0, 0, []), (20, .aload_n 0, 12, 0, 0, 0, 0, []), (21, .getfield 13, 13, 1, 6, 1, 886, []), (24, .iload_n 1, 14, 1, 0, 0, 0, []), (25, .iaload, 15, 0, 0, 0, 0, []), (26, .iconst 1, 16, 0, 0, 1, 0, [])]
def kM_element_1 : List dmA := [(27, .isub, 17, 0, 0, 0, 0, []), (28, .invokestatic 85, 18, 135, 3, 0, 977, [1]), (31, .ifCond .eq 18, 19, 28, 0, 0, 0, []), (34, .aload_n 0, 20, 0, 0, 0, 0, []), (35, .getfield 16, 21, 2, 6, 1, 887, []), (38, .sipush 160, 22, 0, 0, 160, 0, []), (41, .iload_n 1, 23, 1, 0, 0, 0, []), (42, .imul, 24, 0, 0, 0, 0, []), (43, .iload_n 2, 25, 2, 0, 0, 0, []), (44, .iadd, 26, 0, 0, 0, 0, []), (45, .laload, 27, 0, 0, 0, 0, []), (46, .goto 4, 28, 29, 0, 0, 0, []), (49, .lconst 0, 29, 0, 0, 0, 0, []), (50, .lreturn, 30, 0, 0, 0, 0, [])]
def kM_element : List (List dmA) := [kM_element_0, kM_element_1]
def mM_element : dmM := (⟨"WhichOneAllKnowModel", "element", "(II)J"⟩, prog_8_method_17_code, 3, some (.long), kM_element, [1003, 1001, 1002, 84])
def kM_show_0 : List dmA := [(0, .iload_n 1, 1, 1, 0, 0, 0, []), (1, .iconst 0, 2, 0, 0, 0, 0, []), (2, .bipush 7, 3, 0, 0, 7, 0, []), (4, .invokestatic 85, 4, 135, 3, 0, 977, [1]), (7, .ifCond .eq 16, 5, 12, 0, 0, 0, []), (10, .iload_n 2, 6, 2, 0, 0, 0, []), (11, .iconst (-1), 7, 0, 0, -1, 0, []), (12, .if_icmp .eq 17, 8, 16, 0, 0, 0, []), (15, .aload_n 0, 9, 0, 0, 0, 0, []), (16, .iload_n 2, 10, 2, 0, 0, 0, []), (17, .invokevirtual 102, 11, 143, 1, 0, 1008, []), (20, .ifCond .ne 9, 12, 16, 0, 0, 0, []), (23, .aload_n 0, 13, 0, 0, 0, 0, []), (24, .iconst (-1), 14, 0, 0, -1, 0, []), (25, .invokevirtual 78, 15, 136, 1, 0, 980, []), (28, .ireturn, 16, 0, 0, 0, 0, [])]
def kM_show_1 : List dmA := [(29, .aload_n 0, 17, 0, 0, 0, 0, []), (30, .getfield 7, 18, 0, 6, 1, 885, []), (33, .iload_n 1, 19, 1, 0, 0, 0, []), (34, .iload_n 2, 20, 2, 0, 0, 0, []), (35, .iastore, 21, 0, 0, 0, 0, []), (36, .iload_n 2, 22, 2, 0, 0, 0, []), (37, .iconst (-1), 23, 0, 0, -1, 0, []), (38, .if_icmp .ne 7, 24, 26, 0, 0, 0, []), (41, .iconst 0, 25, 0, 0, 0, 0, []), (42, .goto 4, 26, 27, 0, 0, 0, []), (45, .iconst 1, 27, 0, 0, 1, 0, []), (46, .ireturn, 28, 0, 0, 0, 0, [])]
def kM_show : List (List dmA) := [kM_show_0, kM_show_1]
def mM_show : dmM := (⟨"WhichOneAllKnowModel", "show", "(II)I"⟩, prog_8_method_18_code, 3, some (.int), kM_show, [1007, 1005, 1006, 84])
def kM_isVoice_0 : List dmA := [(0, .iload_n 1, 1, 1, 0, 0, 0, []), (1, .iconst 0, 2, 0, 0, 0, 0, []), (2, .aload_n 0, 3, 0, 0, 0, 0, []), (3, .getfield 82, 4, 3, 6, 0, 888, []), (6, .iconst 1, 5, 0, 0, 1, 0, []), (7, .isub, 6, 0, 0, 0, 0, []), (8, .invokestatic 85, 7, 135, 3, 0, 977, [1]), (11, .ireturn, 8, 0, 0, 0, 0, [])]
def kM_isVoice : List (List dmA) := [kM_isVoice_0]
def mM_isVoice : dmM := (⟨"WhichOneAllKnowModel", "isVoice", "(I)Z"⟩, prog_8_method_6_code, 2, some (.boolean), kM_isVoice, [1011, 1010, 32, 84])
def kM_holds_0 : List dmA := [(0, .iload_n 1, 1, 1, 0, 0, 0, []), (1, .iconst 0, 2, 0, 0, 0, 0, []), (2, .bipush 7, 3, 0, 0, 7, 0, []), (4, .invokestatic 85, 4, 135, 3, 0, 977, [1]), (7, .ifCond .eq 12, 5, 10, 0, 0, 0, []), (10, .aload_n 0, 6, 0, 0, 0, 0, []), (11, .getfield 7, 7, 0, 6, 1, 885, []), (14, .iload_n 1, 8, 1, 0, 0, 0, []), (15, .iaload, 9, 0, 0, 0, 0, []), (16, .goto 4, 10, 11, 0, 0, 0, []), (19, .iconst (-1), 11, 0, 0, -1, 0, []), (20, .ireturn, 12, 0, 0, 0, 0, [])]
def kM_holds : List (List dmA) := [kM_holds_0]
def mM_holds : dmM := (⟨"WhichOneAllKnowModel", "holds", "(I)I"⟩, prog_8_method_19_code, 2, some (.int), kM_holds, [1015, 1013, 1014, 84])
def kM_says_0 : List dmA := [(0, .iload_n 1, 1, 1, 0, 0, 0, []), (1, .iconst 0, 2, 0, 0, 0, 0, []), (2, .bipush 7, 3, 0, 0, 7, 0, []), (4, .invokestatic 85, 4, 135, 3, 0, 977, [1]), (7, .ifCond .eq 13, 5, 10, 0, 0, 0, []), (10, .iload_n 2, 6, 2, 0, 0, 0, []), (11, .iconst 0, 7, 0, 0, 0, 0, []), (12, .bipush 6, 8, 0, 0, 6, 0, []), (14, .invokestatic 85, 9, 135, 3, 0, 977, [1]), (17, .ifCond .ne 9, 10, 14, 0, 0, 0, []), (20, .aload_n 0, 11, 0, 0, 0, 0, []), (21, .iconst (-1), 12, 0, 0, -1, 0, []), (22, .invokevirtual 78, 13, 136, 1, 0, 980, []), (25, .ireturn, 14, 0, 0, 0, 0, []), (26, .aload_n 0, 15, 0, 0, 0, 0, []), (27, .getfield 7, 16, 0, 6, 1, 885, [])]
def kM_says_1 : List dmA := [(30, .iload_n 1, 17, 1, 0, 0, 0, []), (31, .iaload, 18, 0, 0, 0, 0, []), (32, .istore_n 3, 19, 3, 0, 0, 0, []), (33, .iload_n 3, 20, 3, 0, 0, 0, []), (34, .ifCond .lt 31, 21, 36, 0, 0, 0, []), (37, .aload_n 0, 22, 0, 0, 0, 0, []), (38, .iload_n 1, 23, 1, 0, 0, 0, []), (39, .invokevirtual 96, 24, 139, 1, 0, 992, []), (42, .ifCond .ne 16, 25, 32, 0, 0, 0, []), (45, .aload_n 0, 26, 0, 0, 0, 0, []), (46, .getfield 20, 27, 4, 6, 1, 889, []), (49, .iload_n 3, 28, 3, 0, 0, 0, []), (50, .iaload, 29, 0, 0, 0, 0, []), (51, .iload_n 2, 30, 2, 0, 0, 0, []), (52, .invokestatic 108, 31, 146, 2, 0, 1020, [1]), (55, .ifCond .ne 10, 32, 36, 0, 0, 0, [])]
def kM_says_2 : List dmA := [(58, .aload_n 0, 33, 0, 0, 0, 0, []), (59, .bipush (-2), 34, 0, 0, -2, 0, []), (61, .invokevirtual 78, 35, 136, 1, 0, 980, []), (64, .ireturn, 36, 0, 0, 0, 0, []), (65, .iload_n 3, 37, 3, 0, 0, 0, []), (66, .ifCond .ge 10, 38, 42, 0, 0, 0, []), (69, .aload_n 0, 39, 0, 0, 0, 0, []), (70, .bipush (-3), 40, 0, 0, -3, 0, []), (72, .invokevirtual 78, 41, 136, 1, 0, 980, []), (75, .ireturn, 42, 0, 0, 0, 0, []), (76, .iload_n 2, 43, 2, 0, 0, 0, []), (77, .tableswitch 60 0 5 #[39, 46, 53, 46, 60, 53], 44, 59, 39, 0, 0, [44, 49, 54, 49, 59, 54]), (116, .aload_n 0, 45, 0, 0, 0, 0, []), (117, .getfield 26, 46, 6, 6, 1, 891, []), (120, .iload_n 3, 47, 3, 0, 0, 0, []), (121, .iaload, 48, 0, 0, 0, 0, [])]
def kM_says_3 : List dmA := [(122, .ireturn, 49, 0, 0, 0, 0, []), (123, .aload_n 0, 50, 0, 0, 0, 0, []), (124, .getfield 32, 51, 8, 6, 1, 893, []), (127, .iload_n 3, 52, 3, 0, 0, 0, []), (128, .iaload, 53, 0, 0, 0, 0, []), (129, .ireturn, 54, 0, 0, 0, 0, []), (130, .aload_n 0, 55, 0, 0, 0, 0, []), (131, .getfield 23, 56, 5, 6, 1, 890, []), (134, .iload_n 3, 57, 3, 0, 0, 0, []), (135, .iaload, 58, 0, 0, 0, 0, []), (136, .ireturn, 59, 0, 0, 0, 0, []), (137, .aload_n 0, 60, 0, 0, 0, 0, []), (138, .getfield 35, 61, 9, 6, 1, 894, []), (141, .iload_n 3, 62, 3, 0, 0, 0, []), (142, .iaload, 63, 0, 0, 0, 0, []), (143, .invokestatic 112, 64, 28, 1, 0, 1026, [1])]
def kM_says_4 : List dmA := [(146, .ireturn, 65, 0, 0, 0, 0, [])]
def kM_says : List (List dmA) := [kM_says_0, kM_says_1, kM_says_2, kM_says_3, kM_says_4]
def mM_says : dmM := (⟨"WhichOneAllKnowModel", "says", "(II)I"⟩, prog_8_method_22_code, 4, some (.int), kM_says, [1019, 1017, 1018, 84])
def kM_isUnder_0 : List dmA := [(0, .iload_n 0, 1, 0, 0, 0, 0, []), (1, .istore_n 2, 2, 2, 0, 0, 0, []), (2, .iload_n 2, 3, 2, 0, 0, 0, []), (3, .iload_n 1, 4, 1, 0, 0, 0, []), (4, .if_icmp .eq 15, 5, 11, 0, 0, 0, []), (7, .iload_n 2, 6, 2, 0, 0, 0, []), (8, .ifCond .le 11, 7, 11, 0, 0, 0, []), (11, .iload_n 2, 8, 2, 0, 0, 0, []), (12, .invokestatic 105, 9, 147, 1, 0, 1023, [1]), (15, .istore_n 2, 10, 2, 0, 0, 0, []), (16, .goto (-14), 11, 2, 0, 0, 0, []), (19, .iload_n 2, 12, 2, 0, 0, 0, []), (20, .iload_n 1, 13, 1, 0, 0, 0, []), (21, .if_icmp .ne 7, 14, 16, 0, 0, 0, []), (24, .iconst 1, 15, 0, 0, 1, 0, []), (25, .goto 4, 16, 17, 0, 0, 0, [])]
def kM_isUnder_1 : List dmA := [(28, .iconst 0, 17, 0, 0, 0, 0, []), (29, .ireturn, 18, 0, 0, 0, 0, [])]
def kM_isUnder : List (List dmA) := [kM_isUnder_0, kM_isUnder_1]
def mM_isUnder : dmM := (⟨"WhichOneAllKnowModel", "isUnder", "(II)Z"⟩, prog_8_method_21_code, 3, some (.boolean), kM_isUnder, [1022, 1021, 0, 84])
def kM_above_0 : List dmA := [(0, .iload_n 0, 1, 0, 0, 0, 0, []), (1, .iconst 3, 2, 0, 0, 3, 0, []), (2, .if_icmp .ne 7, 3, 5, 0, 0, 0, []), (5, .iconst 1, 4, 0, 0, 1, 0, []), (6, .goto 23, 5, 16, 0, 0, 0, []), (9, .iload_n 0, 6, 0, 0, 0, 0, []), (10, .iconst 5, 7, 0, 0, 5, 0, []), (11, .if_icmp .ne 7, 8, 10, 0, 0, 0, []), (14, .iconst 2, 9, 0, 0, 2, 0, []), (15, .goto 14, 10, 16, 0, 0, 0, []), (18, .iload_n 0, 11, 0, 0, 0, 0, []), (19, .bipush 6, 12, 0, 0, 6, 0, []), (21, .if_icmp .ne 7, 13, 15, 0, 0, 0, []), (24, .iconst 4, 14, 0, 0, 4, 0, []), (25, .goto 4, 15, 16, 0, 0, 0, []), (28, .iconst 0, 16, 0, 0, 0, 0, [])]
def kM_above_1 : List dmA := [(29, .ireturn, 17, 0, 0, 0, 0, [])]
def kM_above : List (List dmA) := [kM_above_0, kM_above_1]
def mM_above : dmM := (⟨"WhichOneAllKnowModel", "above", "(I)I"⟩, prog_8_method_20_code, 1, some (.int), kM_above, [1025, 1024, 0, 84])
def kM_tune_0 : List dmA := [(0, .iload_n 1, 1, 1, 0, 0, 0, []), (1, .iconst 0, 2, 0, 0, 0, 0, []), (2, .bipush 11, 3, 0, 0, 11, 0, []), (4, .invokestatic 85, 4, 135, 3, 0, 977, [1]), (7, .ifCond .ne 10, 5, 9, 0, 0, 0, []), (10, .aload_n 0, 6, 0, 0, 0, 0, []), (11, .bipush (-6), 7, 0, 0, -6, 0, []), (13, .invokevirtual 78, 8, 136, 1, 0, 980, []), (16, .ireturn, 9, 0, 0, 0, 0, []), (17, .aload_n 0, 10, 0, 0, 0, 0, []), (18, .getfield 89, 11, 10, 6, 0, 895, []), (21, .bipush 6, 12, 0, 0, 6, 0, []), (23, .if_icmp .ne 12, 13, 17, 0, 0, 0, []), (26, .aload_n 0, 14, 0, 0, 0, 0, []), (27, .bipush (-7), 15, 0, 0, -7, 0, []), (29, .invokevirtual 78, 16, 136, 1, 0, 980, [])]
def kM_tune_1 : List dmA := [(32, .goto 8, 17, 20, 0, 0, 0, []), (35, .aload_n 0, 18, 0, 0, 0, 0, []), (36, .iload_n 1, 19, 1, 0, 0, 0, []), (37, .invokevirtual 117, 20, 149, 1, 0, 1031, []), (40, .ireturn, 21, 0, 0, 0, 0, [])]
def kM_tune : List (List dmA) := [kM_tune_0, kM_tune_1]
def mM_tune : dmM := (⟨"WhichOneAllKnowModel", "tune", "(I)I"⟩, prog_8_method_25_code, 2, some (.int), kM_tune, [1030, 1028, 1029, 84])
def kM_newTune_0 : List dmA := [(0, .aload_n 0, 1, 0, 0, 0, 0, []), (1, .getfield 38, 2, 11, 6, 1, 896, []), (4, .aload_n 0, 3, 0, 0, 0, 0, []), (5, .getfield 89, 4, 10, 6, 0, 895, []), (8, .iload_n 1, 5, 1, 0, 0, 0, []), (9, .iastore, 6, 0, 0, 0, 0, []), (10, .aload_n 0, 7, 0, 0, 0, 0, []), (11, .dup, 8, 0, 0, 0, 0, []), (12, .getfield 89, 9, 10, 6, 0, 895, []), (15, .dup_x1, 10, 0, 0, 0, 0, []), (16, .iconst 1, 11, 0, 0, 1, 0, []), (17, .iadd, 12, 0, 0, 0, 0, []), (18, .putfield 89, 13, 10, 6, 0, 895, []), (21, .ireturn, 14, 0, 0, 0, 0, [])]
def kM_newTune : List (List dmA) := [kM_newTune_0]
def mM_newTune : dmM := (⟨"WhichOneAllKnowModel", "newTune", "(I)I"⟩, prog_8_method_24_code, 2, some (.int), kM_newTune, [1034, 1033, 33, 84])
def kM_voice_0 : List dmA := [(0, .iload_n 1, 1, 1, 0, 0, 0, []), (1, .iconst 0, 2, 0, 0, 0, 0, []), (2, .bipush 6, 3, 0, 0, 6, 0, []), (4, .invokestatic 85, 4, 135, 3, 0, 977, [1]), (7, .ifCond .ne 9, 5, 9, 0, 0, 0, []), (10, .aload_n 0, 6, 0, 0, 0, 0, []), (11, .iconst (-1), 7, 0, 0, -1, 0, []), (12, .invokevirtual 78, 8, 136, 1, 0, 980, []), (15, .ireturn, 9, 0, 0, 0, 0, []), (16, .iload_n 2, 10, 2, 0, 0, 0, []), (17, .iconst 0, 11, 0, 0, 0, 0, []), (18, .bipush 9, 12, 0, 0, 9, 0, []), (20, .invokestatic 85, 13, 135, 3, 0, 977, [1]), (23, .ifCond .eq 32, 14, 28, 0, 0, 0, []), (26, .aload_n 0, 15, 0, 0, 0, 0, []), (27, .iload_n 3, 16, 3, 0, 0, 0, [])]
def kM_voice_1 : List dmA := [(28, .invokevirtual 120, 17, 151, 1, 0, 1039, []), (31, .ifCond .eq 24, 18, 28, 0, 0, 0, []), (34, .iload 4, 19, 4, 0, 0, 0, []), (36, .iconst 0, 20, 0, 0, 0, 0, []), (37, .iconst 5, 21, 0, 0, 5, 0, []), (38, .invokestatic 85, 22, 135, 3, 0, 977, [1]), (41, .ifCond .eq 14, 23, 28, 0, 0, 0, []), (44, .iload 5, 24, 5, 0, 0, 0, []), (46, .iconst 0, 25, 0, 0, 0, 0, []), (47, .bipush 11, 26, 0, 0, 11, 0, []), (49, .invokestatic 85, 27, 135, 3, 0, 977, [1]), (52, .ifCond .ne 10, 28, 32, 0, 0, 0, []), (55, .aload_n 0, 29, 0, 0, 0, 0, []), (56, .bipush (-6), 30, 0, 0, -6, 0, []), (58, .invokevirtual 78, 31, 136, 1, 0, 980, []), (61, .ireturn, 32, 0, 0, 0, 0, [])]
def kM_voice_2 : List dmA := [(62, .aload_n 0, 33, 0, 0, 0, 0, []), (63, .getfield 82, 34, 3, 6, 0, 888, []), (66, .bipush 12, 35, 0, 0, 12, 0, []), (68, .if_icmp .ne 12, 36, 40, 0, 0, 0, []), (71, .aload_n 0, 37, 0, 0, 0, 0, []), (72, .bipush (-7), 38, 0, 0, -7, 0, []), (74, .invokevirtual 78, 39, 136, 1, 0, 980, []), (77, .goto 14, 40, 47, 0, 0, 0, []), (80, .aload_n 0, 41, 0, 0, 0, 0, []), (81, .iload_n 1, 42, 1, 0, 0, 0, []), (82, .iload_n 2, 43, 2, 0, 0, 0, []), (83, .iload_n 3, 44, 3, 0, 0, 0, []), (84, .iload 4, 45, 4, 0, 0, 0, []), (86, .iload 5, 46, 5, 0, 0, 0, []), (88, .invokevirtual 123, 47, 153, 5, 0, 1047, []), (91, .ireturn, 48, 0, 0, 0, 0, [])]
def kM_voice : List (List dmA) := [kM_voice_0, kM_voice_1, kM_voice_2]
def mM_voice : dmM := (⟨"WhichOneAllKnowModel", "voice", "(IIIII)I"⟩, prog_8_method_26_code, 6, some (.int), kM_voice, [1038, 1036, 1037, 84])
def kM_isFree_0 : List dmA := [(0, .iload_n 1, 1, 1, 0, 0, 0, []), (1, .iconst 0, 2, 0, 0, 0, 0, []), (2, .bipush 23, 3, 0, 0, 23, 0, []), (4, .invokestatic 85, 4, 135, 3, 0, 977, [1]), (7, .ifCond .eq 15, 5, 11, 0, 0, 0, []), (10, .aload_n 0, 6, 0, 0, 0, 0, []), (11, .iload_n 1, 7, 1, 0, 0, 0, []), (12, .invokevirtual 92, 8, 152, 1, 0, 1043, []), (15, .ifCond .ne 7, 9, 11, 0, 0, 0, []), (18, .iconst 1, 10, 0, 0, 1, 0, []), (19, .goto 4, 11, 12, 0, 0, 0, []), (22, .iconst 0, 12, 0, 0, 0, 0, []), (23, .ireturn, 13, 0, 0, 0, 0, [])]
def kM_isFree : List (List dmA) := [kM_isFree_0]
def mM_isFree : dmM := (⟨"WhichOneAllKnowModel", "isFree", "(I)Z"⟩, prog_8_method_9_code, 2, some (.boolean), kM_isFree, [1042, 1041, 34, 84])
def kM_isTaken_0 : List dmA := [(0, .iconst 0, 1, 0, 0, 0, 0, []), (1, .istore_n 2, 2, 2, 0, 0, 0, []), (2, .iload_n 2, 3, 2, 0, 0, 0, []), (3, .aload_n 0, 4, 0, 0, 0, 0, []), (4, .getfield 82, 5, 3, 6, 0, 888, []), (7, .if_icmp .ge 21, 6, 16, 0, 0, 0, []), (10, .aload_n 0, 7, 0, 0, 0, 0, []), (11, .getfield 26, 8, 6, 6, 1, 891, []), (14, .iload_n 2, 9, 2, 0, 0, 0, []), (15, .iaload, 10, 0, 0, 0, 0, []), (16, .iload_n 1, 11, 1, 0, 0, 0, []), (17, .if_icmp .ne 5, 12, 14, 0, 0, 0, []), (20, .iconst 1, 13, 0, 0, 1, 0, []), (21, .ireturn, 14, 0, 0, 0, 0, []), (22, .iinc 2 1, 15, 2, 0, 1, 0, []), (25, .goto (-23), 16, 2, 0, 0, 0, [])]
def kM_isTaken_1 : List dmA := [(28, .iconst 0, 17, 0, 0, 0, 0, []), (29, .ireturn, 18, 0, 0, 0, 0, [])]
def kM_isTaken : List (List dmA) := [kM_isTaken_0, kM_isTaken_1]
def mM_isTaken : dmM := (⟨"WhichOneAllKnowModel", "isTaken", "(I)Z"⟩, prog_8_method_8_code, 3, some (.boolean), kM_isTaken, [1046, 1045, 35, 84])
def kM_newVoice_0 : List dmA := [(0, .aload_n 0, 1, 0, 0, 0, 0, []), (1, .getfield 20, 2, 4, 6, 1, 889, []), (4, .aload_n 0, 3, 0, 0, 0, 0, []), (5, .getfield 82, 4, 3, 6, 0, 888, []), (8, .iload_n 1, 5, 1, 0, 0, 0, []), (9, .iastore, 6, 0, 0, 0, 0, []), (10, .aload_n 0, 7, 0, 0, 0, 0, []), (11, .getfield 23, 8, 5, 6, 1, 890, []), (14, .aload_n 0, 9, 0, 0, 0, 0, []), (15, .getfield 82, 10, 3, 6, 0, 888, []), (18, .iload_n 2, 11, 2, 0, 0, 0, []), (19, .iastore, 12, 0, 0, 0, 0, []), (20, .aload_n 0, 13, 0, 0, 0, 0, []), (21, .getfield 26, 14, 6, 6, 1, 891, []), (24, .aload_n 0, 15, 0, 0, 0, 0, []), (25, .getfield 82, 16, 3, 6, 0, 888, [])]
def kM_newVoice_1 : List dmA := [(28, .iload_n 3, 17, 3, 0, 0, 0, []), (29, .iastore, 18, 0, 0, 0, 0, []), (30, .aload_n 0, 19, 0, 0, 0, 0, []), (31, .getfield 29, 20, 7, 6, 1, 892, []), (34, .aload_n 0, 21, 0, 0, 0, 0, []), (35, .getfield 82, 22, 3, 6, 0, 888, []), (38, .iload 4, 23, 4, 0, 0, 0, []), (40, .iastore, 24, 0, 0, 0, 0, []), (41, .aload_n 0, 25, 0, 0, 0, 0, []), (42, .getfield 32, 26, 8, 6, 1, 893, []), (45, .aload_n 0, 27, 0, 0, 0, 0, []), (46, .getfield 82, 28, 3, 6, 0, 888, []), (49, .iload 5, 29, 5, 0, 0, 0, []), (51, .iastore, 30, 0, 0, 0, 0, []), (52, .aload_n 0, 31, 0, 0, 0, 0, []), (53, .getfield 35, 32, 9, 6, 1, 894, [])]
def kM_newVoice_2 : List dmA := [(56, .aload_n 0, 33, 0, 0, 0, 0, []), (57, .getfield 82, 34, 3, 6, 0, 888, []), (60, .iconst 0, 35, 0, 0, 0, 0, []), (61, .iastore, 36, 0, 0, 0, 0, []), (62, .aload_n 0, 37, 0, 0, 0, 0, []), (63, .dup, 38, 0, 0, 0, 0, []), (64, .getfield 82, 39, 3, 6, 0, 888, []), (67, .dup_x1, 40, 0, 0, 0, 0, []), (68, .iconst 1, 41, 0, 0, 1, 0, []), (69, .iadd, 42, 0, 0, 0, 0, []), (70, .putfield 82, 43, 3, 6, 0, 888, []), (73, .ireturn, 44, 0, 0, 0, 0, [])]
def kM_newVoice : List (List dmA) := [kM_newVoice_0, kM_newVoice_1, kM_newVoice_2]
def mM_newVoice : dmM := (⟨"WhichOneAllKnowModel", "newVoice", "(IIIII)I"⟩, prog_8_method_23_code, 6, some (.int), kM_newVoice, [1050, 1049, 36, 84])
def kM_knows_0 : List dmA := [(0, .aload_n 0, 1, 0, 0, 0, 0, []), (1, .iload_n 1, 2, 1, 0, 0, 0, []), (2, .invokevirtual 102, 3, 143, 1, 0, 1008, []), (5, .ifCond .eq 11, 4, 8, 0, 0, 0, []), (8, .aload_n 0, 5, 0, 0, 0, 0, []), (9, .iload_n 2, 6, 2, 0, 0, 0, []), (10, .invokevirtual 127, 7, 155, 1, 0, 1055, []), (13, .ifCond .ne 9, 8, 12, 0, 0, 0, []), (16, .aload_n 0, 9, 0, 0, 0, 0, []), (17, .iconst (-1), 10, 0, 0, -1, 0, []), (18, .invokevirtual 78, 11, 136, 1, 0, 980, []), (21, .ireturn, 12, 0, 0, 0, 0, []), (22, .aload_n 0, 13, 0, 0, 0, 0, []), (23, .getfield 35, 14, 9, 6, 1, 894, []), (26, .iload_n 1, 15, 1, 0, 0, 0, []), (27, .iaload, 16, 0, 0, 0, 0, [])]
def kM_knows_1 : List dmA := [(28, .iload_n 2, 17, 2, 0, 0, 0, []), (29, .ishr, 18, 0, 0, 0, 0, []), (30, .iconst 1, 19, 0, 0, 1, 0, []), (31, .iand, 20, 0, 0, 0, 0, []), (32, .istore 4, 21, 4, 0, 0, 0, []), (34, .aload_n 0, 22, 0, 0, 0, 0, []), (35, .getfield 35, 23, 9, 6, 1, 894, []), (38, .iload_n 1, 24, 1, 0, 0, 0, []), (39, .iload_n 3, 25, 3, 0, 0, 0, []), (40, .ifCond .eq 16, 26, 35, 0, 0, 0, []), (43, .aload_n 0, 27, 0, 0, 0, 0, []), (44, .getfield 35, 28, 9, 6, 1, 894, []), (47, .iload_n 1, 29, 1, 0, 0, 0, []), (48, .iaload, 30, 0, 0, 0, 0, []), (49, .iconst 1, 31, 0, 0, 1, 0, []), (50, .iload_n 2, 32, 2, 0, 0, 0, [])]
def kM_knows_2 : List dmA := [(51, .ishl, 33, 0, 0, 0, 0, []), (52, .ior, 34, 0, 0, 0, 0, []), (53, .goto 15, 35, 45, 0, 0, 0, []), (56, .aload_n 0, 36, 0, 0, 0, 0, []), (57, .getfield 35, 37, 9, 6, 1, 894, []), (60, .iload_n 1, 38, 1, 0, 0, 0, []), (61, .iaload, 39, 0, 0, 0, 0, []), (62, .iconst 1, 40, 0, 0, 1, 0, []), (63, .iload_n 2, 41, 2, 0, 0, 0, []), (64, .ishl, 42, 0, 0, 0, 0, []), (65, .iconst (-1), 43, 0, 0, -1, 0, []), (66, .ixor, 44, 0, 0, 0, 0, []), (67, .iand, 45, 0, 0, 0, 0, []), (68, .iastore, 46, 0, 0, 0, 0, []), (69, .iload 4, 47, 4, 0, 0, 0, []), (71, .ireturn, 48, 0, 0, 0, 0, [])]
def kM_knows : List (List dmA) := [kM_knows_0, kM_knows_1, kM_knows_2]
def mM_knows : dmM := (⟨"WhichOneAllKnowModel", "knows", "(IIZ)I"⟩, prog_8_method_27_code, 5, some (.int), kM_knows, [1054, 1052, 1053, 84])
def kM_isTune_0 : List dmA := [(0, .iload_n 1, 1, 1, 0, 0, 0, []), (1, .iconst 0, 2, 0, 0, 0, 0, []), (2, .aload_n 0, 3, 0, 0, 0, 0, []), (3, .getfield 89, 4, 10, 6, 0, 895, []), (6, .iconst 1, 5, 0, 0, 1, 0, []), (7, .isub, 6, 0, 0, 0, 0, []), (8, .invokestatic 85, 7, 135, 3, 0, 977, [1]), (11, .ireturn, 8, 0, 0, 0, 0, [])]
def kM_isTune : List (List dmA) := [kM_isTune_0]
def mM_isTune : dmM := (⟨"WhichOneAllKnowModel", "isTune", "(I)Z"⟩, prog_8_method_7_code, 2, some (.boolean), kM_isTune, [1058, 1057, 37, 84])
def kM_move_0 : List dmA := [(0, .aload_n 0, 1, 0, 0, 0, 0, []), (1, .iload_n 1, 2, 1, 0, 0, 0, []), (2, .invokevirtual 102, 3, 143, 1, 0, 1008, []), (5, .ifCond .ne 9, 4, 8, 0, 0, 0, []), (8, .aload_n 0, 5, 0, 0, 0, 0, []), (9, .iconst (-1), 6, 0, 0, -1, 0, []), (10, .invokevirtual 78, 7, 136, 1, 0, 980, []), (13, .ireturn, 8, 0, 0, 0, 0, []), (14, .aload_n 0, 9, 0, 0, 0, 0, []), (15, .iload_n 2, 10, 2, 0, 0, 0, []), (16, .invokevirtual 120, 11, 151, 1, 0, 1039, []), (19, .ifCond .ne 10, 12, 16, 0, 0, 0, []), (22, .aload_n 0, 13, 0, 0, 0, 0, []), (23, .bipush (-6), 14, 0, 0, -6, 0, []), (25, .invokevirtual 78, 15, 136, 1, 0, 980, []), (28, .ireturn, 16, 0, 0, 0, 0, [])]
def kM_move_1 : List dmA := [(29, .aload_n 0, 17, 0, 0, 0, 0, []), (30, .getfield 26, 18, 6, 6, 1, 891, []), (33, .iload_n 1, 19, 1, 0, 0, 0, []), (34, .iaload, 20, 0, 0, 0, 0, []), (35, .istore_n 3, 21, 3, 0, 0, 0, []), (36, .aload_n 0, 22, 0, 0, 0, 0, []), (37, .getfield 26, 23, 6, 6, 1, 891, []), (40, .iload_n 1, 24, 1, 0, 0, 0, []), (41, .iload_n 2, 25, 2, 0, 0, 0, []), (42, .iastore, 26, 0, 0, 0, 0, []), (43, .iload_n 3, 27, 3, 0, 0, 0, []), (44, .ireturn, 28, 0, 0, 0, 0, [])]
def kM_move : List (List dmA) := [kM_move_0, kM_move_1]
def mM_move : dmM := (⟨"WhichOneAllKnowModel", "move", "(II)I"⟩, prog_8_method_28_code, 4, some (.int), kM_move, [1062, 1060, 1061, 84])
def kM_ask_0 : List dmA := [(0, .iload_n 1, 1, 1, 0, 0, 0, []), (1, .iconst 0, 2, 0, 0, 0, 0, []), (2, .bipush 9, 3, 0, 0, 9, 0, []), (4, .invokestatic 85, 4, 135, 3, 0, 977, [1]), (7, .ifCond .ne 10, 5, 9, 0, 0, 0, []), (10, .aload_n 0, 6, 0, 0, 0, 0, []), (11, .bipush (-6), 7, 0, 0, -6, 0, []), (13, .invokevirtual 78, 8, 136, 1, 0, 980, []), (16, .ireturn, 9, 0, 0, 0, 0, []), (17, .aload_n 0, 10, 0, 0, 0, 0, []), (18, .getfield 65, 11, 12, 6, 0, 897, []), (21, .istore_n 2, 12, 2, 0, 0, 0, []), (22, .aload_n 0, 13, 0, 0, 0, 0, []), (23, .iload_n 1, 14, 1, 0, 0, 0, []), (24, .putfield 65, 15, 12, 6, 0, 897, []), (27, .iload_n 2, 16, 2, 0, 0, 0, [])]
def kM_ask_1 : List dmA := [(28, .ireturn, 17, 0, 0, 0, 0, [])]
def kM_ask : List (List dmA) := [kM_ask_0, kM_ask_1]
def mM_ask : dmM := (⟨"WhichOneAllKnowModel", "ask", "(I)I"⟩, prog_8_method_29_code, 3, some (.int), kM_ask, [1066, 1064, 1065, 84])
def kM_voiceOf_0 : List dmA := [(0, .aload_n 0, 1, 0, 0, 0, 0, []), (1, .iload_n 1, 2, 1, 0, 0, 0, []), (2, .invokevirtual 102, 3, 143, 1, 0, 1008, []), (5, .ifCond .ne 10, 4, 8, 0, 0, 0, []), (8, .aload_n 0, 5, 0, 0, 0, 0, []), (9, .bipush (-5), 6, 0, 0, -5, 0, []), (11, .invokevirtual 78, 7, 136, 1, 0, 980, []), (14, .ireturn, 8, 0, 0, 0, 0, []), (15, .iload_n 2, 9, 2, 0, 0, 0, []), (16, .tableswitch 82 0 5 #[40, 47, 54, 61, 68, 75], 10, 40, 40, 0, 0, [10, 15, 20, 25, 30, 35]), (56, .aload_n 0, 11, 0, 0, 0, 0, []), (57, .getfield 20, 12, 4, 6, 1, 889, []), (60, .iload_n 1, 13, 1, 0, 0, 0, []), (61, .iaload, 14, 0, 0, 0, 0, []), (62, .ireturn, 15, 0, 0, 0, 0, []), (63, .aload_n 0, 16, 0, 0, 0, 0, [])]
def kM_voiceOf_1 : List dmA := [(64, .getfield 23, 17, 5, 6, 1, 890, []), (67, .iload_n 1, 18, 1, 0, 0, 0, []), (68, .iaload, 19, 0, 0, 0, 0, []), (69, .ireturn, 20, 0, 0, 0, 0, []), (70, .aload_n 0, 21, 0, 0, 0, 0, []), (71, .getfield 26, 22, 6, 6, 1, 891, []), (74, .iload_n 1, 23, 1, 0, 0, 0, []), (75, .iaload, 24, 0, 0, 0, 0, []), (76, .ireturn, 25, 0, 0, 0, 0, []), (77, .aload_n 0, 26, 0, 0, 0, 0, []), (78, .getfield 29, 27, 7, 6, 1, 892, []), (81, .iload_n 1, 28, 1, 0, 0, 0, []), (82, .iaload, 29, 0, 0, 0, 0, []), (83, .ireturn, 30, 0, 0, 0, 0, []), (84, .aload_n 0, 31, 0, 0, 0, 0, []), (85, .getfield 32, 32, 8, 6, 1, 893, [])]
def kM_voiceOf_2 : List dmA := [(88, .iload_n 1, 33, 1, 0, 0, 0, []), (89, .iaload, 34, 0, 0, 0, 0, []), (90, .ireturn, 35, 0, 0, 0, 0, []), (91, .aload_n 0, 36, 0, 0, 0, 0, []), (92, .getfield 35, 37, 9, 6, 1, 894, []), (95, .iload_n 1, 38, 1, 0, 0, 0, []), (96, .iaload, 39, 0, 0, 0, 0, []), (97, .ireturn, 40, 0, 0, 0, 0, []), (98, .aload_n 0, 41, 0, 0, 0, 0, []), (99, .bipush (-5), 42, 0, 0, -5, 0, []), (101, .invokevirtual 78, 43, 136, 1, 0, 980, []), (104, .ireturn, 44, 0, 0, 0, 0, [])]
def kM_voiceOf : List (List dmA) := [kM_voiceOf_0, kM_voiceOf_1, kM_voiceOf_2]
def mM_voiceOf : dmM := (⟨"WhichOneAllKnowModel", "voiceOf", "(II)I"⟩, prog_8_method_30_code, 3, some (.int), kM_voiceOf, [1070, 1068, 1069, 84])
def kM_highOf_0 : List dmA := [(0, .aload_n 0, 1, 0, 0, 0, 0, []), (1, .iload_n 1, 2, 1, 0, 0, 0, []), (2, .invokevirtual 127, 3, 155, 1, 0, 1055, []), (5, .ifCond .eq 12, 4, 9, 0, 0, 0, []), (8, .aload_n 0, 5, 0, 0, 0, 0, []), (9, .getfield 38, 6, 11, 6, 1, 896, []), (12, .iload_n 1, 7, 1, 0, 0, 0, []), (13, .iaload, 8, 0, 0, 0, 0, []), (14, .goto 9, 9, 12, 0, 0, 0, []), (17, .aload_n 0, 10, 0, 0, 0, 0, []), (18, .bipush (-5), 11, 0, 0, -5, 0, []), (20, .invokevirtual 78, 12, 136, 1, 0, 980, []), (23, .ireturn, 13, 0, 0, 0, 0, [])]
def kM_highOf : List (List dmA) := [kM_highOf_0]
def mM_highOf : dmM := (⟨"WhichOneAllKnowModel", "highOf", "(I)I"⟩, prog_8_method_31_code, 2, some (.int), kM_highOf, [1074, 1072, 1073, 84])
def kM_church_0 : List dmA := [(0, .aload_n 0, 1, 0, 0, 0, 0, []), (1, .iload_n 1, 2, 1, 0, 0, 0, []), (2, .invokevirtual 99, 3, 138, 1, 0, 988, []), (5, .istore_n 2, 4, 2, 0, 0, 0, []), (6, .iload_n 2, 5, 2, 0, 0, 0, []), (7, .ifCond .ge 9, 6, 10, 0, 0, 0, []), (10, .aload_n 0, 7, 0, 0, 0, 0, []), (11, .iload_n 2, 8, 2, 0, 0, 0, []), (12, .invokevirtual 78, 9, 136, 1, 0, 980, []), (15, .ireturn, 10, 0, 0, 0, 0, []), (16, .aload_n 0, 11, 0, 0, 0, 0, []), (17, .aload_n 0, 12, 0, 0, 0, 0, []), (18, .getfield 53, 13, 24, 6, 1, 909, []), (21, .invokevirtual 176, 14, 161, 1, 0, 1079, []), (24, .aload_n 0, 15, 0, 0, 0, 0, []), (25, .iload_n 1, 16, 1, 0, 0, 0, [])]
def kM_church_1 : List dmA := [(26, .putfield 133, 17, 15, 6, 0, 900, []), (29, .aload_n 0, 18, 0, 0, 0, 0, []), (30, .iconst 0, 19, 0, 0, 0, 0, []), (31, .putfield 130, 20, 16, 6, 0, 901, []), (34, .iconst 0, 21, 0, 0, 0, 0, []), (35, .istore_n 3, 22, 3, 0, 0, 0, []), (36, .iconst 1, 23, 0, 0, 1, 0, []), (37, .istore 4, 24, 4, 0, 0, 0, []), (39, .iload 4, 25, 4, 0, 0, 0, []), (41, .ifCond .eq 58, 26, 53, 0, 0, 0, []), (44, .aload_n 0, 27, 0, 0, 0, 0, []), (45, .invokevirtual 180, 28, 162, 0, 0, 1083, []), (48, .istore 4, 29, 4, 0, 0, 0, []), (50, .iload 4, 30, 4, 0, 0, 0, []), (52, .ifCond .eq 6, 31, 32, 0, 0, 0, []), (55, .iinc 3 1, 32, 3, 0, 1, 0, [])]
def kM_church_2 : List dmA := [(58, .iload 4, 33, 4, 0, 0, 0, []), (60, .ifCond .eq 23, 34, 46, 0, 0, 0, []), (63, .aload_n 0, 35, 0, 0, 0, 0, []), (64, .getfield 130, 36, 16, 6, 0, 901, []), (67, .aload_n 0, 37, 0, 0, 0, 0, []), (68, .getfield 13, 38, 1, 6, 1, 886, []), (71, .iload_n 1, 39, 1, 0, 0, 0, []), (72, .iaload, 40, 0, 0, 0, 0, []), (73, .if_icmp .ne 10, 41, 46, 0, 0, 0, []), (76, .aload_n 0, 42, 0, 0, 0, 0, []), (77, .iconst (-1), 43, 0, 0, -1, 0, []), (78, .putfield 72, 44, 17, 6, 0, 902, []), (81, .iload_n 3, 45, 3, 0, 0, 0, []), (82, .ireturn, 46, 0, 0, 0, 0, []), (83, .iload 4, 47, 4, 0, 0, 0, []), (85, .ifCond .eq (-46), 48, 24, 0, 0, 0, [])]
def kM_church_3 : List dmA := [(88, .aload_n 0, 49, 0, 0, 0, 0, []), (89, .bipush 59, 50, 0, 0, 59, 0, []), (91, .invokevirtual 149, 51, 166, 1, 0, 1102, []), (94, .istore 4, 52, 4, 0, 0, 0, []), (96, .goto (-57), 53, 24, 0, 0, 0, []), (99, .aload_n 0, 54, 0, 0, 0, 0, []), (100, .aload_n 0, 55, 0, 0, 0, 0, []), (101, .getfield 130, 56, 16, 6, 0, 901, []), (104, .putfield 72, 57, 17, 6, 0, 902, []), (107, .aload_n 0, 58, 0, 0, 0, 0, []), (108, .aload_n 0, 59, 0, 0, 0, 0, []), (109, .getfield 53, 60, 24, 6, 1, 909, []), (112, .invokevirtual 184, 61, 169, 1, 0, 1118, []), (115, .aload_n 0, 62, 0, 0, 0, 0, []), (116, .bipush (-6), 63, 0, 0, -6, 0, []), (118, .invokevirtual 78, 64, 136, 1, 0, 980, [])]
def kM_church_4 : List dmA := [(121, .ireturn, 65, 0, 0, 0, 0, [])]
def kM_church : List (List dmA) := [kM_church_0, kM_church_1, kM_church_2, kM_church_3, kM_church_4]
def mM_church : dmM := (⟨"WhichOneAllKnowModel", "church", "(I)I"⟩, prog_8_method_39_code, 5, some (.int), kM_church, [1078, 1076, 1077, 84])
def kM_keep_0 : List dmA := [(0, .iconst 0, 1, 0, 0, 0, 0, []), (1, .istore_n 2, 2, 2, 0, 0, 0, []), (2, .iload_n 2, 3, 2, 0, 0, 0, []), (3, .bipush 12, 4, 0, 0, 12, 0, []), (5, .if_icmp .ge 78, 5, 59, 0, 0, 0, []), (8, .aload_n 1, 6, 1, 0, 0, 0, []), (9, .iload_n 2, 7, 2, 0, 0, 0, []), (10, .aload_n 0, 8, 0, 0, 0, 0, []), (11, .getfield 20, 9, 4, 6, 1, 889, []), (14, .iload_n 2, 10, 2, 0, 0, 0, []), (15, .iaload, 11, 0, 0, 0, 0, []), (16, .iastore, 12, 0, 0, 0, 0, []), (17, .aload_n 1, 13, 1, 0, 0, 0, []), (18, .bipush 12, 14, 0, 0, 12, 0, []), (20, .iload_n 2, 15, 2, 0, 0, 0, []), (21, .iadd, 16, 0, 0, 0, 0, [])]
def kM_keep_1 : List dmA := [(22, .aload_n 0, 17, 0, 0, 0, 0, []), (23, .getfield 23, 18, 5, 6, 1, 890, []), (26, .iload_n 2, 19, 2, 0, 0, 0, []), (27, .iaload, 20, 0, 0, 0, 0, []), (28, .iastore, 21, 0, 0, 0, 0, []), (29, .aload_n 1, 22, 1, 0, 0, 0, []), (30, .bipush 24, 23, 0, 0, 24, 0, []), (32, .iload_n 2, 24, 2, 0, 0, 0, []), (33, .iadd, 25, 0, 0, 0, 0, []), (34, .aload_n 0, 26, 0, 0, 0, 0, []), (35, .getfield 26, 27, 6, 6, 1, 891, []), (38, .iload_n 2, 28, 2, 0, 0, 0, []), (39, .iaload, 29, 0, 0, 0, 0, []), (40, .iastore, 30, 0, 0, 0, 0, []), (41, .aload_n 1, 31, 1, 0, 0, 0, []), (42, .bipush 36, 32, 0, 0, 36, 0, [])]
def kM_keep_2 : List dmA := [(44, .iload_n 2, 33, 2, 0, 0, 0, []), (45, .iadd, 34, 0, 0, 0, 0, []), (46, .aload_n 0, 35, 0, 0, 0, 0, []), (47, .getfield 29, 36, 7, 6, 1, 892, []), (50, .iload_n 2, 37, 2, 0, 0, 0, []), (51, .iaload, 38, 0, 0, 0, 0, []), (52, .iastore, 39, 0, 0, 0, 0, []), (53, .aload_n 1, 40, 1, 0, 0, 0, []), (54, .bipush 48, 41, 0, 0, 48, 0, []), (56, .iload_n 2, 42, 2, 0, 0, 0, []), (57, .iadd, 43, 0, 0, 0, 0, []), (58, .aload_n 0, 44, 0, 0, 0, 0, []), (59, .getfield 32, 45, 8, 6, 1, 893, []), (62, .iload_n 2, 46, 2, 0, 0, 0, []), (63, .iaload, 47, 0, 0, 0, 0, []), (64, .iastore, 48, 0, 0, 0, 0, [])]
def kM_keep_3 : List dmA := [(65, .aload_n 1, 49, 1, 0, 0, 0, []), (66, .bipush 60, 50, 0, 0, 60, 0, []), (68, .iload_n 2, 51, 2, 0, 0, 0, []), (69, .iadd, 52, 0, 0, 0, 0, []), (70, .aload_n 0, 53, 0, 0, 0, 0, []), (71, .getfield 35, 54, 9, 6, 1, 894, []), (74, .iload_n 2, 55, 2, 0, 0, 0, []), (75, .iaload, 56, 0, 0, 0, 0, []), (76, .iastore, 57, 0, 0, 0, 0, []), (77, .iinc 2 1, 58, 2, 0, 1, 0, []), (80, .goto (-78), 59, 2, 0, 0, 0, []), (83, .iconst 0, 60, 0, 0, 0, 0, []), (84, .istore_n 2, 61, 2, 0, 0, 0, []), (85, .iload_n 2, 62, 2, 0, 0, 0, []), (86, .bipush 6, 63, 0, 0, 6, 0, []), (88, .if_icmp .ge 21, 64, 75, 0, 0, 0, [])]
def kM_keep_4 : List dmA := [(91, .aload_n 1, 65, 1, 0, 0, 0, []), (92, .bipush 72, 66, 0, 0, 72, 0, []), (94, .iload_n 2, 67, 2, 0, 0, 0, []), (95, .iadd, 68, 0, 0, 0, 0, []), (96, .aload_n 0, 69, 0, 0, 0, 0, []), (97, .getfield 38, 70, 11, 6, 1, 896, []), (100, .iload_n 2, 71, 2, 0, 0, 0, []), (101, .iaload, 72, 0, 0, 0, 0, []), (102, .iastore, 73, 0, 0, 0, 0, []), (103, .iinc 2 1, 74, 2, 0, 1, 0, []), (106, .goto (-21), 75, 61, 0, 0, 0, []), (109, .aload_n 1, 76, 1, 0, 0, 0, []), (110, .bipush 78, 77, 0, 0, 78, 0, []), (112, .aload_n 0, 78, 0, 0, 0, 0, []), (113, .getfield 82, 79, 3, 6, 0, 888, []), (116, .iastore, 80, 0, 0, 0, 0, [])]
def kM_keep_5 : List dmA := [(117, .aload_n 1, 81, 1, 0, 0, 0, []), (118, .bipush 79, 82, 0, 0, 79, 0, []), (120, .aload_n 0, 83, 0, 0, 0, 0, []), (121, .getfield 89, 84, 10, 6, 0, 895, []), (124, .iastore, 85, 0, 0, 0, 0, []), (125, .aload_n 1, 86, 1, 0, 0, 0, []), (126, .bipush 80, 87, 0, 0, 80, 0, []), (128, .aload_n 0, 88, 0, 0, 0, 0, []), (129, .getfield 65, 89, 12, 6, 0, 897, []), (132, .iastore, 90, 0, 0, 0, 0, []), (133, .aload_n 1, 91, 1, 0, 0, 0, []), (134, .bipush 81, 92, 0, 0, 81, 0, []), (136, .aload_n 0, 93, 0, 0, 0, 0, []), (137, .getfield 280, 94, 13, 6, 0, 898, []), (140, .iastore, 95, 0, 0, 0, 0, []), (141, .aload_n 1, 96, 1, 0, 0, 0, [])]
def kM_keep_6 : List dmA := [(142, .bipush 82, 97, 0, 0, 82, 0, []), (144, .aload_n 0, 98, 0, 0, 0, 0, []), (145, .getfield 69, 99, 14, 6, 0, 899, []), (148, .iastore, 100, 0, 0, 0, 0, []), (149, .return_, 101, 0, 0, 0, 0, [])]
def kM_keep : List (List dmA) := [kM_keep_0, kM_keep_1, kM_keep_2, kM_keep_3, kM_keep_4, kM_keep_5, kM_keep_6]
def mM_keep : dmM := (⟨"WhichOneAllKnowModel", "keep", "([I)V"⟩, prog_8_method_91_code, 3, none, kM_keep, [1082, 1081, 38, 84])
def kM_item_0 : List dmA := [(0, .aload_n 0, 1, 0, 0, 0, 0, []), (1, .invokevirtual 136, 2, 163, 0, 0, 1087, []), (4, .tableswitch 458 107 119 #[268, 458, 333, 458, 458, 458, 458, 458, 458, 68, 458, 117, 424], 3, 237, 68, 0, 0, [120, 237, 162, 237, 237, 237, 237, 237, 237, 3, 237, 31, 217]), (72, .aload_n 0, 4, 0, 0, 0, 0, []), (73, .ldc 157, 5, 15, 1, 0, 1091, []), (75, .aload_n 0, 6, 0, 0, 0, 0, []), (76, .getfield 89, 7, 10, 6, 0, 895, []), (79, .bipush 6, 8, 0, 0, 6, 0, []), (81, .if_icmp .ge 7, 9, 11, 0, 0, 0, []), (84, .iconst 1, 10, 0, 0, 1, 0, []), (85, .goto 4, 11, 12, 0, 0, 0, []), (88, .iconst 0, 12, 0, 0, 0, 0, []), (89, .invokevirtual 159, 13, 164, 2, 0, 1092, []), (92, .ifCond .eq 14, 14, 20, 0, 0, 0, []), (95, .aload_n 0, 15, 0, 0, 0, 0, []), (96, .iconst 0, 16, 0, 0, 0, 0, [])]
def kM_item_1 : List dmA := [(97, .iconst 0, 17, 0, 0, 0, 0, []), (98, .bipush 11, 18, 0, 0, 11, 0, []), (100, .invokevirtual 162, 19, 167, 3, 0, 1106, []), (103, .ifCond .ne 5, 20, 22, 0, 0, 0, []), (106, .iconst 0, 21, 0, 0, 0, 0, []), (107, .ireturn, 22, 0, 0, 0, 0, []), (108, .aload_n 0, 23, 0, 0, 0, 0, []), (109, .aload_n 0, 24, 0, 0, 0, 0, []), (110, .getfield 41, 25, 18, 6, 1, 903, []), (113, .iconst 0, 26, 0, 0, 0, 0, []), (114, .iaload, 27, 0, 0, 0, 0, []), (115, .invokevirtual 117, 28, 149, 1, 0, 1031, []), (118, .pop, 29, 0, 0, 0, 0, []), (119, .iconst 1, 30, 0, 0, 1, 0, []), (120, .ireturn, 31, 0, 0, 0, 0, []), (121, .aload_n 0, 32, 0, 0, 0, 0, [])]
def kM_item_2 : List dmA := [(122, .ldc 165, 33, 16, 1, 0, 1110, []), (124, .aload_n 0, 34, 0, 0, 0, 0, []), (125, .getfield 82, 35, 3, 6, 0, 888, []), (128, .bipush 12, 36, 0, 0, 12, 0, []), (130, .if_icmp .ge 7, 37, 39, 0, 0, 0, []), (133, .iconst 1, 38, 0, 0, 1, 0, []), (134, .goto 4, 39, 40, 0, 0, 0, []), (137, .iconst 0, 40, 0, 0, 0, 0, []), (138, .invokevirtual 159, 41, 164, 2, 0, 1092, []), (141, .ifCond .eq 25, 42, 54, 0, 0, 0, []), (144, .aload_n 0, 43, 0, 0, 0, 0, []), (145, .iconst 0, 44, 0, 0, 0, 0, []), (146, .iconst 0, 45, 0, 0, 0, 0, []), (147, .bipush 6, 46, 0, 0, 6, 0, []), (149, .invokevirtual 162, 47, 167, 3, 0, 1106, []), (152, .ifCond .eq 14, 48, 54, 0, 0, 0, [])]
def kM_item_3 : List dmA := [(155, .aload_n 0, 49, 0, 0, 0, 0, []), (156, .iconst 1, 50, 0, 0, 1, 0, []), (157, .iconst 0, 51, 0, 0, 0, 0, []), (158, .bipush 9, 52, 0, 0, 9, 0, []), (160, .invokevirtual 162, 53, 167, 3, 0, 1106, []), (163, .ifCond .ne 5, 54, 56, 0, 0, 0, []), (166, .iconst 0, 55, 0, 0, 0, 0, []), (167, .ireturn, 56, 0, 0, 0, 0, []), (168, .aload_n 0, 57, 0, 0, 0, 0, []), (169, .getfield 130, 58, 16, 6, 0, 901, []), (172, .iconst 1, 59, 0, 0, 1, 0, []), (173, .iadd, 60, 0, 0, 0, 0, []), (174, .istore_n 1, 61, 1, 0, 0, 0, []), (175, .aload_n 0, 62, 0, 0, 0, 0, []), (176, .iconst 2, 63, 0, 0, 2, 0, []), (177, .iconst 0, 64, 0, 0, 0, 0, [])]
def kM_item_4 : List dmA := [(178, .bipush 23, 65, 0, 0, 23, 0, []), (180, .invokevirtual 162, 66, 167, 3, 0, 1106, []), (183, .ifCond .eq 50, 67, 93, 0, 0, 0, []), (186, .aload_n 0, 68, 0, 0, 0, 0, []), (187, .iload_n 1, 69, 1, 0, 0, 0, []), (188, .aload_n 0, 70, 0, 0, 0, 0, []), (189, .aload_n 0, 71, 0, 0, 0, 0, []), (190, .getfield 41, 72, 18, 6, 1, 903, []), (193, .iconst 2, 73, 0, 0, 2, 0, []), (194, .iaload, 74, 0, 0, 0, 0, []), (195, .invokevirtual 92, 75, 152, 1, 0, 1043, []), (198, .ifCond .ne 7, 76, 78, 0, 0, 0, []), (201, .iconst 1, 77, 0, 0, 1, 0, []), (202, .goto 4, 78, 79, 0, 0, 0, []), (205, .iconst 0, 79, 0, 0, 0, 0, []), (206, .invokevirtual 167, 80, 168, 2, 0, 1111, [])]
def kM_item_5 : List dmA := [(209, .ifCond .eq 24, 81, 93, 0, 0, 0, []), (212, .aload_n 0, 82, 0, 0, 0, 0, []), (213, .iconst 3, 83, 0, 0, 3, 0, []), (214, .iconst 0, 84, 0, 0, 0, 0, []), (215, .iconst 5, 85, 0, 0, 5, 0, []), (216, .invokevirtual 162, 86, 167, 3, 0, 1106, []), (219, .ifCond .eq 14, 87, 93, 0, 0, 0, []), (222, .aload_n 0, 88, 0, 0, 0, 0, []), (223, .iconst 4, 89, 0, 0, 4, 0, []), (224, .iconst 0, 90, 0, 0, 0, 0, []), (225, .bipush 11, 91, 0, 0, 11, 0, []), (227, .invokevirtual 162, 92, 167, 3, 0, 1106, []), (230, .ifCond .ne 5, 93, 95, 0, 0, 0, []), (233, .iconst 0, 94, 0, 0, 0, 0, []), (234, .ireturn, 95, 0, 0, 0, 0, []), (235, .aload_n 0, 96, 0, 0, 0, 0, [])]
def kM_item_6 : List dmA := [(236, .aload_n 0, 97, 0, 0, 0, 0, []), (237, .getfield 41, 98, 18, 6, 1, 903, []), (240, .iconst 0, 99, 0, 0, 0, 0, []), (241, .iaload, 100, 0, 0, 0, 0, []), (242, .aload_n 0, 101, 0, 0, 0, 0, []), (243, .getfield 41, 102, 18, 6, 1, 903, []), (246, .iconst 1, 103, 0, 0, 1, 0, []), (247, .iaload, 104, 0, 0, 0, 0, []), (248, .aload_n 0, 105, 0, 0, 0, 0, []), (249, .getfield 41, 106, 18, 6, 1, 903, []), (252, .iconst 2, 107, 0, 0, 2, 0, []), (253, .iaload, 108, 0, 0, 0, 0, []), (254, .aload_n 0, 109, 0, 0, 0, 0, []), (255, .getfield 41, 110, 18, 6, 1, 903, []), (258, .iconst 3, 111, 0, 0, 3, 0, []), (259, .iaload, 112, 0, 0, 0, 0, [])]
def kM_item_7 : List dmA := [(260, .aload_n 0, 113, 0, 0, 0, 0, []), (261, .getfield 41, 114, 18, 6, 1, 903, []), (264, .iconst 4, 115, 0, 0, 4, 0, []), (265, .iaload, 116, 0, 0, 0, 0, []), (266, .invokevirtual 123, 117, 153, 5, 0, 1047, []), (269, .pop, 118, 0, 0, 0, 0, []), (270, .iconst 1, 119, 0, 0, 1, 0, []), (271, .ireturn, 120, 0, 0, 0, 0, []), (272, .aload_n 0, 121, 0, 0, 0, 0, []), (273, .ldc 171, 122, 17, 1, 0, 1115, []), (275, .invokevirtual 153, 123, 165, 1, 0, 1096, []), (278, .ifCond .eq 33, 124, 142, 0, 0, 0, []), (281, .aload_n 0, 125, 0, 0, 0, 0, []), (282, .iconst 0, 126, 0, 0, 0, 0, []), (283, .iconst 0, 127, 0, 0, 0, 0, []), (284, .aload_n 0, 128, 0, 0, 0, 0, [])]
def kM_item_8 : List dmA := [(285, .getfield 82, 129, 3, 6, 0, 888, []), (288, .iconst 1, 130, 0, 0, 1, 0, []), (289, .isub, 131, 0, 0, 0, 0, []), (290, .invokevirtual 162, 132, 167, 3, 0, 1106, []), (293, .ifCond .eq 18, 133, 142, 0, 0, 0, []), (296, .aload_n 0, 134, 0, 0, 0, 0, []), (297, .iconst 1, 135, 0, 0, 1, 0, []), (298, .iconst 0, 136, 0, 0, 0, 0, []), (299, .aload_n 0, 137, 0, 0, 0, 0, []), (300, .getfield 89, 138, 10, 6, 0, 895, []), (303, .iconst 1, 139, 0, 0, 1, 0, []), (304, .isub, 140, 0, 0, 0, 0, []), (305, .invokevirtual 162, 141, 167, 3, 0, 1106, []), (308, .ifCond .ne 5, 142, 144, 0, 0, 0, []), (311, .iconst 0, 143, 0, 0, 0, 0, []), (312, .ireturn, 144, 0, 0, 0, 0, [])]
def kM_item_9 : List dmA := [(313, .aload_n 0, 145, 0, 0, 0, 0, []), (314, .getfield 35, 146, 9, 6, 1, 894, []), (317, .aload_n 0, 147, 0, 0, 0, 0, []), (318, .getfield 41, 148, 18, 6, 1, 903, []), (321, .iconst 0, 149, 0, 0, 0, 0, []), (322, .iaload, 150, 0, 0, 0, 0, []), (323, .dup2, 151, 0, 0, 0, 0, []), (324, .iaload, 152, 0, 0, 0, 0, []), (325, .iconst 1, 153, 0, 0, 1, 0, []), (326, .aload_n 0, 154, 0, 0, 0, 0, []), (327, .getfield 41, 155, 18, 6, 1, 903, []), (330, .iconst 1, 156, 0, 0, 1, 0, []), (331, .iaload, 157, 0, 0, 0, 0, []), (332, .ishl, 158, 0, 0, 0, 0, []), (333, .ior, 159, 0, 0, 0, 0, []), (334, .iastore, 160, 0, 0, 0, 0, [])]
def kM_item_10 : List dmA := [(335, .iconst 1, 161, 0, 0, 1, 0, []), (336, .ireturn, 162, 0, 0, 0, 0, []), (337, .aload_n 0, 163, 0, 0, 0, 0, []), (338, .ldc 173, 164, 18, 1, 0, 1116, []), (340, .invokevirtual 153, 165, 165, 1, 0, 1096, []), (343, .ifCond .eq 18, 166, 175, 0, 0, 0, []), (346, .aload_n 0, 167, 0, 0, 0, 0, []), (347, .iconst 0, 168, 0, 0, 0, 0, []), (348, .iconst 0, 169, 0, 0, 0, 0, []), (349, .aload_n 0, 170, 0, 0, 0, 0, []), (350, .getfield 82, 171, 3, 6, 0, 888, []), (353, .iconst 1, 172, 0, 0, 1, 0, []), (354, .isub, 173, 0, 0, 0, 0, []), (355, .invokevirtual 162, 174, 167, 3, 0, 1106, []), (358, .ifCond .ne 5, 175, 177, 0, 0, 0, []), (361, .iconst 0, 176, 0, 0, 0, 0, [])]
def kM_item_11 : List dmA := [(362, .ireturn, 177, 0, 0, 0, 0, []), (363, .aload_n 0, 178, 0, 0, 0, 0, []), (364, .getfield 130, 179, 16, 6, 0, 901, []), (367, .iconst 1, 180, 0, 0, 1, 0, []), (368, .iadd, 181, 0, 0, 0, 0, []), (369, .istore_n 1, 182, 1, 0, 0, 0, []), (370, .aload_n 0, 183, 0, 0, 0, 0, []), (371, .iconst 1, 184, 0, 0, 1, 0, []), (372, .iconst 0, 185, 0, 0, 0, 0, []), (373, .bipush 23, 186, 0, 0, 23, 0, []), (375, .invokevirtual 162, 187, 167, 3, 0, 1106, []), (378, .ifCond .eq 29, 188, 202, 0, 0, 0, []), (381, .aload_n 0, 189, 0, 0, 0, 0, []), (382, .iload_n 1, 190, 1, 0, 0, 0, []), (383, .aload_n 0, 191, 0, 0, 0, 0, []), (384, .aload_n 0, 192, 0, 0, 0, 0, [])]
def kM_item_12 : List dmA := [(385, .getfield 41, 193, 18, 6, 1, 903, []), (388, .iconst 1, 194, 0, 0, 1, 0, []), (389, .iaload, 195, 0, 0, 0, 0, []), (390, .invokevirtual 92, 196, 152, 1, 0, 1043, []), (393, .ifCond .ne 7, 197, 199, 0, 0, 0, []), (396, .iconst 1, 198, 0, 0, 1, 0, []), (397, .goto 4, 199, 200, 0, 0, 0, []), (400, .iconst 0, 200, 0, 0, 0, 0, []), (401, .invokevirtual 167, 201, 168, 2, 0, 1111, []), (404, .ifCond .ne 5, 202, 204, 0, 0, 0, []), (407, .iconst 0, 203, 0, 0, 0, 0, []), (408, .ireturn, 204, 0, 0, 0, 0, []), (409, .aload_n 0, 205, 0, 0, 0, 0, []), (410, .getfield 26, 206, 6, 6, 1, 891, []), (413, .aload_n 0, 207, 0, 0, 0, 0, []), (414, .getfield 41, 208, 18, 6, 1, 903, [])]
def kM_item_13 : List dmA := [(417, .iconst 0, 209, 0, 0, 0, 0, []), (418, .iaload, 210, 0, 0, 0, 0, []), (419, .aload_n 0, 211, 0, 0, 0, 0, []), (420, .getfield 41, 212, 18, 6, 1, 903, []), (423, .iconst 1, 213, 0, 0, 1, 0, []), (424, .iaload, 214, 0, 0, 0, 0, []), (425, .iastore, 215, 0, 0, 0, 0, []), (426, .iconst 1, 216, 0, 0, 1, 0, []), (427, .ireturn, 217, 0, 0, 0, 0, []), (428, .aload_n 0, 218, 0, 0, 0, 0, []), (429, .ldc 175, 219, 19, 1, 0, 1117, []), (431, .invokevirtual 153, 220, 165, 1, 0, 1096, []), (434, .ifCond .eq 14, 221, 227, 0, 0, 0, []), (437, .aload_n 0, 222, 0, 0, 0, 0, []), (438, .iconst 0, 223, 0, 0, 0, 0, []), (439, .iconst 0, 224, 0, 0, 0, 0, [])]
def kM_item_14 : List dmA := [(440, .bipush 9, 225, 0, 0, 9, 0, []), (442, .invokevirtual 162, 226, 167, 3, 0, 1106, []), (445, .ifCond .ne 5, 227, 229, 0, 0, 0, []), (448, .iconst 0, 228, 0, 0, 0, 0, []), (449, .ireturn, 229, 0, 0, 0, 0, []), (450, .aload_n 0, 230, 0, 0, 0, 0, []), (451, .aload_n 0, 231, 0, 0, 0, 0, []), (452, .getfield 41, 232, 18, 6, 1, 903, []), (455, .iconst 0, 233, 0, 0, 0, 0, []), (456, .iaload, 234, 0, 0, 0, 0, []), (457, .putfield 65, 235, 12, 6, 0, 897, []), (460, .iconst 1, 236, 0, 0, 1, 0, []), (461, .ireturn, 237, 0, 0, 0, 0, []), (462, .iconst 0, 238, 0, 0, 0, 0, []), (463, .ireturn, 239, 0, 0, 0, 0, [])]
def kM_item : List (List dmA) := [kM_item_0, kM_item_1, kM_item_2, kM_item_3, kM_item_4, kM_item_5, kM_item_6, kM_item_7, kM_item_8, kM_item_9, kM_item_10, kM_item_11, kM_item_12, kM_item_13, kM_item_14]
def mM_item : dmM := (⟨"WhichOneAllKnowModel", "item", "()Z"⟩, prog_8_method_38_code, 2, some (.boolean), kM_item, [1086, 1085, 39, 84])
def kM_sign_0 : List dmA := [(0, .aload_n 0, 1, 0, 0, 0, 0, []), (1, .getfield 130, 2, 16, 6, 0, 901, []), (4, .aload_n 0, 3, 0, 0, 0, 0, []), (5, .getfield 13, 4, 1, 6, 1, 886, []), (8, .aload_n 0, 5, 0, 0, 0, 0, []), (9, .getfield 133, 6, 15, 6, 0, 900, []), (12, .iaload, 7, 0, 0, 0, 0, []), (13, .if_icmp .ge 25, 8, 20, 0, 0, 0, []), (16, .aload_n 0, 9, 0, 0, 0, 0, []), (17, .getfield 16, 10, 2, 6, 1, 887, []), (20, .sipush 160, 11, 0, 0, 160, 0, []), (23, .aload_n 0, 12, 0, 0, 0, 0, []), (24, .getfield 133, 13, 15, 6, 0, 900, []), (27, .imul, 14, 0, 0, 0, 0, []), (28, .aload_n 0, 15, 0, 0, 0, 0, []), (29, .getfield 130, 16, 16, 6, 0, 901, [])]
def kM_sign_1 : List dmA := [(32, .iadd, 17, 0, 0, 0, 0, []), (33, .laload, 18, 0, 0, 0, 0, []), (34, .l2i, 19, 0, 0, 0, 0, []), (35, .goto 4, 20, 21, 0, 0, 0, []), (38, .iconst (-1), 21, 0, 0, -1, 0, []), (39, .ireturn, 22, 0, 0, 0, 0, [])]
def kM_sign : List (List dmA) := [kM_sign_0, kM_sign_1]
def mM_sign : dmM := (⟨"WhichOneAllKnowModel", "sign", "()I"⟩, prog_8_method_32_code, 1, some (.int), kM_sign, [1090, 1089, 40, 84])
def kM_word_0 : List dmA := [(0, .aload_n 0, 1, 0, 0, 0, 0, []), (1, .getfield 130, 2, 16, 6, 0, 901, []), (4, .istore_n 3, 3, 3, 0, 0, 0, []), (5, .aload_n 0, 4, 0, 0, 0, 0, []), (6, .aload_n 1, 5, 1, 0, 0, 0, []), (7, .invokevirtual 153, 6, 165, 1, 0, 1096, []), (10, .istore 4, 7, 4, 0, 0, 0, []), (12, .iload 4, 8, 4, 0, 0, 0, []), (14, .ifCond .eq 12, 9, 14, 0, 0, 0, []), (17, .iload_n 2, 10, 2, 0, 0, 0, []), (18, .ifCond .ne 8, 11, 14, 0, 0, 0, []), (21, .aload_n 0, 12, 0, 0, 0, 0, []), (22, .iload_n 3, 13, 3, 0, 0, 0, []), (23, .putfield 130, 14, 16, 6, 0, 901, []), (26, .iload 4, 15, 4, 0, 0, 0, []), (28, .ifCond .eq 11, 16, 20, 0, 0, 0, [])]
def kM_word_1 : List dmA := [(31, .iload_n 2, 17, 2, 0, 0, 0, []), (32, .ifCond .eq 7, 18, 20, 0, 0, 0, []), (35, .iconst 1, 19, 0, 0, 1, 0, []), (36, .goto 4, 20, 21, 0, 0, 0, []), (39, .iconst 0, 21, 0, 0, 0, 0, []), (40, .ireturn, 22, 0, 0, 0, 0, [])]
def kM_word : List (List dmA) := [kM_word_0, kM_word_1]
def mM_word : dmM := (⟨"WhichOneAllKnowModel", "word", "(Ljava/lang/String;Z)Z"⟩, prog_8_method_35_code, 5, some (.boolean), kM_word, [1095, 1094, 41, 84])
def kM_word2_0 : List dmA := [(0, .iconst 0, 1, 0, 0, 0, 0, []), (1, .istore_n 2, 2, 2, 0, 0, 0, []), (2, .iload_n 2, 3, 2, 0, 0, 0, []), (3, .aload_n 1, 4, 1, 0, 0, 0, []), (4, .invokevirtual 140, 5, 58, 0, 0, 1100, []), (7, .if_icmp .ge 23, 6, 16, 0, 0, 0, []), (10, .aload_n 0, 7, 0, 0, 0, 0, []), (11, .aload_n 1, 8, 1, 0, 0, 0, []), (12, .iload_n 2, 9, 2, 0, 0, 0, []), (13, .invokevirtual 145, 10, 51, 1, 0, 1101, []), (16, .invokevirtual 149, 11, 166, 1, 0, 1102, []), (19, .ifCond .ne 5, 12, 14, 0, 0, 0, []), (22, .iconst 0, 13, 0, 0, 0, 0, []), (23, .ireturn, 14, 0, 0, 0, 0, []), (24, .iinc 2 1, 15, 2, 0, 1, 0, []), (27, .goto (-25), 16, 2, 0, 0, 0, [])]
def kM_word2_1 : List dmA := [(30, .iconst 1, 17, 0, 0, 1, 0, []), (31, .ireturn, 18, 0, 0, 0, 0, [])]
def kM_word2 : List (List dmA) := [kM_word2_0, kM_word2_1]
def mM_word2 : dmM := (⟨"WhichOneAllKnowModel", "word", "(Ljava/lang/String;)Z"⟩, prog_8_method_34_code, 3, some (.boolean), kM_word2, [1099, 1098, 42, 84])
def kM_is_0 : List dmA := [(0, .aload_n 0, 1, 0, 0, 0, 0, []), (1, .invokevirtual 136, 2, 163, 0, 0, 1087, []), (4, .iload_n 1, 3, 1, 0, 0, 0, []), (5, .if_icmp .eq 5, 4, 6, 0, 0, 0, []), (8, .iconst 0, 5, 0, 0, 0, 0, []), (9, .ireturn, 6, 0, 0, 0, 0, []), (10, .aload_n 0, 7, 0, 0, 0, 0, []), (11, .dup, 8, 0, 0, 0, 0, []), (12, .getfield 130, 9, 16, 6, 0, 901, []), (15, .iconst 1, 10, 0, 0, 1, 0, []), (16, .iadd, 11, 0, 0, 0, 0, []), (17, .putfield 130, 12, 16, 6, 0, 901, []), (20, .iconst 1, 13, 0, 0, 1, 0, []), (21, .ireturn, 14, 0, 0, 0, 0, [])]
def kM_is : List (List dmA) := [kM_is_0]
def mM_is : dmM := (⟨"WhichOneAllKnowModel", "is", "(C)Z"⟩, prog_8_method_33_code, 2, some (.boolean), kM_is, [1105, 1104, 43, 84])
def kM_number_0 : List dmA := [(0, .aload_n 0, 1, 0, 0, 0, 0, []), (1, .bipush 32, 2, 0, 0, 32, 0, []), (3, .invokevirtual 149, 3, 166, 1, 0, 1102, []), (6, .ifCond .ne 5, 4, 6, 0, 0, 0, []), (9, .iconst 0, 5, 0, 0, 0, 0, []), (10, .ireturn, 6, 0, 0, 0, 0, []), (11, .aload_n 0, 7, 0, 0, 0, 0, []), (12, .getfield 130, 8, 16, 6, 0, 901, []), (15, .istore 4, 9, 4, 0, 0, 0, []), (17, .iconst 0, 10, 0, 0, 0, 0, []), (18, .istore 5, 11, 5, 0, 0, 0, []), (20, .aload_n 0, 12, 0, 0, 0, 0, []), (21, .getfield 130, 13, 16, 6, 0, 901, []), (24, .iload 4, 14, 4, 0, 0, 0, []), (26, .isub, 15, 0, 0, 0, 0, []), (27, .iconst 2, 16, 0, 0, 2, 0, [])]
def kM_number_1 : List dmA := [(28, .if_icmp .ge 49, 17, 41, 0, 0, 0, []), (31, .aload_n 0, 18, 0, 0, 0, 0, []), (32, .invokevirtual 136, 19, 163, 0, 0, 1087, []), (35, .bipush 48, 20, 0, 0, 48, 0, []), (37, .if_icmp .lt 40, 21, 41, 0, 0, 0, []), (40, .aload_n 0, 22, 0, 0, 0, 0, []), (41, .invokevirtual 136, 23, 163, 0, 0, 1087, []), (44, .bipush 57, 24, 0, 0, 57, 0, []), (46, .if_icmp .gt 31, 25, 41, 0, 0, 0, []), (49, .bipush 10, 26, 0, 0, 10, 0, []), (51, .iload 5, 27, 5, 0, 0, 0, []), (53, .imul, 28, 0, 0, 0, 0, []), (54, .aload_n 0, 29, 0, 0, 0, 0, []), (55, .invokevirtual 136, 30, 163, 0, 0, 1087, []), (58, .iadd, 31, 0, 0, 0, 0, []), (59, .bipush 48, 32, 0, 0, 48, 0, [])]
def kM_number_2 : List dmA := [(61, .isub, 33, 0, 0, 0, 0, []), (62, .istore 5, 34, 5, 0, 0, 0, []), (64, .aload_n 0, 35, 0, 0, 0, 0, []), (65, .dup, 36, 0, 0, 0, 0, []), (66, .getfield 130, 37, 16, 6, 0, 901, []), (69, .iconst 1, 38, 0, 0, 1, 0, []), (70, .iadd, 39, 0, 0, 0, 0, []), (71, .putfield 130, 40, 16, 6, 0, 901, []), (74, .goto (-54), 41, 11, 0, 0, 0, []), (77, .aload_n 0, 42, 0, 0, 0, 0, []), (78, .getfield 130, 43, 16, 6, 0, 901, []), (81, .iload 4, 44, 4, 0, 0, 0, []), (83, .if_icmp .ne 5, 45, 47, 0, 0, 0, []), (86, .iconst 0, 46, 0, 0, 0, 0, []), (87, .ireturn, 47, 0, 0, 0, 0, []), (88, .aload_n 0, 48, 0, 0, 0, 0, [])]
def kM_number_3 : List dmA := [(89, .getfield 41, 49, 18, 6, 1, 903, []), (92, .iload_n 1, 50, 1, 0, 0, 0, []), (93, .iload 5, 51, 5, 0, 0, 0, []), (95, .iastore, 52, 0, 0, 0, 0, []), (96, .iload 5, 53, 5, 0, 0, 0, []), (98, .iload_n 2, 54, 2, 0, 0, 0, []), (99, .iload_n 3, 55, 3, 0, 0, 0, []), (100, .invokestatic 85, 56, 135, 3, 0, 977, [1]), (103, .istore 6, 57, 6, 0, 0, 0, []), (105, .iload 6, 58, 6, 0, 0, 0, []), (107, .ifCond .ne 9, 59, 62, 0, 0, 0, []), (110, .aload_n 0, 60, 0, 0, 0, 0, []), (111, .iload 4, 61, 4, 0, 0, 0, []), (113, .putfield 130, 62, 16, 6, 0, 901, []), (116, .iload 6, 63, 6, 0, 0, 0, []), (118, .ireturn, 64, 0, 0, 0, 0, [])]
def kM_number : List (List dmA) := [kM_number_0, kM_number_1, kM_number_2, kM_number_3]
def mM_number : dmM := (⟨"WhichOneAllKnowModel", "number", "(III)Z"⟩, prog_8_method_36_code, 7, some (.boolean), kM_number, [1109, 1108, 44, 84])
def kM_stands_0 : List dmA := [(0, .iload_n 2, 1, 2, 0, 0, 0, []), (1, .ifCond .ne 8, 2, 5, 0, 0, 0, []), (4, .aload_n 0, 3, 0, 0, 0, 0, []), (5, .iload_n 1, 4, 1, 0, 0, 0, []), (6, .putfield 130, 5, 16, 6, 0, 901, []), (9, .iload_n 2, 6, 2, 0, 0, 0, []), (10, .ireturn, 7, 0, 0, 0, 0, [])]
def kM_stands : List (List dmA) := [kM_stands_0]
def mM_stands : dmM := (⟨"WhichOneAllKnowModel", "stands", "(IZ)Z"⟩, prog_8_method_37_code, 3, some (.boolean), kM_stands, [1114, 1113, 45, 84])
def kM_again_0 : List dmA := [(0, .iconst 0, 1, 0, 0, 0, 0, []), (1, .istore_n 2, 2, 2, 0, 0, 0, []), (2, .iload_n 2, 3, 2, 0, 0, 0, []), (3, .bipush 12, 4, 0, 0, 12, 0, []), (5, .if_icmp .ge 78, 5, 59, 0, 0, 0, []), (8, .aload_n 0, 6, 0, 0, 0, 0, []), (9, .getfield 20, 7, 4, 6, 1, 889, []), (12, .iload_n 2, 8, 2, 0, 0, 0, []), (13, .aload_n 1, 9, 1, 0, 0, 0, []), (14, .iload_n 2, 10, 2, 0, 0, 0, []), (15, .iaload, 11, 0, 0, 0, 0, []), (16, .iastore, 12, 0, 0, 0, 0, []), (17, .aload_n 0, 13, 0, 0, 0, 0, []), (18, .getfield 23, 14, 5, 6, 1, 890, []), (21, .iload_n 2, 15, 2, 0, 0, 0, []), (22, .aload_n 1, 16, 1, 0, 0, 0, [])]
def kM_again_1 : List dmA := [(23, .bipush 12, 17, 0, 0, 12, 0, []), (25, .iload_n 2, 18, 2, 0, 0, 0, []), (26, .iadd, 19, 0, 0, 0, 0, []), (27, .iaload, 20, 0, 0, 0, 0, []), (28, .iastore, 21, 0, 0, 0, 0, []), (29, .aload_n 0, 22, 0, 0, 0, 0, []), (30, .getfield 26, 23, 6, 6, 1, 891, []), (33, .iload_n 2, 24, 2, 0, 0, 0, []), (34, .aload_n 1, 25, 1, 0, 0, 0, []), (35, .bipush 24, 26, 0, 0, 24, 0, []), (37, .iload_n 2, 27, 2, 0, 0, 0, []), (38, .iadd, 28, 0, 0, 0, 0, []), (39, .iaload, 29, 0, 0, 0, 0, []), (40, .iastore, 30, 0, 0, 0, 0, []), (41, .aload_n 0, 31, 0, 0, 0, 0, []), (42, .getfield 29, 32, 7, 6, 1, 892, [])]
def kM_again_2 : List dmA := [(45, .iload_n 2, 33, 2, 0, 0, 0, []), (46, .aload_n 1, 34, 1, 0, 0, 0, []), (47, .bipush 36, 35, 0, 0, 36, 0, []), (49, .iload_n 2, 36, 2, 0, 0, 0, []), (50, .iadd, 37, 0, 0, 0, 0, []), (51, .iaload, 38, 0, 0, 0, 0, []), (52, .iastore, 39, 0, 0, 0, 0, []), (53, .aload_n 0, 40, 0, 0, 0, 0, []), (54, .getfield 32, 41, 8, 6, 1, 893, []), (57, .iload_n 2, 42, 2, 0, 0, 0, []), (58, .aload_n 1, 43, 1, 0, 0, 0, []), (59, .bipush 48, 44, 0, 0, 48, 0, []), (61, .iload_n 2, 45, 2, 0, 0, 0, []), (62, .iadd, 46, 0, 0, 0, 0, []), (63, .iaload, 47, 0, 0, 0, 0, []), (64, .iastore, 48, 0, 0, 0, 0, [])]
def kM_again_3 : List dmA := [(65, .aload_n 0, 49, 0, 0, 0, 0, []), (66, .getfield 35, 50, 9, 6, 1, 894, []), (69, .iload_n 2, 51, 2, 0, 0, 0, []), (70, .aload_n 1, 52, 1, 0, 0, 0, []), (71, .bipush 60, 53, 0, 0, 60, 0, []), (73, .iload_n 2, 54, 2, 0, 0, 0, []), (74, .iadd, 55, 0, 0, 0, 0, []), (75, .iaload, 56, 0, 0, 0, 0, []), (76, .iastore, 57, 0, 0, 0, 0, []), (77, .iinc 2 1, 58, 2, 0, 1, 0, []), (80, .goto (-78), 59, 2, 0, 0, 0, []), (83, .iconst 0, 60, 0, 0, 0, 0, []), (84, .istore_n 2, 61, 2, 0, 0, 0, []), (85, .iload_n 2, 62, 2, 0, 0, 0, []), (86, .bipush 6, 63, 0, 0, 6, 0, []), (88, .if_icmp .ge 21, 64, 75, 0, 0, 0, [])]
def kM_again_4 : List dmA := [(91, .aload_n 0, 65, 0, 0, 0, 0, []), (92, .getfield 38, 66, 11, 6, 1, 896, []), (95, .iload_n 2, 67, 2, 0, 0, 0, []), (96, .aload_n 1, 68, 1, 0, 0, 0, []), (97, .bipush 72, 69, 0, 0, 72, 0, []), (99, .iload_n 2, 70, 2, 0, 0, 0, []), (100, .iadd, 71, 0, 0, 0, 0, []), (101, .iaload, 72, 0, 0, 0, 0, []), (102, .iastore, 73, 0, 0, 0, 0, []), (103, .iinc 2 1, 74, 2, 0, 1, 0, []), (106, .goto (-21), 75, 61, 0, 0, 0, []), (109, .aload_n 0, 76, 0, 0, 0, 0, []), (110, .aload_n 1, 77, 1, 0, 0, 0, []), (111, .bipush 78, 78, 0, 0, 78, 0, []), (113, .iaload, 79, 0, 0, 0, 0, []), (114, .putfield 82, 80, 3, 6, 0, 888, [])]
def kM_again_5 : List dmA := [(117, .aload_n 0, 81, 0, 0, 0, 0, []), (118, .aload_n 1, 82, 1, 0, 0, 0, []), (119, .bipush 79, 83, 0, 0, 79, 0, []), (121, .iaload, 84, 0, 0, 0, 0, []), (122, .putfield 89, 85, 10, 6, 0, 895, []), (125, .aload_n 0, 86, 0, 0, 0, 0, []), (126, .aload_n 1, 87, 1, 0, 0, 0, []), (127, .bipush 80, 88, 0, 0, 80, 0, []), (129, .iaload, 89, 0, 0, 0, 0, []), (130, .putfield 65, 90, 12, 6, 0, 897, []), (133, .aload_n 0, 91, 0, 0, 0, 0, []), (134, .aload_n 1, 92, 1, 0, 0, 0, []), (135, .bipush 81, 93, 0, 0, 81, 0, []), (137, .iaload, 94, 0, 0, 0, 0, []), (138, .putfield 280, 95, 13, 6, 0, 898, []), (141, .aload_n 0, 96, 0, 0, 0, 0, [])]
def kM_again_6 : List dmA := [(142, .aload_n 1, 97, 1, 0, 0, 0, []), (143, .bipush 82, 98, 0, 0, 82, 0, []), (145, .iaload, 99, 0, 0, 0, 0, []), (146, .putfield 69, 100, 14, 6, 0, 899, []), (149, .return_, 101, 0, 0, 0, 0, [])]
def kM_again : List (List dmA) := [kM_again_0, kM_again_1, kM_again_2, kM_again_3, kM_again_4, kM_again_5, kM_again_6]
def mM_again : dmM := (⟨"WhichOneAllKnowModel", "again", "([I)V"⟩, prog_8_method_92_code, 3, none, kM_again, [1121, 1120, 46, 84])
def kM_fault_0 : List dmA := [(0, .aload_n 0, 1, 0, 0, 0, 0, []), (1, .getfield 72, 2, 17, 6, 0, 902, []), (4, .ireturn, 3, 0, 0, 0, 0, [])]
def kM_fault : List (List dmA) := [kM_fault_0]
def mM_fault : dmM := (⟨"WhichOneAllKnowModel", "fault", "()I"⟩, prog_8_method_40_code, 1, some (.int), kM_fault, [1125, 1123, 1124, 84])
def kM_sung_0 : List dmA := [(0, .aload_n 0, 1, 0, 0, 0, 0, []), (1, .iload_n 1, 2, 1, 0, 0, 0, []), (2, .invokevirtual 127, 3, 155, 1, 0, 1055, []), (5, .ifCond .ne 9, 4, 8, 0, 0, 0, []), (8, .aload_n 0, 5, 0, 0, 0, 0, []), (9, .iconst (-1), 6, 0, 0, -1, 0, []), (10, .invokevirtual 78, 7, 136, 1, 0, 980, []), (13, .ireturn, 8, 0, 0, 0, 0, []), (14, .iload 4, 9, 4, 0, 0, 0, []), (16, .iconst 0, 10, 0, 0, 0, 0, []), (17, .iconst 3, 11, 0, 0, 3, 0, []), (18, .invokestatic 85, 12, 135, 3, 0, 977, [1]), (21, .ifCond .ne 10, 13, 17, 0, 0, 0, []), (24, .aload_n 0, 14, 0, 0, 0, 0, []), (25, .bipush (-5), 15, 0, 0, -5, 0, []), (27, .invokevirtual 78, 16, 136, 1, 0, 980, [])]
def kM_sung_1 : List dmA := [(30, .ireturn, 17, 0, 0, 0, 0, []), (31, .iload_n 2, 18, 2, 0, 0, 0, []), (32, .invokestatic 215, 19, 172, 1, 0, 1130, [1]), (35, .ifCond .eq 10, 20, 23, 0, 0, 0, []), (38, .iload_n 3, 21, 3, 0, 0, 0, []), (39, .invokestatic 218, 22, 173, 1, 0, 1133, [1]), (42, .ifCond .ne 10, 23, 27, 0, 0, 0, []), (45, .aload_n 0, 24, 0, 0, 0, 0, []), (46, .bipush (-6), 25, 0, 0, -6, 0, []), (48, .invokevirtual 78, 26, 136, 1, 0, 980, []), (51, .ireturn, 27, 0, 0, 0, 0, []), (52, .aload_n 0, 28, 0, 0, 0, 0, []), (53, .iload_n 1, 29, 1, 0, 0, 0, []), (54, .iload_n 2, 30, 2, 0, 0, 0, []), (55, .iload_n 3, 31, 3, 0, 0, 0, []), (56, .invokevirtual 221, 32, 174, 3, 0, 1136, [])]
def kM_sung_2 : List dmA := [(59, .iload 4, 33, 4, 0, 0, 0, []), (61, .iconst 3, 34, 0, 0, 3, 0, []), (62, .if_icmp .ge 39, 35, 55, 0, 0, 0, []), (65, .iload 4, 36, 4, 0, 0, 0, []), (67, .ifCond .ne 12, 37, 42, 0, 0, 0, []), (70, .aload_n 0, 38, 0, 0, 0, 0, []), (71, .getfield 56, 39, 25, 6, 1, 910, []), (74, .iload_n 3, 40, 3, 0, 0, 0, []), (75, .iaload, 41, 0, 0, 0, 0, []), (76, .goto 24, 42, 54, 0, 0, 0, []), (79, .iload 4, 43, 4, 0, 0, 0, []), (81, .iconst 1, 44, 0, 0, 1, 0, []), (82, .if_icmp .ne 12, 45, 50, 0, 0, 0, []), (85, .aload_n 0, 46, 0, 0, 0, 0, []), (86, .getfield 59, 47, 26, 6, 1, 911, []), (89, .iload_n 3, 48, 3, 0, 0, 0, [])]
def kM_sung_3 : List dmA := [(90, .iaload, 49, 0, 0, 0, 0, []), (91, .goto 9, 50, 54, 0, 0, 0, []), (94, .aload_n 0, 51, 0, 0, 0, 0, []), (95, .getfield 62, 52, 27, 6, 1, 912, []), (98, .iload_n 3, 53, 3, 0, 0, 0, []), (99, .iaload, 54, 0, 0, 0, 0, []), (100, .ireturn, 55, 0, 0, 0, 0, []), (101, .iconst 0, 56, 0, 0, 0, 0, []), (102, .istore 5, 57, 5, 0, 0, 0, []), (104, .iconst 0, 58, 0, 0, 0, 0, []), (105, .istore 6, 59, 6, 0, 0, 0, []), (107, .iload 6, 60, 6, 0, 0, 0, []), (109, .aload_n 0, 61, 0, 0, 0, 0, []), (110, .getfield 82, 62, 3, 6, 0, 888, []), (113, .if_icmp .ge 33, 63, 79, 0, 0, 0, []), (116, .aload_n 0, 64, 0, 0, 0, 0, [])]
def kM_sung_4 : List dmA := [(117, .iload 6, 65, 6, 0, 0, 0, []), (119, .aload_n 0, 66, 0, 0, 0, 0, []), (120, .getfield 56, 67, 25, 6, 1, 910, []), (123, .iload_n 3, 68, 3, 0, 0, 0, []), (124, .iaload, 69, 0, 0, 0, 0, []), (125, .invokevirtual 202, 70, 177, 2, 0, 1148, []), (128, .ifCond .le 12, 71, 77, 0, 0, 0, []), (131, .iload 5, 72, 5, 0, 0, 0, []), (133, .iconst 1, 73, 0, 0, 1, 0, []), (134, .iload 6, 74, 6, 0, 0, 0, []), (136, .ishl, 75, 0, 0, 0, 0, []), (137, .ior, 76, 0, 0, 0, 0, []), (138, .istore 5, 77, 5, 0, 0, 0, []), (140, .iinc 6 1, 78, 6, 0, 1, 0, []), (143, .goto (-36), 79, 59, 0, 0, 0, []), (146, .iload 5, 80, 5, 0, 0, 0, [])]
def kM_sung_5 : List dmA := [(148, .ireturn, 81, 0, 0, 0, 0, [])]
def kM_sung : List (List dmA) := [kM_sung_0, kM_sung_1, kM_sung_2, kM_sung_3, kM_sung_4, kM_sung_5]
def mM_sung : dmM := (⟨"WhichOneAllKnowModel", "sung", "(IIII)I"⟩, prog_8_method_47_code, 7, some (.int), kM_sung, [1129, 1127, 1128, 84])
def kM_isPitch_0 : List dmA := [(0, .iload_n 0, 1, 0, 0, 0, 0, []), (1, .iconst 0, 2, 0, 0, 0, 0, []), (2, .iconst 5, 3, 0, 0, 5, 0, []), (3, .invokestatic 85, 4, 135, 3, 0, 977, [1]), (6, .ireturn, 5, 0, 0, 0, 0, [])]
def kM_isPitch : List (List dmA) := [kM_isPitch_0]
def mM_isPitch : dmM := (⟨"WhichOneAllKnowModel", "isPitch", "(I)Z"⟩, prog_8_method_10_code, 1, some (.boolean), kM_isPitch, [1132, 1131, 0, 84])
def kM_isVerse_0 : List dmA := [(0, .iload_n 0, 1, 0, 0, 0, 0, []), (1, .iconst 0, 2, 0, 0, 0, 0, []), (2, .bipush 40, 3, 0, 0, 40, 0, []), (4, .invokestatic 85, 4, 135, 3, 0, 977, [1]), (7, .ireturn, 5, 0, 0, 0, 0, [])]
def kM_isVerse : List (List dmA) := [kM_isVerse_0]
def mM_isVerse : dmM := (⟨"WhichOneAllKnowModel", "isVerse", "(I)Z"⟩, prog_8_method_11_code, 1, some (.boolean), kM_isVerse, [1135, 1134, 0, 84])
def kM_hears_0 : List dmA := [(0, .iconst 0, 1, 0, 0, 0, 0, []), (1, .istore 4, 2, 4, 0, 0, 0, []), (3, .iload 4, 3, 4, 0, 0, 0, []), (5, .iload_n 3, 4, 3, 0, 0, 0, []), (6, .if_icmp .gt 87, 5, 50, 0, 0, 0, []), (9, .aload_n 0, 6, 0, 0, 0, 0, []), (10, .getfield 56, 7, 25, 6, 1, 910, []), (13, .iload 4, 8, 4, 0, 0, 0, []), (15, .iconst 0, 9, 0, 0, 0, 0, []), (16, .iastore, 10, 0, 0, 0, 0, []), (17, .aload_n 0, 11, 0, 0, 0, 0, []), (18, .getfield 59, 12, 26, 6, 1, 911, []), (21, .iload 4, 13, 4, 0, 0, 0, []), (23, .iconst 0, 14, 0, 0, 0, 0, []), (24, .iastore, 15, 0, 0, 0, 0, []), (25, .aload_n 0, 16, 0, 0, 0, 0, [])]
def kM_hears_1 : List dmA := [(26, .getfield 62, 17, 27, 6, 1, 912, []), (29, .iload 4, 18, 4, 0, 0, 0, []), (31, .iconst 0, 19, 0, 0, 0, 0, []), (32, .iastore, 20, 0, 0, 0, 0, []), (33, .iconst 0, 21, 0, 0, 0, 0, []), (34, .istore 5, 22, 5, 0, 0, 0, []), (36, .iload 5, 23, 5, 0, 0, 0, []), (38, .aload_n 0, 24, 0, 0, 0, 0, []), (39, .getfield 82, 25, 3, 6, 0, 888, []), (42, .if_icmp .ge 45, 26, 48, 0, 0, 0, []), (45, .iload 5, 27, 5, 0, 0, 0, []), (47, .aload_n 0, 28, 0, 0, 0, 0, []), (48, .getfield 75, 29, 28, 6, 0, 913, []), (51, .if_icmp .eq 30, 30, 46, 0, 0, 0, []), (54, .aload_n 0, 31, 0, 0, 0, 0, []), (55, .getfield 38, 32, 11, 6, 1, 896, [])]
def kM_hears_2 : List dmA := [(58, .iload_n 1, 33, 1, 0, 0, 0, []), (59, .iaload, 34, 0, 0, 0, 0, []), (60, .iload_n 2, 35, 2, 0, 0, 0, []), (61, .iadd, 36, 0, 0, 0, 0, []), (62, .aload_n 0, 37, 0, 0, 0, 0, []), (63, .getfield 32, 38, 8, 6, 1, 893, []), (66, .iload 5, 39, 5, 0, 0, 0, []), (68, .iaload, 40, 0, 0, 0, 0, []), (69, .if_icmp .gt 12, 41, 46, 0, 0, 0, []), (72, .aload_n 0, 42, 0, 0, 0, 0, []), (73, .iload 5, 43, 5, 0, 0, 0, []), (75, .iload_n 1, 44, 1, 0, 0, 0, []), (76, .iload 4, 45, 4, 0, 0, 0, []), (78, .invokevirtual 211, 46, 175, 3, 0, 1140, []), (81, .iinc 5 1, 47, 5, 0, 1, 0, []), (84, .goto (-48), 48, 22, 0, 0, 0, [])]
def kM_hears_3 : List dmA := [(87, .iinc 4 1, 49, 4, 0, 1, 0, []), (90, .goto (-87), 50, 2, 0, 0, 0, []), (93, .return_, 51, 0, 0, 0, 0, [])]
def kM_hears : List (List dmA) := [kM_hears_0, kM_hears_1, kM_hears_2, kM_hears_3]
def mM_hears : dmM := (⟨"WhichOneAllKnowModel", "hears", "(III)V"⟩, prog_8_method_46_code, 6, none, kM_hears, [1139, 1138, 47, 84])
def kM_sings_0 : List dmA := [(0, .aload_n 0, 1, 0, 0, 0, 0, []), (1, .iload_n 1, 2, 1, 0, 0, 0, []), (2, .iload_n 2, 3, 2, 0, 0, 0, []), (3, .iload_n 3, 4, 3, 0, 0, 0, []), (4, .iconst 1, 5, 0, 0, 1, 0, []), (5, .isub, 6, 0, 0, 0, 0, []), (6, .invokevirtual 208, 7, 176, 3, 0, 1144, []), (9, .ifCond .eq 26, 8, 22, 0, 0, 0, []), (12, .aload_n 0, 9, 0, 0, 0, 0, []), (13, .getfield 20, 10, 4, 6, 1, 889, []), (16, .iload_n 1, 11, 1, 0, 0, 0, []), (17, .iaload, 12, 0, 0, 0, 0, []), (18, .bipush 6, 13, 0, 0, 6, 0, []), (20, .if_icmp .ne 16, 14, 23, 0, 0, 0, []), (23, .aload_n 0, 15, 0, 0, 0, 0, []), (24, .iload_n 1, 16, 1, 0, 0, 0, [])]
def kM_sings_1 : List dmA := [(25, .iload_n 2, 17, 2, 0, 0, 0, []), (26, .iload_n 3, 18, 3, 0, 0, 0, []), (27, .iconst 2, 19, 0, 0, 2, 0, []), (28, .isub, 20, 0, 0, 0, 0, []), (29, .invokevirtual 208, 21, 176, 3, 0, 1144, []), (32, .ifCond .ne 4, 22, 23, 0, 0, 0, []), (35, .return_, 23, 0, 0, 0, 0, []), (36, .aload_n 0, 24, 0, 0, 0, 0, []), (37, .getfield 20, 25, 4, 6, 1, 889, []), (40, .iload_n 1, 26, 1, 0, 0, 0, []), (41, .iaload, 27, 0, 0, 0, 0, []), (42, .iconst 5, 28, 0, 0, 5, 0, []), (43, .if_icmp .ne 16, 29, 40, 0, 0, 0, []), (46, .aload_n 0, 30, 0, 0, 0, 0, []), (47, .getfield 62, 31, 27, 6, 1, 912, []), (50, .iload_n 3, 32, 3, 0, 0, 0, [])]
def kM_sings_2 : List dmA := [(51, .dup2, 33, 0, 0, 0, 0, []), (52, .iaload, 34, 0, 0, 0, 0, []), (53, .iconst 1, 35, 0, 0, 1, 0, []), (54, .iload_n 1, 36, 1, 0, 0, 0, []), (55, .ishl, 37, 0, 0, 0, 0, []), (56, .ior, 38, 0, 0, 0, 0, []), (57, .iastore, 39, 0, 0, 0, 0, []), (58, .return_, 40, 0, 0, 0, 0, []), (59, .aload_n 0, 41, 0, 0, 0, 0, []), (60, .getfield 35, 42, 9, 6, 1, 894, []), (63, .iload_n 1, 43, 1, 0, 0, 0, []), (64, .iaload, 44, 0, 0, 0, 0, []), (65, .iload_n 2, 45, 2, 0, 0, 0, []), (66, .invokestatic 187, 46, 178, 2, 0, 1152, [1]), (69, .istore 4, 47, 4, 0, 0, 0, []), (71, .iload_n 3, 48, 3, 0, 0, 0, [])]
def kM_sings_3 : List dmA := [(72, .ifCond .le 36, 49, 70, 0, 0, 0, []), (75, .aload_n 0, 50, 0, 0, 0, 0, []), (76, .iload_n 1, 51, 1, 0, 0, 0, []), (77, .aload_n 0, 52, 0, 0, 0, 0, []), (78, .getfield 59, 53, 26, 6, 1, 911, []), (81, .iload_n 3, 54, 3, 0, 0, 0, []), (82, .iconst 1, 55, 0, 0, 1, 0, []), (83, .isub, 56, 0, 0, 0, 0, []), (84, .iaload, 57, 0, 0, 0, 0, []), (85, .invokevirtual 202, 58, 177, 2, 0, 1148, []), (88, .aload_n 0, 59, 0, 0, 0, 0, []), (89, .iload_n 1, 60, 1, 0, 0, 0, []), (90, .aload_n 0, 61, 0, 0, 0, 0, []), (91, .getfield 56, 62, 25, 6, 1, 910, []), (94, .iload_n 3, 63, 3, 0, 0, 0, []), (95, .iconst 1, 64, 0, 0, 1, 0, [])]
def kM_sings_4 : List dmA := [(96, .isub, 65, 0, 0, 0, 0, []), (97, .iaload, 66, 0, 0, 0, 0, []), (98, .invokevirtual 202, 67, 177, 2, 0, 1148, []), (101, .if_icmp .le 7, 68, 70, 0, 0, 0, []), (104, .iconst 1, 69, 0, 0, 1, 0, []), (105, .goto 4, 70, 71, 0, 0, 0, []), (108, .iconst 0, 71, 0, 0, 0, 0, []), (109, .istore 5, 72, 5, 0, 0, 0, []), (111, .iload 4, 73, 4, 0, 0, 0, []), (113, .ifCond .eq 37, 74, 92, 0, 0, 0, []), (116, .aload_n 0, 75, 0, 0, 0, 0, []), (117, .getfield 20, 76, 4, 6, 1, 889, []), (120, .iload_n 1, 77, 1, 0, 0, 0, []), (121, .iaload, 78, 0, 0, 0, 0, []), (122, .iconst 4, 79, 0, 0, 4, 0, []), (123, .if_icmp .eq 14, 80, 86, 0, 0, 0, [])]
def kM_sings_5 : List dmA := [(126, .aload_n 0, 81, 0, 0, 0, 0, []), (127, .getfield 20, 82, 4, 6, 1, 889, []), (130, .iload_n 1, 83, 1, 0, 0, 0, []), (131, .iaload, 84, 0, 0, 0, 0, []), (132, .bipush 6, 85, 0, 0, 6, 0, []), (134, .if_icmp .ne 8, 86, 88, 0, 0, 0, []), (137, .iload 5, 87, 5, 0, 0, 0, []), (139, .ifCond .ne 7, 88, 90, 0, 0, 0, []), (142, .iconst 1, 89, 0, 0, 1, 0, []), (143, .goto 27, 90, 103, 0, 0, 0, []), (146, .iconst 0, 91, 0, 0, 0, 0, []), (147, .goto 23, 92, 103, 0, 0, 0, []), (150, .aload_n 0, 93, 0, 0, 0, 0, []), (151, .getfield 20, 94, 4, 6, 1, 889, []), (154, .iload_n 1, 95, 1, 0, 0, 0, []), (155, .iaload, 96, 0, 0, 0, 0, [])]
def kM_sings_6 : List dmA := [(156, .iconst 3, 97, 0, 0, 3, 0, []), (157, .if_icmp .eq 12, 98, 102, 0, 0, 0, []), (160, .iload 5, 99, 5, 0, 0, 0, []), (162, .ifCond .ne 7, 100, 102, 0, 0, 0, []), (165, .iconst 1, 101, 0, 0, 1, 0, []), (166, .goto 4, 102, 103, 0, 0, 0, []), (169, .iconst 0, 103, 0, 0, 0, 0, []), (170, .istore 6, 104, 6, 0, 0, 0, []), (172, .iload 6, 105, 6, 0, 0, 0, []), (174, .ifCond .eq 18, 106, 117, 0, 0, 0, []), (177, .aload_n 0, 107, 0, 0, 0, 0, []), (178, .getfield 56, 108, 25, 6, 1, 910, []), (181, .iload_n 3, 109, 3, 0, 0, 0, []), (182, .dup2, 110, 0, 0, 0, 0, []), (183, .iaload, 111, 0, 0, 0, 0, []), (184, .iconst 1, 112, 0, 0, 1, 0, [])]
def kM_sings_7 : List dmA := [(185, .iload_n 1, 113, 1, 0, 0, 0, []), (186, .ishl, 114, 0, 0, 0, 0, []), (187, .ior, 115, 0, 0, 0, 0, []), (188, .iastore, 116, 0, 0, 0, 0, []), (189, .goto 15, 117, 127, 0, 0, 0, []), (192, .aload_n 0, 118, 0, 0, 0, 0, []), (193, .getfield 59, 119, 26, 6, 1, 911, []), (196, .iload_n 3, 120, 3, 0, 0, 0, []), (197, .dup2, 121, 0, 0, 0, 0, []), (198, .iaload, 122, 0, 0, 0, 0, []), (199, .iconst 1, 123, 0, 0, 1, 0, []), (200, .iload_n 1, 124, 1, 0, 0, 0, []), (201, .ishl, 125, 0, 0, 0, 0, []), (202, .ior, 126, 0, 0, 0, 0, []), (203, .iastore, 127, 0, 0, 0, 0, []), (204, .return_, 128, 0, 0, 0, 0, [])]
def kM_sings : List (List dmA) := [kM_sings_0, kM_sings_1, kM_sings_2, kM_sings_3, kM_sings_4, kM_sings_5, kM_sings_6, kM_sings_7]
def mM_sings : dmM := (⟨"WhichOneAllKnowModel", "sings", "(III)V"⟩, prog_8_method_45_code, 7, none, kM_sings, [1143, 1142, 48, 84])
def kM_isEnough_0 : List dmA := [(0, .iload_n 3, 1, 3, 0, 0, 0, []), (1, .ifCond .ge 7, 2, 4, 0, 0, 0, []), (4, .iconst 0, 3, 0, 0, 0, 0, []), (5, .goto 28, 4, 21, 0, 0, 0, []), (8, .aload_n 0, 5, 0, 0, 0, 0, []), (9, .iload_n 1, 6, 1, 0, 0, 0, []), (10, .aload_n 0, 7, 0, 0, 0, 0, []), (11, .getfield 56, 8, 25, 6, 1, 910, []), (14, .iload_n 3, 9, 3, 0, 0, 0, []), (15, .iaload, 10, 0, 0, 0, 0, []), (16, .aload_n 0, 11, 0, 0, 0, 0, []), (17, .getfield 59, 12, 26, 6, 1, 911, []), (20, .iload_n 3, 13, 3, 0, 0, 0, []), (21, .iaload, 14, 0, 0, 0, 0, []), (22, .ior, 15, 0, 0, 0, 0, []), (23, .aload_n 0, 16, 0, 0, 0, 0, [])]
def kM_isEnough_1 : List dmA := [(24, .getfield 62, 17, 27, 6, 1, 912, []), (27, .iload_n 3, 18, 3, 0, 0, 0, []), (28, .iaload, 19, 0, 0, 0, 0, []), (29, .ior, 20, 0, 0, 0, 0, []), (30, .invokevirtual 202, 21, 177, 2, 0, 1148, []), (33, .aload_n 0, 22, 0, 0, 0, 0, []), (34, .iload_n 1, 23, 1, 0, 0, 0, []), (35, .iload_n 2, 24, 2, 0, 0, 0, []), (36, .invokevirtual 205, 25, 180, 2, 0, 1160, []), (39, .if_icmp .lt 7, 26, 28, 0, 0, 0, []), (42, .iconst 1, 27, 0, 0, 1, 0, []), (43, .goto 4, 28, 29, 0, 0, 0, []), (46, .iconst 0, 29, 0, 0, 0, 0, []), (47, .ireturn, 30, 0, 0, 0, 0, [])]
def kM_isEnough : List (List dmA) := [kM_isEnough_0, kM_isEnough_1]
def mM_isEnough : dmM := (⟨"WhichOneAllKnowModel", "isEnough", "(III)Z"⟩, prog_8_method_44_code, 4, some (.boolean), kM_isEnough, [1147, 1146, 49, 84])
def kM_near_0 : List dmA := [(0, .iconst 0, 1, 0, 0, 0, 0, []), (1, .istore_n 3, 2, 3, 0, 0, 0, []), (2, .iconst 0, 3, 0, 0, 0, 0, []), (3, .istore 4, 4, 4, 0, 0, 0, []), (5, .iload 4, 5, 4, 0, 0, 0, []), (7, .aload_n 0, 6, 0, 0, 0, 0, []), (8, .getfield 82, 7, 3, 6, 0, 888, []), (11, .if_icmp .ge 31, 8, 20, 0, 0, 0, []), (14, .iload_n 2, 9, 2, 0, 0, 0, []), (15, .iload 4, 10, 4, 0, 0, 0, []), (17, .invokestatic 187, 11, 178, 2, 0, 1152, [1]), (20, .ifCond .eq 16, 12, 18, 0, 0, 0, []), (23, .aload_n 0, 13, 0, 0, 0, 0, []), (24, .iload_n 1, 14, 1, 0, 0, 0, []), (25, .iload 4, 15, 4, 0, 0, 0, []), (27, .invokevirtual 199, 16, 179, 2, 0, 1155, [])]
def kM_near_1 : List dmA := [(30, .ifCond .eq 6, 17, 18, 0, 0, 0, []), (33, .iinc 3 1, 18, 3, 0, 1, 0, []), (36, .iinc 4 1, 19, 4, 0, 1, 0, []), (39, .goto (-34), 20, 4, 0, 0, 0, []), (42, .iload_n 3, 21, 3, 0, 0, 0, []), (43, .ireturn, 22, 0, 0, 0, 0, [])]
def kM_near : List (List dmA) := [kM_near_0, kM_near_1]
def mM_near : dmM := (⟨"WhichOneAllKnowModel", "near", "(II)I"⟩, prog_8_method_43_code, 5, some (.int), kM_near, [1151, 1150, 50, 84])
def kM_has_0 : List dmA := [(0, .iload_n 0, 1, 0, 0, 0, 0, []), (1, .iload_n 1, 2, 1, 0, 0, 0, []), (2, .ishr, 3, 0, 0, 0, 0, []), (3, .iconst 1, 4, 0, 0, 1, 0, []), (4, .iand, 5, 0, 0, 0, 0, []), (5, .iconst 1, 6, 0, 0, 1, 0, []), (6, .if_icmp .ne 7, 7, 9, 0, 0, 0, []), (9, .iconst 1, 8, 0, 0, 1, 0, []), (10, .goto 4, 9, 10, 0, 0, 0, []), (13, .iconst 0, 10, 0, 0, 0, 0, []), (14, .ireturn, 11, 0, 0, 0, 0, [])]
def kM_has : List (List dmA) := [kM_has_0]
def mM_has : dmM := (⟨"WhichOneAllKnowModel", "has", "(II)Z"⟩, prog_8_method_5_code, 2, some (.boolean), kM_has, [1154, 1153, 0, 84])
def kM_areNear_0 : List dmA := [(0, .aload_n 0, 1, 0, 0, 0, 0, []), (1, .getfield 26, 2, 6, 6, 1, 891, []), (4, .iload_n 1, 3, 1, 0, 0, 0, []), (5, .iaload, 4, 0, 0, 0, 0, []), (6, .bipush 6, 5, 0, 0, 6, 0, []), (8, .idiv, 6, 0, 0, 0, 0, []), (9, .aload_n 0, 7, 0, 0, 0, 0, []), (10, .getfield 26, 8, 6, 6, 1, 891, []), (13, .iload_n 2, 9, 2, 0, 0, 0, []), (14, .iaload, 10, 0, 0, 0, 0, []), (15, .bipush 6, 11, 0, 0, 6, 0, []), (17, .idiv, 12, 0, 0, 0, 0, []), (18, .isub, 13, 0, 0, 0, 0, []), (19, .invokestatic 196, 14, 0, 1, 0, 1159, [6]), (22, .istore_n 3, 15, 3, 0, 0, 0, []), (23, .aload_n 0, 16, 0, 0, 0, 0, [])]
def kM_areNear_1 : List dmA := [(24, .getfield 26, 17, 6, 6, 1, 891, []), (27, .iload_n 1, 18, 1, 0, 0, 0, []), (28, .iaload, 19, 0, 0, 0, 0, []), (29, .bipush 6, 20, 0, 0, 6, 0, []), (31, .irem, 21, 0, 0, 0, 0, []), (32, .aload_n 0, 22, 0, 0, 0, 0, []), (33, .getfield 26, 23, 6, 6, 1, 891, []), (36, .iload_n 2, 24, 2, 0, 0, 0, []), (37, .iaload, 25, 0, 0, 0, 0, []), (38, .bipush 6, 26, 0, 0, 6, 0, []), (40, .irem, 27, 0, 0, 0, 0, []), (41, .isub, 28, 0, 0, 0, 0, []), (42, .invokestatic 196, 29, 0, 1, 0, 1159, [6]), (45, .istore 4, 30, 4, 0, 0, 0, []), (47, .iload_n 1, 31, 1, 0, 0, 0, []), (48, .iload_n 2, 32, 2, 0, 0, 0, [])]
def kM_areNear_2 : List dmA := [(49, .if_icmp .eq 18, 33, 41, 0, 0, 0, []), (52, .iload_n 3, 34, 3, 0, 0, 0, []), (53, .iconst 2, 35, 0, 0, 2, 0, []), (54, .if_icmp .ge 13, 36, 41, 0, 0, 0, []), (57, .iload 4, 37, 4, 0, 0, 0, []), (59, .iconst 2, 38, 0, 0, 2, 0, []), (60, .if_icmp .ge 7, 39, 41, 0, 0, 0, []), (63, .iconst 1, 40, 0, 0, 1, 0, []), (64, .goto 4, 41, 42, 0, 0, 0, []), (67, .iconst 0, 42, 0, 0, 0, 0, []), (68, .ireturn, 43, 0, 0, 0, 0, [])]
def kM_areNear : List (List dmA) := [kM_areNear_0, kM_areNear_1, kM_areNear_2]
def mM_areNear : dmM := (⟨"WhichOneAllKnowModel", "areNear", "(II)Z"⟩, prog_8_method_42_code, 5, some (.boolean), kM_areNear, [1158, 1157, 51, 84])
def kM_need_0 : List dmA := [(0, .aload_n 0, 1, 0, 0, 0, 0, []), (1, .getfield 35, 2, 9, 6, 1, 894, []), (4, .iload_n 1, 3, 1, 0, 0, 0, []), (5, .iaload, 4, 0, 0, 0, 0, []), (6, .iload_n 2, 5, 2, 0, 0, 0, []), (7, .invokestatic 187, 6, 178, 2, 0, 1152, [1]), (10, .istore_n 3, 7, 3, 0, 0, 0, []), (11, .aload_n 0, 8, 0, 0, 0, 0, []), (12, .getfield 20, 9, 4, 6, 1, 889, []), (15, .iload_n 1, 10, 1, 0, 0, 0, []), (16, .iaload, 11, 0, 0, 0, 0, []), (17, .tableswitch 40 2 5 #[31, 38, 40, 31], 12, 19, 31, 0, 0, [12, 17, 19, 12]), (48, .aload_n 0, 13, 0, 0, 0, 0, []), (49, .getfield 23, 14, 5, 6, 1, 890, []), (52, .iload_n 1, 15, 1, 0, 0, 0, []), (53, .iaload, 16, 0, 0, 0, 0, [])]
def kM_need_1 : List dmA := [(54, .ireturn, 17, 0, 0, 0, 0, []), (55, .iconst 0, 18, 0, 0, 0, 0, []), (56, .ireturn, 19, 0, 0, 0, 0, []), (57, .aload_n 0, 20, 0, 0, 0, 0, []), (58, .getfield 20, 21, 4, 6, 1, 889, []), (61, .iload_n 1, 22, 1, 0, 0, 0, []), (62, .iaload, 23, 0, 0, 0, 0, []), (63, .iconst 1, 24, 0, 0, 1, 0, []), (64, .if_icmp .ne 9, 25, 29, 0, 0, 0, []), (67, .iload_n 3, 26, 3, 0, 0, 0, []), (68, .ifCond .eq 5, 27, 29, 0, 0, 0, []), (71, .iconst 0, 28, 0, 0, 0, 0, []), (72, .ireturn, 29, 0, 0, 0, 0, []), (73, .iload_n 3, 30, 3, 0, 0, 0, []), (74, .ifCond .eq 18, 31, 40, 0, 0, 0, []), (77, .iconst 0, 32, 0, 0, 0, 0, [])]
def kM_need_2 : List dmA := [(78, .iconst 2, 33, 0, 0, 2, 0, []), (79, .aload_n 0, 34, 0, 0, 0, 0, []), (80, .getfield 29, 35, 7, 6, 1, 892, []), (83, .iload_n 1, 36, 1, 0, 0, 0, []), (84, .iaload, 37, 0, 0, 0, 0, []), (85, .isub, 38, 0, 0, 0, 0, []), (86, .invokestatic 190, 39, 0, 2, 0, 1164, [4]), (89, .goto 15, 40, 48, 0, 0, 0, []), (92, .iconst 1, 41, 0, 0, 1, 0, []), (93, .iconst 4, 42, 0, 0, 4, 0, []), (94, .aload_n 0, 43, 0, 0, 0, 0, []), (95, .getfield 29, 44, 7, 6, 1, 892, []), (98, .iload_n 1, 45, 1, 0, 0, 0, []), (99, .iaload, 46, 0, 0, 0, 0, []), (100, .isub, 47, 0, 0, 0, 0, []), (101, .invokestatic 190, 48, 0, 2, 0, 1164, [4])]
def kM_need_3 : List dmA := [(104, .ireturn, 49, 0, 0, 0, 0, [])]
def kM_need : List (List dmA) := [kM_need_0, kM_need_1, kM_need_2, kM_need_3]
def mM_need : dmM := (⟨"WhichOneAllKnowModel", "need", "(II)I"⟩, prog_8_method_41_code, 4, some (.int), kM_need, [1163, 1162, 52, 84])
def kM_needs_0 : List dmA := [(0, .aload_n 0, 1, 0, 0, 0, 0, []), (1, .iload_n 1, 2, 1, 0, 0, 0, []), (2, .invokevirtual 102, 3, 143, 1, 0, 1008, []), (5, .ifCond .eq 20, 4, 13, 0, 0, 0, []), (8, .aload_n 0, 5, 0, 0, 0, 0, []), (9, .iload_n 2, 6, 2, 0, 0, 0, []), (10, .invokevirtual 127, 7, 155, 1, 0, 1055, []), (13, .ifCond .eq 12, 8, 13, 0, 0, 0, []), (16, .aload_n 0, 9, 0, 0, 0, 0, []), (17, .iload_n 1, 10, 1, 0, 0, 0, []), (18, .iload_n 2, 11, 2, 0, 0, 0, []), (19, .invokevirtual 205, 12, 180, 2, 0, 1160, []), (22, .goto 8, 13, 16, 0, 0, 0, []), (25, .aload_n 0, 14, 0, 0, 0, 0, []), (26, .iconst (-1), 15, 0, 0, -1, 0, []), (27, .invokevirtual 78, 16, 136, 1, 0, 980, [])]
def kM_needs_1 : List dmA := [(30, .ireturn, 17, 0, 0, 0, 0, [])]
def kM_needs : List (List dmA) := [kM_needs_0, kM_needs_1]
def mM_needs : dmM := (⟨"WhichOneAllKnowModel", "needs", "(II)I"⟩, prog_8_method_48_code, 3, some (.int), kM_needs, [1168, 1166, 1167, 84])
def kM_verse_0 : List dmA := [(0, .aload_n 0, 1, 0, 0, 0, 0, []), (1, .iload_n 1, 2, 1, 0, 0, 0, []), (2, .invokevirtual 127, 3, 155, 1, 0, 1055, []), (5, .ifCond .ne 9, 4, 8, 0, 0, 0, []), (8, .aload_n 0, 5, 0, 0, 0, 0, []), (9, .iconst (-1), 6, 0, 0, -1, 0, []), (10, .invokevirtual 227, 7, 183, 1, 0, 1173, []), (13, .ireturn, 8, 0, 0, 0, 0, []), (14, .iload_n 3, 9, 3, 0, 0, 0, []), (15, .iconst 0, 10, 0, 0, 0, 0, []), (16, .iconst 1, 11, 0, 0, 1, 0, []), (17, .invokestatic 85, 12, 135, 3, 0, 977, [1]), (20, .ifCond .ne 10, 13, 17, 0, 0, 0, []), (23, .aload_n 0, 14, 0, 0, 0, 0, []), (24, .bipush (-5), 15, 0, 0, -5, 0, []), (26, .invokevirtual 227, 16, 183, 1, 0, 1173, [])]
def kM_verse_1 : List dmA := [(29, .ireturn, 17, 0, 0, 0, 0, []), (30, .iload_n 2, 18, 2, 0, 0, 0, []), (31, .invokestatic 215, 19, 172, 1, 0, 1130, [1]), (34, .ifCond .ne 10, 20, 24, 0, 0, 0, []), (37, .aload_n 0, 21, 0, 0, 0, 0, []), (38, .bipush (-6), 22, 0, 0, -6, 0, []), (40, .invokevirtual 227, 23, 183, 1, 0, 1173, []), (43, .ireturn, 24, 0, 0, 0, 0, []), (44, .iload_n 3, 25, 3, 0, 0, 0, []), (45, .ifCond .ne 12, 26, 31, 0, 0, 0, []), (48, .aload_n 0, 27, 0, 0, 0, 0, []), (49, .iload_n 1, 28, 1, 0, 0, 0, []), (50, .iload_n 2, 29, 2, 0, 0, 0, []), (51, .invokevirtual 230, 30, 184, 2, 0, 1177, []), (54, .goto 9, 31, 35, 0, 0, 0, []), (57, .aload_n 0, 32, 0, 0, 0, 0, [])]
def kM_verse_2 : List dmA := [(58, .iload_n 1, 33, 1, 0, 0, 0, []), (59, .iload_n 2, 34, 2, 0, 0, 0, []), (60, .invokevirtual 233, 35, 185, 2, 0, 1181, []), (63, .ireturn, 36, 0, 0, 0, 0, [])]
def kM_verse : List (List dmA) := [kM_verse_0, kM_verse_1, kM_verse_2]
def mM_verse : dmM := (⟨"WhichOneAllKnowModel", "verse", "(III)I"⟩, prog_8_method_52_code, 4, some (.int), kM_verse, [1172, 1170, 1171, 84])
def kM_no10_0 : List dmA := [(0, .aload_n 0, 1, 0, 0, 0, 0, []), (1, .iload_n 1, 2, 1, 0, 0, 0, []), (2, .invokevirtual 78, 3, 136, 1, 0, 980, []), (5, .bipush 10, 4, 0, 0, 10, 0, []), (7, .isub, 5, 0, 0, 0, 0, []), (8, .ireturn, 6, 0, 0, 0, 0, [])]
def kM_no10 : List (List dmA) := [kM_no10_0]
def mM_no10 : dmM := (⟨"WhichOneAllKnowModel", "no10", "(I)I"⟩, prog_8_method_3_code, 2, some (.int), kM_no10, [1176, 1175, 53, 84])
def kM_catches_0 : List dmA := [(0, .aload_n 0, 1, 0, 0, 0, 0, []), (1, .iload_n 1, 2, 1, 0, 0, 0, []), (2, .iload_n 2, 3, 2, 0, 0, 0, []), (3, .bipush 40, 4, 0, 0, 40, 0, []), (5, .invokevirtual 221, 5, 174, 3, 0, 1136, []), (8, .iconst 0, 6, 0, 0, 0, 0, []), (9, .istore_n 3, 7, 3, 0, 0, 0, []), (10, .iload_n 3, 8, 3, 0, 0, 0, []), (11, .bipush 41, 9, 0, 0, 41, 0, []), (13, .if_icmp .ge 29, 10, 24, 0, 0, 0, []), (16, .iconst 2, 11, 0, 0, 2, 0, []), (17, .aload_n 0, 12, 0, 0, 0, 0, []), (18, .getfield 56, 13, 25, 6, 1, 910, []), (21, .iload_n 3, 14, 3, 0, 0, 0, []), (22, .iaload, 15, 0, 0, 0, 0, []), (23, .invokestatic 112, 16, 28, 1, 0, 1026, [1])]
def kM_catches_1 : List dmA := [(26, .imul, 17, 0, 0, 0, 0, []), (27, .aload_n 0, 18, 0, 0, 0, 0, []), (28, .getfield 82, 19, 3, 6, 0, 888, []), (31, .if_icmp .lt 5, 20, 22, 0, 0, 0, []), (34, .iload_n 3, 21, 3, 0, 0, 0, []), (35, .ireturn, 22, 0, 0, 0, 0, []), (36, .iinc 3 1, 23, 3, 0, 1, 0, []), (39, .goto (-29), 24, 7, 0, 0, 0, []), (42, .iconst (-1), 25, 0, 0, -1, 0, []), (43, .ireturn, 26, 0, 0, 0, 0, [])]
def kM_catches : List (List dmA) := [kM_catches_0, kM_catches_1]
def mM_catches : dmM := (⟨"WhichOneAllKnowModel", "catches", "(II)I"⟩, prog_8_method_49_code, 4, some (.int), kM_catches, [1180, 1179, 54, 84])
def kM_settles_0 : List dmA := [(0, .aload_n 0, 1, 0, 0, 0, 0, []), (1, .iload_n 1, 2, 1, 0, 0, 0, []), (2, .iload_n 2, 3, 2, 0, 0, 0, []), (3, .bipush 43, 4, 0, 0, 43, 0, []), (5, .invokevirtual 221, 5, 174, 3, 0, 1136, []), (8, .iconst 0, 6, 0, 0, 0, 0, []), (9, .istore_n 3, 7, 3, 0, 0, 0, []), (10, .iload_n 3, 8, 3, 0, 0, 0, []), (11, .bipush 41, 9, 0, 0, 41, 0, []), (13, .if_icmp .ge 44, 10, 35, 0, 0, 0, []), (16, .aload_n 0, 11, 0, 0, 0, 0, []), (17, .iload_n 3, 12, 3, 0, 0, 0, []), (18, .iload_n 3, 13, 3, 0, 0, 0, []), (19, .iconst 1, 14, 0, 0, 1, 0, []), (20, .iadd, 15, 0, 0, 0, 0, []), (21, .invokevirtual 224, 16, 186, 2, 0, 1185, [])]
def kM_settles_1 : List dmA := [(24, .ifCond .eq 27, 17, 33, 0, 0, 0, []), (27, .aload_n 0, 18, 0, 0, 0, 0, []), (28, .iload_n 3, 19, 3, 0, 0, 0, []), (29, .iload_n 3, 20, 3, 0, 0, 0, []), (30, .iconst 2, 21, 0, 0, 2, 0, []), (31, .iadd, 22, 0, 0, 0, 0, []), (32, .invokevirtual 224, 23, 186, 2, 0, 1185, []), (35, .ifCond .eq 16, 24, 33, 0, 0, 0, []), (38, .aload_n 0, 25, 0, 0, 0, 0, []), (39, .iload_n 3, 26, 3, 0, 0, 0, []), (40, .iload_n 3, 27, 3, 0, 0, 0, []), (41, .iconst 3, 28, 0, 0, 3, 0, []), (42, .iadd, 29, 0, 0, 0, 0, []), (43, .invokevirtual 224, 30, 186, 2, 0, 1185, []), (46, .ifCond .eq 5, 31, 33, 0, 0, 0, []), (49, .iload_n 3, 32, 3, 0, 0, 0, [])]
def kM_settles_2 : List dmA := [(50, .ireturn, 33, 0, 0, 0, 0, []), (51, .iinc 3 1, 34, 3, 0, 1, 0, []), (54, .goto (-44), 35, 7, 0, 0, 0, []), (57, .iconst (-1), 36, 0, 0, -1, 0, []), (58, .ireturn, 37, 0, 0, 0, 0, [])]
def kM_settles : List (List dmA) := [kM_settles_0, kM_settles_1, kM_settles_2]
def mM_settles : dmM := (⟨"WhichOneAllKnowModel", "settles", "(II)I"⟩, prog_8_method_51_code, 4, some (.int), kM_settles, [1184, 1183, 55, 84])
def kM_isSame_0 : List dmA := [(0, .aload_n 0, 1, 0, 0, 0, 0, []), (1, .getfield 56, 2, 25, 6, 1, 910, []), (4, .iload_n 1, 3, 1, 0, 0, 0, []), (5, .iaload, 4, 0, 0, 0, 0, []), (6, .aload_n 0, 5, 0, 0, 0, 0, []), (7, .getfield 56, 6, 25, 6, 1, 910, []), (10, .iload_n 2, 7, 2, 0, 0, 0, []), (11, .iaload, 8, 0, 0, 0, 0, []), (12, .if_icmp .ne 37, 9, 29, 0, 0, 0, []), (15, .aload_n 0, 10, 0, 0, 0, 0, []), (16, .getfield 59, 11, 26, 6, 1, 911, []), (19, .iload_n 1, 12, 1, 0, 0, 0, []), (20, .iaload, 13, 0, 0, 0, 0, []), (21, .aload_n 0, 14, 0, 0, 0, 0, []), (22, .getfield 59, 15, 26, 6, 1, 911, []), (25, .iload_n 2, 16, 2, 0, 0, 0, [])]
def kM_isSame_1 : List dmA := [(26, .iaload, 17, 0, 0, 0, 0, []), (27, .if_icmp .ne 22, 18, 29, 0, 0, 0, []), (30, .aload_n 0, 19, 0, 0, 0, 0, []), (31, .getfield 62, 20, 27, 6, 1, 912, []), (34, .iload_n 1, 21, 1, 0, 0, 0, []), (35, .iaload, 22, 0, 0, 0, 0, []), (36, .aload_n 0, 23, 0, 0, 0, 0, []), (37, .getfield 62, 24, 27, 6, 1, 912, []), (40, .iload_n 2, 25, 2, 0, 0, 0, []), (41, .iaload, 26, 0, 0, 0, 0, []), (42, .if_icmp .ne 7, 27, 29, 0, 0, 0, []), (45, .iconst 1, 28, 0, 0, 1, 0, []), (46, .goto 4, 29, 30, 0, 0, 0, []), (49, .iconst 0, 30, 0, 0, 0, 0, []), (50, .ireturn, 31, 0, 0, 0, 0, [])]
def kM_isSame : List (List dmA) := [kM_isSame_0, kM_isSame_1]
def mM_isSame : dmM := (⟨"WhichOneAllKnowModel", "isSame", "(II)Z"⟩, prog_8_method_50_code, 3, some (.boolean), kM_isSame, [1188, 1187, 56, 84])
def kM_best_0 : List dmA := [(0, .aload_n 0, 1, 0, 0, 0, 0, []), (1, .getfield 89, 2, 10, 6, 0, 895, []), (4, .ifCond .ne 10, 3, 7, 0, 0, 0, []), (7, .aload_n 0, 4, 0, 0, 0, 0, []), (8, .bipush (-5), 5, 0, 0, -5, 0, []), (10, .invokevirtual 78, 6, 136, 1, 0, 980, []), (13, .ireturn, 7, 0, 0, 0, 0, []), (14, .iload_n 1, 8, 1, 0, 0, 0, []), (15, .invokestatic 215, 9, 172, 1, 0, 1130, [1]), (18, .ifCond .eq 10, 10, 13, 0, 0, 0, []), (21, .iload_n 2, 11, 2, 0, 0, 0, []), (22, .invokestatic 218, 12, 173, 1, 0, 1133, [1]), (25, .ifCond .ne 10, 13, 17, 0, 0, 0, []), (28, .aload_n 0, 14, 0, 0, 0, 0, []), (29, .bipush (-6), 15, 0, 0, -6, 0, []), (31, .invokevirtual 78, 16, 136, 1, 0, 980, [])]
def kM_best_1 : List dmA := [(34, .ireturn, 17, 0, 0, 0, 0, []), (35, .iconst 0, 18, 0, 0, 0, 0, []), (36, .istore_n 3, 19, 3, 0, 0, 0, []), (37, .iconst (-1), 20, 0, 0, -1, 0, []), (38, .istore 4, 21, 4, 0, 0, 0, []), (40, .iconst 0, 22, 0, 0, 0, 0, []), (41, .istore 5, 23, 5, 0, 0, 0, []), (43, .iload 5, 24, 5, 0, 0, 0, []), (45, .aload_n 0, 25, 0, 0, 0, 0, []), (46, .getfield 89, 26, 10, 6, 0, 895, []), (49, .if_icmp .ge 36, 27, 43, 0, 0, 0, []), (52, .aload_n 0, 28, 0, 0, 0, 0, []), (53, .iload 5, 29, 5, 0, 0, 0, []), (55, .iload_n 1, 30, 1, 0, 0, 0, []), (56, .iload_n 2, 31, 2, 0, 0, 0, []), (57, .invokevirtual 240, 32, 188, 3, 0, 1193, [])]
def kM_best_2 : List dmA := [(60, .istore 6, 33, 6, 0, 0, 0, []), (62, .iload 6, 34, 6, 0, 0, 0, []), (64, .iload 4, 35, 4, 0, 0, 0, []), (66, .if_icmp .gt 6, 36, 37, 0, 0, 0, []), (69, .goto 10, 37, 41, 0, 0, 0, []), (72, .iload 6, 38, 6, 0, 0, 0, []), (74, .istore 4, 39, 4, 0, 0, 0, []), (76, .iload 5, 40, 5, 0, 0, 0, []), (78, .istore_n 3, 41, 3, 0, 0, 0, []), (79, .iinc 5 1, 42, 5, 0, 1, 0, []), (82, .goto (-39), 43, 23, 0, 0, 0, []), (85, .iload_n 3, 44, 3, 0, 0, 0, []), (86, .ireturn, 45, 0, 0, 0, 0, [])]
def kM_best : List (List dmA) := [kM_best_0, kM_best_1, kM_best_2]
def mM_best : dmM := (⟨"WhichOneAllKnowModel", "best", "(II)I"⟩, prog_8_method_55_code, 7, some (.int), kM_best, [1192, 1190, 1191, 84])
def kM_manyAt_0 : List dmA := [(0, .aload_n 0, 1, 0, 0, 0, 0, []), (1, .iload_n 1, 2, 1, 0, 0, 0, []), (2, .iload_n 2, 3, 2, 0, 0, 0, []), (3, .iload_n 3, 4, 3, 0, 0, 0, []), (4, .invokevirtual 236, 5, 189, 3, 0, 1197, []), (7, .invokestatic 112, 6, 28, 1, 0, 1026, [1]), (10, .ireturn, 7, 0, 0, 0, 0, [])]
def kM_manyAt : List (List dmA) := [kM_manyAt_0]
def mM_manyAt : dmM := (⟨"WhichOneAllKnowModel", "manyAt", "(III)I"⟩, prog_8_method_54_code, 4, some (.int), kM_manyAt, [1196, 1195, 57, 84])
def kM_rightAt_0 : List dmA := [(0, .aload_n 0, 1, 0, 0, 0, 0, []), (1, .iload_n 1, 2, 1, 0, 0, 0, []), (2, .iload_n 2, 3, 2, 0, 0, 0, []), (3, .iload_n 3, 4, 3, 0, 0, 0, []), (4, .invokevirtual 221, 5, 174, 3, 0, 1136, []), (7, .aload_n 0, 6, 0, 0, 0, 0, []), (8, .getfield 56, 7, 25, 6, 1, 910, []), (11, .iload_n 3, 8, 3, 0, 0, 0, []), (12, .iaload, 9, 0, 0, 0, 0, []), (13, .ireturn, 10, 0, 0, 0, 0, [])]
def kM_rightAt : List (List dmA) := [kM_rightAt_0]
def mM_rightAt : dmM := (⟨"WhichOneAllKnowModel", "rightAt", "(III)I"⟩, prog_8_method_53_code, 4, some (.int), kM_rightAt, [1200, 1199, 58, 84])
def kM_pitch_0 : List dmA := [(0, .aload_n 0, 1, 0, 0, 0, 0, []), (1, .iload_n 1, 2, 1, 0, 0, 0, []), (2, .invokevirtual 127, 3, 155, 1, 0, 1055, []), (5, .ifCond .ne 9, 4, 8, 0, 0, 0, []), (8, .aload_n 0, 5, 0, 0, 0, 0, []), (9, .iconst (-1), 6, 0, 0, -1, 0, []), (10, .invokevirtual 78, 7, 136, 1, 0, 980, []), (13, .ireturn, 8, 0, 0, 0, 0, []), (14, .iload_n 2, 9, 2, 0, 0, 0, []), (15, .invokestatic 218, 10, 173, 1, 0, 1133, [1]), (18, .ifCond .ne 10, 11, 15, 0, 0, 0, []), (21, .aload_n 0, 12, 0, 0, 0, 0, []), (22, .bipush (-6), 13, 0, 0, -6, 0, []), (24, .invokevirtual 78, 14, 136, 1, 0, 980, []), (27, .ireturn, 15, 0, 0, 0, 0, []), (28, .iconst 0, 16, 0, 0, 0, 0, [])]
def kM_pitch_1 : List dmA := [(29, .istore_n 3, 17, 3, 0, 0, 0, []), (30, .iconst (-1), 18, 0, 0, -1, 0, []), (31, .istore 4, 19, 4, 0, 0, 0, []), (33, .iconst 0, 20, 0, 0, 0, 0, []), (34, .istore 5, 21, 5, 0, 0, 0, []), (36, .iload 5, 22, 5, 0, 0, 0, []), (38, .bipush 6, 23, 0, 0, 6, 0, []), (40, .if_icmp .ge 36, 24, 40, 0, 0, 0, []), (43, .aload_n 0, 25, 0, 0, 0, 0, []), (44, .iload_n 1, 26, 1, 0, 0, 0, []), (45, .iload 5, 27, 5, 0, 0, 0, []), (47, .iload_n 2, 28, 2, 0, 0, 0, []), (48, .invokevirtual 240, 29, 188, 3, 0, 1193, []), (51, .istore 6, 30, 6, 0, 0, 0, []), (53, .iload 6, 31, 6, 0, 0, 0, []), (55, .iload 4, 32, 4, 0, 0, 0, [])]
def kM_pitch_2 : List dmA := [(57, .if_icmp .ge 6, 33, 34, 0, 0, 0, []), (60, .goto 10, 34, 38, 0, 0, 0, []), (63, .iload 6, 35, 6, 0, 0, 0, []), (65, .istore 4, 36, 4, 0, 0, 0, []), (67, .iload 5, 37, 5, 0, 0, 0, []), (69, .istore_n 3, 38, 3, 0, 0, 0, []), (70, .iinc 5 1, 39, 5, 0, 1, 0, []), (73, .goto (-37), 40, 21, 0, 0, 0, []), (76, .iload_n 3, 41, 3, 0, 0, 0, []), (77, .ireturn, 42, 0, 0, 0, 0, [])]
def kM_pitch : List (List dmA) := [kM_pitch_0, kM_pitch_1, kM_pitch_2]
def mM_pitch : dmM := (⟨"WhichOneAllKnowModel", "pitch", "(II)I"⟩, prog_8_method_56_code, 7, some (.int), kM_pitch, [1204, 1202, 1203, 84])
def kM_two_0 : List dmA := [(0, .iload_n 1, 1, 1, 0, 0, 0, []), (1, .invokestatic 218, 2, 173, 1, 0, 1133, [1]), (4, .ifCond .ne 10, 3, 7, 0, 0, 0, []), (7, .aload_n 0, 4, 0, 0, 0, 0, []), (8, .bipush (-6), 5, 0, 0, -6, 0, []), (10, .invokevirtual 227, 6, 183, 1, 0, 1173, []), (13, .ireturn, 7, 0, 0, 0, 0, []), (14, .iconst (-1), 8, 0, 0, -1, 0, []), (15, .istore_n 2, 9, 2, 0, 0, 0, []), (16, .iconst (-1), 10, 0, 0, -1, 0, []), (17, .istore_n 3, 11, 3, 0, 0, 0, []), (18, .iconst 0, 12, 0, 0, 0, 0, []), (19, .istore 4, 13, 4, 0, 0, 0, []), (21, .iload 4, 14, 4, 0, 0, 0, []), (23, .aload_n 0, 15, 0, 0, 0, 0, []), (24, .getfield 89, 16, 10, 6, 0, 895, [])]
def kM_two_1 : List dmA := [(27, .if_icmp .ge 77, 17, 56, 0, 0, 0, []), (30, .iload 4, 18, 4, 0, 0, 0, []), (32, .iconst 1, 19, 0, 0, 1, 0, []), (33, .iadd, 20, 0, 0, 0, 0, []), (34, .istore 5, 21, 5, 0, 0, 0, []), (36, .iload 5, 22, 5, 0, 0, 0, []), (38, .aload_n 0, 23, 0, 0, 0, 0, []), (39, .getfield 89, 24, 10, 6, 0, 895, []), (42, .if_icmp .ge 56, 25, 54, 0, 0, 0, []), (45, .aload_n 0, 26, 0, 0, 0, 0, []), (46, .iload 4, 27, 4, 0, 0, 0, []), (48, .iconst 0, 28, 0, 0, 0, 0, []), (49, .iload_n 1, 29, 1, 0, 0, 0, []), (50, .invokevirtual 236, 30, 189, 3, 0, 1197, []), (53, .istore 6, 31, 6, 0, 0, 0, []), (55, .iload 6, 32, 6, 0, 0, 0, [])]
def kM_two_2 : List dmA := [(57, .aload_n 0, 33, 0, 0, 0, 0, []), (58, .iload 5, 34, 5, 0, 0, 0, []), (60, .iconst 0, 35, 0, 0, 0, 0, []), (61, .iload_n 1, 36, 1, 0, 0, 0, []), (62, .invokevirtual 236, 37, 189, 3, 0, 1197, []), (65, .ior, 38, 0, 0, 0, 0, []), (66, .invokestatic 112, 39, 28, 1, 0, 1026, [1]), (69, .istore 7, 40, 7, 0, 0, 0, []), (71, .iload 7, 41, 7, 0, 0, 0, []), (73, .iload_n 3, 42, 3, 0, 0, 0, []), (74, .if_icmp .gt 6, 43, 44, 0, 0, 0, []), (77, .goto 15, 44, 52, 0, 0, 0, []), (80, .iload 7, 45, 7, 0, 0, 0, []), (82, .istore_n 3, 46, 3, 0, 0, 0, []), (83, .bipush 10, 47, 0, 0, 10, 0, []), (85, .iload 4, 48, 4, 0, 0, 0, [])]
def kM_two_3 : List dmA := [(87, .imul, 49, 0, 0, 0, 0, []), (88, .iload 5, 50, 5, 0, 0, 0, []), (90, .iadd, 51, 0, 0, 0, 0, []), (91, .istore_n 2, 52, 2, 0, 0, 0, []), (92, .iinc 5 1, 53, 5, 0, 1, 0, []), (95, .goto (-59), 54, 21, 0, 0, 0, []), (98, .iinc 4 1, 55, 4, 0, 1, 0, []), (101, .goto (-80), 56, 13, 0, 0, 0, []), (104, .iload_n 2, 57, 2, 0, 0, 0, []), (105, .ireturn, 58, 0, 0, 0, 0, [])]
def kM_two : List (List dmA) := [kM_two_0, kM_two_1, kM_two_2, kM_two_3]
def mM_two : dmM := (⟨"WhichOneAllKnowModel", "two", "(I)I"⟩, prog_8_method_57_code, 8, some (.int), kM_two, [1208, 1206, 1207, 84])
def kM_leaders_0 : List dmA := [(0, .aload_n 0, 1, 0, 0, 0, 0, []), (1, .iload_n 1, 2, 1, 0, 0, 0, []), (2, .invokevirtual 127, 3, 155, 1, 0, 1055, []), (5, .ifCond .ne 9, 4, 8, 0, 0, 0, []), (8, .aload_n 0, 5, 0, 0, 0, 0, []), (9, .iconst (-1), 6, 0, 0, -1, 0, []), (10, .invokevirtual 78, 7, 136, 1, 0, 980, []), (13, .ireturn, 8, 0, 0, 0, 0, []), (14, .iload 4, 9, 4, 0, 0, 0, []), (16, .iconst 1, 10, 0, 0, 1, 0, []), (17, .iconst 2, 11, 0, 0, 2, 0, []), (18, .invokestatic 85, 12, 135, 3, 0, 977, [1]), (21, .ifCond .ne 10, 13, 17, 0, 0, 0, []), (24, .aload_n 0, 14, 0, 0, 0, 0, []), (25, .bipush (-6), 15, 0, 0, -6, 0, []), (27, .invokevirtual 78, 16, 136, 1, 0, 980, [])]
def kM_leaders_1 : List dmA := [(30, .ireturn, 17, 0, 0, 0, 0, []), (31, .iload 5, 18, 5, 0, 0, 0, []), (33, .iconst (-1), 19, 0, 0, -1, 0, []), (34, .iload 4, 20, 4, 0, 0, 0, []), (36, .iconst 1, 21, 0, 0, 1, 0, []), (37, .isub, 22, 0, 0, 0, 0, []), (38, .invokestatic 85, 23, 135, 3, 0, 977, [1]), (41, .ifCond .ne 10, 24, 28, 0, 0, 0, []), (44, .aload_n 0, 25, 0, 0, 0, 0, []), (45, .bipush (-5), 26, 0, 0, -5, 0, []), (47, .invokevirtual 78, 27, 136, 1, 0, 980, []), (50, .ireturn, 28, 0, 0, 0, 0, []), (51, .iload_n 2, 29, 2, 0, 0, 0, []), (52, .invokestatic 215, 30, 172, 1, 0, 1130, [1]), (55, .ifCond .eq 10, 31, 34, 0, 0, 0, []), (58, .iload_n 3, 32, 3, 0, 0, 0, [])]
def kM_leaders_2 : List dmA := [(59, .invokestatic 218, 33, 173, 1, 0, 1133, [1]), (62, .ifCond .ne 10, 34, 38, 0, 0, 0, []), (65, .aload_n 0, 35, 0, 0, 0, 0, []), (66, .bipush (-6), 36, 0, 0, -6, 0, []), (68, .invokevirtual 78, 37, 136, 1, 0, 980, []), (71, .ireturn, 38, 0, 0, 0, 0, []), (72, .aload_n 0, 39, 0, 0, 0, 0, []), (73, .iload_n 1, 40, 1, 0, 0, 0, []), (74, .iload_n 2, 41, 2, 0, 0, 0, []), (75, .iload_n 3, 42, 3, 0, 0, 0, []), (76, .iload 4, 43, 4, 0, 0, 0, []), (78, .invokevirtual 251, 44, 193, 4, 0, 1213, []), (81, .istore 6, 45, 6, 0, 0, 0, []), (83, .iload 5, 46, 5, 0, 0, 0, []), (85, .iconst (-1), 47, 0, 0, -1, 0, []), (86, .if_icmp .ne 12, 48, 52, 0, 0, 0, [])]
def kM_leaders_3 : List dmA := [(89, .iload 6, 49, 6, 0, 0, 0, []), (91, .sipush 1000, 50, 0, 0, 1000, 0, []), (94, .idiv, 51, 0, 0, 0, 0, []), (95, .goto 29, 52, 65, 0, 0, 0, []), (98, .iload 5, 53, 5, 0, 0, 0, []), (100, .ifCond .ne 15, 54, 60, 0, 0, 0, []), (103, .iload 6, 55, 6, 0, 0, 0, []), (105, .sipush 1000, 56, 0, 0, 1000, 0, []), (108, .irem, 57, 0, 0, 0, 0, []), (109, .bipush 24, 58, 0, 0, 24, 0, []), (111, .idiv, 59, 0, 0, 0, 0, []), (112, .goto 12, 60, 65, 0, 0, 0, []), (115, .iload 6, 61, 6, 0, 0, 0, []), (117, .sipush 1000, 62, 0, 0, 1000, 0, []), (120, .irem, 63, 0, 0, 0, 0, []), (121, .bipush 24, 64, 0, 0, 24, 0, [])]
def kM_leaders_4 : List dmA := [(123, .irem, 65, 0, 0, 0, 0, []), (124, .ireturn, 66, 0, 0, 0, 0, [])]
def kM_leaders : List (List dmA) := [kM_leaders_0, kM_leaders_1, kM_leaders_2, kM_leaders_3, kM_leaders_4]
def mM_leaders : dmM := (⟨"WhichOneAllKnowModel", "leaders", "(IIIII)I"⟩, prog_8_method_61_code, 7, some (.int), kM_leaders, [1212, 1210, 1211, 84])
def kM_bestLeaders_0 : List dmA := [(0, .aload_n 0, 1, 0, 0, 0, 0, []), (1, .getfield 82, 2, 3, 6, 0, 888, []), (4, .istore 5, 3, 5, 0, 0, 0, []), (6, .iconst (-1), 4, 0, 0, -1, 0, []), (7, .istore 6, 5, 6, 0, 0, 0, []), (9, .iconst 0, 6, 0, 0, 0, 0, []), (10, .istore 7, 7, 7, 0, 0, 0, []), (12, .iconst 0, 8, 0, 0, 0, 0, []), (13, .istore 8, 9, 8, 0, 0, 0, []), (15, .iload 8, 10, 8, 0, 0, 0, []), (17, .bipush 24, 11, 0, 0, 24, 0, []), (19, .if_icmp .ge 136, 12, 77, 0, 0, 0, []), (22, .aload_n 0, 13, 0, 0, 0, 0, []), (23, .iload 8, 14, 8, 0, 0, 0, []), (25, .invokevirtual 92, 15, 152, 1, 0, 1043, []), (28, .ifCond .eq 6, 16, 17, 0, 0, 0, [])]
def kM_bestLeaders_1 : List dmA := [(31, .goto 118, 17, 75, 0, 0, 0, []), (34, .aload_n 0, 18, 0, 0, 0, 0, []), (35, .iload 8, 19, 8, 0, 0, 0, []), (37, .invokevirtual 243, 20, 194, 1, 0, 1217, []), (40, .iload 4, 21, 4, 0, 0, 0, []), (42, .iconst 1, 22, 0, 0, 1, 0, []), (43, .if_icmp .ne 8, 23, 25, 0, 0, 0, []), (46, .bipush 23, 24, 0, 0, 23, 0, []), (48, .goto 7, 25, 28, 0, 0, 0, []), (51, .iload 8, 26, 8, 0, 0, 0, []), (53, .iconst 1, 27, 0, 0, 1, 0, []), (54, .iadd, 28, 0, 0, 0, 0, []), (55, .istore 9, 29, 9, 0, 0, 0, []), (57, .iload 9, 30, 9, 0, 0, 0, []), (59, .bipush 24, 31, 0, 0, 24, 0, []), (61, .if_icmp .ge 82, 32, 72, 0, 0, 0, [])]
def kM_bestLeaders_2 : List dmA := [(64, .iload 4, 33, 4, 0, 0, 0, []), (66, .iconst 2, 34, 0, 0, 2, 0, []), (67, .if_icmp .ne 15, 35, 40, 0, 0, 0, []), (70, .aload_n 0, 36, 0, 0, 0, 0, []), (71, .iload 9, 37, 9, 0, 0, 0, []), (73, .invokevirtual 92, 38, 152, 1, 0, 1043, []), (76, .ifCond .eq 6, 39, 40, 0, 0, 0, []), (79, .goto 58, 40, 70, 0, 0, 0, []), (82, .iload 4, 41, 4, 0, 0, 0, []), (84, .iconst 2, 42, 0, 0, 2, 0, []), (85, .if_icmp .ne 9, 43, 46, 0, 0, 0, []), (88, .aload_n 0, 44, 0, 0, 0, 0, []), (89, .iload 9, 45, 9, 0, 0, 0, []), (91, .invokevirtual 243, 46, 194, 1, 0, 1217, []), (94, .aload_n 0, 47, 0, 0, 0, 0, []), (95, .iload_n 1, 48, 1, 0, 0, 0, [])]
def kM_bestLeaders_3 : List dmA := [(96, .iload_n 2, 49, 2, 0, 0, 0, []), (97, .iload_n 3, 50, 3, 0, 0, 0, []), (98, .iload 5, 51, 5, 0, 0, 0, []), (100, .invokevirtual 247, 52, 195, 4, 0, 1221, []), (103, .istore 10, 53, 10, 0, 0, 0, []), (105, .aload_n 0, 54, 0, 0, 0, 0, []), (106, .iload 5, 55, 5, 0, 0, 0, []), (108, .iconst 1, 56, 0, 0, 1, 0, []), (109, .iadd, 57, 0, 0, 0, 0, []), (110, .putfield 82, 58, 3, 6, 0, 888, []), (113, .iload 10, 59, 10, 0, 0, 0, []), (115, .iload 6, 60, 6, 0, 0, 0, []), (117, .if_icmp .gt 6, 61, 62, 0, 0, 0, []), (120, .goto 17, 62, 70, 0, 0, 0, []), (123, .iload 10, 63, 10, 0, 0, 0, []), (125, .istore 6, 64, 6, 0, 0, 0, [])]
def kM_bestLeaders_4 : List dmA := [(127, .bipush 24, 65, 0, 0, 24, 0, []), (129, .iload 8, 66, 8, 0, 0, 0, []), (131, .imul, 67, 0, 0, 0, 0, []), (132, .iload 9, 68, 9, 0, 0, 0, []), (134, .iadd, 69, 0, 0, 0, 0, []), (135, .istore 7, 70, 7, 0, 0, 0, []), (137, .iinc 9 1, 71, 9, 0, 1, 0, []), (140, .goto (-83), 72, 29, 0, 0, 0, []), (143, .aload_n 0, 73, 0, 0, 0, 0, []), (144, .iload 5, 74, 5, 0, 0, 0, []), (146, .putfield 82, 75, 3, 6, 0, 888, []), (149, .iinc 8 1, 76, 8, 0, 1, 0, []), (152, .goto (-137), 77, 9, 0, 0, 0, []), (155, .sipush 1000, 78, 0, 0, 1000, 0, []), (158, .iload 6, 79, 6, 0, 0, 0, []), (160, .imul, 80, 0, 0, 0, 0, [])]
def kM_bestLeaders_5 : List dmA := [(161, .iload 7, 81, 7, 0, 0, 0, []), (163, .iadd, 82, 0, 0, 0, 0, []), (164, .ireturn, 83, 0, 0, 0, 0, [])]
def kM_bestLeaders : List (List dmA) := [kM_bestLeaders_0, kM_bestLeaders_1, kM_bestLeaders_2, kM_bestLeaders_3, kM_bestLeaders_4, kM_bestLeaders_5]
def mM_bestLeaders : dmM := (⟨"WhichOneAllKnowModel", "bestLeaders", "(IIII)I"⟩, prog_8_method_60_code, 11, some (.int), kM_bestLeaders, [1216, 1215, 59, 84])
def kM_leads_0 : List dmA := [(0, .aload_n 0, 1, 0, 0, 0, 0, []), (1, .iconst 1, 2, 0, 0, 1, 0, []), (2, .iconst 0, 3, 0, 0, 0, 0, []), (3, .iload_n 1, 4, 1, 0, 0, 0, []), (4, .iconst 5, 5, 0, 0, 5, 0, []), (5, .bipush 11, 6, 0, 0, 11, 0, []), (7, .invokevirtual 123, 7, 153, 5, 0, 1047, []), (10, .pop, 8, 0, 0, 0, 0, []), (11, .aload_n 0, 9, 0, 0, 0, 0, []), (12, .getfield 35, 10, 9, 6, 1, 894, []), (15, .aload_n 0, 11, 0, 0, 0, 0, []), (16, .getfield 82, 12, 3, 6, 0, 888, []), (19, .iconst 1, 13, 0, 0, 1, 0, []), (20, .isub, 14, 0, 0, 0, 0, []), (21, .iconst 1, 15, 0, 0, 1, 0, []), (22, .aload_n 0, 16, 0, 0, 0, 0, [])]
def kM_leads_1 : List dmA := [(23, .getfield 89, 17, 10, 6, 0, 895, []), (26, .ishl, 18, 0, 0, 0, 0, []), (27, .iconst 1, 19, 0, 0, 1, 0, []), (28, .isub, 20, 0, 0, 0, 0, []), (29, .iastore, 21, 0, 0, 0, 0, []), (30, .return_, 22, 0, 0, 0, 0, [])]
def kM_leads : List (List dmA) := [kM_leads_0, kM_leads_1]
def mM_leads : dmM := (⟨"WhichOneAllKnowModel", "leads", "(I)V"⟩, prog_8_method_58_code, 2, none, kM_leads, [1220, 1219, 60, 84])
def kM_ledAt_0 : List dmA := [(0, .aload_n 0, 1, 0, 0, 0, 0, []), (1, .iload_n 1, 2, 1, 0, 0, 0, []), (2, .iload_n 2, 3, 2, 0, 0, 0, []), (3, .iload_n 3, 4, 3, 0, 0, 0, []), (4, .invokevirtual 236, 5, 189, 3, 0, 1197, []), (7, .iconst 1, 6, 0, 0, 1, 0, []), (8, .iload 4, 7, 4, 0, 0, 0, []), (10, .ishl, 8, 0, 0, 0, 0, []), (11, .iconst 1, 9, 0, 0, 1, 0, []), (12, .isub, 10, 0, 0, 0, 0, []), (13, .iand, 11, 0, 0, 0, 0, []), (14, .invokestatic 112, 12, 28, 1, 0, 1026, [1]), (17, .ireturn, 13, 0, 0, 0, 0, [])]
def kM_ledAt : List (List dmA) := [kM_ledAt_0]
def mM_ledAt : dmM := (⟨"WhichOneAllKnowModel", "ledAt", "(IIII)I"⟩, prog_8_method_59_code, 5, some (.int), kM_ledAt, [1224, 1223, 61, 84])
def kM_taught_0 : List dmA := [(0, .aload_n 0, 1, 0, 0, 0, 0, []), (1, .iload_n 1, 2, 1, 0, 0, 0, []), (2, .invokevirtual 127, 3, 155, 1, 0, 1055, []), (5, .ifCond .ne 9, 4, 8, 0, 0, 0, []), (8, .aload_n 0, 5, 0, 0, 0, 0, []), (9, .iconst (-1), 6, 0, 0, -1, 0, []), (10, .invokevirtual 227, 7, 183, 1, 0, 1173, []), (13, .ireturn, 8, 0, 0, 0, 0, []), (14, .iload_n 2, 9, 2, 0, 0, 0, []), (15, .invokestatic 215, 10, 172, 1, 0, 1130, [1]), (18, .ifCond .ne 10, 11, 15, 0, 0, 0, []), (21, .aload_n 0, 12, 0, 0, 0, 0, []), (22, .bipush (-6), 13, 0, 0, -6, 0, []), (24, .invokevirtual 227, 14, 183, 1, 0, 1173, []), (27, .ireturn, 15, 0, 0, 0, 0, []), (28, .iconst (-1), 16, 0, 0, -1, 0, [])]
def kM_taught_1 : List dmA := [(29, .istore_n 3, 17, 3, 0, 0, 0, []), (30, .iconst 0, 18, 0, 0, 0, 0, []), (31, .istore 4, 19, 4, 0, 0, 0, []), (33, .iload 4, 20, 4, 0, 0, 0, []), (35, .iconst 1, 21, 0, 0, 1, 0, []), (36, .aload_n 0, 22, 0, 0, 0, 0, []), (37, .getfield 82, 23, 3, 6, 0, 888, []), (40, .ishl, 24, 0, 0, 0, 0, []), (41, .if_icmp .ge 170, 25, 114, 0, 0, 0, []), (44, .iload 4, 26, 4, 0, 0, 0, []), (46, .invokestatic 112, 27, 28, 1, 0, 1026, [1]), (49, .iconst 3, 28, 0, 0, 3, 0, []), (50, .if_icmp .gt 155, 29, 112, 0, 0, 0, []), (53, .iload_n 3, 30, 3, 0, 0, 0, []), (54, .iconst (-1), 31, 0, 0, -1, 0, []), (55, .if_icmp .eq 18, 32, 38, 0, 0, 0, [])]
def kM_taught_2 : List dmA := [(58, .iload 4, 33, 4, 0, 0, 0, []), (60, .invokestatic 112, 34, 28, 1, 0, 1026, [1]), (63, .iload_n 3, 35, 3, 0, 0, 0, []), (64, .invokestatic 112, 36, 28, 1, 0, 1026, [1]), (67, .if_icmp .lt 6, 37, 38, 0, 0, 0, []), (70, .goto 135, 38, 112, 0, 0, 0, []), (73, .iconst 0, 39, 0, 0, 0, 0, []), (74, .istore 5, 40, 5, 0, 0, 0, []), (76, .iconst 0, 41, 0, 0, 0, 0, []), (77, .istore 6, 42, 6, 0, 0, 0, []), (79, .iload 6, 43, 6, 0, 0, 0, []), (81, .aload_n 0, 44, 0, 0, 0, 0, []), (82, .getfield 82, 45, 3, 6, 0, 888, []), (85, .if_icmp .ge 54, 46, 76, 0, 0, 0, []), (88, .iload 4, 47, 4, 0, 0, 0, []), (90, .iload 6, 48, 6, 0, 0, 0, [])]
def kM_taught_3 : List dmA := [(92, .invokestatic 187, 49, 178, 2, 0, 1152, [1]), (95, .ifCond .ne 6, 50, 51, 0, 0, 0, []), (98, .goto 35, 51, 74, 0, 0, 0, []), (101, .iload 5, 52, 5, 0, 0, 0, []), (103, .aload_n 0, 53, 0, 0, 0, 0, []), (104, .getfield 35, 54, 9, 6, 1, 894, []), (107, .iload 6, 55, 6, 0, 0, 0, []), (109, .iaload, 56, 0, 0, 0, 0, []), (110, .iload_n 1, 57, 1, 0, 0, 0, []), (111, .ishr, 58, 0, 0, 0, 0, []), (112, .iconst 1, 59, 0, 0, 1, 0, []), (113, .iand, 60, 0, 0, 0, 0, []), (114, .iload 6, 61, 6, 0, 0, 0, []), (116, .ishl, 62, 0, 0, 0, 0, []), (117, .ior, 63, 0, 0, 0, 0, []), (118, .istore 5, 64, 5, 0, 0, 0, [])]
def kM_taught_4 : List dmA := [(120, .aload_n 0, 65, 0, 0, 0, 0, []), (121, .getfield 35, 66, 9, 6, 1, 894, []), (124, .iload 6, 67, 6, 0, 0, 0, []), (126, .dup2, 68, 0, 0, 0, 0, []), (127, .iaload, 69, 0, 0, 0, 0, []), (128, .iconst 1, 70, 0, 0, 1, 0, []), (129, .iload_n 1, 71, 1, 0, 0, 0, []), (130, .ishl, 72, 0, 0, 0, 0, []), (131, .ior, 73, 0, 0, 0, 0, []), (132, .iastore, 74, 0, 0, 0, 0, []), (133, .iinc 6 1, 75, 6, 0, 1, 0, []), (136, .goto (-57), 76, 42, 0, 0, 0, []), (139, .aload_n 0, 77, 0, 0, 0, 0, []), (140, .iload_n 1, 78, 1, 0, 0, 0, []), (141, .iload_n 2, 79, 2, 0, 0, 0, []), (142, .invokevirtual 230, 80, 184, 2, 0, 1177, [])]
def kM_taught_5 : List dmA := [(145, .iconst (-1), 81, 0, 0, -1, 0, []), (146, .if_icmp .eq 6, 82, 84, 0, 0, 0, []), (149, .iload 4, 83, 4, 0, 0, 0, []), (151, .istore_n 3, 84, 3, 0, 0, 0, []), (152, .iconst 0, 85, 0, 0, 0, 0, []), (153, .istore 6, 86, 6, 0, 0, 0, []), (155, .iload 6, 87, 6, 0, 0, 0, []), (157, .aload_n 0, 88, 0, 0, 0, 0, []), (158, .getfield 82, 89, 3, 6, 0, 888, []), (161, .if_icmp .ge 44, 90, 112, 0, 0, 0, []), (164, .iload 4, 91, 4, 0, 0, 0, []), (166, .iload 6, 92, 6, 0, 0, 0, []), (168, .invokestatic 187, 93, 178, 2, 0, 1152, [1]), (171, .ifCond .eq 28, 94, 110, 0, 0, 0, []), (174, .iload 5, 95, 5, 0, 0, 0, []), (176, .iload 6, 96, 6, 0, 0, 0, [])]
def kM_taught_6 : List dmA := [(178, .invokestatic 187, 97, 178, 2, 0, 1152, [1]), (181, .ifCond .ne 18, 98, 110, 0, 0, 0, []), (184, .aload_n 0, 99, 0, 0, 0, 0, []), (185, .getfield 35, 100, 9, 6, 1, 894, []), (188, .iload 6, 101, 6, 0, 0, 0, []), (190, .dup2, 102, 0, 0, 0, 0, []), (191, .iaload, 103, 0, 0, 0, 0, []), (192, .iconst 1, 104, 0, 0, 1, 0, []), (193, .iload_n 1, 105, 1, 0, 0, 0, []), (194, .ishl, 106, 0, 0, 0, 0, []), (195, .iconst (-1), 107, 0, 0, -1, 0, []), (196, .ixor, 108, 0, 0, 0, 0, []), (197, .iand, 109, 0, 0, 0, 0, []), (198, .iastore, 110, 0, 0, 0, 0, []), (199, .iinc 6 1, 111, 6, 0, 1, 0, []), (202, .goto (-47), 112, 86, 0, 0, 0, [])]
def kM_taught_7 : List dmA := [(205, .iinc 4 1, 113, 4, 0, 1, 0, []), (208, .goto (-175), 114, 19, 0, 0, 0, []), (211, .iload_n 3, 115, 3, 0, 0, 0, []), (212, .ireturn, 116, 0, 0, 0, 0, [])]
def kM_taught : List (List dmA) := [kM_taught_0, kM_taught_1, kM_taught_2, kM_taught_3, kM_taught_4, kM_taught_5, kM_taught_6, kM_taught_7]
def mM_taught : dmM := (⟨"WhichOneAllKnowModel", "taught", "(II)I"⟩, prog_8_method_62_code, 7, some (.int), kM_taught, [1228, 1226, 1227, 84])
def kM_helps_0 : List dmA := [(0, .aload_n 0, 1, 0, 0, 0, 0, []), (1, .iload_n 1, 2, 1, 0, 0, 0, []), (2, .invokevirtual 102, 3, 143, 1, 0, 1008, []), (5, .ifCond .eq 11, 4, 8, 0, 0, 0, []), (8, .aload_n 0, 5, 0, 0, 0, 0, []), (9, .iload_n 2, 6, 2, 0, 0, 0, []), (10, .invokevirtual 127, 7, 155, 1, 0, 1055, []), (13, .ifCond .ne 12, 8, 14, 0, 0, 0, []), (16, .aload_n 0, 9, 0, 0, 0, 0, []), (17, .iconst (-1), 10, 0, 0, -1, 0, []), (18, .invokevirtual 78, 11, 136, 1, 0, 980, []), (21, .bipush 100, 12, 0, 0, 100, 0, []), (23, .isub, 13, 0, 0, 0, 0, []), (24, .ireturn, 14, 0, 0, 0, 0, []), (25, .iload_n 3, 15, 3, 0, 0, 0, []), (26, .invokestatic 215, 16, 172, 1, 0, 1130, [1])]
def kM_helps_1 : List dmA := [(29, .ifCond .eq 11, 17, 20, 0, 0, 0, []), (32, .iload 4, 18, 4, 0, 0, 0, []), (34, .invokestatic 218, 19, 173, 1, 0, 1133, [1]), (37, .ifCond .ne 13, 20, 26, 0, 0, 0, []), (40, .aload_n 0, 21, 0, 0, 0, 0, []), (41, .bipush (-6), 22, 0, 0, -6, 0, []), (43, .invokevirtual 78, 23, 136, 1, 0, 980, []), (46, .bipush 100, 24, 0, 0, 100, 0, []), (48, .isub, 25, 0, 0, 0, 0, []), (49, .ireturn, 26, 0, 0, 0, 0, []), (50, .aload_n 0, 27, 0, 0, 0, 0, []), (51, .iload_n 2, 28, 2, 0, 0, 0, []), (52, .iload_n 3, 29, 3, 0, 0, 0, []), (53, .iload 4, 30, 4, 0, 0, 0, []), (55, .invokevirtual 236, 31, 189, 3, 0, 1197, []), (58, .iconst 1, 32, 0, 0, 1, 0, [])]
def kM_helps_2 : List dmA := [(59, .iload_n 1, 33, 1, 0, 0, 0, []), (60, .ishl, 34, 0, 0, 0, 0, []), (61, .iconst (-1), 35, 0, 0, -1, 0, []), (62, .ixor, 36, 0, 0, 0, 0, []), (63, .iand, 37, 0, 0, 0, 0, []), (64, .invokestatic 112, 38, 28, 1, 0, 1026, [1]), (67, .istore 5, 39, 5, 0, 0, 0, []), (69, .aload_n 0, 40, 0, 0, 0, 0, []), (70, .iload_n 1, 41, 1, 0, 0, 0, []), (71, .putfield 75, 42, 28, 6, 0, 913, []), (74, .aload_n 0, 43, 0, 0, 0, 0, []), (75, .iload_n 2, 44, 2, 0, 0, 0, []), (76, .iload_n 3, 45, 3, 0, 0, 0, []), (77, .iload 4, 46, 4, 0, 0, 0, []), (79, .invokevirtual 240, 47, 188, 3, 0, 1193, []), (82, .istore 6, 48, 6, 0, 0, 0, [])]
def kM_helps_3 : List dmA := [(84, .aload_n 0, 49, 0, 0, 0, 0, []), (85, .iconst (-1), 50, 0, 0, -1, 0, []), (86, .putfield 75, 51, 28, 6, 0, 913, []), (89, .iload 5, 52, 5, 0, 0, 0, []), (91, .iload 6, 53, 6, 0, 0, 0, []), (93, .isub, 54, 0, 0, 0, 0, []), (94, .ireturn, 55, 0, 0, 0, 0, [])]
def kM_helps : List (List dmA) := [kM_helps_0, kM_helps_1, kM_helps_2, kM_helps_3]
def mM_helps : dmM := (⟨"WhichOneAllKnowModel", "helps", "(IIII)I"⟩, prog_8_method_63_code, 7, some (.int), kM_helps, [1232, 1230, 1231, 84])
def kM_late_0 : List dmA := [(0, .iload_n 1, 1, 1, 0, 0, 0, []), (1, .iconst 0, 2, 0, 0, 0, 0, []), (2, .bipush 99, 3, 0, 0, 99, 0, []), (4, .invokestatic 85, 4, 135, 3, 0, 977, [1]), (7, .ifCond .eq 13, 5, 10, 0, 0, 0, []), (10, .iload_n 2, 6, 2, 0, 0, 0, []), (11, .iconst (-1), 7, 0, 0, -1, 0, []), (12, .bipush 9, 8, 0, 0, 9, 0, []), (14, .invokestatic 85, 9, 135, 3, 0, 977, [1]), (17, .ifCond .ne 10, 10, 14, 0, 0, 0, []), (20, .aload_n 0, 11, 0, 0, 0, 0, []), (21, .bipush (-6), 12, 0, 0, -6, 0, []), (23, .invokevirtual 78, 13, 136, 1, 0, 980, []), (26, .ireturn, 14, 0, 0, 0, 0, []), (27, .iload_n 2, 15, 2, 0, 0, 0, []), (28, .iconst (-1), 16, 0, 0, -1, 0, [])]
def kM_late_1 : List dmA := [(29, .if_icmp .ne 12, 17, 22, 0, 0, 0, []), (32, .aload_n 0, 18, 0, 0, 0, 0, []), (33, .getfield 65, 19, 12, 6, 0, 897, []), (36, .iload_n 1, 20, 1, 0, 0, 0, []), (37, .imul, 21, 0, 0, 0, 0, []), (38, .goto 9, 22, 26, 0, 0, 0, []), (41, .aload_n 0, 23, 0, 0, 0, 0, []), (42, .iload_n 1, 24, 1, 0, 0, 0, []), (43, .iload_n 2, 25, 2, 0, 0, 0, []), (44, .invokevirtual 254, 26, 199, 2, 0, 1237, []), (47, .ireturn, 27, 0, 0, 0, 0, [])]
def kM_late : List (List dmA) := [kM_late_0, kM_late_1]
def mM_late : dmM := (⟨"WhichOneAllKnowModel", "late", "(II)I"⟩, prog_8_method_65_code, 3, some (.int), kM_late, [1236, 1234, 1235, 84])
def kM_lateBy_0 : List dmA := [(0, .iconst 0, 1, 0, 0, 0, 0, []), (1, .istore_n 3, 2, 3, 0, 0, 0, []), (2, .iconst 0, 3, 0, 0, 0, 0, []), (3, .istore 4, 4, 4, 0, 0, 0, []), (5, .iload 4, 5, 4, 0, 0, 0, []), (7, .iload_n 1, 6, 1, 0, 0, 0, []), (8, .if_icmp .ge 22, 7, 18, 0, 0, 0, []), (11, .iconst 0, 8, 0, 0, 0, 0, []), (12, .iload_n 3, 9, 3, 0, 0, 0, []), (13, .aload_n 0, 10, 0, 0, 0, 0, []), (14, .getfield 65, 11, 12, 6, 0, 897, []), (17, .iadd, 12, 0, 0, 0, 0, []), (18, .iload_n 2, 13, 2, 0, 0, 0, []), (19, .isub, 14, 0, 0, 0, 0, []), (20, .invokestatic 190, 15, 0, 2, 0, 1164, [4]), (23, .istore_n 3, 16, 3, 0, 0, 0, [])]
def kM_lateBy_1 : List dmA := [(24, .iinc 4 1, 17, 4, 0, 1, 0, []), (27, .goto (-22), 18, 4, 0, 0, 0, []), (30, .iload_n 3, 19, 3, 0, 0, 0, []), (31, .ireturn, 20, 0, 0, 0, 0, [])]
def kM_lateBy : List (List dmA) := [kM_lateBy_0, kM_lateBy_1]
def mM_lateBy : dmM := (⟨"WhichOneAllKnowModel", "lateBy", "(II)I"⟩, prog_8_method_64_code, 5, some (.int), kM_lateBy, [1240, 1239, 62, 84])
def kM_ahead_0 : List dmA := [(0, .iload_n 1, 1, 1, 0, 0, 0, []), (1, .iconst 0, 2, 0, 0, 0, 0, []), (2, .bipush 99, 3, 0, 0, 99, 0, []), (4, .invokestatic 85, 4, 135, 3, 0, 977, [1]), (7, .ifCond .eq 13, 5, 10, 0, 0, 0, []), (10, .iload_n 2, 6, 2, 0, 0, 0, []), (11, .iconst 0, 7, 0, 0, 0, 0, []), (12, .bipush 99, 8, 0, 0, 99, 0, []), (14, .invokestatic 85, 9, 135, 3, 0, 977, [1]), (17, .ifCond .ne 10, 10, 14, 0, 0, 0, []), (20, .aload_n 0, 11, 0, 0, 0, 0, []), (21, .bipush (-6), 12, 0, 0, -6, 0, []), (23, .invokevirtual 227, 13, 183, 1, 0, 1173, []), (26, .ireturn, 14, 0, 0, 0, 0, []), (27, .iconst 0, 15, 0, 0, 0, 0, []), (28, .istore_n 3, 16, 3, 0, 0, 0, [])]
def kM_ahead_1 : List dmA := [(29, .iload_n 3, 17, 3, 0, 0, 0, []), (30, .bipush 10, 18, 0, 0, 10, 0, []), (32, .if_icmp .ge 21, 19, 29, 0, 0, 0, []), (35, .aload_n 0, 20, 0, 0, 0, 0, []), (36, .iload_n 1, 21, 1, 0, 0, 0, []), (37, .iload_n 3, 22, 3, 0, 0, 0, []), (38, .invokevirtual 254, 23, 199, 2, 0, 1237, []), (41, .iload_n 2, 24, 2, 0, 0, 0, []), (42, .if_icmp .gt 5, 25, 27, 0, 0, 0, []), (45, .iload_n 3, 26, 3, 0, 0, 0, []), (46, .ireturn, 27, 0, 0, 0, 0, []), (47, .iinc 3 1, 28, 3, 0, 1, 0, []), (50, .goto (-21), 29, 16, 0, 0, 0, []), (53, .iconst (-1), 30, 0, 0, -1, 0, []), (54, .ireturn, 31, 0, 0, 0, 0, [])]
def kM_ahead : List (List dmA) := [kM_ahead_0, kM_ahead_1]
def mM_ahead : dmM := (⟨"WhichOneAllKnowModel", "ahead", "(II)I"⟩, prog_8_method_66_code, 4, some (.int), kM_ahead, [1244, 1242, 1243, 84])
def kM_fits_0 : List dmA := [(0, .aload_n 0, 1, 0, 0, 0, 0, []), (1, .iload_n 1, 2, 1, 0, 0, 0, []), (2, .iload_n 2, 3, 2, 0, 0, 0, []), (3, .iconst 1, 4, 0, 0, 1, 0, []), (4, .iload_n 3, 5, 3, 0, 0, 0, []), (5, .invokevirtual 260, 6, 202, 4, 0, 1249, []), (8, .istore 4, 7, 4, 0, 0, 0, []), (10, .iload 4, 8, 4, 0, 0, 0, []), (12, .ifCond .ge 10, 9, 13, 0, 0, 0, []), (15, .aload_n 0, 10, 0, 0, 0, 0, []), (16, .iload 4, 11, 4, 0, 0, 0, []), (18, .invokevirtual 78, 12, 136, 1, 0, 980, []), (21, .ireturn, 13, 0, 0, 0, 0, []), (22, .iconst 0, 14, 0, 0, 0, 0, []), (23, .istore 5, 15, 5, 0, 0, 0, []), (25, .iconst 0, 16, 0, 0, 0, 0, [])]
def kM_fits_1 : List dmA := [(26, .istore 6, 17, 6, 0, 0, 0, []), (28, .iload 6, 18, 6, 0, 0, 0, []), (30, .aload_n 0, 19, 0, 0, 0, 0, []), (31, .getfield 89, 20, 10, 6, 0, 895, []), (34, .if_icmp .ge 30, 21, 36, 0, 0, 0, []), (37, .aload_n 0, 22, 0, 0, 0, 0, []), (38, .iload_n 1, 23, 1, 0, 0, 0, []), (39, .iload_n 2, 24, 2, 0, 0, 0, []), (40, .iload 6, 25, 6, 0, 0, 0, []), (42, .iload_n 3, 26, 3, 0, 0, 0, []), (43, .invokevirtual 263, 27, 203, 4, 0, 1253, []), (46, .ifCond .eq 12, 28, 34, 0, 0, 0, []), (49, .iload 5, 29, 5, 0, 0, 0, []), (51, .iconst 1, 30, 0, 0, 1, 0, []), (52, .iload 6, 31, 6, 0, 0, 0, []), (54, .ishl, 32, 0, 0, 0, 0, [])]
def kM_fits_2 : List dmA := [(55, .ior, 33, 0, 0, 0, 0, []), (56, .istore 5, 34, 5, 0, 0, 0, []), (58, .iinc 6 1, 35, 6, 0, 1, 0, []), (61, .goto (-33), 36, 17, 0, 0, 0, []), (64, .iload 5, 37, 5, 0, 0, 0, []), (66, .ireturn, 38, 0, 0, 0, 0, [])]
def kM_fits : List (List dmA) := [kM_fits_0, kM_fits_1, kM_fits_2]
def mM_fits : dmM := (⟨"WhichOneAllKnowModel", "fits", "(III)I"⟩, prog_8_method_70_code, 7, some (.int), kM_fits, [1248, 1246, 1247, 84])
def kM_noTold_0 : List dmA := [(0, .aload_n 0, 1, 0, 0, 0, 0, []), (1, .iload_n 1, 2, 1, 0, 0, 0, []), (2, .invokevirtual 99, 3, 138, 1, 0, 988, []), (5, .istore 5, 4, 5, 0, 0, 0, []), (7, .iload 5, 5, 5, 0, 0, 0, []), (9, .ifCond .ge 6, 6, 8, 0, 0, 0, []), (12, .iload 5, 7, 5, 0, 0, 0, []), (14, .ireturn, 8, 0, 0, 0, 0, []), (15, .iload_n 2, 9, 2, 0, 0, 0, []), (16, .ifCond .ge 6, 10, 12, 0, 0, 0, []), (19, .bipush (-4), 11, 0, 0, -4, 0, []), (21, .ireturn, 12, 0, 0, 0, 0, []), (22, .iload_n 2, 13, 2, 0, 0, 0, []), (23, .aload_n 0, 14, 0, 0, 0, 0, []), (24, .getfield 13, 15, 1, 6, 1, 886, []), (27, .iload_n 1, 16, 1, 0, 0, 0, [])]
def kM_noTold_1 : List dmA := [(28, .iaload, 17, 0, 0, 0, 0, []), (29, .if_icmp .le 6, 18, 20, 0, 0, 0, []), (32, .bipush (-5), 19, 0, 0, -5, 0, []), (34, .ireturn, 20, 0, 0, 0, 0, []), (35, .iload_n 2, 21, 2, 0, 0, 0, []), (36, .iload_n 3, 22, 3, 0, 0, 0, []), (37, .bipush 40, 23, 0, 0, 40, 0, []), (39, .invokestatic 85, 24, 135, 3, 0, 977, [1]), (42, .ifCond .eq 15, 25, 30, 0, 0, 0, []), (45, .iload 4, 26, 4, 0, 0, 0, []), (47, .invokestatic 215, 27, 172, 1, 0, 1130, [1]), (50, .ifCond .eq 7, 28, 30, 0, 0, 0, []), (53, .iconst 0, 29, 0, 0, 0, 0, []), (54, .goto 5, 30, 31, 0, 0, 0, []), (57, .bipush (-6), 31, 0, 0, -6, 0, []), (59, .ireturn, 32, 0, 0, 0, 0, [])]
def kM_noTold : List (List dmA) := [kM_noTold_0, kM_noTold_1]
def mM_noTold : dmM := (⟨"WhichOneAllKnowModel", "noTold", "(IIII)I"⟩, prog_8_method_68_code, 6, some (.int), kM_noTold, [1252, 1251, 63, 84])
def kM_isFit_0 : List dmA := [(0, .aload_n 0, 1, 0, 0, 0, 0, []), (1, .iload_n 3, 2, 3, 0, 0, 0, []), (2, .iload 4, 3, 4, 0, 0, 0, []), (4, .iload_n 2, 4, 2, 0, 0, 0, []), (5, .iconst 1, 5, 0, 0, 1, 0, []), (6, .isub, 6, 0, 0, 0, 0, []), (7, .invokevirtual 221, 7, 174, 3, 0, 1136, []), (10, .iconst 0, 8, 0, 0, 0, 0, []), (11, .istore 5, 9, 5, 0, 0, 0, []), (13, .iload 5, 10, 5, 0, 0, 0, []), (15, .iload_n 2, 11, 2, 0, 0, 0, []), (16, .if_icmp .ge 39, 12, 31, 0, 0, 0, []), (19, .aload_n 0, 13, 0, 0, 0, 0, []), (20, .iload_n 1, 14, 1, 0, 0, 0, []), (21, .iload 5, 15, 5, 0, 0, 0, []), (23, .invokevirtual 257, 16, 204, 2, 0, 1257, [])]
def kM_isFit_1 : List dmA := [(26, .aload_n 0, 17, 0, 0, 0, 0, []), (27, .getfield 56, 18, 25, 6, 1, 910, []), (30, .iload 5, 19, 5, 0, 0, 0, []), (32, .iaload, 20, 0, 0, 0, 0, []), (33, .aload_n 0, 21, 0, 0, 0, 0, []), (34, .getfield 59, 22, 26, 6, 1, 911, []), (37, .iload 5, 23, 5, 0, 0, 0, []), (39, .iaload, 24, 0, 0, 0, 0, []), (40, .ior, 25, 0, 0, 0, 0, []), (41, .invokestatic 112, 26, 28, 1, 0, 1026, [1]), (44, .if_icmp .eq 5, 27, 29, 0, 0, 0, []), (47, .iconst 0, 28, 0, 0, 0, 0, []), (48, .ireturn, 29, 0, 0, 0, 0, []), (49, .iinc 5 1, 30, 5, 0, 1, 0, []), (52, .goto (-39), 31, 9, 0, 0, 0, []), (55, .iconst 1, 32, 0, 0, 1, 0, [])]
def kM_isFit_2 : List dmA := [(56, .ireturn, 33, 0, 0, 0, 0, [])]
def kM_isFit : List (List dmA) := [kM_isFit_0, kM_isFit_1, kM_isFit_2]
def mM_isFit : dmM := (⟨"WhichOneAllKnowModel", "isFit", "(IIII)Z"⟩, prog_8_method_69_code, 6, some (.boolean), kM_isFit, [1256, 1255, 64, 84])
def kM_toldAt_0 : List dmA := [(0, .aload_n 0, 1, 0, 0, 0, 0, []), (1, .getfield 16, 2, 2, 6, 1, 887, []), (4, .sipush 160, 3, 0, 0, 160, 0, []), (7, .iload_n 1, 4, 1, 0, 0, 0, []), (8, .imul, 5, 0, 0, 0, 0, []), (9, .iload_n 2, 6, 2, 0, 0, 0, []), (10, .iadd, 7, 0, 0, 0, 0, []), (11, .laload, 8, 0, 0, 0, 0, []), (12, .l2i, 9, 0, 0, 0, 0, []), (13, .ireturn, 10, 0, 0, 0, 0, [])]
def kM_toldAt : List (List dmA) := [kM_toldAt_0]
def mM_toldAt : dmM := (⟨"WhichOneAllKnowModel", "toldAt", "(II)I"⟩, prog_8_method_67_code, 3, some (.int), kM_toldAt, [1260, 1259, 65, 84])
def kM_changed_0 : List dmA := [(0, .iload_n 1, 1, 1, 0, 0, 0, []), (1, .iconst 0, 2, 0, 0, 0, 0, []), (2, .bipush 7, 3, 0, 0, 7, 0, []), (4, .invokestatic 85, 4, 135, 3, 0, 977, [1]), (7, .ifCond .eq 11, 5, 9, 0, 0, 0, []), (10, .aload_n 0, 6, 0, 0, 0, 0, []), (11, .iload_n 3, 7, 3, 0, 0, 0, []), (12, .invokevirtual 127, 8, 155, 1, 0, 1055, []), (15, .ifCond .ne 9, 9, 13, 0, 0, 0, []), (18, .aload_n 0, 10, 0, 0, 0, 0, []), (19, .iconst (-1), 11, 0, 0, -1, 0, []), (20, .invokevirtual 227, 12, 183, 1, 0, 1173, []), (23, .ireturn, 13, 0, 0, 0, 0, []), (24, .aload_n 0, 14, 0, 0, 0, 0, []), (25, .iload_n 1, 15, 1, 0, 0, 0, []), (26, .iload_n 2, 16, 2, 0, 0, 0, [])]
def kM_changed_1 : List dmA := [(27, .iconst 1, 17, 0, 0, 1, 0, []), (28, .iload 4, 18, 4, 0, 0, 0, []), (30, .invokevirtual 260, 19, 202, 4, 0, 1249, []), (33, .istore 5, 20, 5, 0, 0, 0, []), (35, .iload 5, 21, 5, 0, 0, 0, []), (37, .ifCond .ge 10, 22, 26, 0, 0, 0, []), (40, .aload_n 0, 23, 0, 0, 0, 0, []), (41, .iload 5, 24, 5, 0, 0, 0, []), (43, .invokevirtual 227, 25, 183, 1, 0, 1173, []), (46, .ireturn, 26, 0, 0, 0, 0, []), (47, .iconst 0, 27, 0, 0, 0, 0, []), (48, .istore 6, 28, 6, 0, 0, 0, []), (50, .iload 6, 29, 6, 0, 0, 0, []), (52, .aload_n 0, 30, 0, 0, 0, 0, []), (53, .getfield 82, 31, 3, 6, 0, 888, []), (56, .if_icmp .ge 71, 32, 67, 0, 0, 0, [])]
def kM_changed_2 : List dmA := [(59, .iload 6, 33, 6, 0, 0, 0, []), (61, .iconst 1, 34, 0, 0, 1, 0, []), (62, .iadd, 35, 0, 0, 0, 0, []), (63, .istore 7, 36, 7, 0, 0, 0, []), (65, .iload 7, 37, 7, 0, 0, 0, []), (67, .aload_n 0, 38, 0, 0, 0, 0, []), (68, .getfield 82, 39, 3, 6, 0, 888, []), (71, .if_icmp .ge 50, 40, 65, 0, 0, 0, []), (74, .aload_n 0, 41, 0, 0, 0, 0, []), (75, .iload 6, 42, 6, 0, 0, 0, []), (77, .iload 7, 43, 7, 0, 0, 0, []), (79, .invokevirtual 267, 44, 206, 2, 0, 1265, []), (82, .aload_n 0, 45, 0, 0, 0, 0, []), (83, .iload_n 1, 46, 1, 0, 0, 0, []), (84, .iload_n 2, 47, 2, 0, 0, 0, []), (85, .iload_n 3, 48, 3, 0, 0, 0, [])]
def kM_changed_3 : List dmA := [(86, .iload 4, 49, 4, 0, 0, 0, []), (88, .invokevirtual 263, 50, 203, 4, 0, 1253, []), (91, .istore 8, 51, 8, 0, 0, 0, []), (93, .aload_n 0, 52, 0, 0, 0, 0, []), (94, .iload 6, 53, 6, 0, 0, 0, []), (96, .iload 7, 54, 7, 0, 0, 0, []), (98, .invokevirtual 267, 55, 206, 2, 0, 1265, []), (101, .iload 8, 56, 8, 0, 0, 0, []), (103, .ifCond .eq 12, 57, 63, 0, 0, 0, []), (106, .bipush 20, 58, 0, 0, 20, 0, []), (108, .iload 6, 59, 6, 0, 0, 0, []), (110, .imul, 60, 0, 0, 0, 0, []), (111, .iload 7, 61, 7, 0, 0, 0, []), (113, .iadd, 62, 0, 0, 0, 0, []), (114, .ireturn, 63, 0, 0, 0, 0, []), (115, .iinc 7 1, 64, 7, 0, 1, 0, [])]
def kM_changed_4 : List dmA := [(118, .goto (-53), 65, 36, 0, 0, 0, []), (121, .iinc 6 1, 66, 6, 0, 1, 0, []), (124, .goto (-74), 67, 28, 0, 0, 0, []), (127, .iconst (-1), 68, 0, 0, -1, 0, []), (128, .ireturn, 69, 0, 0, 0, 0, [])]
def kM_changed : List (List dmA) := [kM_changed_0, kM_changed_1, kM_changed_2, kM_changed_3, kM_changed_4]
def mM_changed : dmM := (⟨"WhichOneAllKnowModel", "changed", "(IIII)I"⟩, prog_8_method_72_code, 9, some (.int), kM_changed, [1264, 1262, 1263, 84])
def kM_change_0 : List dmA := [(0, .aload_n 0, 1, 0, 0, 0, 0, []), (1, .getfield 26, 2, 6, 6, 1, 891, []), (4, .iload_n 1, 3, 1, 0, 0, 0, []), (5, .iaload, 4, 0, 0, 0, 0, []), (6, .istore_n 3, 5, 3, 0, 0, 0, []), (7, .aload_n 0, 6, 0, 0, 0, 0, []), (8, .getfield 26, 7, 6, 6, 1, 891, []), (11, .iload_n 1, 8, 1, 0, 0, 0, []), (12, .aload_n 0, 9, 0, 0, 0, 0, []), (13, .getfield 26, 10, 6, 6, 1, 891, []), (16, .iload_n 2, 11, 2, 0, 0, 0, []), (17, .iaload, 12, 0, 0, 0, 0, []), (18, .iastore, 13, 0, 0, 0, 0, []), (19, .aload_n 0, 14, 0, 0, 0, 0, []), (20, .getfield 26, 15, 6, 6, 1, 891, []), (23, .iload_n 2, 16, 2, 0, 0, 0, [])]
def kM_change_1 : List dmA := [(24, .iload_n 3, 17, 3, 0, 0, 0, []), (25, .iastore, 18, 0, 0, 0, 0, []), (26, .return_, 19, 0, 0, 0, 0, [])]
def kM_change : List (List dmA) := [kM_change_0, kM_change_1]
def mM_change : dmM := (⟨"WhichOneAllKnowModel", "change", "(II)V"⟩, prog_8_method_71_code, 4, none, kM_change, [1268, 1267, 66, 84])
def kM_known_0 : List dmA := [(0, .iload_n 2, 1, 2, 0, 0, 0, []), (1, .ifCond .ne 29, 2, 16, 0, 0, 0, []), (4, .aload_n 0, 3, 0, 0, 0, 0, []), (5, .iload_n 1, 4, 1, 0, 0, 0, []), (6, .invokevirtual 102, 5, 143, 1, 0, 1008, []), (9, .ifCond .eq 15, 6, 12, 0, 0, 0, []), (12, .aload_n 0, 7, 0, 0, 0, 0, []), (13, .getfield 35, 8, 9, 6, 1, 894, []), (16, .iload_n 1, 9, 1, 0, 0, 0, []), (17, .iaload, 10, 0, 0, 0, 0, []), (18, .invokestatic 112, 11, 28, 1, 0, 1026, [1]), (21, .goto 8, 12, 15, 0, 0, 0, []), (24, .aload_n 0, 13, 0, 0, 0, 0, []), (25, .iconst (-1), 14, 0, 0, -1, 0, []), (26, .invokevirtual 78, 15, 136, 1, 0, 980, []), (29, .ireturn, 16, 0, 0, 0, 0, [])]
def kM_known_1 : List dmA := [(30, .iload_n 2, 17, 2, 0, 0, 0, []), (31, .iconst 1, 18, 0, 0, 1, 0, []), (32, .if_icmp .ne 8, 19, 22, 0, 0, 0, []), (35, .aload_n 0, 20, 0, 0, 0, 0, []), (36, .invokevirtual 271, 21, 208, 0, 0, 1273, []), (39, .ireturn, 22, 0, 0, 0, 0, []), (40, .iload_n 2, 23, 2, 0, 0, 0, []), (41, .iconst 2, 24, 0, 0, 2, 0, []), (42, .if_icmp .ne 42, 25, 49, 0, 0, 0, []), (45, .iconst 1, 26, 0, 0, 1, 0, []), (46, .aload_n 0, 27, 0, 0, 0, 0, []), (47, .getfield 89, 28, 10, 6, 0, 895, []), (50, .ishl, 29, 0, 0, 0, 0, []), (51, .iconst 1, 30, 0, 0, 1, 0, []), (52, .isub, 31, 0, 0, 0, 0, []), (53, .istore_n 3, 32, 3, 0, 0, 0, [])]
def kM_known_2 : List dmA := [(54, .iconst 0, 33, 0, 0, 0, 0, []), (55, .istore 4, 34, 4, 0, 0, 0, []), (57, .iload 4, 35, 4, 0, 0, 0, []), (59, .aload_n 0, 36, 0, 0, 0, 0, []), (60, .getfield 82, 37, 3, 6, 0, 888, []), (63, .if_icmp .ge 19, 38, 47, 0, 0, 0, []), (66, .iload_n 3, 39, 3, 0, 0, 0, []), (67, .aload_n 0, 40, 0, 0, 0, 0, []), (68, .getfield 35, 41, 9, 6, 1, 894, []), (71, .iload 4, 42, 4, 0, 0, 0, []), (73, .iaload, 43, 0, 0, 0, 0, []), (74, .iand, 44, 0, 0, 0, 0, []), (75, .istore_n 3, 45, 3, 0, 0, 0, []), (76, .iinc 4 1, 46, 4, 0, 1, 0, []), (79, .goto (-22), 47, 34, 0, 0, 0, []), (82, .iload_n 3, 48, 3, 0, 0, 0, [])]
def kM_known_3 : List dmA := [(83, .ireturn, 49, 0, 0, 0, 0, []), (84, .iload_n 2, 50, 2, 0, 0, 0, []), (85, .iconst 3, 51, 0, 0, 3, 0, []), (86, .if_icmp .ne 17, 52, 58, 0, 0, 0, []), (89, .aload_n 0, 53, 0, 0, 0, 0, []), (90, .getfield 82, 54, 3, 6, 0, 888, []), (93, .ifCond .le 10, 55, 58, 0, 0, 0, []), (96, .aload_n 0, 56, 0, 0, 0, 0, []), (97, .invokevirtual 274, 57, 209, 0, 0, 1277, []), (100, .goto 9, 58, 61, 0, 0, 0, []), (103, .aload_n 0, 59, 0, 0, 0, 0, []), (104, .bipush (-5), 60, 0, 0, -5, 0, []), (106, .invokevirtual 78, 61, 136, 1, 0, 980, []), (109, .ireturn, 62, 0, 0, 0, 0, [])]
def kM_known : List (List dmA) := [kM_known_0, kM_known_1, kM_known_2, kM_known_3]
def mM_known : dmM := (⟨"WhichOneAllKnowModel", "known", "(II)I"⟩, prog_8_method_75_code, 5, some (.int), kM_known, [1272, 1270, 1271, 84])
def kM_knownAll_0 : List dmA := [(0, .iconst 0, 1, 0, 0, 0, 0, []), (1, .istore_n 1, 2, 1, 0, 0, 0, []), (2, .iconst 0, 3, 0, 0, 0, 0, []), (3, .istore_n 2, 4, 2, 0, 0, 0, []), (4, .iload_n 2, 5, 2, 0, 0, 0, []), (5, .aload_n 0, 6, 0, 0, 0, 0, []), (6, .getfield 82, 7, 3, 6, 0, 888, []), (9, .if_icmp .ge 21, 8, 18, 0, 0, 0, []), (12, .iload_n 1, 9, 1, 0, 0, 0, []), (13, .aload_n 0, 10, 0, 0, 0, 0, []), (14, .getfield 35, 11, 9, 6, 1, 894, []), (17, .iload_n 2, 12, 2, 0, 0, 0, []), (18, .iaload, 13, 0, 0, 0, 0, []), (19, .invokestatic 112, 14, 28, 1, 0, 1026, [1]), (22, .iadd, 15, 0, 0, 0, 0, []), (23, .istore_n 1, 16, 1, 0, 0, 0, [])]
def kM_knownAll_1 : List dmA := [(24, .iinc 2 1, 17, 2, 0, 1, 0, []), (27, .goto (-23), 18, 4, 0, 0, 0, []), (30, .iload_n 1, 19, 1, 0, 0, 0, []), (31, .ireturn, 20, 0, 0, 0, 0, [])]
def kM_knownAll : List (List dmA) := [kM_knownAll_0, kM_knownAll_1]
def mM_knownAll : dmM := (⟨"WhichOneAllKnowModel", "knownAll", "()I"⟩, prog_8_method_73_code, 3, some (.int), kM_knownAll, [1276, 1275, 67, 84])
def kM_whomToAsk_0 : List dmA := [(0, .iconst (-1), 1, 0, 0, -1, 0, []), (1, .istore_n 1, 2, 1, 0, 0, 0, []), (2, .iconst (-1), 3, 0, 0, -1, 0, []), (3, .istore_n 2, 4, 2, 0, 0, 0, []), (4, .iconst 0, 5, 0, 0, 0, 0, []), (5, .istore_n 3, 6, 3, 0, 0, 0, []), (6, .iload_n 3, 7, 3, 0, 0, 0, []), (7, .aload_n 0, 8, 0, 0, 0, 0, []), (8, .getfield 82, 9, 3, 6, 0, 888, []), (11, .if_icmp .ge 69, 10, 43, 0, 0, 0, []), (14, .iconst 0, 11, 0, 0, 0, 0, []), (15, .istore 4, 12, 4, 0, 0, 0, []), (17, .iconst 0, 13, 0, 0, 0, 0, []), (18, .istore 5, 14, 5, 0, 0, 0, []), (20, .iload 5, 15, 5, 0, 0, 0, []), (22, .aload_n 0, 16, 0, 0, 0, 0, [])]
def kM_whomToAsk_1 : List dmA := [(23, .getfield 82, 17, 3, 6, 0, 888, []), (26, .if_icmp .ge 34, 18, 33, 0, 0, 0, []), (29, .iload 5, 19, 5, 0, 0, 0, []), (31, .iload_n 3, 20, 3, 0, 0, 0, []), (32, .if_icmp .eq 22, 21, 31, 0, 0, 0, []), (35, .aload_n 0, 22, 0, 0, 0, 0, []), (36, .getfield 35, 23, 9, 6, 1, 894, []), (39, .iload 5, 24, 5, 0, 0, 0, []), (41, .iaload, 25, 0, 0, 0, 0, []), (42, .aload_n 0, 26, 0, 0, 0, 0, []), (43, .getfield 35, 27, 9, 6, 1, 894, []), (46, .iload_n 3, 28, 3, 0, 0, 0, []), (47, .iaload, 29, 0, 0, 0, 0, []), (48, .if_icmp .ne 6, 30, 31, 0, 0, 0, []), (51, .iinc 4 1, 31, 4, 0, 1, 0, []), (54, .iinc 5 1, 32, 5, 0, 1, 0, [])]
def kM_whomToAsk_2 : List dmA := [(57, .goto (-37), 33, 14, 0, 0, 0, []), (60, .iload 4, 34, 4, 0, 0, 0, []), (62, .iload_n 2, 35, 2, 0, 0, 0, []), (63, .if_icmp .gt 6, 36, 37, 0, 0, 0, []), (66, .goto 8, 37, 41, 0, 0, 0, []), (69, .iload 4, 38, 4, 0, 0, 0, []), (71, .istore_n 2, 39, 2, 0, 0, 0, []), (72, .iload_n 3, 40, 3, 0, 0, 0, []), (73, .istore_n 1, 41, 1, 0, 0, 0, []), (74, .iinc 3 1, 42, 3, 0, 1, 0, []), (77, .goto (-71), 43, 6, 0, 0, 0, []), (80, .iload_n 1, 44, 1, 0, 0, 0, []), (81, .ireturn, 45, 0, 0, 0, 0, [])]
def kM_whomToAsk : List (List dmA) := [kM_whomToAsk_0, kM_whomToAsk_1, kM_whomToAsk_2]
def mM_whomToAsk : dmM := (⟨"WhichOneAllKnowModel", "whomToAsk", "()I"⟩, prog_8_method_74_code, 6, some (.int), kM_whomToAsk, [1280, 1279, 68, 84])
def kM_judge_0 : List dmA := [(0, .aload_n 0, 1, 0, 0, 0, 0, []), (1, .iload_n 1, 2, 1, 0, 0, 0, []), (2, .iload_n 2, 3, 2, 0, 0, 0, []), (3, .iconst 0, 4, 0, 0, 0, 0, []), (4, .iconst 0, 5, 0, 0, 0, 0, []), (5, .invokevirtual 260, 6, 202, 4, 0, 1249, []), (8, .istore_n 3, 7, 3, 0, 0, 0, []), (9, .iload_n 3, 8, 3, 0, 0, 0, []), (10, .ifCond .ge 11, 9, 13, 0, 0, 0, []), (13, .aload_n 0, 10, 0, 0, 0, 0, []), (14, .iload_n 3, 11, 3, 0, 0, 0, []), (15, .invokevirtual 227, 12, 183, 1, 0, 1173, []), (18, .goto 9, 13, 17, 0, 0, 0, []), (21, .aload_n 0, 14, 0, 0, 0, 0, []), (22, .iload_n 1, 15, 1, 0, 0, 0, []), (23, .iload_n 2, 16, 2, 0, 0, 0, [])]
def kM_judge_1 : List dmA := [(24, .invokevirtual 277, 17, 211, 2, 0, 1285, []), (27, .ireturn, 18, 0, 0, 0, 0, [])]
def kM_judge : List (List dmA) := [kM_judge_0, kM_judge_1]
def mM_judge : dmM := (⟨"WhichOneAllKnowModel", "judge", "(II)I"⟩, prog_8_method_77_code, 4, some (.int), kM_judge, [1284, 1282, 1283, 84])
def kM_wrongAt_0 : List dmA := [(0, .iconst 0, 1, 0, 0, 0, 0, []), (1, .istore_n 3, 2, 3, 0, 0, 0, []), (2, .iload_n 3, 3, 3, 0, 0, 0, []), (3, .iload_n 2, 4, 2, 0, 0, 0, []), (4, .if_icmp .ge 56, 5, 33, 0, 0, 0, []), (7, .aload_n 0, 6, 0, 0, 0, 0, []), (8, .iload_n 1, 7, 1, 0, 0, 0, []), (9, .iload_n 3, 8, 3, 0, 0, 0, []), (10, .invokevirtual 257, 9, 204, 2, 0, 1257, []), (13, .istore 4, 10, 4, 0, 0, 0, []), (15, .iload 4, 11, 4, 0, 0, 0, []), (17, .ifCond .lt 35, 12, 29, 0, 0, 0, []), (20, .aload_n 0, 13, 0, 0, 0, 0, []), (21, .iload 4, 14, 4, 0, 0, 0, []), (23, .bipush 100, 15, 0, 0, 100, 0, []), (25, .idiv, 16, 0, 0, 0, 0, [])]
def kM_wrongAt_1 : List dmA := [(26, .invokevirtual 127, 17, 155, 1, 0, 1055, []), (29, .ifCond .eq 23, 18, 29, 0, 0, 0, []), (32, .iload 4, 19, 4, 0, 0, 0, []), (34, .bipush 10, 20, 0, 0, 10, 0, []), (36, .idiv, 21, 0, 0, 0, 0, []), (37, .bipush 10, 22, 0, 0, 10, 0, []), (39, .irem, 23, 0, 0, 0, 0, []), (40, .iconst 5, 24, 0, 0, 5, 0, []), (41, .if_icmp .gt 11, 25, 29, 0, 0, 0, []), (44, .iload 4, 26, 4, 0, 0, 0, []), (46, .bipush 10, 27, 0, 0, 10, 0, []), (48, .irem, 28, 0, 0, 0, 0, []), (49, .ifCond .ne 5, 29, 31, 0, 0, 0, []), (52, .iload_n 3, 30, 3, 0, 0, 0, []), (53, .ireturn, 31, 0, 0, 0, 0, []), (54, .iinc 3 1, 32, 3, 0, 1, 0, [])]
def kM_wrongAt_2 : List dmA := [(57, .goto (-55), 33, 2, 0, 0, 0, []), (60, .iconst (-1), 34, 0, 0, -1, 0, []), (61, .ireturn, 35, 0, 0, 0, 0, [])]
def kM_wrongAt : List (List dmA) := [kM_wrongAt_0, kM_wrongAt_1, kM_wrongAt_2]
def mM_wrongAt : dmM := (⟨"WhichOneAllKnowModel", "wrongAt", "(II)I"⟩, prog_8_method_76_code, 5, some (.int), kM_wrongAt, [1288, 1287, 69, 84])
def kM_behind_0 : List dmA := [(0, .aload_n 0, 1, 0, 0, 0, 0, []), (1, .iload_n 1, 2, 1, 0, 0, 0, []), (2, .iload_n 2, 3, 2, 0, 0, 0, []), (3, .iconst 0, 4, 0, 0, 0, 0, []), (4, .iconst 0, 5, 0, 0, 0, 0, []), (5, .invokevirtual 260, 6, 202, 4, 0, 1249, []), (8, .istore 4, 7, 4, 0, 0, 0, []), (10, .iload 4, 8, 4, 0, 0, 0, []), (12, .ifCond .eq 10, 9, 12, 0, 0, 0, []), (15, .iload 4, 10, 4, 0, 0, 0, []), (17, .bipush (-6), 11, 0, 0, -6, 0, []), (19, .if_icmp .ne 21, 12, 21, 0, 0, 0, []), (22, .iload_n 3, 13, 3, 0, 0, 0, []), (23, .iconst 0, 14, 0, 0, 0, 0, []), (24, .iconst 2, 15, 0, 0, 2, 0, []), (25, .invokestatic 85, 16, 135, 3, 0, 977, [1])]
def kM_behind_1 : List dmA := [(28, .ifCond .eq 8, 17, 19, 0, 0, 0, []), (31, .iload 4, 18, 4, 0, 0, 0, []), (33, .goto 5, 19, 20, 0, 0, 0, []), (36, .bipush (-5), 20, 0, 0, -5, 0, []), (38, .istore 4, 21, 4, 0, 0, 0, []), (40, .iload 4, 22, 4, 0, 0, 0, []), (42, .ifCond .ne 17, 23, 31, 0, 0, 0, []), (45, .aload_n 0, 24, 0, 0, 0, 0, []), (46, .iload_n 1, 25, 1, 0, 0, 0, []), (47, .iload_n 2, 26, 2, 0, 0, 0, []), (48, .invokevirtual 277, 27, 211, 2, 0, 1285, []), (51, .iconst (-1), 28, 0, 0, -1, 0, []), (52, .if_icmp .eq 7, 29, 31, 0, 0, 0, []), (55, .bipush (-6), 30, 0, 0, -6, 0, []), (57, .istore 4, 31, 4, 0, 0, 0, []), (59, .iload 4, 32, 4, 0, 0, 0, [])]
def kM_behind_2 : List dmA := [(61, .ifCond .ge 10, 33, 37, 0, 0, 0, []), (64, .aload_n 0, 34, 0, 0, 0, 0, []), (65, .iload 4, 35, 4, 0, 0, 0, []), (67, .invokevirtual 78, 36, 136, 1, 0, 980, []), (70, .ireturn, 37, 0, 0, 0, 0, []), (71, .aload_n 0, 38, 0, 0, 0, 0, []), (72, .aload_n 0, 39, 0, 0, 0, 0, []), (73, .getfield 53, 40, 24, 6, 1, 909, []), (76, .invokevirtual 176, 41, 161, 1, 0, 1079, []), (79, .iconst 0, 42, 0, 0, 0, 0, []), (80, .istore 5, 43, 5, 0, 0, 0, []), (82, .iconst 0, 44, 0, 0, 0, 0, []), (83, .istore 6, 45, 6, 0, 0, 0, []), (85, .iconst 0, 46, 0, 0, 0, 0, []), (86, .istore 7, 47, 7, 0, 0, 0, []), (88, .iload 7, 48, 7, 0, 0, 0, [])]
def kM_behind_3 : List dmA := [(90, .iload_n 2, 49, 2, 0, 0, 0, []), (91, .if_icmp .ge 63, 50, 82, 0, 0, 0, []), (94, .aload_n 0, 51, 0, 0, 0, 0, []), (95, .iload_n 1, 52, 1, 0, 0, 0, []), (96, .iload 7, 53, 7, 0, 0, 0, []), (98, .invokevirtual 257, 54, 204, 2, 0, 1257, []), (101, .istore 8, 55, 8, 0, 0, 0, []), (103, .aload_n 0, 56, 0, 0, 0, 0, []), (104, .iload 8, 57, 8, 0, 0, 0, []), (106, .bipush 100, 58, 0, 0, 100, 0, []), (108, .idiv, 59, 0, 0, 0, 0, []), (109, .iload 8, 60, 8, 0, 0, 0, []), (111, .bipush 10, 61, 0, 0, 10, 0, []), (113, .idiv, 62, 0, 0, 0, 0, []), (114, .bipush 10, 63, 0, 0, 10, 0, []), (116, .irem, 64, 0, 0, 0, 0, [])]
def kM_behind_4 : List dmA := [(117, .iload 8, 65, 8, 0, 0, 0, []), (119, .bipush 10, 66, 0, 0, 10, 0, []), (121, .irem, 67, 0, 0, 0, 0, []), (122, .invokevirtual 283, 68, 213, 3, 0, 1293, []), (125, .istore 9, 69, 9, 0, 0, 0, []), (127, .iload 5, 70, 5, 0, 0, 0, []), (129, .iload 9, 71, 9, 0, 0, 0, []), (131, .iadd, 72, 0, 0, 0, 0, []), (132, .istore 5, 73, 5, 0, 0, 0, []), (134, .iconst 2, 74, 0, 0, 2, 0, []), (135, .iload 9, 75, 9, 0, 0, 0, []), (137, .imul, 76, 0, 0, 0, 0, []), (138, .aload_n 0, 77, 0, 0, 0, 0, []), (139, .getfield 82, 78, 3, 6, 0, 888, []), (142, .if_icmp .lt 6, 79, 80, 0, 0, 0, []), (145, .iinc 6 1, 80, 6, 0, 1, 0, [])]
def kM_behind_5 : List dmA := [(148, .iinc 7 1, 81, 7, 0, 1, 0, []), (151, .goto (-63), 82, 47, 0, 0, 0, []), (154, .iload_n 3, 83, 3, 0, 0, 0, []), (155, .ifCond .ne 10, 84, 87, 0, 0, 0, []), (158, .aload_n 0, 85, 0, 0, 0, 0, []), (159, .invokevirtual 271, 86, 208, 0, 0, 1273, []), (162, .goto 15, 87, 93, 0, 0, 0, []), (165, .iload_n 3, 88, 3, 0, 0, 0, []), (166, .iconst 1, 89, 0, 0, 1, 0, []), (167, .if_icmp .ne 8, 90, 92, 0, 0, 0, []), (170, .iload 5, 91, 5, 0, 0, 0, []), (172, .goto 5, 92, 93, 0, 0, 0, []), (175, .iload 6, 93, 6, 0, 0, 0, []), (177, .istore 7, 94, 7, 0, 0, 0, []), (179, .aload_n 0, 95, 0, 0, 0, 0, []), (180, .aload_n 0, 96, 0, 0, 0, 0, [])]
def kM_behind_6 : List dmA := [(181, .getfield 53, 97, 24, 6, 1, 909, []), (184, .invokevirtual 184, 98, 169, 1, 0, 1118, []), (187, .iload 7, 99, 7, 0, 0, 0, []), (189, .ireturn, 100, 0, 0, 0, 0, [])]
def kM_behind : List (List dmA) := [kM_behind_0, kM_behind_1, kM_behind_2, kM_behind_3, kM_behind_4, kM_behind_5, kM_behind_6]
def mM_behind : dmM := (⟨"WhichOneAllKnowModel", "behind", "(III)I"⟩, prog_8_method_79_code, 10, some (.int), kM_behind, [1292, 1290, 1291, 84])
def kM_isSung_0 : List dmA := [(0, .aload_n 0, 1, 0, 0, 0, 0, []), (1, .iload_n 1, 2, 1, 0, 0, 0, []), (2, .iload_n 2, 3, 2, 0, 0, 0, []), (3, .iload_n 3, 4, 3, 0, 0, 0, []), (4, .iconst 1, 5, 0, 0, 1, 0, []), (5, .isub, 6, 0, 0, 0, 0, []), (6, .invokevirtual 236, 7, 189, 3, 0, 1197, []), (9, .istore 4, 8, 4, 0, 0, 0, []), (11, .iconst 0, 9, 0, 0, 0, 0, []), (12, .istore 5, 10, 5, 0, 0, 0, []), (14, .iload 5, 11, 5, 0, 0, 0, []), (16, .aload_n 0, 12, 0, 0, 0, 0, []), (17, .getfield 82, 13, 3, 6, 0, 888, []), (20, .if_icmp .ge 32, 14, 30, 0, 0, 0, []), (23, .iload 4, 15, 4, 0, 0, 0, []), (25, .iload 5, 16, 5, 0, 0, 0, [])]
def kM_isSung_1 : List dmA := [(27, .invokestatic 187, 17, 178, 2, 0, 1152, [1]), (30, .ifCond .eq 16, 18, 28, 0, 0, 0, []), (33, .aload_n 0, 19, 0, 0, 0, 0, []), (34, .getfield 35, 20, 9, 6, 1, 894, []), (37, .iload 5, 21, 5, 0, 0, 0, []), (39, .dup2, 22, 0, 0, 0, 0, []), (40, .iaload, 23, 0, 0, 0, 0, []), (41, .iconst 1, 24, 0, 0, 1, 0, []), (42, .iload_n 1, 25, 1, 0, 0, 0, []), (43, .ishl, 26, 0, 0, 0, 0, []), (44, .ior, 27, 0, 0, 0, 0, []), (45, .iastore, 28, 0, 0, 0, 0, []), (46, .iinc 5 1, 29, 5, 0, 1, 0, []), (49, .goto (-35), 30, 10, 0, 0, 0, []), (52, .aload_n 0, 31, 0, 0, 0, 0, []), (53, .dup, 32, 0, 0, 0, 0, [])]
def kM_isSung_2 : List dmA := [(54, .getfield 280, 33, 13, 6, 0, 898, []), (57, .iconst 1, 34, 0, 0, 1, 0, []), (58, .iadd, 35, 0, 0, 0, 0, []), (59, .putfield 280, 36, 13, 6, 0, 898, []), (62, .iload 4, 37, 4, 0, 0, 0, []), (64, .invokestatic 112, 38, 28, 1, 0, 1026, [1]), (67, .ireturn, 39, 0, 0, 0, 0, [])]
def kM_isSung : List (List dmA) := [kM_isSung_0, kM_isSung_1, kM_isSung_2]
def mM_isSung : dmM := (⟨"WhichOneAllKnowModel", "isSung", "(III)I"⟩, prog_8_method_78_code, 6, some (.int), kM_isSung, [1296, 1295, 70, 84])
def kM_done_0 : List dmA := [(0, .aload_n 0, 1, 0, 0, 0, 0, []), (1, .iload_n 1, 2, 1, 0, 0, 0, []), (2, .iload_n 2, 3, 2, 0, 0, 0, []), (3, .iconst 0, 4, 0, 0, 0, 0, []), (4, .iconst 0, 5, 0, 0, 0, 0, []), (5, .invokevirtual 260, 6, 202, 4, 0, 1249, []), (8, .istore_n 3, 7, 3, 0, 0, 0, []), (9, .iload_n 3, 8, 3, 0, 0, 0, []), (10, .ifCond .ne 16, 9, 17, 0, 0, 0, []), (13, .aload_n 0, 10, 0, 0, 0, 0, []), (14, .iload_n 1, 11, 1, 0, 0, 0, []), (15, .iload_n 2, 12, 2, 0, 0, 0, []), (16, .invokevirtual 277, 13, 211, 2, 0, 1285, []), (19, .iconst (-1), 14, 0, 0, -1, 0, []), (20, .if_icmp .eq 6, 15, 17, 0, 0, 0, []), (23, .bipush (-6), 16, 0, 0, -6, 0, [])]
def kM_done_1 : List dmA := [(25, .istore_n 3, 17, 3, 0, 0, 0, []), (26, .iload_n 3, 18, 3, 0, 0, 0, []), (27, .ifCond .ge 9, 19, 23, 0, 0, 0, []), (30, .aload_n 0, 20, 0, 0, 0, 0, []), (31, .iload_n 3, 21, 3, 0, 0, 0, []), (32, .invokevirtual 78, 22, 136, 1, 0, 980, []), (35, .ireturn, 23, 0, 0, 0, 0, []), (36, .iconst 0, 24, 0, 0, 0, 0, []), (37, .istore 4, 25, 4, 0, 0, 0, []), (39, .iload 4, 26, 4, 0, 0, 0, []), (41, .iload_n 2, 27, 2, 0, 0, 0, []), (42, .if_icmp .ge 47, 28, 53, 0, 0, 0, []), (45, .aload_n 0, 29, 0, 0, 0, 0, []), (46, .aload_n 0, 30, 0, 0, 0, 0, []), (47, .iload_n 1, 31, 1, 0, 0, 0, []), (48, .iload 4, 32, 4, 0, 0, 0, [])]
def kM_done_2 : List dmA := [(50, .invokevirtual 257, 33, 204, 2, 0, 1257, []), (53, .bipush 100, 34, 0, 0, 100, 0, []), (55, .idiv, 35, 0, 0, 0, 0, []), (56, .aload_n 0, 36, 0, 0, 0, 0, []), (57, .iload_n 1, 37, 1, 0, 0, 0, []), (58, .iload 4, 38, 4, 0, 0, 0, []), (60, .invokevirtual 257, 39, 204, 2, 0, 1257, []), (63, .bipush 10, 40, 0, 0, 10, 0, []), (65, .idiv, 41, 0, 0, 0, 0, []), (66, .bipush 10, 42, 0, 0, 10, 0, []), (68, .irem, 43, 0, 0, 0, 0, []), (69, .aload_n 0, 44, 0, 0, 0, 0, []), (70, .iload_n 1, 45, 1, 0, 0, 0, []), (71, .iload 4, 46, 4, 0, 0, 0, []), (73, .invokevirtual 257, 47, 204, 2, 0, 1257, []), (76, .bipush 10, 48, 0, 0, 10, 0, [])]
def kM_done_3 : List dmA := [(78, .irem, 49, 0, 0, 0, 0, []), (79, .invokevirtual 283, 50, 213, 3, 0, 1293, []), (82, .pop, 51, 0, 0, 0, 0, []), (83, .iinc 4 1, 52, 4, 0, 1, 0, []), (86, .goto (-47), 53, 25, 0, 0, 0, []), (89, .aload_n 0, 54, 0, 0, 0, 0, []), (90, .getfield 280, 55, 13, 6, 0, 898, []), (93, .ireturn, 56, 0, 0, 0, 0, [])]
def kM_done : List (List dmA) := [kM_done_0, kM_done_1, kM_done_2, kM_done_3]
def mM_done : dmM := (⟨"WhichOneAllKnowModel", "done", "(II)I"⟩, prog_8_method_80_code, 5, some (.int), kM_done, [1300, 1298, 1299, 84])
def kM_hymn_0 : List dmA := [(0, .aload_n 0, 1, 0, 0, 0, 0, []), (1, .iload_n 1, 2, 1, 0, 0, 0, []), (2, .invokevirtual 127, 3, 155, 1, 0, 1055, []), (5, .ifCond .ne 9, 4, 8, 0, 0, 0, []), (8, .aload_n 0, 5, 0, 0, 0, 0, []), (9, .iconst (-1), 6, 0, 0, -1, 0, []), (10, .invokevirtual 78, 7, 136, 1, 0, 980, []), (13, .ireturn, 8, 0, 0, 0, 0, []), (14, .iload_n 2, 9, 2, 0, 0, 0, []), (15, .invokestatic 215, 10, 172, 1, 0, 1130, [1]), (18, .ifCond .eq 23, 11, 22, 0, 0, 0, []), (21, .iload_n 3, 12, 3, 0, 0, 0, []), (22, .iconst 1, 13, 0, 0, 1, 0, []), (23, .bipush 9, 14, 0, 0, 9, 0, []), (25, .invokestatic 85, 15, 135, 3, 0, 977, [1]), (28, .ifCond .eq 13, 16, 22, 0, 0, 0, [])]
def kM_hymn_1 : List dmA := [(31, .aload_n 0, 17, 0, 0, 0, 0, []), (32, .iload_n 1, 18, 1, 0, 0, 0, []), (33, .iload_n 2, 19, 2, 0, 0, 0, []), (34, .iload_n 3, 20, 3, 0, 0, 0, []), (35, .invokevirtual 283, 21, 213, 3, 0, 1293, []), (38, .goto 9, 22, 25, 0, 0, 0, []), (41, .aload_n 0, 23, 0, 0, 0, 0, []), (42, .bipush (-6), 24, 0, 0, -6, 0, []), (44, .invokevirtual 78, 25, 136, 1, 0, 980, []), (47, .ireturn, 26, 0, 0, 0, 0, [])]
def kM_hymn : List (List dmA) := [kM_hymn_0, kM_hymn_1]
def mM_hymn : dmM := (⟨"WhichOneAllKnowModel", "hymn", "(III)I"⟩, prog_8_method_81_code, 4, some (.int), kM_hymn, [1304, 1302, 1303, 84])
def kM_years_0 : List dmA := [(0, .aload_n 0, 1, 0, 0, 0, 0, []), (1, .getfield 89, 2, 10, 6, 0, 895, []), (4, .ifCond .ne 10, 3, 7, 0, 0, 0, []), (7, .aload_n 0, 4, 0, 0, 0, 0, []), (8, .bipush (-5), 5, 0, 0, -5, 0, []), (10, .invokevirtual 78, 6, 136, 1, 0, 980, []), (13, .ireturn, 7, 0, 0, 0, 0, []), (14, .iload_n 1, 8, 1, 0, 0, 0, []), (15, .iconst 1, 9, 0, 0, 1, 0, []), (16, .bipush 60, 10, 0, 0, 60, 0, []), (18, .invokestatic 85, 11, 135, 3, 0, 977, [1]), (21, .ifCond .ne 10, 12, 16, 0, 0, 0, []), (24, .aload_n 0, 13, 0, 0, 0, 0, []), (25, .bipush (-6), 14, 0, 0, -6, 0, []), (27, .invokevirtual 78, 15, 136, 1, 0, 980, []), (30, .ireturn, 16, 0, 0, 0, 0, [])]
def kM_years_1 : List dmA := [(31, .iconst 0, 17, 0, 0, 0, 0, []), (32, .istore_n 2, 18, 2, 0, 0, 0, []), (33, .iload_n 2, 19, 2, 0, 0, 0, []), (34, .iload_n 1, 20, 1, 0, 0, 0, []), (35, .if_icmp .ge 42, 21, 42, 0, 0, 0, []), (38, .aload_n 0, 22, 0, 0, 0, 0, []), (39, .aload_n 0, 23, 0, 0, 0, 0, []), (40, .getfield 89, 24, 10, 6, 0, 895, []), (43, .invokevirtual 287, 25, 217, 1, 0, 1309, []), (46, .istore_n 3, 26, 3, 0, 0, 0, []), (47, .aload_n 0, 27, 0, 0, 0, 0, []), (48, .bipush 6, 28, 0, 0, 6, 0, []), (50, .invokevirtual 287, 29, 217, 1, 0, 1309, []), (53, .istore 4, 30, 4, 0, 0, 0, []), (55, .aload_n 0, 31, 0, 0, 0, 0, []), (56, .iload_n 3, 32, 3, 0, 0, 0, [])]
def kM_years_2 : List dmA := [(57, .iload 4, 33, 4, 0, 0, 0, []), (59, .iconst 1, 34, 0, 0, 1, 0, []), (60, .aload_n 0, 35, 0, 0, 0, 0, []), (61, .bipush 9, 36, 0, 0, 9, 0, []), (63, .invokevirtual 287, 37, 217, 1, 0, 1309, []), (66, .iadd, 38, 0, 0, 0, 0, []), (67, .invokevirtual 283, 39, 213, 3, 0, 1293, []), (70, .pop, 40, 0, 0, 0, 0, []), (71, .iinc 2 1, 41, 2, 0, 1, 0, []), (74, .goto (-41), 42, 18, 0, 0, 0, []), (77, .aload_n 0, 43, 0, 0, 0, 0, []), (78, .invokevirtual 271, 44, 208, 0, 0, 1273, []), (81, .ireturn, 45, 0, 0, 0, 0, [])]
def kM_years : List (List dmA) := [kM_years_0, kM_years_1, kM_years_2]
def mM_years : dmM := (⟨"WhichOneAllKnowModel", "years", "(I)I"⟩, prog_8_method_83_code, 5, some (.int), kM_years, [1308, 1306, 1307, 84])
def kM_draw_0 : List dmA := [(0, .aload_n 0, 1, 0, 0, 0, 0, []), (1, .aload_n 0, 2, 0, 0, 0, 0, []), (2, .getfield 69, 3, 14, 6, 0, 899, []), (5, .ldc_w 286, 4, 0, 0, 1103515245, 1313, []), (8, .imul, 5, 0, 0, 0, 0, []), (9, .sipush 12345, 6, 0, 0, 12345, 0, []), (12, .iadd, 7, 0, 0, 0, 0, []), (13, .putfield 69, 8, 14, 6, 0, 899, []), (16, .aload_n 0, 9, 0, 0, 0, 0, []), (17, .getfield 69, 10, 14, 6, 0, 899, []), (20, .bipush 16, 11, 0, 0, 16, 0, []), (22, .iushr, 12, 0, 0, 0, 0, []), (23, .iload_n 1, 13, 1, 0, 0, 0, []), (24, .irem, 14, 0, 0, 0, 0, []), (25, .ireturn, 15, 0, 0, 0, 0, [])]
def kM_draw : List (List dmA) := [kM_draw_0]
def mM_draw : dmM := (⟨"WhichOneAllKnowModel", "draw", "(I)I"⟩, prog_8_method_82_code, 2, some (.int), kM_draw, [1312, 1311, 71, 84])
def kM_seed_0 : List dmA := [(0, .aload_n 0, 1, 0, 0, 0, 0, []), (1, .getfield 69, 2, 14, 6, 0, 899, []), (4, .istore_n 2, 3, 2, 0, 0, 0, []), (5, .aload_n 0, 4, 0, 0, 0, 0, []), (6, .iload_n 1, 5, 1, 0, 0, 0, []), (7, .putfield 69, 6, 14, 6, 0, 899, []), (10, .iload_n 2, 7, 2, 0, 0, 0, []), (11, .ireturn, 8, 0, 0, 0, 0, [])]
def kM_seed : List (List dmA) := [kM_seed_0]
def mM_seed : dmM := (⟨"WhichOneAllKnowModel", "seed", "(I)I"⟩, prog_8_method_84_code, 3, some (.int), kM_seed, [1317, 1315, 1316, 84])
def kM_act_0 : List dmA := [(0, .aload_n 0, 1, 0, 0, 0, 0, []), (1, .iconst 0, 2, 0, 0, 0, 0, []), (2, .putfield 290, 3, 19, 6, 0, 904, []), (5, .aload_n 0, 4, 0, 0, 0, 0, []), (6, .iload_n 1, 5, 1, 0, 0, 0, []), (7, .invokevirtual 102, 6, 143, 1, 0, 1008, []), (10, .ifCond .eq 12, 7, 12, 0, 0, 0, []), (13, .iload_n 2, 8, 2, 0, 0, 0, []), (14, .iconst 0, 9, 0, 0, 0, 0, []), (15, .iconst 2, 10, 0, 0, 2, 0, []), (16, .invokestatic 85, 11, 135, 3, 0, 977, [1]), (19, .ifCond .ne 5, 12, 14, 0, 0, 0, []), (22, .iconst 0, 13, 0, 0, 0, 0, []), (23, .ireturn, 14, 0, 0, 0, 0, []), (24, .iload_n 2, 15, 2, 0, 0, 0, []), (25, .ifCond .ne 12, 16, 21, 0, 0, 0, [])]
def kM_act_1 : List dmA := [(28, .aload_n 0, 17, 0, 0, 0, 0, []), (29, .iload_n 1, 18, 1, 0, 0, 0, []), (30, .iload_n 3, 19, 3, 0, 0, 0, []), (31, .invokevirtual 296, 20, 220, 2, 0, 1322, []), (34, .goto 23, 21, 33, 0, 0, 0, []), (37, .iload_n 2, 22, 2, 0, 0, 0, []), (38, .iconst 1, 23, 0, 0, 1, 0, []), (39, .if_icmp .ne 12, 24, 29, 0, 0, 0, []), (42, .aload_n 0, 25, 0, 0, 0, 0, []), (43, .iload_n 1, 26, 1, 0, 0, 0, []), (44, .iload_n 3, 27, 3, 0, 0, 0, []), (45, .invokevirtual 299, 28, 222, 2, 0, 1330, []), (48, .goto 9, 29, 33, 0, 0, 0, []), (51, .aload_n 0, 30, 0, 0, 0, 0, []), (52, .iload_n 1, 31, 1, 0, 0, 0, []), (53, .iload_n 3, 32, 3, 0, 0, 0, [])]
def kM_act_2 : List dmA := [(54, .invokevirtual 302, 33, 223, 2, 0, 1334, []), (57, .ireturn, 34, 0, 0, 0, 0, [])]
def kM_act : List (List dmA) := [kM_act_0, kM_act_1, kM_act_2]
def mM_act : dmM := (⟨"WhichOneAllKnowModel", "act", "(III)I"⟩, prog_8_method_89_code, 4, some (.int), kM_act, [1321, 1319, 1320, 84])
def kM_breathesBy_0 : List dmA := [(0, .aload_n 0, 1, 0, 0, 0, 0, []), (1, .getfield 20, 2, 4, 6, 1, 889, []), (4, .iload_n 1, 3, 1, 0, 0, 0, []), (5, .iaload, 4, 0, 0, 0, 0, []), (6, .istore_n 3, 5, 3, 0, 0, 0, []), (7, .iload_n 3, 6, 3, 0, 0, 0, []), (8, .bipush 6, 7, 0, 0, 6, 0, []), (10, .if_icmp .ne 9, 8, 11, 0, 0, 0, []), (13, .aload_n 0, 9, 0, 0, 0, 0, []), (14, .bipush 70, 10, 0, 0, 70, 0, []), (16, .invokevirtual 293, 11, 221, 1, 0, 1326, []), (19, .iload_n 3, 12, 3, 0, 0, 0, []), (20, .iconst 4, 13, 0, 0, 4, 0, []), (21, .if_icmp .eq 9, 14, 17, 0, 0, 0, []), (24, .iload_n 3, 15, 3, 0, 0, 0, []), (25, .bipush 6, 16, 0, 0, 6, 0, [])]
def kM_breathesBy_1 : List dmA := [(27, .if_icmp .ne 9, 17, 20, 0, 0, 0, []), (30, .aload_n 0, 18, 0, 0, 0, 0, []), (31, .bipush 51, 19, 0, 0, 51, 0, []), (33, .invokevirtual 293, 20, 221, 1, 0, 1326, []), (36, .iload_n 3, 21, 3, 0, 0, 0, []), (37, .iconst 1, 22, 0, 0, 1, 0, []), (38, .if_icmp .eq 8, 23, 26, 0, 0, 0, []), (41, .iload_n 3, 24, 3, 0, 0, 0, []), (42, .iconst 3, 25, 0, 0, 3, 0, []), (43, .if_icmp .ne 9, 26, 29, 0, 0, 0, []), (46, .aload_n 0, 27, 0, 0, 0, 0, []), (47, .bipush 20, 28, 0, 0, 20, 0, []), (49, .invokevirtual 293, 29, 221, 1, 0, 1326, []), (52, .aload_n 0, 30, 0, 0, 0, 0, []), (53, .bipush 10, 31, 0, 0, 10, 0, []), (55, .invokevirtual 293, 32, 221, 1, 0, 1326, [])]
def kM_breathesBy_2 : List dmA := [(58, .iload_n 2, 33, 2, 0, 0, 0, []), (59, .iload_n 1, 34, 1, 0, 0, 0, []), (60, .iadd, 35, 0, 0, 0, 0, []), (61, .istore 4, 36, 4, 0, 0, 0, []), (63, .iload_n 3, 37, 3, 0, 0, 0, []), (64, .iconst 1, 38, 0, 0, 1, 0, []), (65, .if_icmp .eq 8, 39, 42, 0, 0, 0, []), (68, .iload_n 3, 40, 3, 0, 0, 0, []), (69, .iconst 3, 41, 0, 0, 3, 0, []), (70, .if_icmp .ne 13, 42, 49, 0, 0, 0, []), (73, .iload 4, 43, 4, 0, 0, 0, []), (75, .aload_n 0, 44, 0, 0, 0, 0, []), (76, .getfield 23, 45, 5, 6, 1, 890, []), (79, .iload_n 1, 46, 1, 0, 0, 0, []), (80, .iaload, 47, 0, 0, 0, 0, []), (81, .iadd, 48, 0, 0, 0, 0, [])]
def kM_breathesBy_3 : List dmA := [(82, .ireturn, 49, 0, 0, 0, 0, []), (83, .iload_n 3, 50, 3, 0, 0, 0, []), (84, .iconst 4, 51, 0, 0, 4, 0, []), (85, .if_icmp .ne 10, 52, 56, 0, 0, 0, []), (88, .iload 4, 53, 4, 0, 0, 0, []), (90, .iload_n 1, 54, 1, 0, 0, 0, []), (91, .isub, 55, 0, 0, 0, 0, []), (92, .goto 20, 56, 66, 0, 0, 0, []), (95, .iload_n 3, 57, 3, 0, 0, 0, []), (96, .bipush 6, 58, 0, 0, 6, 0, []), (98, .if_icmp .ne 12, 59, 65, 0, 0, 0, []), (101, .iload 4, 60, 4, 0, 0, 0, []), (103, .iload_n 1, 61, 1, 0, 0, 0, []), (104, .isub, 62, 0, 0, 0, 0, []), (105, .iconst 2, 63, 0, 0, 2, 0, []), (106, .imul, 64, 0, 0, 0, 0, [])]
def kM_breathesBy_4 : List dmA := [(107, .goto 5, 65, 66, 0, 0, 0, []), (110, .iload 4, 66, 4, 0, 0, 0, []), (112, .ireturn, 67, 0, 0, 0, 0, [])]
def kM_breathesBy : List (List dmA) := [kM_breathesBy_0, kM_breathesBy_1, kM_breathesBy_2, kM_breathesBy_3, kM_breathesBy_4]
def mM_breathesBy : dmM := (⟨"WhichOneAllKnowModel", "breathesBy", "(II)I"⟩, prog_8_method_86_code, 5, some (.int), kM_breathesBy, [1325, 1324, 72, 84])
def kM_ran_0 : List dmA := [(0, .aload_n 0, 1, 0, 0, 0, 0, []), (1, .getfield 290, 2, 19, 6, 0, 904, []), (4, .bipush 20, 3, 0, 0, 20, 0, []), (6, .if_icmp .ge 13, 4, 10, 0, 0, 0, []), (9, .aload_n 0, 5, 0, 0, 0, 0, []), (10, .getfield 44, 6, 20, 6, 1, 905, []), (13, .aload_n 0, 7, 0, 0, 0, 0, []), (14, .getfield 290, 8, 19, 6, 0, 904, []), (17, .iload_n 1, 9, 1, 0, 0, 0, []), (18, .iastore, 10, 0, 0, 0, 0, []), (19, .aload_n 0, 11, 0, 0, 0, 0, []), (20, .dup, 12, 0, 0, 0, 0, []), (21, .getfield 290, 13, 19, 6, 0, 904, []), (24, .iconst 1, 14, 0, 0, 1, 0, []), (25, .iadd, 15, 0, 0, 0, 0, []), (26, .putfield 290, 16, 19, 6, 0, 904, [])]
def kM_ran_1 : List dmA := [(29, .return_, 17, 0, 0, 0, 0, [])]
def kM_ran : List (List dmA) := [kM_ran_0, kM_ran_1]
def mM_ran : dmM := (⟨"WhichOneAllKnowModel", "ran", "(I)V"⟩, prog_8_method_85_code, 2, none, kM_ran, [1329, 1328, 73, 84])
def kM_singsBy_0 : List dmA := [(0, .aload_n 0, 1, 0, 0, 0, 0, []), (1, .getfield 20, 2, 4, 6, 1, 889, []), (4, .iload_n 1, 3, 1, 0, 0, 0, []), (5, .iaload, 4, 0, 0, 0, 0, []), (6, .istore_n 3, 5, 3, 0, 0, 0, []), (7, .iload_n 2, 6, 2, 0, 0, 0, []), (8, .istore 4, 7, 4, 0, 0, 0, []), (10, .iload_n 3, 8, 3, 0, 0, 0, []), (11, .bipush 6, 9, 0, 0, 6, 0, []), (13, .if_icmp .ne 19, 10, 20, 0, 0, 0, []), (16, .aload_n 0, 11, 0, 0, 0, 0, []), (17, .bipush 71, 12, 0, 0, 71, 0, []), (19, .invokevirtual 293, 13, 221, 1, 0, 1326, []), (22, .iload_n 2, 14, 2, 0, 0, 0, []), (23, .aload_n 0, 15, 0, 0, 0, 0, []), (24, .getfield 23, 16, 5, 6, 1, 890, [])]
def kM_singsBy_1 : List dmA := [(27, .iload_n 1, 17, 1, 0, 0, 0, []), (28, .iaload, 18, 0, 0, 0, 0, []), (29, .isub, 19, 0, 0, 0, 0, []), (30, .istore 4, 20, 4, 0, 0, 0, []), (32, .iload_n 3, 21, 3, 0, 0, 0, []), (33, .iconst 3, 22, 0, 0, 3, 0, []), (34, .if_icmp .ne 14, 23, 30, 0, 0, 0, []), (37, .aload_n 0, 24, 0, 0, 0, 0, []), (38, .bipush 40, 25, 0, 0, 40, 0, []), (40, .invokevirtual 293, 26, 221, 1, 0, 1326, []), (43, .iload_n 2, 27, 2, 0, 0, 0, []), (44, .iconst 1, 28, 0, 0, 1, 0, []), (45, .iadd, 29, 0, 0, 0, 0, []), (46, .istore 4, 30, 4, 0, 0, 0, []), (48, .iload_n 3, 31, 3, 0, 0, 0, []), (49, .iconst 2, 32, 0, 0, 2, 0, [])]
def kM_singsBy_2 : List dmA := [(50, .if_icmp .eq 8, 33, 36, 0, 0, 0, []), (53, .iload_n 3, 34, 3, 0, 0, 0, []), (54, .iconst 5, 35, 0, 0, 5, 0, []), (55, .if_icmp .ne 9, 36, 39, 0, 0, 0, []), (58, .aload_n 0, 37, 0, 0, 0, 0, []), (59, .bipush 30, 38, 0, 0, 30, 0, []), (61, .invokevirtual 293, 39, 221, 1, 0, 1326, []), (64, .aload_n 0, 40, 0, 0, 0, 0, []), (65, .bipush 11, 41, 0, 0, 11, 0, []), (67, .invokevirtual 293, 42, 221, 1, 0, 1326, []), (70, .aload_n 0, 43, 0, 0, 0, 0, []), (71, .iload_n 1, 44, 1, 0, 0, 0, []), (72, .iload 4, 45, 4, 0, 0, 0, []), (74, .invokevirtual 296, 46, 220, 2, 0, 1322, []), (77, .iconst 2, 47, 0, 0, 2, 0, []), (78, .imul, 48, 0, 0, 0, 0, [])]
def kM_singsBy_3 : List dmA := [(79, .istore 5, 49, 5, 0, 0, 0, []), (81, .iload_n 3, 50, 3, 0, 0, 0, []), (82, .iconst 2, 51, 0, 0, 2, 0, []), (83, .if_icmp .eq 8, 52, 55, 0, 0, 0, []), (86, .iload_n 3, 53, 3, 0, 0, 0, []), (87, .iconst 5, 54, 0, 0, 5, 0, []), (88, .if_icmp .ne 10, 55, 59, 0, 0, 0, []), (91, .iload 5, 56, 5, 0, 0, 0, []), (93, .iconst 3, 57, 0, 0, 3, 0, []), (94, .imul, 58, 0, 0, 0, 0, []), (95, .goto 5, 59, 60, 0, 0, 0, []), (98, .iload 5, 60, 5, 0, 0, 0, []), (100, .ireturn, 61, 0, 0, 0, 0, [])]
def kM_singsBy : List (List dmA) := [kM_singsBy_0, kM_singsBy_1, kM_singsBy_2, kM_singsBy_3]
def mM_singsBy : dmM := (⟨"WhichOneAllKnowModel", "singsBy", "(II)I"⟩, prog_8_method_87_code, 6, some (.int), kM_singsBy, [1333, 1332, 74, 84])
def kM_sitsBy_0 : List dmA := [(0, .aload_n 0, 1, 0, 0, 0, 0, []), (1, .getfield 20, 2, 4, 6, 1, 889, []), (4, .iload_n 1, 3, 1, 0, 0, 0, []), (5, .iaload, 4, 0, 0, 0, 0, []), (6, .istore_n 3, 5, 3, 0, 0, 0, []), (7, .iload_n 3, 6, 3, 0, 0, 0, []), (8, .iconst 4, 7, 0, 0, 4, 0, []), (9, .if_icmp .eq 9, 8, 11, 0, 0, 0, []), (12, .iload_n 3, 9, 3, 0, 0, 0, []), (13, .bipush 6, 10, 0, 0, 6, 0, []), (15, .if_icmp .ne 9, 11, 14, 0, 0, 0, []), (18, .aload_n 0, 12, 0, 0, 0, 0, []), (19, .bipush 50, 13, 0, 0, 50, 0, []), (21, .invokevirtual 293, 14, 221, 1, 0, 1326, []), (24, .iload_n 3, 15, 3, 0, 0, 0, []), (25, .iconst 5, 16, 0, 0, 5, 0, [])]
def kM_sitsBy_1 : List dmA := [(26, .if_icmp .ne 9, 17, 20, 0, 0, 0, []), (29, .aload_n 0, 18, 0, 0, 0, 0, []), (30, .bipush 60, 19, 0, 0, 60, 0, []), (32, .invokevirtual 293, 20, 221, 1, 0, 1326, []), (35, .aload_n 0, 21, 0, 0, 0, 0, []), (36, .bipush 12, 22, 0, 0, 12, 0, []), (38, .invokevirtual 293, 23, 221, 1, 0, 1326, []), (41, .aload_n 0, 24, 0, 0, 0, 0, []), (42, .iload_n 1, 25, 1, 0, 0, 0, []), (43, .iload_n 2, 26, 2, 0, 0, 0, []), (44, .invokevirtual 299, 27, 222, 2, 0, 1330, []), (47, .istore 4, 28, 4, 0, 0, 0, []), (49, .iload 4, 29, 4, 0, 0, 0, []), (51, .aload_n 0, 30, 0, 0, 0, 0, []), (52, .iload_n 1, 31, 1, 0, 0, 0, []), (53, .iload_n 2, 32, 2, 0, 0, 0, [])]
def kM_sitsBy_2 : List dmA := [(54, .aload_n 0, 33, 0, 0, 0, 0, []), (55, .getfield 23, 34, 5, 6, 1, 890, []), (58, .iload_n 1, 35, 1, 0, 0, 0, []), (59, .iaload, 36, 0, 0, 0, 0, []), (60, .isub, 37, 0, 0, 0, 0, []), (61, .invokevirtual 296, 38, 220, 2, 0, 1322, []), (64, .ixor, 39, 0, 0, 0, 0, []), (65, .istore 5, 40, 5, 0, 0, 0, []), (67, .iload_n 3, 41, 3, 0, 0, 0, []), (68, .iconst 4, 42, 0, 0, 4, 0, []), (69, .if_icmp .eq 9, 43, 46, 0, 0, 0, []), (72, .iload_n 3, 44, 3, 0, 0, 0, []), (73, .bipush 6, 45, 0, 0, 6, 0, []), (75, .if_icmp .ne 9, 46, 49, 0, 0, 0, []), (78, .iload 5, 47, 5, 0, 0, 0, []), (80, .ineg, 48, 0, 0, 0, 0, [])]
def kM_sitsBy_3 : List dmA := [(81, .goto 17, 49, 57, 0, 0, 0, []), (84, .iload_n 3, 50, 3, 0, 0, 0, []), (85, .iconst 5, 51, 0, 0, 5, 0, []), (86, .if_icmp .ne 10, 52, 56, 0, 0, 0, []), (89, .iload 5, 53, 5, 0, 0, 0, []), (91, .iconst 5, 54, 0, 0, 5, 0, []), (92, .ixor, 55, 0, 0, 0, 0, []), (93, .goto 5, 56, 57, 0, 0, 0, []), (96, .iload 5, 57, 5, 0, 0, 0, []), (98, .ireturn, 58, 0, 0, 0, 0, [])]
def kM_sitsBy : List (List dmA) := [kM_sitsBy_0, kM_sitsBy_1, kM_sitsBy_2, kM_sitsBy_3]
def mM_sitsBy : dmM := (⟨"WhichOneAllKnowModel", "sitsBy", "(II)I"⟩, prog_8_method_88_code, 6, some (.int), kM_sitsBy, [1337, 1336, 75, 84])
def kM_trace_0 : List dmA := [(0, .iload_n 1, 1, 1, 0, 0, 0, []), (1, .ifCond .lt 26, 2, 14, 0, 0, 0, []), (4, .iload_n 1, 3, 1, 0, 0, 0, []), (5, .aload_n 0, 4, 0, 0, 0, 0, []), (6, .getfield 290, 5, 19, 6, 0, 904, []), (9, .if_icmp .ge 18, 6, 14, 0, 0, 0, []), (12, .iload_n 1, 7, 1, 0, 0, 0, []), (13, .bipush 20, 8, 0, 0, 20, 0, []), (15, .if_icmp .ge 12, 9, 14, 0, 0, 0, []), (18, .aload_n 0, 10, 0, 0, 0, 0, []), (19, .getfield 44, 11, 20, 6, 1, 905, []), (22, .iload_n 1, 12, 1, 0, 0, 0, []), (23, .iaload, 13, 0, 0, 0, 0, []), (24, .goto 4, 14, 15, 0, 0, 0, []), (27, .iconst (-1), 15, 0, 0, -1, 0, []), (28, .ireturn, 16, 0, 0, 0, 0, [])]
def kM_trace : List (List dmA) := [kM_trace_0]
def mM_trace : dmM := (⟨"WhichOneAllKnowModel", "trace", "(I)I"⟩, prog_8_method_90_code, 2, some (.int), kM_trace, [1341, 1339, 1340, 84])
def kM_image_0 : List dmA := [(0, .aload_n 0, 1, 0, 0, 0, 0, []), (1, .iconst 1, 2, 0, 0, 1, 0, []), (2, .putfield 305, 3, 22, 6, 0, 907, []), (5, .aload_n 0, 4, 0, 0, 0, 0, []), (6, .aload_n 0, 5, 0, 0, 0, 0, []), (7, .getfield 50, 6, 23, 6, 1, 908, []), (10, .invokevirtual 176, 7, 161, 1, 0, 1079, []), (13, .aload_n 0, 8, 0, 0, 0, 0, []), (14, .getfield 82, 9, 3, 6, 0, 888, []), (17, .ireturn, 10, 0, 0, 0, 0, [])]
def kM_image : List (List dmA) := [kM_image_0]
def mM_image : dmM := (⟨"WhichOneAllKnowModel", "image", "()I"⟩, prog_8_method_93_code, 1, some (.int), kM_image, [1345, 1343, 1344, 84])
def kM_restore_0 : List dmA := [(0, .aload_n 0, 1, 0, 0, 0, 0, []), (1, .getfield 305, 2, 22, 6, 0, 907, []), (4, .ifCond .ne 10, 3, 7, 0, 0, 0, []), (7, .aload_n 0, 4, 0, 0, 0, 0, []), (8, .bipush (-6), 5, 0, 0, -6, 0, []), (10, .invokevirtual 78, 6, 136, 1, 0, 980, []), (13, .ireturn, 7, 0, 0, 0, 0, []), (14, .aload_n 0, 8, 0, 0, 0, 0, []), (15, .aload_n 0, 9, 0, 0, 0, 0, []), (16, .getfield 50, 10, 23, 6, 1, 908, []), (19, .invokevirtual 184, 11, 169, 1, 0, 1118, []), (22, .iconst 0, 12, 0, 0, 0, 0, []), (23, .istore_n 1, 13, 1, 0, 0, 0, []), (24, .iload_n 1, 14, 1, 0, 0, 0, []), (25, .bipush 8, 15, 0, 0, 8, 0, []), (27, .if_icmp .ge 37, 16, 34, 0, 0, 0, [])]
def kM_restore_1 : List dmA := [(30, .aload_n 0, 17, 0, 0, 0, 0, []), (31, .iload_n 1, 18, 1, 0, 0, 0, []), (32, .invokevirtual 96, 19, 139, 1, 0, 992, []), (35, .ifCond .ne 23, 20, 32, 0, 0, 0, []), (38, .aload_n 0, 21, 0, 0, 0, 0, []), (39, .getfield 7, 22, 0, 6, 1, 885, []), (42, .iload_n 1, 23, 1, 0, 0, 0, []), (43, .iaload, 24, 0, 0, 0, 0, []), (44, .aload_n 0, 25, 0, 0, 0, 0, []), (45, .getfield 82, 26, 3, 6, 0, 888, []), (48, .if_icmp .lt 10, 27, 32, 0, 0, 0, []), (51, .aload_n 0, 28, 0, 0, 0, 0, []), (52, .getfield 7, 29, 0, 6, 1, 885, []), (55, .iload_n 1, 30, 1, 0, 0, 0, []), (56, .iconst (-1), 31, 0, 0, -1, 0, []), (57, .iastore, 32, 0, 0, 0, 0, [])]
def kM_restore_2 : List dmA := [(58, .iinc 1 1, 33, 1, 0, 1, 0, []), (61, .goto (-37), 34, 13, 0, 0, 0, []), (64, .aload_n 0, 35, 0, 0, 0, 0, []), (65, .getfield 82, 36, 3, 6, 0, 888, []), (68, .ireturn, 37, 0, 0, 0, 0, [])]
def kM_restore : List (List dmA) := [kM_restore_0, kM_restore_1, kM_restore_2]
def mM_restore : dmM := (⟨"WhichOneAllKnowModel", "restore", "()I"⟩, prog_8_method_94_code, 2, some (.int), kM_restore, [1349, 1347, 1348, 84])
def kM_status_0 : List dmA := [(0, .iload_n 1, 1, 1, 0, 0, 0, []), (1, .tableswitch 90 0 7 #[47, 52, 57, 62, 67, 72, 80, 85], 2, 28, 47, 0, 0, [2, 5, 8, 11, 14, 17, 22, 25]), (48, .aload_n 0, 3, 0, 0, 0, 0, []), (49, .getfield 82, 4, 3, 6, 0, 888, []), (52, .ireturn, 5, 0, 0, 0, 0, []), (53, .aload_n 0, 6, 0, 0, 0, 0, []), (54, .getfield 89, 7, 10, 6, 0, 895, []), (57, .ireturn, 8, 0, 0, 0, 0, []), (58, .aload_n 0, 9, 0, 0, 0, 0, []), (59, .getfield 280, 10, 13, 6, 0, 898, []), (62, .ireturn, 11, 0, 0, 0, 0, []), (63, .aload_n 0, 12, 0, 0, 0, 0, []), (64, .getfield 65, 13, 12, 6, 0, 897, []), (67, .ireturn, 14, 0, 0, 0, 0, []), (68, .aload_n 0, 15, 0, 0, 0, 0, []), (69, .invokevirtual 271, 16, 208, 0, 0, 1273, [])]
def kM_status_1 : List dmA := [(72, .ireturn, 17, 0, 0, 0, 0, []), (73, .bipush 24, 18, 0, 0, 24, 0, []), (75, .aload_n 0, 19, 0, 0, 0, 0, []), (76, .getfield 82, 20, 3, 6, 0, 888, []), (79, .isub, 21, 0, 0, 0, 0, []), (80, .ireturn, 22, 0, 0, 0, 0, []), (81, .aload_n 0, 23, 0, 0, 0, 0, []), (82, .getfield 69, 24, 14, 6, 0, 899, []), (85, .ireturn, 25, 0, 0, 0, 0, []), (86, .aload_n 0, 26, 0, 0, 0, 0, []), (87, .getfield 290, 27, 19, 6, 0, 904, []), (90, .ireturn, 28, 0, 0, 0, 0, []), (91, .iload_n 1, 29, 1, 0, 0, 0, []), (92, .bipush 11, 30, 0, 0, 11, 0, []), (94, .bipush 17, 31, 0, 0, 17, 0, []), (96, .invokestatic 85, 32, 135, 3, 0, 977, [1])]
def kM_status_2 : List dmA := [(99, .ifCond .eq 15, 33, 40, 0, 0, 0, []), (102, .aload_n 0, 34, 0, 0, 0, 0, []), (103, .getfield 47, 35, 21, 6, 1, 906, []), (106, .iload_n 1, 36, 1, 0, 0, 0, []), (107, .bipush 10, 37, 0, 0, 10, 0, []), (109, .isub, 38, 0, 0, 0, 0, []), (110, .iaload, 39, 0, 0, 0, 0, []), (111, .goto 4, 40, 41, 0, 0, 0, []), (114, .iconst (-1), 41, 0, 0, -1, 0, []), (115, .ireturn, 42, 0, 0, 0, 0, [])]
def kM_status : List (List dmA) := [kM_status_0, kM_status_1, kM_status_2]
def mM_status : dmM := (⟨"WhichOneAllKnowModel", "status", "(I)I"⟩, prog_8_method_95_code, 2, some (.int), kM_status, [1353, 1351, 1352, 84])
def kL_law_0 : List dmA := [(0, .new 7, 1, 5, 0, 0, 91, []), (3, .dup, 2, 0, 0, 0, 0, []), (4, .invokespecial 9, 3, 0, 0, 0, 93, [2]), (7, .astore_n 1, 4, 1, 0, 0, 0, []), (8, .new 10, 5, 6, 0, 0, 879, []), (11, .dup, 6, 0, 0, 0, 0, []), (12, .invokespecial 12, 7, 133, 0, 0, 881, [2]), (15, .astore_n 2, 8, 2, 0, 0, 0, []), (16, .iconst 0, 9, 0, 0, 0, 0, []), (17, .istore_n 3, 10, 3, 0, 0, 0, []), (18, .iload_n 3, 11, 3, 0, 0, 0, []), (19, .aload_n 0, 12, 0, 0, 0, 0, []), (20, .arraylength, 13, 0, 0, 0, 0, []), (21, .bipush 6, 14, 0, 0, 6, 0, []), (23, .isub, 15, 0, 0, 0, 0, []), (24, .if_icmp .gt 1664, 16, 1234, 0, 0, 0, [])]
def kL_law_1 : List dmA := [(27, .aload_n 0, 17, 0, 0, 0, 0, []), (28, .iload_n 3, 18, 3, 0, 0, 0, []), (29, .iaload, 19, 0, 0, 0, 0, []), (30, .bipush 63, 20, 0, 0, 63, 0, []), (32, .iand, 21, 0, 0, 0, 0, []), (33, .tableswitch 1649 0 40 #[179, 222, 295, 358, 392, 425, 448, 481, 504, 567, 626, 659, 682, 715, 738, 761, 774, 827, 860, 903, 936, 969, 992, 1055, 1088, 1141, 1174, 1207, 1250, 1303, 1336, 1369, 1412, 1445, 1488, 1511, 1534, 1577, 1600, 1613, 1626], 22, 1232, 179, 0, 0, [22, 59, 120, 177, 205, 232, 249, 276, 293, 350, 395, 422, 439, 466, 483, 500, 507, 554, 581, 618, 645, 672, 689, 746, 773, 820, 847, 874, 911, 958, 985, 1012, 1049, 1076, 1113, 1130, 1147, 1184, 1201, 1208, 1215]), (212, .aload_n 1, 23, 1, 0, 0, 0, []), (213, .aload_n 0, 24, 0, 0, 0, 0, []), (214, .iload_n 3, 25, 3, 0, 0, 0, []), (215, .iconst 1, 26, 0, 0, 1, 0, []), (216, .iadd, 27, 0, 0, 0, 0, []), (217, .iaload, 28, 0, 0, 0, 0, []), (218, .aload_n 0, 29, 0, 0, 0, 0, []), (219, .iload_n 3, 30, 3, 0, 0, 0, []), (220, .iconst 2, 31, 0, 0, 2, 0, []), (221, .iadd, 32, 0, 0, 0, 0, [])]
def kL_law_2 : List dmA := [(222, .iaload, 33, 0, 0, 0, 0, []), (223, .aload_n 0, 34, 0, 0, 0, 0, []), (224, .iload_n 3, 35, 3, 0, 0, 0, []), (225, .iconst 3, 36, 0, 0, 3, 0, []), (226, .iadd, 37, 0, 0, 0, 0, []), (227, .iaload, 38, 0, 0, 0, 0, []), (228, .invokevirtual 13, 39, 7, 3, 0, 314, []), (231, .aload_n 2, 40, 2, 0, 0, 0, []), (232, .aload_n 0, 41, 0, 0, 0, 0, []), (233, .iload_n 3, 42, 3, 0, 0, 0, []), (234, .iconst 1, 43, 0, 0, 1, 0, []), (235, .iadd, 44, 0, 0, 0, 0, []), (236, .iaload, 45, 0, 0, 0, 0, []), (237, .aload_n 0, 46, 0, 0, 0, 0, []), (238, .iload_n 3, 47, 3, 0, 0, 0, []), (239, .iconst 2, 48, 0, 0, 2, 0, [])]
def kL_law_3 : List dmA := [(240, .iadd, 49, 0, 0, 0, 0, []), (241, .iaload, 50, 0, 0, 0, 0, []), (242, .aload_n 0, 51, 0, 0, 0, 0, []), (243, .iload_n 3, 52, 3, 0, 0, 0, []), (244, .iconst 3, 53, 0, 0, 3, 0, []), (245, .iadd, 54, 0, 0, 0, 0, []), (246, .iaload, 55, 0, 0, 0, 0, []), (247, .invokevirtual 17, 56, 134, 3, 0, 973, []), (250, .if_icmp .eq 1432, 57, 1232, 0, 0, 0, []), (253, .iconst 0, 58, 0, 0, 0, 0, []), (254, .ireturn, 59, 0, 0, 0, 0, []), (255, .aload_n 1, 60, 1, 0, 0, 0, []), (256, .aload_n 0, 61, 0, 0, 0, 0, []), (257, .iload_n 3, 62, 3, 0, 0, 0, []), (258, .iconst 1, 63, 0, 0, 1, 0, []), (259, .iadd, 64, 0, 0, 0, 0, [])]
def kL_law_4 : List dmA := [(260, .iaload, 65, 0, 0, 0, 0, []), (261, .aload_n 0, 66, 0, 0, 0, 0, []), (262, .iload_n 3, 67, 3, 0, 0, 0, []), (263, .iconst 2, 68, 0, 0, 2, 0, []), (264, .iadd, 69, 0, 0, 0, 0, []), (265, .iaload, 70, 0, 0, 0, 0, []), (266, .aload_n 0, 71, 0, 0, 0, 0, []), (267, .iload_n 3, 72, 3, 0, 0, 0, []), (268, .iconst 3, 73, 0, 0, 3, 0, []), (269, .iadd, 74, 0, 0, 0, 0, []), (270, .iaload, 75, 0, 0, 0, 0, []), (271, .i2l, 76, 0, 0, 0, 0, []), (272, .bipush 32, 77, 0, 0, 32, 0, []), (274, .lshl, 78, 0, 0, 0, 0, []), (275, .aload_n 0, 79, 0, 0, 0, 0, []), (276, .iload_n 3, 80, 3, 0, 0, 0, [])]
def kL_law_5 : List dmA := [(277, .iconst 4, 81, 0, 0, 4, 0, []), (278, .iadd, 82, 0, 0, 0, 0, []), (279, .iaload, 83, 0, 0, 0, 0, []), (280, .i2l, 84, 0, 0, 0, 0, []), (281, .ldc2_w 18, 85, 4294967295, 0, 0, 1354, []), (284, .land, 86, 0, 0, 0, 0, []), (285, .lor, 87, 0, 0, 0, 0, []), (286, .invokevirtual 20, 88, 12, 3, 0, 333, []), (289, .aload_n 2, 89, 2, 0, 0, 0, []), (290, .aload_n 0, 90, 0, 0, 0, 0, []), (291, .iload_n 3, 91, 3, 0, 0, 0, []), (292, .iconst 1, 92, 0, 0, 1, 0, []), (293, .iadd, 93, 0, 0, 0, 0, []), (294, .iaload, 94, 0, 0, 0, 0, []), (295, .aload_n 0, 95, 0, 0, 0, 0, []), (296, .iload_n 3, 96, 3, 0, 0, 0, [])]
def kL_law_6 : List dmA := [(297, .iconst 2, 97, 0, 0, 2, 0, []), (298, .iadd, 98, 0, 0, 0, 0, []), (299, .iaload, 99, 0, 0, 0, 0, []), (300, .aload_n 0, 100, 0, 0, 0, 0, []), (301, .iload_n 3, 101, 3, 0, 0, 0, []), (302, .iconst 3, 102, 0, 0, 3, 0, []), (303, .iadd, 103, 0, 0, 0, 0, []), (304, .iaload, 104, 0, 0, 0, 0, []), (305, .i2l, 105, 0, 0, 0, 0, []), (306, .bipush 32, 106, 0, 0, 32, 0, []), (308, .lshl, 107, 0, 0, 0, 0, []), (309, .aload_n 0, 108, 0, 0, 0, 0, []), (310, .iload_n 3, 109, 3, 0, 0, 0, []), (311, .iconst 4, 110, 0, 0, 4, 0, []), (312, .iadd, 111, 0, 0, 0, 0, []), (313, .iaload, 112, 0, 0, 0, 0, [])]
def kL_law_7 : List dmA := [(314, .i2l, 113, 0, 0, 0, 0, []), (315, .ldc2_w 18, 114, 4294967295, 0, 0, 1354, []), (318, .land, 115, 0, 0, 0, 0, []), (319, .lor, 116, 0, 0, 0, 0, []), (320, .invokevirtual 24, 117, 137, 3, 0, 984, []), (323, .if_icmp .eq 1359, 118, 1232, 0, 0, 0, []), (326, .iconst 0, 119, 0, 0, 0, 0, []), (327, .ireturn, 120, 0, 0, 0, 0, []), (328, .aload_n 1, 121, 1, 0, 0, 0, []), (329, .aload_n 0, 122, 0, 0, 0, 0, []), (330, .iload_n 3, 123, 3, 0, 0, 0, []), (331, .iconst 1, 124, 0, 0, 1, 0, []), (332, .iadd, 125, 0, 0, 0, 0, []), (333, .iaload, 126, 0, 0, 0, 0, []), (334, .aload_n 0, 127, 0, 0, 0, 0, []), (335, .iload_n 3, 128, 3, 0, 0, 0, [])]
def kL_law_8 : List dmA := [(336, .iconst 2, 129, 0, 0, 2, 0, []), (337, .iadd, 130, 0, 0, 0, 0, []), (338, .iaload, 131, 0, 0, 0, 0, []), (339, .aload_n 0, 132, 0, 0, 0, 0, []), (340, .iload_n 3, 133, 3, 0, 0, 0, []), (341, .iconst 3, 134, 0, 0, 3, 0, []), (342, .iadd, 135, 0, 0, 0, 0, []), (343, .iaload, 136, 0, 0, 0, 0, []), (344, .aload_n 0, 137, 0, 0, 0, 0, []), (345, .iload_n 3, 138, 3, 0, 0, 0, []), (346, .iconst 4, 139, 0, 0, 4, 0, []), (347, .iadd, 140, 0, 0, 0, 0, []), (348, .iaload, 141, 0, 0, 0, 0, []), (349, .aload_n 0, 142, 0, 0, 0, 0, []), (350, .iload_n 3, 143, 3, 0, 0, 0, []), (351, .iconst 5, 144, 0, 0, 5, 0, [])]
def kL_law_9 : List dmA := [(352, .iadd, 145, 0, 0, 0, 0, []), (353, .iaload, 146, 0, 0, 0, 0, []), (354, .invokevirtual 25, 147, 18, 5, 0, 358, []), (357, .aload_n 2, 148, 2, 0, 0, 0, []), (358, .aload_n 0, 149, 0, 0, 0, 0, []), (359, .iload_n 3, 150, 3, 0, 0, 0, []), (360, .iconst 1, 151, 0, 0, 1, 0, []), (361, .iadd, 152, 0, 0, 0, 0, []), (362, .iaload, 153, 0, 0, 0, 0, []), (363, .aload_n 0, 154, 0, 0, 0, 0, []), (364, .iload_n 3, 155, 3, 0, 0, 0, []), (365, .iconst 2, 156, 0, 0, 2, 0, []), (366, .iadd, 157, 0, 0, 0, 0, []), (367, .iaload, 158, 0, 0, 0, 0, []), (368, .aload_n 0, 159, 0, 0, 0, 0, []), (369, .iload_n 3, 160, 3, 0, 0, 0, [])]
def kL_law_10 : List dmA := [(370, .iconst 3, 161, 0, 0, 3, 0, []), (371, .iadd, 162, 0, 0, 0, 0, []), (372, .iaload, 163, 0, 0, 0, 0, []), (373, .aload_n 0, 164, 0, 0, 0, 0, []), (374, .iload_n 3, 165, 3, 0, 0, 0, []), (375, .iconst 4, 166, 0, 0, 4, 0, []), (376, .iadd, 167, 0, 0, 0, 0, []), (377, .iaload, 168, 0, 0, 0, 0, []), (378, .aload_n 0, 169, 0, 0, 0, 0, []), (379, .iload_n 3, 170, 3, 0, 0, 0, []), (380, .iconst 5, 171, 0, 0, 5, 0, []), (381, .iadd, 172, 0, 0, 0, 0, []), (382, .iaload, 173, 0, 0, 0, 0, []), (383, .invokevirtual 29, 174, 140, 5, 0, 996, []), (386, .if_icmp .eq 1296, 175, 1232, 0, 0, 0, []), (389, .iconst 0, 176, 0, 0, 0, 0, [])]
def kL_law_11 : List dmA := [(390, .ireturn, 177, 0, 0, 0, 0, []), (391, .aload_n 1, 178, 1, 0, 0, 0, []), (392, .aload_n 0, 179, 0, 0, 0, 0, []), (393, .iload_n 3, 180, 3, 0, 0, 0, []), (394, .iconst 1, 181, 0, 0, 1, 0, []), (395, .iadd, 182, 0, 0, 0, 0, []), (396, .iaload, 183, 0, 0, 0, 0, []), (397, .aload_n 0, 184, 0, 0, 0, 0, []), (398, .iload_n 3, 185, 3, 0, 0, 0, []), (399, .iconst 2, 186, 0, 0, 2, 0, []), (400, .iadd, 187, 0, 0, 0, 0, []), (401, .iaload, 188, 0, 0, 0, 0, []), (402, .invokevirtual 30, 189, 21, 2, 0, 373, []), (405, .aload_n 2, 190, 2, 0, 0, 0, []), (406, .aload_n 0, 191, 0, 0, 0, 0, []), (407, .iload_n 3, 192, 3, 0, 0, 0, [])]
def kL_law_12 : List dmA := [(408, .iconst 1, 193, 0, 0, 1, 0, []), (409, .iadd, 194, 0, 0, 0, 0, []), (410, .iaload, 195, 0, 0, 0, 0, []), (411, .aload_n 0, 196, 0, 0, 0, 0, []), (412, .iload_n 3, 197, 3, 0, 0, 0, []), (413, .iconst 2, 198, 0, 0, 2, 0, []), (414, .iadd, 199, 0, 0, 0, 0, []), (415, .iaload, 200, 0, 0, 0, 0, []), (416, .invokevirtual 34, 201, 141, 2, 0, 1000, []), (419, .lcmp, 202, 0, 0, 0, 0, []), (420, .ifCond .eq 1262, 203, 1232, 0, 0, 0, []), (423, .iconst 0, 204, 0, 0, 0, 0, []), (424, .ireturn, 205, 0, 0, 0, 0, []), (425, .aload_n 1, 206, 1, 0, 0, 0, []), (426, .aload_n 0, 207, 0, 0, 0, 0, []), (427, .iload_n 3, 208, 3, 0, 0, 0, [])]
def kL_law_13 : List dmA := [(428, .iconst 1, 209, 0, 0, 1, 0, []), (429, .iadd, 210, 0, 0, 0, 0, []), (430, .iaload, 211, 0, 0, 0, 0, []), (431, .aload_n 0, 212, 0, 0, 0, 0, []), (432, .iload_n 3, 213, 3, 0, 0, 0, []), (433, .iconst 2, 214, 0, 0, 2, 0, []), (434, .iadd, 215, 0, 0, 0, 0, []), (435, .iaload, 216, 0, 0, 0, 0, []), (436, .invokevirtual 35, 217, 22, 2, 0, 377, []), (439, .aload_n 2, 218, 2, 0, 0, 0, []), (440, .aload_n 0, 219, 0, 0, 0, 0, []), (441, .iload_n 3, 220, 3, 0, 0, 0, []), (442, .iconst 1, 221, 0, 0, 1, 0, []), (443, .iadd, 222, 0, 0, 0, 0, []), (444, .iaload, 223, 0, 0, 0, 0, []), (445, .aload_n 0, 224, 0, 0, 0, 0, [])]
def kL_law_14 : List dmA := [(446, .iload_n 3, 225, 3, 0, 0, 0, []), (447, .iconst 2, 226, 0, 0, 2, 0, []), (448, .iadd, 227, 0, 0, 0, 0, []), (449, .iaload, 228, 0, 0, 0, 0, []), (450, .invokevirtual 39, 229, 142, 2, 0, 1004, []), (453, .if_icmp .eq 1229, 230, 1232, 0, 0, 0, []), (456, .iconst 0, 231, 0, 0, 0, 0, []), (457, .ireturn, 232, 0, 0, 0, 0, []), (458, .aload_n 1, 233, 1, 0, 0, 0, []), (459, .aload_n 0, 234, 0, 0, 0, 0, []), (460, .iload_n 3, 235, 3, 0, 0, 0, []), (461, .iconst 1, 236, 0, 0, 1, 0, []), (462, .iadd, 237, 0, 0, 0, 0, []), (463, .iaload, 238, 0, 0, 0, 0, []), (464, .invokevirtual 40, 239, 24, 1, 0, 385, []), (467, .aload_n 2, 240, 2, 0, 0, 0, [])]
def kL_law_15 : List dmA := [(468, .aload_n 0, 241, 0, 0, 0, 0, []), (469, .iload_n 3, 242, 3, 0, 0, 0, []), (470, .iconst 1, 243, 0, 0, 1, 0, []), (471, .iadd, 244, 0, 0, 0, 0, []), (472, .iaload, 245, 0, 0, 0, 0, []), (473, .invokevirtual 44, 246, 144, 1, 0, 1012, []), (476, .if_icmp .eq 1206, 247, 1232, 0, 0, 0, []), (479, .iconst 0, 248, 0, 0, 0, 0, []), (480, .ireturn, 249, 0, 0, 0, 0, []), (481, .aload_n 1, 250, 1, 0, 0, 0, []), (482, .aload_n 0, 251, 0, 0, 0, 0, []), (483, .iload_n 3, 252, 3, 0, 0, 0, []), (484, .iconst 1, 253, 0, 0, 1, 0, []), (485, .iadd, 254, 0, 0, 0, 0, []), (486, .iaload, 255, 0, 0, 0, 0, []), (487, .aload_n 0, 256, 0, 0, 0, 0, [])]
def kL_law_16 : List dmA := [(488, .iload_n 3, 257, 3, 0, 0, 0, []), (489, .iconst 2, 258, 0, 0, 2, 0, []), (490, .iadd, 259, 0, 0, 0, 0, []), (491, .iaload, 260, 0, 0, 0, 0, []), (492, .invokevirtual 45, 261, 25, 2, 0, 389, []), (495, .aload_n 2, 262, 2, 0, 0, 0, []), (496, .aload_n 0, 263, 0, 0, 0, 0, []), (497, .iload_n 3, 264, 3, 0, 0, 0, []), (498, .iconst 1, 265, 0, 0, 1, 0, []), (499, .iadd, 266, 0, 0, 0, 0, []), (500, .iaload, 267, 0, 0, 0, 0, []), (501, .aload_n 0, 268, 0, 0, 0, 0, []), (502, .iload_n 3, 269, 3, 0, 0, 0, []), (503, .iconst 2, 270, 0, 0, 2, 0, []), (504, .iadd, 271, 0, 0, 0, 0, []), (505, .iaload, 272, 0, 0, 0, 0, [])]
def kL_law_17 : List dmA := [(506, .invokevirtual 48, 273, 145, 2, 0, 1016, []), (509, .if_icmp .eq 1173, 274, 1232, 0, 0, 0, []), (512, .iconst 0, 275, 0, 0, 0, 0, []), (513, .ireturn, 276, 0, 0, 0, 0, []), (514, .aload_n 1, 277, 1, 0, 0, 0, []), (515, .aload_n 0, 278, 0, 0, 0, 0, []), (516, .iload_n 3, 279, 3, 0, 0, 0, []), (517, .iconst 1, 280, 0, 0, 1, 0, []), (518, .iadd, 281, 0, 0, 0, 0, []), (519, .iaload, 282, 0, 0, 0, 0, []), (520, .invokevirtual 49, 283, 29, 1, 0, 407, []), (523, .aload_n 2, 284, 2, 0, 0, 0, []), (524, .aload_n 0, 285, 0, 0, 0, 0, []), (525, .iload_n 3, 286, 3, 0, 0, 0, []), (526, .iconst 1, 287, 0, 0, 1, 0, []), (527, .iadd, 288, 0, 0, 0, 0, [])]
def kL_law_18 : List dmA := [(528, .iaload, 289, 0, 0, 0, 0, []), (529, .invokevirtual 52, 290, 148, 1, 0, 1027, []), (532, .if_icmp .eq 1150, 291, 1232, 0, 0, 0, []), (535, .iconst 0, 292, 0, 0, 0, 0, []), (536, .ireturn, 293, 0, 0, 0, 0, []), (537, .aload_n 1, 294, 1, 0, 0, 0, []), (538, .aload_n 0, 295, 0, 0, 0, 0, []), (539, .iload_n 3, 296, 3, 0, 0, 0, []), (540, .iconst 1, 297, 0, 0, 1, 0, []), (541, .iadd, 298, 0, 0, 0, 0, []), (542, .iaload, 299, 0, 0, 0, 0, []), (543, .aload_n 0, 300, 0, 0, 0, 0, []), (544, .iload_n 3, 301, 3, 0, 0, 0, []), (545, .iconst 2, 302, 0, 0, 2, 0, []), (546, .iadd, 303, 0, 0, 0, 0, []), (547, .iaload, 304, 0, 0, 0, 0, [])]
def kL_law_19 : List dmA := [(548, .aload_n 0, 305, 0, 0, 0, 0, []), (549, .iload_n 3, 306, 3, 0, 0, 0, []), (550, .iconst 3, 307, 0, 0, 3, 0, []), (551, .iadd, 308, 0, 0, 0, 0, []), (552, .iaload, 309, 0, 0, 0, 0, []), (553, .aload_n 0, 310, 0, 0, 0, 0, []), (554, .iload_n 3, 311, 3, 0, 0, 0, []), (555, .iconst 4, 312, 0, 0, 4, 0, []), (556, .iadd, 313, 0, 0, 0, 0, []), (557, .iaload, 314, 0, 0, 0, 0, []), (558, .aload_n 0, 315, 0, 0, 0, 0, []), (559, .iload_n 3, 316, 3, 0, 0, 0, []), (560, .iconst 5, 317, 0, 0, 5, 0, []), (561, .iadd, 318, 0, 0, 0, 0, []), (562, .iaload, 319, 0, 0, 0, 0, []), (563, .invokevirtual 53, 320, 32, 5, 0, 419, [])]
def kL_law_20 : List dmA := [(566, .aload_n 2, 321, 2, 0, 0, 0, []), (567, .aload_n 0, 322, 0, 0, 0, 0, []), (568, .iload_n 3, 323, 3, 0, 0, 0, []), (569, .iconst 1, 324, 0, 0, 1, 0, []), (570, .iadd, 325, 0, 0, 0, 0, []), (571, .iaload, 326, 0, 0, 0, 0, []), (572, .aload_n 0, 327, 0, 0, 0, 0, []), (573, .iload_n 3, 328, 3, 0, 0, 0, []), (574, .iconst 2, 329, 0, 0, 2, 0, []), (575, .iadd, 330, 0, 0, 0, 0, []), (576, .iaload, 331, 0, 0, 0, 0, []), (577, .aload_n 0, 332, 0, 0, 0, 0, []), (578, .iload_n 3, 333, 3, 0, 0, 0, []), (579, .iconst 3, 334, 0, 0, 3, 0, []), (580, .iadd, 335, 0, 0, 0, 0, []), (581, .iaload, 336, 0, 0, 0, 0, [])]
def kL_law_21 : List dmA := [(582, .aload_n 0, 337, 0, 0, 0, 0, []), (583, .iload_n 3, 338, 3, 0, 0, 0, []), (584, .iconst 4, 339, 0, 0, 4, 0, []), (585, .iadd, 340, 0, 0, 0, 0, []), (586, .iaload, 341, 0, 0, 0, 0, []), (587, .aload_n 0, 342, 0, 0, 0, 0, []), (588, .iload_n 3, 343, 3, 0, 0, 0, []), (589, .iconst 5, 344, 0, 0, 5, 0, []), (590, .iadd, 345, 0, 0, 0, 0, []), (591, .iaload, 346, 0, 0, 0, 0, []), (592, .invokevirtual 56, 347, 150, 5, 0, 1035, []), (595, .if_icmp .eq 1087, 348, 1232, 0, 0, 0, []), (598, .iconst 0, 349, 0, 0, 0, 0, []), (599, .ireturn, 350, 0, 0, 0, 0, []), (600, .aload_n 1, 351, 1, 0, 0, 0, []), (601, .aload_n 0, 352, 0, 0, 0, 0, [])]
def kL_law_22 : List dmA := [(602, .iload_n 3, 353, 3, 0, 0, 0, []), (603, .iconst 1, 354, 0, 0, 1, 0, []), (604, .iadd, 355, 0, 0, 0, 0, []), (605, .iaload, 356, 0, 0, 0, 0, []), (606, .aload_n 0, 357, 0, 0, 0, 0, []), (607, .iload_n 3, 358, 3, 0, 0, 0, []), (608, .iconst 2, 359, 0, 0, 2, 0, []), (609, .iadd, 360, 0, 0, 0, 0, []), (610, .iaload, 361, 0, 0, 0, 0, []), (611, .aload_n 0, 362, 0, 0, 0, 0, []), (612, .iload_n 3, 363, 3, 0, 0, 0, []), (613, .iconst 3, 364, 0, 0, 3, 0, []), (614, .iadd, 365, 0, 0, 0, 0, []), (615, .iaload, 366, 0, 0, 0, 0, []), (616, .ifCond .eq 7, 367, 369, 0, 0, 0, []), (619, .iconst 1, 368, 0, 0, 1, 0, [])]
def kL_law_23 : List dmA := [(620, .goto 4, 369, 370, 0, 0, 0, []), (623, .iconst 0, 370, 0, 0, 0, 0, []), (624, .invokevirtual 57, 371, 36, 3, 0, 435, []), (627, .aload_n 2, 372, 2, 0, 0, 0, []), (628, .aload_n 0, 373, 0, 0, 0, 0, []), (629, .iload_n 3, 374, 3, 0, 0, 0, []), (630, .iconst 1, 375, 0, 0, 1, 0, []), (631, .iadd, 376, 0, 0, 0, 0, []), (632, .iaload, 377, 0, 0, 0, 0, []), (633, .aload_n 0, 378, 0, 0, 0, 0, []), (634, .iload_n 3, 379, 3, 0, 0, 0, []), (635, .iconst 2, 380, 0, 0, 2, 0, []), (636, .iadd, 381, 0, 0, 0, 0, []), (637, .iaload, 382, 0, 0, 0, 0, []), (638, .aload_n 0, 383, 0, 0, 0, 0, []), (639, .iload_n 3, 384, 3, 0, 0, 0, [])]
def kL_law_24 : List dmA := [(640, .iconst 3, 385, 0, 0, 3, 0, []), (641, .iadd, 386, 0, 0, 0, 0, []), (642, .iaload, 387, 0, 0, 0, 0, []), (643, .ifCond .eq 7, 388, 390, 0, 0, 0, []), (646, .iconst 1, 389, 0, 0, 1, 0, []), (647, .goto 4, 390, 391, 0, 0, 0, []), (650, .iconst 0, 391, 0, 0, 0, 0, []), (651, .invokevirtual 61, 392, 154, 3, 0, 1051, []), (654, .if_icmp .eq 1028, 393, 1232, 0, 0, 0, []), (657, .iconst 0, 394, 0, 0, 0, 0, []), (658, .ireturn, 395, 0, 0, 0, 0, []), (659, .aload_n 1, 396, 1, 0, 0, 0, []), (660, .aload_n 0, 397, 0, 0, 0, 0, []), (661, .iload_n 3, 398, 3, 0, 0, 0, []), (662, .iconst 1, 399, 0, 0, 1, 0, []), (663, .iadd, 400, 0, 0, 0, 0, [])]
def kL_law_25 : List dmA := [(664, .iaload, 401, 0, 0, 0, 0, []), (665, .aload_n 0, 402, 0, 0, 0, 0, []), (666, .iload_n 3, 403, 3, 0, 0, 0, []), (667, .iconst 2, 404, 0, 0, 2, 0, []), (668, .iadd, 405, 0, 0, 0, 0, []), (669, .iaload, 406, 0, 0, 0, 0, []), (670, .invokevirtual 62, 407, 40, 2, 0, 451, []), (673, .aload_n 2, 408, 2, 0, 0, 0, []), (674, .aload_n 0, 409, 0, 0, 0, 0, []), (675, .iload_n 3, 410, 3, 0, 0, 0, []), (676, .iconst 1, 411, 0, 0, 1, 0, []), (677, .iadd, 412, 0, 0, 0, 0, []), (678, .iaload, 413, 0, 0, 0, 0, []), (679, .aload_n 0, 414, 0, 0, 0, 0, []), (680, .iload_n 3, 415, 3, 0, 0, 0, []), (681, .iconst 2, 416, 0, 0, 2, 0, [])]
def kL_law_26 : List dmA := [(682, .iadd, 417, 0, 0, 0, 0, []), (683, .iaload, 418, 0, 0, 0, 0, []), (684, .invokevirtual 65, 419, 156, 2, 0, 1059, []), (687, .if_icmp .eq 995, 420, 1232, 0, 0, 0, []), (690, .iconst 0, 421, 0, 0, 0, 0, []), (691, .ireturn, 422, 0, 0, 0, 0, []), (692, .aload_n 1, 423, 1, 0, 0, 0, []), (693, .aload_n 0, 424, 0, 0, 0, 0, []), (694, .iload_n 3, 425, 3, 0, 0, 0, []), (695, .iconst 1, 426, 0, 0, 1, 0, []), (696, .iadd, 427, 0, 0, 0, 0, []), (697, .iaload, 428, 0, 0, 0, 0, []), (698, .invokevirtual 66, 429, 41, 1, 0, 455, []), (701, .aload_n 2, 430, 2, 0, 0, 0, []), (702, .aload_n 0, 431, 0, 0, 0, 0, []), (703, .iload_n 3, 432, 3, 0, 0, 0, [])]
def kL_law_27 : List dmA := [(704, .iconst 1, 433, 0, 0, 1, 0, []), (705, .iadd, 434, 0, 0, 0, 0, []), (706, .iaload, 435, 0, 0, 0, 0, []), (707, .invokevirtual 69, 436, 157, 1, 0, 1063, []), (710, .if_icmp .eq 972, 437, 1232, 0, 0, 0, []), (713, .iconst 0, 438, 0, 0, 0, 0, []), (714, .ireturn, 439, 0, 0, 0, 0, []), (715, .aload_n 1, 440, 1, 0, 0, 0, []), (716, .aload_n 0, 441, 0, 0, 0, 0, []), (717, .iload_n 3, 442, 3, 0, 0, 0, []), (718, .iconst 1, 443, 0, 0, 1, 0, []), (719, .iadd, 444, 0, 0, 0, 0, []), (720, .iaload, 445, 0, 0, 0, 0, []), (721, .aload_n 0, 446, 0, 0, 0, 0, []), (722, .iload_n 3, 447, 3, 0, 0, 0, []), (723, .iconst 2, 448, 0, 0, 2, 0, [])]
def kL_law_28 : List dmA := [(724, .iadd, 449, 0, 0, 0, 0, []), (725, .iaload, 450, 0, 0, 0, 0, []), (726, .invokevirtual 70, 451, 42, 2, 0, 459, []), (729, .aload_n 2, 452, 2, 0, 0, 0, []), (730, .aload_n 0, 453, 0, 0, 0, 0, []), (731, .iload_n 3, 454, 3, 0, 0, 0, []), (732, .iconst 1, 455, 0, 0, 1, 0, []), (733, .iadd, 456, 0, 0, 0, 0, []), (734, .iaload, 457, 0, 0, 0, 0, []), (735, .aload_n 0, 458, 0, 0, 0, 0, []), (736, .iload_n 3, 459, 3, 0, 0, 0, []), (737, .iconst 2, 460, 0, 0, 2, 0, []), (738, .iadd, 461, 0, 0, 0, 0, []), (739, .iaload, 462, 0, 0, 0, 0, []), (740, .invokevirtual 73, 463, 158, 2, 0, 1067, []), (743, .if_icmp .eq 939, 464, 1232, 0, 0, 0, [])]
def kL_law_29 : List dmA := [(746, .iconst 0, 465, 0, 0, 0, 0, []), (747, .ireturn, 466, 0, 0, 0, 0, []), (748, .aload_n 1, 467, 1, 0, 0, 0, []), (749, .aload_n 0, 468, 0, 0, 0, 0, []), (750, .iload_n 3, 469, 3, 0, 0, 0, []), (751, .iconst 1, 470, 0, 0, 1, 0, []), (752, .iadd, 471, 0, 0, 0, 0, []), (753, .iaload, 472, 0, 0, 0, 0, []), (754, .invokevirtual 74, 473, 43, 1, 0, 463, []), (757, .aload_n 2, 474, 2, 0, 0, 0, []), (758, .aload_n 0, 475, 0, 0, 0, 0, []), (759, .iload_n 3, 476, 3, 0, 0, 0, []), (760, .iconst 1, 477, 0, 0, 1, 0, []), (761, .iadd, 478, 0, 0, 0, 0, []), (762, .iaload, 479, 0, 0, 0, 0, []), (763, .invokevirtual 77, 480, 159, 1, 0, 1071, [])]
def kL_law_30 : List dmA := [(766, .if_icmp .eq 916, 481, 1232, 0, 0, 0, []), (769, .iconst 0, 482, 0, 0, 0, 0, []), (770, .ireturn, 483, 0, 0, 0, 0, []), (771, .aload_n 1, 484, 1, 0, 0, 0, []), (772, .aload_n 0, 485, 0, 0, 0, 0, []), (773, .iload_n 3, 486, 3, 0, 0, 0, []), (774, .iconst 1, 487, 0, 0, 1, 0, []), (775, .iadd, 488, 0, 0, 0, 0, []), (776, .iaload, 489, 0, 0, 0, 0, []), (777, .invokevirtual 78, 490, 44, 1, 0, 467, []), (780, .aload_n 2, 491, 2, 0, 0, 0, []), (781, .aload_n 0, 492, 0, 0, 0, 0, []), (782, .iload_n 3, 493, 3, 0, 0, 0, []), (783, .iconst 1, 494, 0, 0, 1, 0, []), (784, .iadd, 495, 0, 0, 0, 0, []), (785, .iaload, 496, 0, 0, 0, 0, [])]
def kL_law_31 : List dmA := [(786, .invokevirtual 81, 497, 160, 1, 0, 1075, []), (789, .if_icmp .eq 893, 498, 1232, 0, 0, 0, []), (792, .iconst 0, 499, 0, 0, 0, 0, []), (793, .ireturn, 500, 0, 0, 0, 0, []), (794, .aload_n 1, 501, 1, 0, 0, 0, []), (795, .invokevirtual 82, 502, 66, 0, 0, 596, []), (798, .aload_n 2, 503, 2, 0, 0, 0, []), (799, .invokevirtual 86, 504, 170, 0, 0, 1122, []), (802, .if_icmp .eq 880, 505, 1232, 0, 0, 0, []), (805, .iconst 0, 506, 0, 0, 0, 0, []), (806, .ireturn, 507, 0, 0, 0, 0, []), (807, .aload_n 1, 508, 1, 0, 0, 0, []), (808, .aload_n 0, 509, 0, 0, 0, 0, []), (809, .iload_n 3, 510, 3, 0, 0, 0, []), (810, .iconst 1, 511, 0, 0, 1, 0, []), (811, .iadd, 512, 0, 0, 0, 0, [])]
def kL_law_32 : List dmA := [(812, .iaload, 513, 0, 0, 0, 0, []), (813, .aload_n 0, 514, 0, 0, 0, 0, []), (814, .iload_n 3, 515, 3, 0, 0, 0, []), (815, .iconst 2, 516, 0, 0, 2, 0, []), (816, .iadd, 517, 0, 0, 0, 0, []), (817, .iaload, 518, 0, 0, 0, 0, []), (818, .aload_n 0, 519, 0, 0, 0, 0, []), (819, .iload_n 3, 520, 3, 0, 0, 0, []), (820, .iconst 3, 521, 0, 0, 3, 0, []), (821, .iadd, 522, 0, 0, 0, 0, []), (822, .iaload, 523, 0, 0, 0, 0, []), (823, .aload_n 0, 524, 0, 0, 0, 0, []), (824, .iload_n 3, 525, 3, 0, 0, 0, []), (825, .iconst 4, 526, 0, 0, 4, 0, []), (826, .iadd, 527, 0, 0, 0, 0, []), (827, .iaload, 528, 0, 0, 0, 0, [])]
def kL_law_33 : List dmA := [(828, .invokevirtual 87, 529, 67, 4, 0, 600, []), (831, .aload_n 2, 530, 2, 0, 0, 0, []), (832, .aload_n 0, 531, 0, 0, 0, 0, []), (833, .iload_n 3, 532, 3, 0, 0, 0, []), (834, .iconst 1, 533, 0, 0, 1, 0, []), (835, .iadd, 534, 0, 0, 0, 0, []), (836, .iaload, 535, 0, 0, 0, 0, []), (837, .aload_n 0, 536, 0, 0, 0, 0, []), (838, .iload_n 3, 537, 3, 0, 0, 0, []), (839, .iconst 2, 538, 0, 0, 2, 0, []), (840, .iadd, 539, 0, 0, 0, 0, []), (841, .iaload, 540, 0, 0, 0, 0, []), (842, .aload_n 0, 541, 0, 0, 0, 0, []), (843, .iload_n 3, 542, 3, 0, 0, 0, []), (844, .iconst 3, 543, 0, 0, 3, 0, []), (845, .iadd, 544, 0, 0, 0, 0, [])]
def kL_law_34 : List dmA := [(846, .iaload, 545, 0, 0, 0, 0, []), (847, .aload_n 0, 546, 0, 0, 0, 0, []), (848, .iload_n 3, 547, 3, 0, 0, 0, []), (849, .iconst 4, 548, 0, 0, 4, 0, []), (850, .iadd, 549, 0, 0, 0, 0, []), (851, .iaload, 550, 0, 0, 0, 0, []), (852, .invokevirtual 91, 551, 171, 4, 0, 1126, []), (855, .if_icmp .eq 827, 552, 1232, 0, 0, 0, []), (858, .iconst 0, 553, 0, 0, 0, 0, []), (859, .ireturn, 554, 0, 0, 0, 0, []), (860, .aload_n 1, 555, 1, 0, 0, 0, []), (861, .aload_n 0, 556, 0, 0, 0, 0, []), (862, .iload_n 3, 557, 3, 0, 0, 0, []), (863, .iconst 1, 558, 0, 0, 1, 0, []), (864, .iadd, 559, 0, 0, 0, 0, []), (865, .iaload, 560, 0, 0, 0, 0, [])]
def kL_law_35 : List dmA := [(866, .aload_n 0, 561, 0, 0, 0, 0, []), (867, .iload_n 3, 562, 3, 0, 0, 0, []), (868, .iconst 2, 563, 0, 0, 2, 0, []), (869, .iadd, 564, 0, 0, 0, 0, []), (870, .iaload, 565, 0, 0, 0, 0, []), (871, .invokevirtual 92, 566, 80, 2, 0, 654, []), (874, .aload_n 2, 567, 2, 0, 0, 0, []), (875, .aload_n 0, 568, 0, 0, 0, 0, []), (876, .iload_n 3, 569, 3, 0, 0, 0, []), (877, .iconst 1, 570, 0, 0, 1, 0, []), (878, .iadd, 571, 0, 0, 0, 0, []), (879, .iaload, 572, 0, 0, 0, 0, []), (880, .aload_n 0, 573, 0, 0, 0, 0, []), (881, .iload_n 3, 574, 3, 0, 0, 0, []), (882, .iconst 2, 575, 0, 0, 2, 0, []), (883, .iadd, 576, 0, 0, 0, 0, [])]
def kL_law_36 : List dmA := [(884, .iaload, 577, 0, 0, 0, 0, []), (885, .invokevirtual 95, 578, 181, 2, 0, 1165, []), (888, .if_icmp .eq 794, 579, 1232, 0, 0, 0, []), (891, .iconst 0, 580, 0, 0, 0, 0, []), (892, .ireturn, 581, 0, 0, 0, 0, []), (893, .aload_n 1, 582, 1, 0, 0, 0, []), (894, .aload_n 0, 583, 0, 0, 0, 0, []), (895, .iload_n 3, 584, 3, 0, 0, 0, []), (896, .iconst 1, 585, 0, 0, 1, 0, []), (897, .iadd, 586, 0, 0, 0, 0, []), (898, .iaload, 587, 0, 0, 0, 0, []), (899, .aload_n 0, 588, 0, 0, 0, 0, []), (900, .iload_n 3, 589, 3, 0, 0, 0, []), (901, .iconst 2, 590, 0, 0, 2, 0, []), (902, .iadd, 591, 0, 0, 0, 0, []), (903, .iaload, 592, 0, 0, 0, 0, [])]
def kL_law_37 : List dmA := [(904, .aload_n 0, 593, 0, 0, 0, 0, []), (905, .iload_n 3, 594, 3, 0, 0, 0, []), (906, .iconst 3, 595, 0, 0, 3, 0, []), (907, .iadd, 596, 0, 0, 0, 0, []), (908, .iaload, 597, 0, 0, 0, 0, []), (909, .invokevirtual 96, 598, 81, 3, 0, 659, []), (912, .aload_n 2, 599, 2, 0, 0, 0, []), (913, .aload_n 0, 600, 0, 0, 0, 0, []), (914, .iload_n 3, 601, 3, 0, 0, 0, []), (915, .iconst 1, 602, 0, 0, 1, 0, []), (916, .iadd, 603, 0, 0, 0, 0, []), (917, .iaload, 604, 0, 0, 0, 0, []), (918, .aload_n 0, 605, 0, 0, 0, 0, []), (919, .iload_n 3, 606, 3, 0, 0, 0, []), (920, .iconst 2, 607, 0, 0, 2, 0, []), (921, .iadd, 608, 0, 0, 0, 0, [])]
def kL_law_38 : List dmA := [(922, .iaload, 609, 0, 0, 0, 0, []), (923, .aload_n 0, 610, 0, 0, 0, 0, []), (924, .iload_n 3, 611, 3, 0, 0, 0, []), (925, .iconst 3, 612, 0, 0, 3, 0, []), (926, .iadd, 613, 0, 0, 0, 0, []), (927, .iaload, 614, 0, 0, 0, 0, []), (928, .invokevirtual 99, 615, 182, 3, 0, 1169, []), (931, .if_icmp .eq 751, 616, 1232, 0, 0, 0, []), (934, .iconst 0, 617, 0, 0, 0, 0, []), (935, .ireturn, 618, 0, 0, 0, 0, []), (936, .aload_n 1, 619, 1, 0, 0, 0, []), (937, .aload_n 0, 620, 0, 0, 0, 0, []), (938, .iload_n 3, 621, 3, 0, 0, 0, []), (939, .iconst 1, 622, 0, 0, 1, 0, []), (940, .iadd, 623, 0, 0, 0, 0, []), (941, .iaload, 624, 0, 0, 0, 0, [])]
def kL_law_39 : List dmA := [(942, .aload_n 0, 625, 0, 0, 0, 0, []), (943, .iload_n 3, 626, 3, 0, 0, 0, []), (944, .iconst 2, 627, 0, 0, 2, 0, []), (945, .iadd, 628, 0, 0, 0, 0, []), (946, .iaload, 629, 0, 0, 0, 0, []), (947, .invokevirtual 100, 630, 84, 2, 0, 671, []), (950, .aload_n 2, 631, 2, 0, 0, 0, []), (951, .aload_n 0, 632, 0, 0, 0, 0, []), (952, .iload_n 3, 633, 3, 0, 0, 0, []), (953, .iconst 1, 634, 0, 0, 1, 0, []), (954, .iadd, 635, 0, 0, 0, 0, []), (955, .iaload, 636, 0, 0, 0, 0, []), (956, .aload_n 0, 637, 0, 0, 0, 0, []), (957, .iload_n 3, 638, 3, 0, 0, 0, []), (958, .iconst 2, 639, 0, 0, 2, 0, []), (959, .iadd, 640, 0, 0, 0, 0, [])]
def kL_law_40 : List dmA := [(960, .iaload, 641, 0, 0, 0, 0, []), (961, .invokevirtual 103, 642, 187, 2, 0, 1189, []), (964, .if_icmp .eq 718, 643, 1232, 0, 0, 0, []), (967, .iconst 0, 644, 0, 0, 0, 0, []), (968, .ireturn, 645, 0, 0, 0, 0, []), (969, .aload_n 1, 646, 1, 0, 0, 0, []), (970, .aload_n 0, 647, 0, 0, 0, 0, []), (971, .iload_n 3, 648, 3, 0, 0, 0, []), (972, .iconst 1, 649, 0, 0, 1, 0, []), (973, .iadd, 650, 0, 0, 0, 0, []), (974, .iaload, 651, 0, 0, 0, 0, []), (975, .aload_n 0, 652, 0, 0, 0, 0, []), (976, .iload_n 3, 653, 3, 0, 0, 0, []), (977, .iconst 2, 654, 0, 0, 2, 0, []), (978, .iadd, 655, 0, 0, 0, 0, []), (979, .iaload, 656, 0, 0, 0, 0, [])]
def kL_law_41 : List dmA := [(980, .invokevirtual 104, 657, 86, 2, 0, 679, []), (983, .aload_n 2, 658, 2, 0, 0, 0, []), (984, .aload_n 0, 659, 0, 0, 0, 0, []), (985, .iload_n 3, 660, 3, 0, 0, 0, []), (986, .iconst 1, 661, 0, 0, 1, 0, []), (987, .iadd, 662, 0, 0, 0, 0, []), (988, .iaload, 663, 0, 0, 0, 0, []), (989, .aload_n 0, 664, 0, 0, 0, 0, []), (990, .iload_n 3, 665, 3, 0, 0, 0, []), (991, .iconst 2, 666, 0, 0, 2, 0, []), (992, .iadd, 667, 0, 0, 0, 0, []), (993, .iaload, 668, 0, 0, 0, 0, []), (994, .invokevirtual 107, 669, 190, 2, 0, 1201, []), (997, .if_icmp .eq 685, 670, 1232, 0, 0, 0, []), (1000, .iconst 0, 671, 0, 0, 0, 0, []), (1001, .ireturn, 672, 0, 0, 0, 0, [])]
def kL_law_42 : List dmA := [(1002, .aload_n 1, 673, 1, 0, 0, 0, []), (1003, .aload_n 0, 674, 0, 0, 0, 0, []), (1004, .iload_n 3, 675, 3, 0, 0, 0, []), (1005, .iconst 1, 676, 0, 0, 1, 0, []), (1006, .iadd, 677, 0, 0, 0, 0, []), (1007, .iaload, 678, 0, 0, 0, 0, []), (1008, .invokevirtual 108, 679, 87, 1, 0, 683, []), (1011, .aload_n 2, 680, 2, 0, 0, 0, []), (1012, .aload_n 0, 681, 0, 0, 0, 0, []), (1013, .iload_n 3, 682, 3, 0, 0, 0, []), (1014, .iconst 1, 683, 0, 0, 1, 0, []), (1015, .iadd, 684, 0, 0, 0, 0, []), (1016, .iaload, 685, 0, 0, 0, 0, []), (1017, .invokevirtual 111, 686, 191, 1, 0, 1205, []), (1020, .if_icmp .eq 662, 687, 1232, 0, 0, 0, []), (1023, .iconst 0, 688, 0, 0, 0, 0, [])]
def kL_law_43 : List dmA := [(1024, .ireturn, 689, 0, 0, 0, 0, []), (1025, .aload_n 1, 690, 1, 0, 0, 0, []), (1026, .aload_n 0, 691, 0, 0, 0, 0, []), (1027, .iload_n 3, 692, 3, 0, 0, 0, []), (1028, .iconst 1, 693, 0, 0, 1, 0, []), (1029, .iadd, 694, 0, 0, 0, 0, []), (1030, .iaload, 695, 0, 0, 0, 0, []), (1031, .aload_n 0, 696, 0, 0, 0, 0, []), (1032, .iload_n 3, 697, 3, 0, 0, 0, []), (1033, .iconst 2, 698, 0, 0, 2, 0, []), (1034, .iadd, 699, 0, 0, 0, 0, []), (1035, .iaload, 700, 0, 0, 0, 0, []), (1036, .aload_n 0, 701, 0, 0, 0, 0, []), (1037, .iload_n 3, 702, 3, 0, 0, 0, []), (1038, .iconst 3, 703, 0, 0, 3, 0, []), (1039, .iadd, 704, 0, 0, 0, 0, [])]
def kL_law_44 : List dmA := [(1040, .iaload, 705, 0, 0, 0, 0, []), (1041, .aload_n 0, 706, 0, 0, 0, 0, []), (1042, .iload_n 3, 707, 3, 0, 0, 0, []), (1043, .iconst 4, 708, 0, 0, 4, 0, []), (1044, .iadd, 709, 0, 0, 0, 0, []), (1045, .iaload, 710, 0, 0, 0, 0, []), (1046, .aload_n 0, 711, 0, 0, 0, 0, []), (1047, .iload_n 3, 712, 3, 0, 0, 0, []), (1048, .iconst 5, 713, 0, 0, 5, 0, []), (1049, .iadd, 714, 0, 0, 0, 0, []), (1050, .iaload, 715, 0, 0, 0, 0, []), (1051, .invokevirtual 112, 716, 88, 5, 0, 687, []), (1054, .aload_n 2, 717, 2, 0, 0, 0, []), (1055, .aload_n 0, 718, 0, 0, 0, 0, []), (1056, .iload_n 3, 719, 3, 0, 0, 0, []), (1057, .iconst 1, 720, 0, 0, 1, 0, [])]
def kL_law_45 : List dmA := [(1058, .iadd, 721, 0, 0, 0, 0, []), (1059, .iaload, 722, 0, 0, 0, 0, []), (1060, .aload_n 0, 723, 0, 0, 0, 0, []), (1061, .iload_n 3, 724, 3, 0, 0, 0, []), (1062, .iconst 2, 725, 0, 0, 2, 0, []), (1063, .iadd, 726, 0, 0, 0, 0, []), (1064, .iaload, 727, 0, 0, 0, 0, []), (1065, .aload_n 0, 728, 0, 0, 0, 0, []), (1066, .iload_n 3, 729, 3, 0, 0, 0, []), (1067, .iconst 3, 730, 0, 0, 3, 0, []), (1068, .iadd, 731, 0, 0, 0, 0, []), (1069, .iaload, 732, 0, 0, 0, 0, []), (1070, .aload_n 0, 733, 0, 0, 0, 0, []), (1071, .iload_n 3, 734, 3, 0, 0, 0, []), (1072, .iconst 4, 735, 0, 0, 4, 0, []), (1073, .iadd, 736, 0, 0, 0, 0, [])]
def kL_law_46 : List dmA := [(1074, .iaload, 737, 0, 0, 0, 0, []), (1075, .aload_n 0, 738, 0, 0, 0, 0, []), (1076, .iload_n 3, 739, 3, 0, 0, 0, []), (1077, .iconst 5, 740, 0, 0, 5, 0, []), (1078, .iadd, 741, 0, 0, 0, 0, []), (1079, .iaload, 742, 0, 0, 0, 0, []), (1080, .invokevirtual 115, 743, 192, 5, 0, 1209, []), (1083, .if_icmp .eq 599, 744, 1232, 0, 0, 0, []), (1086, .iconst 0, 745, 0, 0, 0, 0, []), (1087, .ireturn, 746, 0, 0, 0, 0, []), (1088, .aload_n 1, 747, 1, 0, 0, 0, []), (1089, .aload_n 0, 748, 0, 0, 0, 0, []), (1090, .iload_n 3, 749, 3, 0, 0, 0, []), (1091, .iconst 1, 750, 0, 0, 1, 0, []), (1092, .iadd, 751, 0, 0, 0, 0, []), (1093, .iaload, 752, 0, 0, 0, 0, [])]
def kL_law_47 : List dmA := [(1094, .aload_n 0, 753, 0, 0, 0, 0, []), (1095, .iload_n 3, 754, 3, 0, 0, 0, []), (1096, .iconst 2, 755, 0, 0, 2, 0, []), (1097, .iadd, 756, 0, 0, 0, 0, []), (1098, .iaload, 757, 0, 0, 0, 0, []), (1099, .invokevirtual 116, 758, 92, 2, 0, 705, []), (1102, .aload_n 2, 759, 2, 0, 0, 0, []), (1103, .aload_n 0, 760, 0, 0, 0, 0, []), (1104, .iload_n 3, 761, 3, 0, 0, 0, []), (1105, .iconst 1, 762, 0, 0, 1, 0, []), (1106, .iadd, 763, 0, 0, 0, 0, []), (1107, .iaload, 764, 0, 0, 0, 0, []), (1108, .aload_n 0, 765, 0, 0, 0, 0, []), (1109, .iload_n 3, 766, 3, 0, 0, 0, []), (1110, .iconst 2, 767, 0, 0, 2, 0, []), (1111, .iadd, 768, 0, 0, 0, 0, [])]
def kL_law_48 : List dmA := [(1112, .iaload, 769, 0, 0, 0, 0, []), (1113, .invokevirtual 119, 770, 196, 2, 0, 1225, []), (1116, .if_icmp .eq 566, 771, 1232, 0, 0, 0, []), (1119, .iconst 0, 772, 0, 0, 0, 0, []), (1120, .ireturn, 773, 0, 0, 0, 0, []), (1121, .aload_n 1, 774, 1, 0, 0, 0, []), (1122, .aload_n 0, 775, 0, 0, 0, 0, []), (1123, .iload_n 3, 776, 3, 0, 0, 0, []), (1124, .iconst 1, 777, 0, 0, 1, 0, []), (1125, .iadd, 778, 0, 0, 0, 0, []), (1126, .iaload, 779, 0, 0, 0, 0, []), (1127, .aload_n 0, 780, 0, 0, 0, 0, []), (1128, .iload_n 3, 781, 3, 0, 0, 0, []), (1129, .iconst 2, 782, 0, 0, 2, 0, []), (1130, .iadd, 783, 0, 0, 0, 0, []), (1131, .iaload, 784, 0, 0, 0, 0, [])]
def kL_law_49 : List dmA := [(1132, .aload_n 0, 785, 0, 0, 0, 0, []), (1133, .iload_n 3, 786, 3, 0, 0, 0, []), (1134, .iconst 3, 787, 0, 0, 3, 0, []), (1135, .iadd, 788, 0, 0, 0, 0, []), (1136, .iaload, 789, 0, 0, 0, 0, []), (1137, .aload_n 0, 790, 0, 0, 0, 0, []), (1138, .iload_n 3, 791, 3, 0, 0, 0, []), (1139, .iconst 4, 792, 0, 0, 4, 0, []), (1140, .iadd, 793, 0, 0, 0, 0, []), (1141, .iaload, 794, 0, 0, 0, 0, []), (1142, .invokevirtual 120, 795, 94, 4, 0, 713, []), (1145, .aload_n 2, 796, 2, 0, 0, 0, []), (1146, .aload_n 0, 797, 0, 0, 0, 0, []), (1147, .iload_n 3, 798, 3, 0, 0, 0, []), (1148, .iconst 1, 799, 0, 0, 1, 0, []), (1149, .iadd, 800, 0, 0, 0, 0, [])]
def kL_law_50 : List dmA := [(1150, .iaload, 801, 0, 0, 0, 0, []), (1151, .aload_n 0, 802, 0, 0, 0, 0, []), (1152, .iload_n 3, 803, 3, 0, 0, 0, []), (1153, .iconst 2, 804, 0, 0, 2, 0, []), (1154, .iadd, 805, 0, 0, 0, 0, []), (1155, .iaload, 806, 0, 0, 0, 0, []), (1156, .aload_n 0, 807, 0, 0, 0, 0, []), (1157, .iload_n 3, 808, 3, 0, 0, 0, []), (1158, .iconst 3, 809, 0, 0, 3, 0, []), (1159, .iadd, 810, 0, 0, 0, 0, []), (1160, .iaload, 811, 0, 0, 0, 0, []), (1161, .aload_n 0, 812, 0, 0, 0, 0, []), (1162, .iload_n 3, 813, 3, 0, 0, 0, []), (1163, .iconst 4, 814, 0, 0, 4, 0, []), (1164, .iadd, 815, 0, 0, 0, 0, []), (1165, .iaload, 816, 0, 0, 0, 0, [])]
def kL_law_51 : List dmA := [(1166, .invokevirtual 123, 817, 197, 4, 0, 1229, []), (1169, .if_icmp .eq 513, 818, 1232, 0, 0, 0, []), (1172, .iconst 0, 819, 0, 0, 0, 0, []), (1173, .ireturn, 820, 0, 0, 0, 0, []), (1174, .aload_n 1, 821, 1, 0, 0, 0, []), (1175, .aload_n 0, 822, 0, 0, 0, 0, []), (1176, .iload_n 3, 823, 3, 0, 0, 0, []), (1177, .iconst 1, 824, 0, 0, 1, 0, []), (1178, .iadd, 825, 0, 0, 0, 0, []), (1179, .iaload, 826, 0, 0, 0, 0, []), (1180, .aload_n 0, 827, 0, 0, 0, 0, []), (1181, .iload_n 3, 828, 3, 0, 0, 0, []), (1182, .iconst 2, 829, 0, 0, 2, 0, []), (1183, .iadd, 830, 0, 0, 0, 0, []), (1184, .iaload, 831, 0, 0, 0, 0, []), (1185, .invokevirtual 124, 832, 96, 2, 0, 721, [])]
def kL_law_52 : List dmA := [(1188, .aload_n 2, 833, 2, 0, 0, 0, []), (1189, .aload_n 0, 834, 0, 0, 0, 0, []), (1190, .iload_n 3, 835, 3, 0, 0, 0, []), (1191, .iconst 1, 836, 0, 0, 1, 0, []), (1192, .iadd, 837, 0, 0, 0, 0, []), (1193, .iaload, 838, 0, 0, 0, 0, []), (1194, .aload_n 0, 839, 0, 0, 0, 0, []), (1195, .iload_n 3, 840, 3, 0, 0, 0, []), (1196, .iconst 2, 841, 0, 0, 2, 0, []), (1197, .iadd, 842, 0, 0, 0, 0, []), (1198, .iaload, 843, 0, 0, 0, 0, []), (1199, .invokevirtual 127, 844, 198, 2, 0, 1233, []), (1202, .if_icmp .eq 480, 845, 1232, 0, 0, 0, []), (1205, .iconst 0, 846, 0, 0, 0, 0, []), (1206, .ireturn, 847, 0, 0, 0, 0, []), (1207, .aload_n 1, 848, 1, 0, 0, 0, [])]
def kL_law_53 : List dmA := [(1208, .aload_n 0, 849, 0, 0, 0, 0, []), (1209, .iload_n 3, 850, 3, 0, 0, 0, []), (1210, .iconst 1, 851, 0, 0, 1, 0, []), (1211, .iadd, 852, 0, 0, 0, 0, []), (1212, .iaload, 853, 0, 0, 0, 0, []), (1213, .aload_n 0, 854, 0, 0, 0, 0, []), (1214, .iload_n 3, 855, 3, 0, 0, 0, []), (1215, .iconst 2, 856, 0, 0, 2, 0, []), (1216, .iadd, 857, 0, 0, 0, 0, []), (1217, .iaload, 858, 0, 0, 0, 0, []), (1218, .invokevirtual 128, 859, 98, 2, 0, 730, []), (1221, .aload_n 2, 860, 2, 0, 0, 0, []), (1222, .aload_n 0, 861, 0, 0, 0, 0, []), (1223, .iload_n 3, 862, 3, 0, 0, 0, []), (1224, .iconst 1, 863, 0, 0, 1, 0, []), (1225, .iadd, 864, 0, 0, 0, 0, [])]
def kL_law_54 : List dmA := [(1226, .iaload, 865, 0, 0, 0, 0, []), (1227, .aload_n 0, 866, 0, 0, 0, 0, []), (1228, .iload_n 3, 867, 3, 0, 0, 0, []), (1229, .iconst 2, 868, 0, 0, 2, 0, []), (1230, .iadd, 869, 0, 0, 0, 0, []), (1231, .iaload, 870, 0, 0, 0, 0, []), (1232, .invokevirtual 131, 871, 200, 2, 0, 1241, []), (1235, .if_icmp .eq 447, 872, 1232, 0, 0, 0, []), (1238, .iconst 0, 873, 0, 0, 0, 0, []), (1239, .ireturn, 874, 0, 0, 0, 0, []), (1240, .aload_n 1, 875, 1, 0, 0, 0, []), (1241, .aload_n 0, 876, 0, 0, 0, 0, []), (1242, .iload_n 3, 877, 3, 0, 0, 0, []), (1243, .iconst 1, 878, 0, 0, 1, 0, []), (1244, .iadd, 879, 0, 0, 0, 0, []), (1245, .iaload, 880, 0, 0, 0, 0, [])]
def kL_law_55 : List dmA := [(1246, .aload_n 0, 881, 0, 0, 0, 0, []), (1247, .iload_n 3, 882, 3, 0, 0, 0, []), (1248, .iconst 2, 883, 0, 0, 2, 0, []), (1249, .iadd, 884, 0, 0, 0, 0, []), (1250, .iaload, 885, 0, 0, 0, 0, []), (1251, .aload_n 0, 886, 0, 0, 0, 0, []), (1252, .iload_n 3, 887, 3, 0, 0, 0, []), (1253, .iconst 3, 888, 0, 0, 3, 0, []), (1254, .iadd, 889, 0, 0, 0, 0, []), (1255, .iaload, 890, 0, 0, 0, 0, []), (1256, .invokevirtual 132, 891, 99, 3, 0, 734, []), (1259, .aload_n 2, 892, 2, 0, 0, 0, []), (1260, .aload_n 0, 893, 0, 0, 0, 0, []), (1261, .iload_n 3, 894, 3, 0, 0, 0, []), (1262, .iconst 1, 895, 0, 0, 1, 0, []), (1263, .iadd, 896, 0, 0, 0, 0, [])]
def kL_law_56 : List dmA := [(1264, .iaload, 897, 0, 0, 0, 0, []), (1265, .aload_n 0, 898, 0, 0, 0, 0, []), (1266, .iload_n 3, 899, 3, 0, 0, 0, []), (1267, .iconst 2, 900, 0, 0, 2, 0, []), (1268, .iadd, 901, 0, 0, 0, 0, []), (1269, .iaload, 902, 0, 0, 0, 0, []), (1270, .aload_n 0, 903, 0, 0, 0, 0, []), (1271, .iload_n 3, 904, 3, 0, 0, 0, []), (1272, .iconst 3, 905, 0, 0, 3, 0, []), (1273, .iadd, 906, 0, 0, 0, 0, []), (1274, .iaload, 907, 0, 0, 0, 0, []), (1275, .invokevirtual 135, 908, 201, 3, 0, 1245, []), (1278, .if_icmp .eq 404, 909, 1232, 0, 0, 0, []), (1281, .iconst 0, 910, 0, 0, 0, 0, []), (1282, .ireturn, 911, 0, 0, 0, 0, []), (1283, .aload_n 1, 912, 1, 0, 0, 0, [])]
def kL_law_57 : List dmA := [(1284, .aload_n 0, 913, 0, 0, 0, 0, []), (1285, .iload_n 3, 914, 3, 0, 0, 0, []), (1286, .iconst 1, 915, 0, 0, 1, 0, []), (1287, .iadd, 916, 0, 0, 0, 0, []), (1288, .iaload, 917, 0, 0, 0, 0, []), (1289, .aload_n 0, 918, 0, 0, 0, 0, []), (1290, .iload_n 3, 919, 3, 0, 0, 0, []), (1291, .iconst 2, 920, 0, 0, 2, 0, []), (1292, .iadd, 921, 0, 0, 0, 0, []), (1293, .iaload, 922, 0, 0, 0, 0, []), (1294, .aload_n 0, 923, 0, 0, 0, 0, []), (1295, .iload_n 3, 924, 3, 0, 0, 0, []), (1296, .iconst 3, 925, 0, 0, 3, 0, []), (1297, .iadd, 926, 0, 0, 0, 0, []), (1298, .iaload, 927, 0, 0, 0, 0, []), (1299, .aload_n 0, 928, 0, 0, 0, 0, [])]
def kL_law_58 : List dmA := [(1300, .iload_n 3, 929, 3, 0, 0, 0, []), (1301, .iconst 4, 930, 0, 0, 4, 0, []), (1302, .iadd, 931, 0, 0, 0, 0, []), (1303, .iaload, 932, 0, 0, 0, 0, []), (1304, .invokevirtual 136, 933, 102, 4, 0, 746, []), (1307, .aload_n 2, 934, 2, 0, 0, 0, []), (1308, .aload_n 0, 935, 0, 0, 0, 0, []), (1309, .iload_n 3, 936, 3, 0, 0, 0, []), (1310, .iconst 1, 937, 0, 0, 1, 0, []), (1311, .iadd, 938, 0, 0, 0, 0, []), (1312, .iaload, 939, 0, 0, 0, 0, []), (1313, .aload_n 0, 940, 0, 0, 0, 0, []), (1314, .iload_n 3, 941, 3, 0, 0, 0, []), (1315, .iconst 2, 942, 0, 0, 2, 0, []), (1316, .iadd, 943, 0, 0, 0, 0, []), (1317, .iaload, 944, 0, 0, 0, 0, [])]
def kL_law_59 : List dmA := [(1318, .aload_n 0, 945, 0, 0, 0, 0, []), (1319, .iload_n 3, 946, 3, 0, 0, 0, []), (1320, .iconst 3, 947, 0, 0, 3, 0, []), (1321, .iadd, 948, 0, 0, 0, 0, []), (1322, .iaload, 949, 0, 0, 0, 0, []), (1323, .aload_n 0, 950, 0, 0, 0, 0, []), (1324, .iload_n 3, 951, 3, 0, 0, 0, []), (1325, .iconst 4, 952, 0, 0, 4, 0, []), (1326, .iadd, 953, 0, 0, 0, 0, []), (1327, .iaload, 954, 0, 0, 0, 0, []), (1328, .invokevirtual 139, 955, 205, 4, 0, 1261, []), (1331, .if_icmp .eq 351, 956, 1232, 0, 0, 0, []), (1334, .iconst 0, 957, 0, 0, 0, 0, []), (1335, .ireturn, 958, 0, 0, 0, 0, []), (1336, .aload_n 1, 959, 1, 0, 0, 0, []), (1337, .aload_n 0, 960, 0, 0, 0, 0, [])]
def kL_law_60 : List dmA := [(1338, .iload_n 3, 961, 3, 0, 0, 0, []), (1339, .iconst 1, 962, 0, 0, 1, 0, []), (1340, .iadd, 963, 0, 0, 0, 0, []), (1341, .iaload, 964, 0, 0, 0, 0, []), (1342, .aload_n 0, 965, 0, 0, 0, 0, []), (1343, .iload_n 3, 966, 3, 0, 0, 0, []), (1344, .iconst 2, 967, 0, 0, 2, 0, []), (1345, .iadd, 968, 0, 0, 0, 0, []), (1346, .iaload, 969, 0, 0, 0, 0, []), (1347, .invokevirtual 140, 970, 104, 2, 0, 754, []), (1350, .aload_n 2, 971, 2, 0, 0, 0, []), (1351, .aload_n 0, 972, 0, 0, 0, 0, []), (1352, .iload_n 3, 973, 3, 0, 0, 0, []), (1353, .iconst 1, 974, 0, 0, 1, 0, []), (1354, .iadd, 975, 0, 0, 0, 0, []), (1355, .iaload, 976, 0, 0, 0, 0, [])]
def kL_law_61 : List dmA := [(1356, .aload_n 0, 977, 0, 0, 0, 0, []), (1357, .iload_n 3, 978, 3, 0, 0, 0, []), (1358, .iconst 2, 979, 0, 0, 2, 0, []), (1359, .iadd, 980, 0, 0, 0, 0, []), (1360, .iaload, 981, 0, 0, 0, 0, []), (1361, .invokevirtual 143, 982, 207, 2, 0, 1269, []), (1364, .if_icmp .eq 318, 983, 1232, 0, 0, 0, []), (1367, .iconst 0, 984, 0, 0, 0, 0, []), (1368, .ireturn, 985, 0, 0, 0, 0, []), (1369, .aload_n 1, 986, 1, 0, 0, 0, []), (1370, .aload_n 0, 987, 0, 0, 0, 0, []), (1371, .iload_n 3, 988, 3, 0, 0, 0, []), (1372, .iconst 1, 989, 0, 0, 1, 0, []), (1373, .iadd, 990, 0, 0, 0, 0, []), (1374, .iaload, 991, 0, 0, 0, 0, []), (1375, .aload_n 0, 992, 0, 0, 0, 0, [])]
def kL_law_62 : List dmA := [(1376, .iload_n 3, 993, 3, 0, 0, 0, []), (1377, .iconst 2, 994, 0, 0, 2, 0, []), (1378, .iadd, 995, 0, 0, 0, 0, []), (1379, .iaload, 996, 0, 0, 0, 0, []), (1380, .invokevirtual 144, 997, 108, 2, 0, 771, []), (1383, .aload_n 2, 998, 2, 0, 0, 0, []), (1384, .aload_n 0, 999, 0, 0, 0, 0, []), (1385, .iload_n 3, 1000, 3, 0, 0, 0, []), (1386, .iconst 1, 1001, 0, 0, 1, 0, []), (1387, .iadd, 1002, 0, 0, 0, 0, []), (1388, .iaload, 1003, 0, 0, 0, 0, []), (1389, .aload_n 0, 1004, 0, 0, 0, 0, []), (1390, .iload_n 3, 1005, 3, 0, 0, 0, []), (1391, .iconst 2, 1006, 0, 0, 2, 0, []), (1392, .iadd, 1007, 0, 0, 0, 0, []), (1393, .iaload, 1008, 0, 0, 0, 0, [])]
def kL_law_63 : List dmA := [(1394, .invokevirtual 147, 1009, 210, 2, 0, 1281, []), (1397, .if_icmp .eq 285, 1010, 1232, 0, 0, 0, []), (1400, .iconst 0, 1011, 0, 0, 0, 0, []), (1401, .ireturn, 1012, 0, 0, 0, 0, []), (1402, .aload_n 1, 1013, 1, 0, 0, 0, []), (1403, .aload_n 0, 1014, 0, 0, 0, 0, []), (1404, .iload_n 3, 1015, 3, 0, 0, 0, []), (1405, .iconst 1, 1016, 0, 0, 1, 0, []), (1406, .iadd, 1017, 0, 0, 0, 0, []), (1407, .iaload, 1018, 0, 0, 0, 0, []), (1408, .aload_n 0, 1019, 0, 0, 0, 0, []), (1409, .iload_n 3, 1020, 3, 0, 0, 0, []), (1410, .iconst 2, 1021, 0, 0, 2, 0, []), (1411, .iadd, 1022, 0, 0, 0, 0, []), (1412, .iaload, 1023, 0, 0, 0, 0, []), (1413, .aload_n 0, 1024, 0, 0, 0, 0, [])]
def kL_law_64 : List dmA := [(1414, .iload_n 3, 1025, 3, 0, 0, 0, []), (1415, .iconst 3, 1026, 0, 0, 3, 0, []), (1416, .iadd, 1027, 0, 0, 0, 0, []), (1417, .iaload, 1028, 0, 0, 0, 0, []), (1418, .invokevirtual 148, 1029, 111, 3, 0, 784, []), (1421, .aload_n 2, 1030, 2, 0, 0, 0, []), (1422, .aload_n 0, 1031, 0, 0, 0, 0, []), (1423, .iload_n 3, 1032, 3, 0, 0, 0, []), (1424, .iconst 1, 1033, 0, 0, 1, 0, []), (1425, .iadd, 1034, 0, 0, 0, 0, []), (1426, .iaload, 1035, 0, 0, 0, 0, []), (1427, .aload_n 0, 1036, 0, 0, 0, 0, []), (1428, .iload_n 3, 1037, 3, 0, 0, 0, []), (1429, .iconst 2, 1038, 0, 0, 2, 0, []), (1430, .iadd, 1039, 0, 0, 0, 0, []), (1431, .iaload, 1040, 0, 0, 0, 0, [])]
def kL_law_65 : List dmA := [(1432, .aload_n 0, 1041, 0, 0, 0, 0, []), (1433, .iload_n 3, 1042, 3, 0, 0, 0, []), (1434, .iconst 3, 1043, 0, 0, 3, 0, []), (1435, .iadd, 1044, 0, 0, 0, 0, []), (1436, .iaload, 1045, 0, 0, 0, 0, []), (1437, .invokevirtual 151, 1046, 212, 3, 0, 1289, []), (1440, .if_icmp .eq 242, 1047, 1232, 0, 0, 0, []), (1443, .iconst 0, 1048, 0, 0, 0, 0, []), (1444, .ireturn, 1049, 0, 0, 0, 0, []), (1445, .aload_n 1, 1050, 1, 0, 0, 0, []), (1446, .aload_n 0, 1051, 0, 0, 0, 0, []), (1447, .iload_n 3, 1052, 3, 0, 0, 0, []), (1448, .iconst 1, 1053, 0, 0, 1, 0, []), (1449, .iadd, 1054, 0, 0, 0, 0, []), (1450, .iaload, 1055, 0, 0, 0, 0, []), (1451, .aload_n 0, 1056, 0, 0, 0, 0, [])]
def kL_law_66 : List dmA := [(1452, .iload_n 3, 1057, 3, 0, 0, 0, []), (1453, .iconst 2, 1058, 0, 0, 2, 0, []), (1454, .iadd, 1059, 0, 0, 0, 0, []), (1455, .iaload, 1060, 0, 0, 0, 0, []), (1456, .invokevirtual 152, 1061, 116, 2, 0, 805, []), (1459, .aload_n 2, 1062, 2, 0, 0, 0, []), (1460, .aload_n 0, 1063, 0, 0, 0, 0, []), (1461, .iload_n 3, 1064, 3, 0, 0, 0, []), (1462, .iconst 1, 1065, 0, 0, 1, 0, []), (1463, .iadd, 1066, 0, 0, 0, 0, []), (1464, .iaload, 1067, 0, 0, 0, 0, []), (1465, .aload_n 0, 1068, 0, 0, 0, 0, []), (1466, .iload_n 3, 1069, 3, 0, 0, 0, []), (1467, .iconst 2, 1070, 0, 0, 2, 0, []), (1468, .iadd, 1071, 0, 0, 0, 0, []), (1469, .iaload, 1072, 0, 0, 0, 0, [])]
def kL_law_67 : List dmA := [(1470, .invokevirtual 155, 1073, 214, 2, 0, 1297, []), (1473, .if_icmp .eq 209, 1074, 1232, 0, 0, 0, []), (1476, .iconst 0, 1075, 0, 0, 0, 0, []), (1477, .ireturn, 1076, 0, 0, 0, 0, []), (1478, .aload_n 1, 1077, 1, 0, 0, 0, []), (1479, .aload_n 0, 1078, 0, 0, 0, 0, []), (1480, .iload_n 3, 1079, 3, 0, 0, 0, []), (1481, .iconst 1, 1080, 0, 0, 1, 0, []), (1482, .iadd, 1081, 0, 0, 0, 0, []), (1483, .iaload, 1082, 0, 0, 0, 0, []), (1484, .aload_n 0, 1083, 0, 0, 0, 0, []), (1485, .iload_n 3, 1084, 3, 0, 0, 0, []), (1486, .iconst 2, 1085, 0, 0, 2, 0, []), (1487, .iadd, 1086, 0, 0, 0, 0, []), (1488, .iaload, 1087, 0, 0, 0, 0, []), (1489, .aload_n 0, 1088, 0, 0, 0, 0, [])]
def kL_law_68 : List dmA := [(1490, .iload_n 3, 1089, 3, 0, 0, 0, []), (1491, .iconst 3, 1090, 0, 0, 3, 0, []), (1492, .iadd, 1091, 0, 0, 0, 0, []), (1493, .iaload, 1092, 0, 0, 0, 0, []), (1494, .invokevirtual 156, 1093, 117, 3, 0, 809, []), (1497, .aload_n 2, 1094, 2, 0, 0, 0, []), (1498, .aload_n 0, 1095, 0, 0, 0, 0, []), (1499, .iload_n 3, 1096, 3, 0, 0, 0, []), (1500, .iconst 1, 1097, 0, 0, 1, 0, []), (1501, .iadd, 1098, 0, 0, 0, 0, []), (1502, .iaload, 1099, 0, 0, 0, 0, []), (1503, .aload_n 0, 1100, 0, 0, 0, 0, []), (1504, .iload_n 3, 1101, 3, 0, 0, 0, []), (1505, .iconst 2, 1102, 0, 0, 2, 0, []), (1506, .iadd, 1103, 0, 0, 0, 0, []), (1507, .iaload, 1104, 0, 0, 0, 0, [])]
def kL_law_69 : List dmA := [(1508, .aload_n 0, 1105, 0, 0, 0, 0, []), (1509, .iload_n 3, 1106, 3, 0, 0, 0, []), (1510, .iconst 3, 1107, 0, 0, 3, 0, []), (1511, .iadd, 1108, 0, 0, 0, 0, []), (1512, .iaload, 1109, 0, 0, 0, 0, []), (1513, .invokevirtual 159, 1110, 215, 3, 0, 1301, []), (1516, .if_icmp .eq 166, 1111, 1232, 0, 0, 0, []), (1519, .iconst 0, 1112, 0, 0, 0, 0, []), (1520, .ireturn, 1113, 0, 0, 0, 0, []), (1521, .aload_n 1, 1114, 1, 0, 0, 0, []), (1522, .aload_n 0, 1115, 0, 0, 0, 0, []), (1523, .iload_n 3, 1116, 3, 0, 0, 0, []), (1524, .iconst 1, 1117, 0, 0, 1, 0, []), (1525, .iadd, 1118, 0, 0, 0, 0, []), (1526, .iaload, 1119, 0, 0, 0, 0, []), (1527, .invokevirtual 160, 1120, 118, 1, 0, 813, [])]
def kL_law_70 : List dmA := [(1530, .aload_n 2, 1121, 2, 0, 0, 0, []), (1531, .aload_n 0, 1122, 0, 0, 0, 0, []), (1532, .iload_n 3, 1123, 3, 0, 0, 0, []), (1533, .iconst 1, 1124, 0, 0, 1, 0, []), (1534, .iadd, 1125, 0, 0, 0, 0, []), (1535, .iaload, 1126, 0, 0, 0, 0, []), (1536, .invokevirtual 163, 1127, 216, 1, 0, 1305, []), (1539, .if_icmp .eq 143, 1128, 1232, 0, 0, 0, []), (1542, .iconst 0, 1129, 0, 0, 0, 0, []), (1543, .ireturn, 1130, 0, 0, 0, 0, []), (1544, .aload_n 1, 1131, 1, 0, 0, 0, []), (1545, .aload_n 0, 1132, 0, 0, 0, 0, []), (1546, .iload_n 3, 1133, 3, 0, 0, 0, []), (1547, .iconst 1, 1134, 0, 0, 1, 0, []), (1548, .iadd, 1135, 0, 0, 0, 0, []), (1549, .iaload, 1136, 0, 0, 0, 0, [])]
def kL_law_71 : List dmA := [(1550, .invokevirtual 164, 1137, 120, 1, 0, 822, []), (1553, .aload_n 2, 1138, 2, 0, 0, 0, []), (1554, .aload_n 0, 1139, 0, 0, 0, 0, []), (1555, .iload_n 3, 1140, 3, 0, 0, 0, []), (1556, .iconst 1, 1141, 0, 0, 1, 0, []), (1557, .iadd, 1142, 0, 0, 0, 0, []), (1558, .iaload, 1143, 0, 0, 0, 0, []), (1559, .invokevirtual 167, 1144, 218, 1, 0, 1314, []), (1562, .if_icmp .eq 120, 1145, 1232, 0, 0, 0, []), (1565, .iconst 0, 1146, 0, 0, 0, 0, []), (1566, .ireturn, 1147, 0, 0, 0, 0, []), (1567, .aload_n 1, 1148, 1, 0, 0, 0, []), (1568, .aload_n 0, 1149, 0, 0, 0, 0, []), (1569, .iload_n 3, 1150, 3, 0, 0, 0, []), (1570, .iconst 1, 1151, 0, 0, 1, 0, []), (1571, .iadd, 1152, 0, 0, 0, 0, [])]
def kL_law_72 : List dmA := [(1572, .iaload, 1153, 0, 0, 0, 0, []), (1573, .aload_n 0, 1154, 0, 0, 0, 0, []), (1574, .iload_n 3, 1155, 3, 0, 0, 0, []), (1575, .iconst 2, 1156, 0, 0, 2, 0, []), (1576, .iadd, 1157, 0, 0, 0, 0, []), (1577, .iaload, 1158, 0, 0, 0, 0, []), (1578, .aload_n 0, 1159, 0, 0, 0, 0, []), (1579, .iload_n 3, 1160, 3, 0, 0, 0, []), (1580, .iconst 3, 1161, 0, 0, 3, 0, []), (1581, .iadd, 1162, 0, 0, 0, 0, []), (1582, .iaload, 1163, 0, 0, 0, 0, []), (1583, .invokevirtual 168, 1164, 121, 3, 0, 826, []), (1586, .aload_n 2, 1165, 2, 0, 0, 0, []), (1587, .aload_n 0, 1166, 0, 0, 0, 0, []), (1588, .iload_n 3, 1167, 3, 0, 0, 0, []), (1589, .iconst 1, 1168, 0, 0, 1, 0, [])]
def kL_law_73 : List dmA := [(1590, .iadd, 1169, 0, 0, 0, 0, []), (1591, .iaload, 1170, 0, 0, 0, 0, []), (1592, .aload_n 0, 1171, 0, 0, 0, 0, []), (1593, .iload_n 3, 1172, 3, 0, 0, 0, []), (1594, .iconst 2, 1173, 0, 0, 2, 0, []), (1595, .iadd, 1174, 0, 0, 0, 0, []), (1596, .iaload, 1175, 0, 0, 0, 0, []), (1597, .aload_n 0, 1176, 0, 0, 0, 0, []), (1598, .iload_n 3, 1177, 3, 0, 0, 0, []), (1599, .iconst 3, 1178, 0, 0, 3, 0, []), (1600, .iadd, 1179, 0, 0, 0, 0, []), (1601, .iaload, 1180, 0, 0, 0, 0, []), (1602, .invokevirtual 171, 1181, 219, 3, 0, 1318, []), (1605, .if_icmp .eq 77, 1182, 1232, 0, 0, 0, []), (1608, .iconst 0, 1183, 0, 0, 0, 0, []), (1609, .ireturn, 1184, 0, 0, 0, 0, [])]
def kL_law_74 : List dmA := [(1610, .aload_n 1, 1185, 1, 0, 0, 0, []), (1611, .aload_n 0, 1186, 0, 0, 0, 0, []), (1612, .iload_n 3, 1187, 3, 0, 0, 0, []), (1613, .iconst 1, 1188, 0, 0, 1, 0, []), (1614, .iadd, 1189, 0, 0, 0, 0, []), (1615, .iaload, 1190, 0, 0, 0, 0, []), (1616, .invokevirtual 172, 1191, 127, 1, 0, 855, []), (1619, .aload_n 2, 1192, 2, 0, 0, 0, []), (1620, .aload_n 0, 1193, 0, 0, 0, 0, []), (1621, .iload_n 3, 1194, 3, 0, 0, 0, []), (1622, .iconst 1, 1195, 0, 0, 1, 0, []), (1623, .iadd, 1196, 0, 0, 0, 0, []), (1624, .iaload, 1197, 0, 0, 0, 0, []), (1625, .invokevirtual 175, 1198, 224, 1, 0, 1338, []), (1628, .if_icmp .eq 54, 1199, 1232, 0, 0, 0, []), (1631, .iconst 0, 1200, 0, 0, 0, 0, [])]
def kL_law_75 : List dmA := [(1632, .ireturn, 1201, 0, 0, 0, 0, []), (1633, .aload_n 1, 1202, 1, 0, 0, 0, []), (1634, .invokevirtual 176, 1203, 129, 0, 0, 863, []), (1637, .aload_n 2, 1204, 2, 0, 0, 0, []), (1638, .invokevirtual 179, 1205, 225, 0, 0, 1342, []), (1641, .if_icmp .eq 41, 1206, 1232, 0, 0, 0, []), (1644, .iconst 0, 1207, 0, 0, 0, 0, []), (1645, .ireturn, 1208, 0, 0, 0, 0, []), (1646, .aload_n 1, 1209, 1, 0, 0, 0, []), (1647, .invokevirtual 180, 1210, 130, 0, 0, 867, []), (1650, .aload_n 2, 1211, 2, 0, 0, 0, []), (1651, .invokevirtual 183, 1212, 226, 0, 0, 1346, []), (1654, .if_icmp .eq 28, 1213, 1232, 0, 0, 0, []), (1657, .iconst 0, 1214, 0, 0, 0, 0, []), (1658, .ireturn, 1215, 0, 0, 0, 0, []), (1659, .aload_n 1, 1216, 1, 0, 0, 0, [])]
def kL_law_76 : List dmA := [(1660, .aload_n 0, 1217, 0, 0, 0, 0, []), (1661, .iload_n 3, 1218, 3, 0, 0, 0, []), (1662, .iconst 1, 1219, 0, 0, 1, 0, []), (1663, .iadd, 1220, 0, 0, 0, 0, []), (1664, .iaload, 1221, 0, 0, 0, 0, []), (1665, .invokevirtual 184, 1222, 132, 1, 0, 875, []), (1668, .aload_n 2, 1223, 2, 0, 0, 0, []), (1669, .aload_n 0, 1224, 0, 0, 0, 0, []), (1670, .iload_n 3, 1225, 3, 0, 0, 0, []), (1671, .iconst 1, 1226, 0, 0, 1, 0, []), (1672, .iadd, 1227, 0, 0, 0, 0, []), (1673, .iaload, 1228, 0, 0, 0, 0, []), (1674, .invokevirtual 187, 1229, 227, 1, 0, 1350, []), (1677, .if_icmp .eq 5, 1230, 1232, 0, 0, 0, []), (1680, .iconst 0, 1231, 0, 0, 0, 0, []), (1681, .ireturn, 1232, 0, 0, 0, 0, [])]
def kL_law_77 : List dmA := [(1682, .iinc 3 6, 1233, 3, 0, 6, 0, []), (1685, .goto (-1667), 1234, 10, 0, 0, 0, []), (1688, .iconst 1, 1235, 0, 0, 1, 0, []), (1689, .ireturn, 1236, 0, 0, 0, 0, [])]
def kL_law : List (List dmA) := [kL_law_0, kL_law_1, kL_law_2, kL_law_3, kL_law_4, kL_law_5, kL_law_6, kL_law_7, kL_law_8, kL_law_9, kL_law_10, kL_law_11, kL_law_12, kL_law_13, kL_law_14, kL_law_15, kL_law_16, kL_law_17, kL_law_18, kL_law_19, kL_law_20, kL_law_21, kL_law_22, kL_law_23, kL_law_24, kL_law_25, kL_law_26, kL_law_27, kL_law_28, kL_law_29, kL_law_30, kL_law_31, kL_law_32, kL_law_33, kL_law_34, kL_law_35, kL_law_36, kL_law_37, kL_law_38, kL_law_39, kL_law_40, kL_law_41, kL_law_42, kL_law_43, kL_law_44, kL_law_45, kL_law_46, kL_law_47, kL_law_48, kL_law_49, kL_law_50, kL_law_51, kL_law_52, kL_law_53, kL_law_54, kL_law_55, kL_law_56, kL_law_57, kL_law_58, kL_law_59, kL_law_60, kL_law_61, kL_law_62, kL_law_63, kL_law_64, kL_law_65, kL_law_66, kL_law_67, kL_law_68, kL_law_69, kL_law_70, kL_law_71, kL_law_72, kL_law_73, kL_law_74, kL_law_75, kL_law_76, kL_law_77]
def mL_law : dmM := (⟨"WhichOneAllKnowLaw", "law", "([I)Z"⟩, code, 4, some .boolean, kL_law, [])
def dmT : List (List dmM) := [[mO_init, mC_init, mH_init, mS_init, mS_placesNearOne, mT_init, mV_init, mO_row, mH_has, mO_refuse, mO_within, mH_holdRow, mO_set, mO_noRow, mH_holdsRow, mH_hasElement],
  [mH_put, mH_lowestBits, mO_copy, mO_noPairOfRows, mH_hasPart, mO_element, mO_show, mC_hasVoice, mO_holds, mO_says, mO_isKind, mO_isOrIsUnder, mJ_bitCount, mO_tune, mC_hasRoomForTune, mC_addTune],
  [mO_voice, mC_isFree, mC_hasRoomForVoice, mC_addVoice, mO_knows, mC_hasTune, mC_knowsIt, mC_learn, mO_move, mO_ask, mO_voiceOf, mO_highOf, mO_church, mC_become, mT_readItems, mT_readItem],
  [mT_itemAt, mT_letter, mT_wordOf, mJS_charAt, mJS_isLatin1, mJL_charAt, mJS_checkIndex, mJP_checkIndex, mT_faultAt, mT_takeWord, mJS_length, mJS_coder, mT_takeLetter, mT_hasRoomFor, mT_takeNumber, mT_mayBe],
  [mT_mayBeOfVoice, mT_tell, mO_fault, mO_sung, mO_isPitch, mO_isVerse, mS_begin, mC_needOf, mC_needByBold, mC_isInReach, mS_singTo, mS_nextVerse, mS_joinsIn, mS_singsRight, mC_voicesIn, mS_placesNear],
  [mO_needs, mO_verse, mS_catchesAt, mS_settlesAt, mO_best, mO_rightAt, mO_pitch, mO_two, mO_leaders, mO_rightLedFrom, mC_addLeader, mC_allTunes, mO_taught, mO_catchesIfTaught, mO_helps, mS_leaveOut],
  [mO_late, mO_lateLedBy, mO_ahead, mO_fits, mO_noPart, mS_isHeardAs, mO_changed, mC_changePlaces, mO_known, mC_knownTogether, mC_knownToAll, mC_likestVoice, mO_judge, mO_firstWrong, mH_told, mO_behind],
  [mO_maySing, mO_singTold, mO_singInTruth, mC_learnAll, mO_done, mO_hymn, mO_years, mC_draw, mO_seed, mO_act, mV_forget, mV_start, mV_runFrom, mV_note, mV_runBody, mO_trace],
  [mV_bodyAt, mO_image, mO_restore, mH_dropVoicesFrom, mO_status, mM_init, mM_row, mM_within, mM_no, mM_set, mM_noRow, mM_isRow, mM_copy, mM_element, mM_show, mM_isVoice],
  [mM_holds, mM_says, mM_isUnder, mM_above, mM_tune, mM_newTune, mM_voice, mM_isFree, mM_isTaken, mM_newVoice, mM_knows, mM_isTune, mM_move, mM_ask, mM_voiceOf, mM_highOf],
  [mM_church, mM_keep, mM_item, mM_sign, mM_word, mM_word2, mM_is, mM_number, mM_stands, mM_again, mM_fault, mM_sung, mM_isPitch, mM_isVerse, mM_hears, mM_sings],
  [mM_isEnough, mM_near, mM_has, mM_areNear, mM_need, mM_needs, mM_verse, mM_no10, mM_catches, mM_settles, mM_isSame, mM_best, mM_manyAt, mM_rightAt, mM_pitch, mM_two],
  [mM_leaders, mM_bestLeaders, mM_leads, mM_ledAt, mM_taught, mM_helps, mM_late, mM_lateBy, mM_ahead, mM_fits, mM_noTold, mM_isFit, mM_toldAt, mM_changed, mM_change, mM_known],
  [mM_knownAll, mM_whomToAsk, mM_judge, mM_wrongAt, mM_behind, mM_isSung, mM_done, mM_hymn, mM_years, mM_draw, mM_seed, mM_act, mM_breathesBy, mM_ran, mM_singsBy, mM_sitsBy],
  [mM_trace, mM_image, mM_restore, mM_status]]
end
section
/-! THE SMALL MACHINE: a step of it is computed; handles in place of addresses -/
abbrev dmW : Type := List va_E
/-- code place, locals, stack, world -/
abbrev dmS : Type := Nat × List Value × List Value × List va_E
abbrev I (x : Int32) : Value := .int x
abbrev J (x : Int64) : Value := .long x
abbrev R (h : Nat) : Value := .ref h
/-- a cell that lies outside of the world and is never written -/
abbrev Z (n : Nat) : Value := .retAddr (n + 1)
/-- a place of which nothing is known -/
abbrev U0 : Value := .retAddr 0
def dmGet {α : Type} : List α → Nat → Option α
  | [], _ => none
  | a :: _, 0 => some a
  | _ :: l, n + 1 => dmGet l n
def dmSet {α : Type} : List α → Nat → α → Option (List α)
  | [], _, _ => none
  | _ :: l, 0, v => some (v :: l)
  | a :: l, n + 1, v => match dmSet l n v with
    | some l' => some (a :: l')
    | none => none
def dmAt {α : Type} (c : List (List α)) (i : Nat) : Option α := match dmGet c (i / 16) with
  | some l => dmGet l (i % 16)
  | none => none
def dmIsRef : Value → Bool
  | .ref _ => true
  | .retAddr (_ + 1) => true
  | _ => false
def dmIsInt : Value → Bool
  | .int _ => true
  | _ => false
def dmCat1 : Value → Bool
  | .int _ => true
  | .ref _ => true
  | .retAddr (_ + 1) => true
  | _ => false
def dmLong : Value → Bool
  | .long _ => true
  | .double _ => true
  | _ => false
/-- the place ahead holds no long -/
def dmPrev : List Value → Nat → Bool
  | _, 0 => true
  | ls, n + 1 => match dmGet ls n with
    | some v => !dmLong v
    | none => true
/-- does the value fit a field of the descriptor -/
def dmFit (d : FieldType) (v : Value) : Bool := match d with
  | .int => dmIsInt v
  | .boolean => match v with
    | .int x => x == 0 || x == 1
    | _ => false
  | .object _ => dmIsRef v
  | .array _ => dmIsRef v
  | _ => false
def dmTy (b a : Nat) : FieldType := match b with
  | 0 => tyX0 a
  | 1 => tyX1 a
  | 2 => tyX2 a
  | 3 => tyX3 a
  | 4 => tyX4 a
  | 5 => tyX5 a
  | _ => tyX6 a
/-- the simple instructions -/
def dmI (ins : ClassFile.Instr) (nx a b : Nat) (c : Int32) (ls st : List Value) (w : dmW) : Option dmS := match ins with
  | .aload_n _ => match dmGet ls a with
    | some v => match dmIsRef v with
      | true => some (nx, ls, v :: st, w)
      | false => none
    | none => none
  | .aload _ => match dmGet ls a with
    | some v => match dmIsRef v with
      | true => some (nx, ls, v :: st, w)
      | false => none
    | none => none
  | .iload_n _ => match dmGet ls a with
    | some (.int x) => some (nx, ls, .int x :: st, w)
    | _ => none
  | .iload _ => match dmGet ls a with
    | some (.int x) => some (nx, ls, .int x :: st, w)
    | _ => none
  | .lload_n _ => match dmGet ls a with
    | some (.long x) => some (nx, ls, .long x :: st, w)
    | _ => none
  | .istore_n _ => match st with
    | .int x :: st' => match dmPrev ls a with
      | true => match dmSet ls a (.int x) with
        | some ls' => some (nx, ls', st', w)
        | none => none
      | false => none
    | _ => none
  | .istore _ => match st with
    | .int x :: st' => match dmPrev ls a with
      | true => match dmSet ls a (.int x) with
        | some ls' => some (nx, ls', st', w)
        | none => none
      | false => none
    | _ => none
  | .astore_n _ => match st with
    | .ref x :: st' => match dmPrev ls a with
      | true => match dmSet ls a (.ref x) with
        | some ls' => some (nx, ls', st', w)
        | none => none
      | false => none
    | _ => none
  | .iinc _ _ => match dmGet ls a with
    | some (.int x) => match dmPrev ls a with
      | true => match dmSet ls a (.int (x + c)) with
        | some ls' => some (nx, ls', st, w)
        | none => none
      | false => none
    | _ => none
  | .iconst _ => some (nx, ls, .int c :: st, w)
  | .bipush _ => some (nx, ls, .int c :: st, w)
  | .sipush _ => some (nx, ls, .int c :: st, w)
  | .ldc _ => match b with
    | 0 => some (nx, ls, .int c :: st, w)
    | _ => some (nx, ls, .retAddr (a + 1) :: st, w)
  | .ldc_w _ => match b with
    | 0 => some (nx, ls, .int c :: st, w)
    | _ => none
  | .ldc2_w _ => some (nx, ls, .long 4294967295 :: st, w)
  | .lconst _ => some (nx, ls, .long 0 :: st, w)
  | .getstatic _ => match b with
    | 0 => some (nx, ls, .retAddr (a + 1) :: st, w)
    | 1 => some (nx, ls, .retAddr (a + 1) :: st, w)
    | 2 => some (nx, ls, .int 1 :: st, w)
    | _ => none
  | .iadd => match st with
    | .int y :: .int x :: st' => some (nx, ls, .int (x + y) :: st', w)
    | _ => none
  | .isub => match st with
    | .int y :: .int x :: st' => some (nx, ls, .int (x - y) :: st', w)
    | _ => none
  | .imul => match st with
    | .int y :: .int x :: st' => some (nx, ls, .int (x * y) :: st', w)
    | _ => none
  | .iand => match st with
    | .int y :: .int x :: st' => some (nx, ls, .int (x &&& y) :: st', w)
    | _ => none
  | .ior => match st with
    | .int y :: .int x :: st' => some (nx, ls, .int (x ||| y) :: st', w)
    | _ => none
  | .ixor => match st with
    | .int y :: .int x :: st' => some (nx, ls, .int (x ^^^ y) :: st', w)
    | _ => none
  | .ishl => match st with
    | .int y :: .int x :: st' => some (nx, ls, .int (x <<< (y &&& 31)) :: st', w)
    | _ => none
  | .ishr => match st with
    | .int y :: .int x :: st' => some (nx, ls, .int (x >>> (y &&& 31)) :: st', w)
    | _ => none
  | .iushr => match st with
    | .int y :: .int x :: st' => some (nx, ls, .int (x.toUInt32 >>> (y.toUInt32 &&& Int32.toUInt32 31)).toInt32 :: st', w)
    | _ => none
  | .ineg => match st with
    | .int x :: st' => some (nx, ls, .int (-x) :: st', w)
    | _ => none
  | .i2l => match st with
    | .int x :: st' => some (nx, ls, .long x.toInt64 :: st', w)
    | _ => none
  | .l2i => match st with
    | .long x :: st' => some (nx, ls, .int x.toInt32 :: st', w)
    | _ => none
  | .i2b => match st with
    | .int x :: st' => some (nx, ls, .int x.toInt8.toInt32 :: st', w)
    | _ => none
  | .i2s => match st with
    | .int x :: st' => some (nx, ls, .int x.toInt16.toInt32 :: st', w)
    | _ => none
  | .i2c => match st with
    | .int x :: st' => some (nx, ls, .int (x.toUInt32 % 65536).toInt32 :: st', w)
    | _ => none
  | .ladd => match st with
    | .long y :: .long x :: st' => some (nx, ls, .long (x + y) :: st', w)
    | _ => none
  | .land => match st with
    | .long y :: .long x :: st' => some (nx, ls, .long (x &&& y) :: st', w)
    | _ => none
  | .lor => match st with
    | .long y :: .long x :: st' => some (nx, ls, .long (x ||| y) :: st', w)
    | _ => none
  | .lshl => match st with
    | .int y :: .long x :: st' => some (nx, ls, .long (x <<< (y.toInt64 &&& 63)) :: st', w)
    | _ => none
  | .lcmp => match st with
    | .long y :: .long x :: st' => some (nx, ls, .int (lg_cmp x y) :: st', w)
    | _ => none
  | .dup => match st with
    | v :: st' => match dmCat1 v with
      | true => some (nx, ls, v :: v :: st', w)
      | false => none
    | _ => none
  | .dup2 => match st with
    | v :: u :: st' => match dmCat1 v && dmCat1 u with
      | true => some (nx, ls, v :: u :: v :: u :: st', w)
      | false => none
    | _ => none
  | .dup_x1 => match st with
    | v :: u :: st' => match dmCat1 v && dmCat1 u with
      | true => some (nx, ls, v :: u :: v :: st', w)
      | false => none
    | _ => none
  | .pop => match st with
    | v :: st' => match dmCat1 v with
      | true => some (nx, ls, st', w)
      | false => none
    | _ => none
  | .goto _ => some (a, ls, st, w)
  | .getfield _ => match st with
    | .ref h :: st' => match dmGet w h with
      | some (.inr (ci, fs)) => match Nat.beq ci b && Nat.ble b 6 with
        | true => match dmGet fs a with
          | some v => some (nx, ls, v :: st', w)
          | none => none
        | false => none
      | _ => none
    | _ => none
  | .putfield _ => match st with
    | v :: .ref h :: st' => match dmGet w h with
      | some (.inr (ci, fs)) => match Nat.beq ci b with
        | true => match dmFit (dmTy b a) v with
          | true => match dmSet fs a v with
            | some fs' => match dmSet w h (.inr (ci, fs')) with
              | some w' => some (nx, ls, st', w')
              | none => none
            | none => none
          | false => none
        | false => none
      | _ => none
    | _ => none
  | .arraylength => match st with
    | .ref h :: st' => match dmGet w h with
      | some (.inl (t, n, _)) => match Nat.ble t 2 with
        | true => some (nx, ls, .int (Int32.ofNat n) :: st', w)
        | false => none
      | _ => none
    | _ => none
  | _ => none
def dmStep (M : dmM) (s : dmS) : Option dmS := match s with
  | (i, ls, st, w) => match dmAt M.2.2.2.2.1 i with
    | some (_, ins, nx, a, b, c, _, _) => dmI ins nx a b c ls st w
    | none => none
/-- as many simple instructions as there are -/
def dmRun (M : dmM) : Nat → dmS → Option dmS
  | 0, s => some s
  | n + 1, s => match dmStep M s with
    | some t => dmRun M n t
    | none => some s
end
section
/-! WHAT THE SMALL MACHINE MEANS over the machine -/
theorem dmGet_eq {α : Type} : ∀ (l : List α) (n : Nat), dmGet l n = l[n]?
  | [], n => by simp [dmGet]
  | a :: l, 0 => by simp [dmGet]
  | a :: l, n + 1 => by simp [dmGet, dmGet_eq l n]
theorem dmSet_eq {α : Type} : ∀ (l : List α) (n : Nat) (v : α) (l' : List α), dmSet l n v = some l' → n < l.length ∧ l' = l.set n v
  | [], n, v, l', h => by simp [dmSet] at h
  | a :: l, 0, v, l', h => by
    simp only [dmSet] at h
    cases h
    simp
  | a :: l, n + 1, v, l', h => by
    simp only [dmSet] at h
    split at h
    · rename_i l2 h2
      cases h
      obtain ⟨h3, h4⟩ := dmSet_eq l n v l2 h2
      subst h4
      simp
      exact h3
    · cases h
def dmCv (ads : List Nat) (sad : Nat → Nat) : Value → Value
  | .ref h => .ref (ads.getD h 0)
  | .retAddr n => match n with
    | 0 => .null
    | k + 1 => .ref (sad k)
  | v => v
/-- rows of references: what stands in the list -/
def dmRf (ads : List Nat) (fs : List Value) : Nat → Option Nat := fun k => match fs[k]? with
  | some (.ref h) => some (ads.getD h 0)
  | _ => none
/-- a cell at its addresses; class 100: an array of references -/
def dmCe (ads : List Nat) (sad : Nat → Nat) (dA : Nat → ClassId) : va_E → va_E
  | .inl (t, x) => .inl (dA t, x)
  | .inr (c, fs) => if c = 100 then .inl (dA 2, fs.length, .inr (.inr (.inr (.inr (dmRf ads fs))))) else .inr (c, fs.map (dmCv ads sad))
def dmCw (ads : List Nat) (sad : Nat → Nat) (dA : Nat → ClassId) (w : dmW) : va_W := List.zipWith (fun a e => (a, dmCe ads sad dA e)) ads w
theorem dmCw_get {ads : List Nat} {sad : Nat → Nat} {dA : Nat → ClassId} {w : dmW} {h : Nat} {e : va_E} (hn : ads.length = w.length) (hg : dmGet w h = some e) : (dmCw ads sad dA w)[h]? = some (ads.getD h 0, dmCe ads sad dA e) := by
  rw [dmGet_eq] at hg
  have hl : h < w.length := (List.getElem?_eq_some_iff.mp hg).1
  have ha : ads[h]? = some (ads.getD h 0) := by
    rw [List.getD_eq_getElem?_getD, List.getElem?_eq_getElem (by omega)]
    simp
  unfold dmCw
  rw [List.getElem?_zipWith, ha, hg]
theorem dmCw_len {ads : List Nat} {sad : Nat → Nat} {dA : Nat → ClassId} {w : dmW} (hn : ads.length = w.length) : (dmCw ads sad dA w).length = w.length := by
  unfold dmCw
  rw [List.length_zipWith, hn, Nat.min_self]
theorem dmCw_set {ads : List Nat} {sad : Nat → Nat} {dA : Nat → ClassId} {w w' : dmW} {h : Nat} {e : va_E} (hn : ads.length = w.length) (hg : dmSet w h e = some w') : (dmCw ads sad dA w).set h (ads.getD h 0, dmCe ads sad dA e) = dmCw ads sad dA w' ∧ ads.length = w'.length := by
  obtain ⟨hl, rfl⟩ := dmSet_eq _ _ _ _ hg
  refine ⟨?_, by simp [hn]⟩
  apply List.ext_getElem?
  intro k
  unfold dmCw
  rw [List.getElem?_set, List.getElem?_zipWith, List.getElem?_zipWith, List.getElem?_set, List.length_zipWith]
  by_cases hk : h = k
  · subst hk
    have h1 : h < ads.length := by omega
    simp only [if_pos rfl, if_pos hl]
    have h2 : h < min ads.length w.length := Nat.lt_min.mpr ⟨h1, hl⟩
    rw [if_pos h2, List.getElem?_eq_getElem h1]
    simp [List.getD_eq_getElem?_getD, h1]
  · simp only [if_neg hk]
/-! locals -/
def dmKn : Value → Bool
  | .retAddr 0 => false
  | _ => true
def dmPairs (ads : List Nat) (sad : Nat → Nat) (ls : List Value) : List (Nat × Value) := (List.range ls.length).filterMap (fun i => match dmGet ls i with
  | some v => if dmKn v = true then some (i, dmCv ads sad v) else none
  | none => none)
theorem dmPairs_mem {ads : List Nat} {sad : Nat → Nat} {ls : List Value} {q : Nat × Value} : q ∈ dmPairs ads sad ls ↔ ∃ v, dmGet ls q.1 = some v ∧ dmKn v = true ∧ q.2 = dmCv ads sad v := by
  unfold dmPairs
  rw [List.mem_filterMap]
  constructor
  · rintro ⟨i, hi, h⟩
    cases hg : dmGet ls i with
    | none => rw [hg] at h; cases h
    | some v =>
      rw [hg] at h
      dsimp only at h
      by_cases hk : dmKn v = true
      · rw [if_pos hk] at h
        cases h
        exact ⟨v, hg, hk, rfl⟩
      · rw [if_neg hk] at h
        cases h
  · rintro ⟨v, h1, h2, h3⟩
    refine ⟨q.1, ?_, ?_⟩
    · rw [dmGet_eq] at h1
      exact List.mem_range.mpr (List.getElem?_eq_some_iff.mp h1).1
    · rw [h1]
      dsimp only
      rw [if_pos h2, ← h3]
def dmLR (ads : List Nat) (sad : Nat → Nat) (nL : Nat) (ls : List Value) (lsC : Array Slot) : Prop := lv_has lsC nL (dmPairs ads sad ls) ∧ ls.length ≤ nL
theorem dmLR.at {ads : List Nat} {sad : Nat → Nat} {nL : Nat} {ls : List Value} {lsC : Array Slot} (h : dmLR ads sad nL ls lsC) {i : Nat} {v : Value} (hg : dmGet ls i = some v) (hk : dmKn v = true) : lsC[i]? = some (.val (dmCv ads sad v)) :=
  h.1.2.2 (i, dmCv ads sad v) (dmPairs_mem.mpr ⟨v, hg, hk, rfl⟩)
theorem dmLR.put {ads : List Nat} {sad : Nat → Nat} {nL : Nat} {ls ls' : List Value} {i : Nat} {v : Value} {lsD : Array Slot} (h : ls.length ≤ nL) (hp : dmPrev ls i = true) (hs : dmSet ls i v = some ls')
    (hh : lv_has lsD nL ((i, dmCv ads sad v) :: (dmPairs ads sad ls).filter (fun q => !(q.1 == i) && !(q.1 + 1 == i && q.2.category == 2)))) : dmLR ads sad nL ls' lsD := by
  obtain ⟨h1, rfl⟩ := dmSet_eq _ _ _ _ hs
  refine ⟨⟨hh.1, hh.2.1, fun q hq => hh.2.2 q ?_⟩, by simpa using h⟩
  obtain ⟨u, hu, hk, hv⟩ := dmPairs_mem.mp hq
  rw [dmGet_eq, List.getElem?_set] at hu
  by_cases he : i = q.1
  · rw [if_pos he, if_pos h1] at hu
    cases hu
    have : q = (i, dmCv ads sad v) := by rw [he, ← hv]
    rw [this]
    exact List.mem_cons_self
  · rw [if_neg he] at hu
    refine List.mem_cons_of_mem _ (List.mem_filter.mpr ⟨dmPairs_mem.mpr ⟨u, by rw [dmGet_eq]; exact hu, hk, hv⟩, ?_⟩)
    have e1 : (q.1 == i) = false := by simp; omega
    rw [e1]
    by_cases e2 : q.1 + 1 = i
    · subst e2
      simp only [dmPrev, dmGet_eq, hu] at hp
      have : q.2.category ≠ 2 := by
        rw [hv]
        cases u with
        | long x => simp [dmLong] at hp
        | double x => simp [dmLong] at hp
        | retAddr n => cases n <;> simp [dmCv, Value.category]
        | _ => simp_all [dmCv, Value.category, dmKn]
      simp [this]
    · simp [e2]
end
section
/-! THE CHECK OF THE TABLES, and the context of a frame -/
def dmTB : List Cond := lw_tbl.filter goodWord
theorem dmTB_in {t : Nat} {w : Cond} (h : lw_tbl[t]? = some w) (hg : goodWord w = true) : w ∈ dmTB := List.mem_filter.mpr ⟨List.mem_of_getElem? h, hg⟩
theorem dmTB_good : ∀ w ∈ dmTB, goodWord w = true := fun _ h => (List.mem_filter.mp h).2
def dmStName (a : Nat) : String × String := match a with
  | 0 => ("WhichOneAllKnow", "ABOVE")
  | 1 => ("WhichOneAllKnow$Text", "NUMBERS_OF")
  | _ => ("WhichOneAllKnow$Moves", "BODIES")
/-- string constants: class, entry, text -/
def dmStr : List (String × Nat × String) := [("WhichOneAllKnow$Text", 86, "tune"), ("WhichOneAllKnow$Text", 88, "voice"), ("WhichOneAllKnow$Text", 90, "knows"), ("WhichOneAllKnow$Text", 92, "moves"), ("WhichOneAllKnow$Text", 94, "wait"), ("WhichOneAllKnowModel", 157, "tune"), ("WhichOneAllKnowModel", 165, "voice"), ("WhichOneAllKnowModel", 171, "knows"), ("WhichOneAllKnowModel", 173, "moves"), ("WhichOneAllKnowModel", 175, "wait")]
def dmBytes (t : String) : List Int32 := t.toList.map (fun c => nI c.toNat)
def dmTab (a : Nat) : List Int32 := match a with
  | 0 => [-1, 0, 0, 1, 0, 2, 4]
  | 1 => [1, 5, 2, 2, 1]
  | _ => [10, 11, 12, 20, 11, 12, 10, 30, 12, 20, 40, 12, 51, 11, 50, 10, 30, 60, 70, 71, 50]
def dmPc (M : dmM) (i : Nat) : Nat := match dmAt M.2.2.2.2.1 i with
  | some x => x.1
  | none => 0
def dmD (M : dmM) (pc : Nat) (ins : ClassFile.Instr) (n : Nat) : Bool := decide (decode M.2.1 pc = .ok (ins, n))
def dmNx (M : dmM) (pc nx n : Nat) : Bool := Nat.beq (dmPc M nx) (pc + n)
def dmWd (t : Nat) (w : Cond) : Bool := decide (lw_tbl[t]? = some w)
/-- what a call needs of its callee -/
def dmMt (M' : dmM) (n : Nat) : Bool := decide ((parseMethodDescriptor M'.1.desc).map (fun d => d.parameters.length) = some n) && decide (M'.1.cls ≠ "java/lang/invoke/MethodHandle" ∧ M'.1.cls ≠ "java/lang/invoke/VarHandle") && Nat.ble M'.2.2.1 21 && dmWd (M'.2.2.2.2.2.getD 0 0) (.code M'.1 M'.2.1 M'.2.2.1 M'.2.2.2.1) && dmWd (M'.2.2.2.2.2.getD 3 0) (.initialized M'.1.cls)
/-- calls of a private method of a nest mate: class, entry, method, host -/
def dmNest : List (String × Nat × MethodName × String) := [("WhichOneAllKnow$Moves", 32, ⟨"WhichOneAllKnow", "isKind", "(I)Z"⟩, "WhichOneAllKnow"), ("WhichOneAllKnow$Moves", 36, ⟨"WhichOneAllKnow", "within", "(III)Z"⟩, "WhichOneAllKnow"), ("WhichOneAllKnow$Text", 126, ⟨"WhichOneAllKnow", "isKind", "(I)Z"⟩, "WhichOneAllKnow"), ("WhichOneAllKnow$Text", 99, ⟨"WhichOneAllKnow", "within", "(III)Z"⟩, "WhichOneAllKnow")]
/-- one instruction's row of the tables -/
def dmCk (M : dmM) (x : dmA) : Bool := match x with
  | (pc, ins, nx, a, b, c, t, L) => match ins with
    | .aload_n k => dmD M pc ins 1 && dmNx M pc nx 1 && Nat.beq k.val a
    | .iload_n k => dmD M pc ins 1 && dmNx M pc nx 1 && Nat.beq k.val a
    | .lload_n k => dmD M pc ins 1 && dmNx M pc nx 1 && Nat.beq k.val a
    | .istore_n k => dmD M pc ins 1 && dmNx M pc nx 1 && Nat.beq k.val a
    | .astore_n k => dmD M pc ins 1 && dmNx M pc nx 1 && Nat.beq k.val a
    | .aload k => dmD M pc ins 2 && dmNx M pc nx 2 && Nat.beq k a
    | .iload k => dmD M pc ins 2 && dmNx M pc nx 2 && Nat.beq k a
    | .istore k => dmD M pc ins 2 && dmNx M pc nx 2 && Nat.beq k a
    | .iinc k n => dmD M pc ins 3 && dmNx M pc nx 3 && Nat.beq k a && decide (Int32.ofInt n = c)
    | .iconst n => dmD M pc ins 1 && dmNx M pc nx 1 && decide (Int32.ofInt n = c)
    | .bipush n => dmD M pc ins 2 && dmNx M pc nx 2 && decide ((Int8.ofInt n).toInt32 = c)
    | .sipush n => dmD M pc ins 3 && dmNx M pc nx 3 && decide ((Int16.ofInt n).toInt32 = c)
    | .ldc k => dmD M pc ins 2 && dmNx M pc nx 2 && (match b with
      | 0 => dmWd t (.constant M.1.cls k c)
      | _ => match dmStr[a - 10]? with
        | some y => decide (10 ≤ a) && decide (M.1.cls = y.1) && decide (k = y.2.1)
        | none => false)
    | .ldc_w k => dmD M pc ins 3 && dmNx M pc nx 3 && dmWd t (.constant M.1.cls k c)
    | .ldc2_w k => dmD M pc ins 3 && dmNx M pc nx 3 && dmWd t (.constantLong M.1.cls k 4294967295)
    | .lconst k => dmD M pc ins 1 && dmNx M pc nx 1 && Nat.beq k.val 0
    | .getstatic k => dmD M pc ins 3 && dmNx M pc nx 3 && Nat.ble a 2 && (match b with
      | 0 => dmWd t (.fieldLink M.1.cls k (dmStName a).1 (dmStName a).2 "[I")
      | 1 => decide (M.1.cls = "WhichOneAllKnow$Moves" ∧ k = 50 ∧ a = 0)
      | 2 => dmWd t (.fieldLink M.1.cls k "java/lang/String" "COMPACT_STRINGS" "Z")
      | _ => dmWd t (.fieldLink M.1.cls k "jdk/internal/util/Preconditions" "SIOOBE_FORMATTER" "Ljava/util/function/BiFunction;"))
    | .iadd => dmD M pc ins 1 && dmNx M pc nx 1
    | .isub => dmD M pc ins 1 && dmNx M pc nx 1
    | .imul => dmD M pc ins 1 && dmNx M pc nx 1
    | .idiv => dmD M pc ins 1 && dmNx M pc nx 1
    | .irem => dmD M pc ins 1 && dmNx M pc nx 1
    | .iand => dmD M pc ins 1 && dmNx M pc nx 1
    | .ior => dmD M pc ins 1 && dmNx M pc nx 1
    | .ixor => dmD M pc ins 1 && dmNx M pc nx 1
    | .ishl => dmD M pc ins 1 && dmNx M pc nx 1
    | .ishr => dmD M pc ins 1 && dmNx M pc nx 1
    | .iushr => dmD M pc ins 1 && dmNx M pc nx 1
    | .ineg => dmD M pc ins 1 && dmNx M pc nx 1
    | .i2l => dmD M pc ins 1 && dmNx M pc nx 1
    | .l2i => dmD M pc ins 1 && dmNx M pc nx 1
    | .i2b => dmD M pc ins 1 && dmNx M pc nx 1
    | .i2s => dmD M pc ins 1 && dmNx M pc nx 1
    | .i2c => dmD M pc ins 1 && dmNx M pc nx 1
    | .baload => dmD M pc ins 1 && dmNx M pc nx 1
    | .ladd => dmD M pc ins 1 && dmNx M pc nx 1
    | .land => dmD M pc ins 1 && dmNx M pc nx 1
    | .lor => dmD M pc ins 1 && dmNx M pc nx 1
    | .lshl => dmD M pc ins 1 && dmNx M pc nx 1
    | .lcmp => dmD M pc ins 1 && dmNx M pc nx 1
    | .dup => dmD M pc ins 1 && dmNx M pc nx 1
    | .dup2 => dmD M pc ins 1 && dmNx M pc nx 1
    | .dup_x1 => dmD M pc ins 1 && dmNx M pc nx 1
    | .pop => dmD M pc ins 1 && dmNx M pc nx 1
    | .iaload => dmD M pc ins 1 && dmNx M pc nx 1
    | .laload => dmD M pc ins 1 && dmNx M pc nx 1
    | .aaload => dmD M pc ins 1 && dmNx M pc nx 1
    | .iastore => dmD M pc ins 1 && dmNx M pc nx 1
    | .lastore => dmD M pc ins 1 && dmNx M pc nx 1
    | .arraylength => dmD M pc ins 1 && dmNx M pc nx 1
    | .goto o => dmD M pc ins 3 && decide ((pc : Int) + o = (dmPc M a : Int))
    | .ifCond _ o => dmD M pc ins 3 && dmNx M pc nx 3 && decide ((pc : Int) + o = (dmPc M a : Int))
    | .if_icmp _ o => dmD M pc ins 3 && dmNx M pc nx 3 && decide ((pc : Int) + o = (dmPc M a : Int))
    | .getfield k => dmD M pc ins 3 && dmNx M pc nx 3 && (match dmCl[b]? with
      | some (_, T, N) => Nat.blt a N && dmWd t (.fieldLink M.1.cls k (T a).1 (T a).2.1 (T a).2.2.1)
      | none => match a with
        | 0 => dmWd t (.fieldLink M.1.cls k "java/lang/String" "value" "[B")
        | _ => dmWd t (.fieldLink M.1.cls k "java/lang/String" "coder" "B"))
    | .putfield k => dmD M pc ins 3 && dmNx M pc nx 3 && (match dmCl[b]? with
      | some (_, T, N) => Nat.blt a N && dmWd t (.fieldLink M.1.cls k (T a).1 (T a).2.1 (T a).2.2.1) && (!(T a).2.2.2 || (decide (M.1.name = "<init>") && decide ((T a).1 = M.1.cls)))
      | none => false)
    | .invokevirtual k => dmD M pc ins 3 && dmNx M pc nx 3 && (match dmAt dmT a with
      | some M' => dmWd t (.methodLink M.1.cls k M'.1) && dmMt M' b && dmWd (M'.2.2.2.2.2.getD 1 0) (.instanceMethod M'.1) && dmWd (M'.2.2.2.2.2.getD 2 0) (.selects M'.1.cls M'.1 M'.1)
      | none => false)
    | .invokestatic k => dmD M pc ins 3 && dmNx M pc nx 3 && (match L with
      | [4] => dmWd t (.methodLink M.1.cls k Lib.Math.max.name)
      | [5] => dmWd t (.methodLink M.1.cls k Lib.Math.min.name)
      | [6] => dmWd t (.methodLink M.1.cls k Lib.Math.abs.name)
      | [7] => dmWd t (.methodLink M.1.cls k arraycopyName)
      | [1] => match dmAt dmT a with
        | some M' => dmWd t (.methodLink M.1.cls k M'.1) && dmMt M' b && dmWd (M'.2.2.2.2.2.getD 1 0) (.static M'.1)
        | none => false
      | _ => match dmAt dmT a with
        | some M' => decide ((M.1.cls, k, M'.1, M'.1.cls) ∈ dmNest) && dmMt M' b && dmWd (M'.2.2.2.2.2.getD 1 0) (.static M'.1)
        | none => false)
    | .invokespecial k => dmD M pc ins 3 && dmNx M pc nx 3 && (match L with
      | [8] => dmWd t (.methodLink M.1.cls k Lib.objectInit)
      | _ => match dmAt dmT a with
        | some M' => dmWd t (.methodLink M.1.cls k M'.1) && dmMt M' b && dmWd (M'.2.2.2.2.2.getD 1 0) (.instanceMethod M'.1) && decide (M'.1.name = "<init>") && decide (M'.2.2.2.1 = none)
        | none => false)
    | .new k => dmD M pc ins 3 && dmNx M pc nx 3 && (match dmCl[a]? with
      | some (C, _, _) => dmWd t (.classLink M.1.cls k C)
      | none => false)
    | .multianewarray k n => dmD M pc ins 4 && dmNx M pc nx 4 && dmWd t (.classLink M.1.cls k "[[J")
    | .newarray _ => dmD M pc ins 2 && dmNx M pc nx 2
    | .ireturn => dmD M pc ins 1
    | .lreturn => dmD M pc ins 1
    | .areturn => dmD M pc ins 1
    | .return_ => dmD M pc ins 1
    | .lookupswitch _ _ => dmD M pc ins b
    | .tableswitch df lo hi os => dmD M pc ins b && decide ((pc : Int) + df = (dmPc M a : Int)) && decide (L.map (fun k => (dmPc M k : Int)) = os.toList.map (fun o => (pc : Int) + o))
    | _ => true
def dmOK (M : dmM) : Bool := M.2.2.2.2.1.all (fun bl => bl.all (dmCk M))
end
section
set_option maxRecDepth 40000 in
theorem okO_init : dmOK mO_init = true := by decide +kernel
set_option maxRecDepth 40000 in
theorem okC_init : dmOK mC_init = true := by decide +kernel
set_option maxRecDepth 40000 in
theorem okH_init : dmOK mH_init = true := by decide +kernel
set_option maxRecDepth 40000 in
theorem okS_init : dmOK mS_init = true := by decide +kernel
set_option maxRecDepth 40000 in
theorem okS_placesNearOne : dmOK mS_placesNearOne = true := by decide +kernel
set_option maxRecDepth 40000 in
theorem okT_init : dmOK mT_init = true := by decide +kernel
set_option maxRecDepth 40000 in
theorem okV_init : dmOK mV_init = true := by decide +kernel
set_option maxRecDepth 40000 in
theorem okO_row : dmOK mO_row = true := by decide +kernel
set_option maxRecDepth 40000 in
theorem okH_has : dmOK mH_has = true := by decide +kernel
set_option maxRecDepth 40000 in
theorem okO_refuse : dmOK mO_refuse = true := by decide +kernel
set_option maxRecDepth 40000 in
theorem okO_within : dmOK mO_within = true := by decide +kernel
set_option maxRecDepth 40000 in
theorem okH_holdRow : dmOK mH_holdRow = true := by decide +kernel
set_option maxRecDepth 40000 in
theorem okO_set : dmOK mO_set = true := by decide +kernel
set_option maxRecDepth 40000 in
theorem okO_noRow : dmOK mO_noRow = true := by decide +kernel
set_option maxRecDepth 40000 in
theorem okH_holdsRow : dmOK mH_holdsRow = true := by decide +kernel
set_option maxRecDepth 40000 in
theorem okH_hasElement : dmOK mH_hasElement = true := by decide +kernel
set_option maxRecDepth 40000 in
theorem okH_put : dmOK mH_put = true := by decide +kernel
set_option maxRecDepth 40000 in
theorem okH_lowestBits : dmOK mH_lowestBits = true := by decide +kernel
set_option maxRecDepth 40000 in
theorem okO_copy : dmOK mO_copy = true := by decide +kernel
set_option maxRecDepth 40000 in
theorem okO_noPairOfRows : dmOK mO_noPairOfRows = true := by decide +kernel
set_option maxRecDepth 40000 in
theorem okH_hasPart : dmOK mH_hasPart = true := by decide +kernel
set_option maxRecDepth 40000 in
theorem okO_element : dmOK mO_element = true := by decide +kernel
set_option maxRecDepth 40000 in
theorem okO_show : dmOK mO_show = true := by decide +kernel
set_option maxRecDepth 40000 in
theorem okC_hasVoice : dmOK mC_hasVoice = true := by decide +kernel
set_option maxRecDepth 40000 in
theorem okO_holds : dmOK mO_holds = true := by decide +kernel
set_option maxRecDepth 40000 in
theorem okO_says : dmOK mO_says = true := by decide +kernel
set_option maxRecDepth 40000 in
theorem okO_isKind : dmOK mO_isKind = true := by decide +kernel
set_option maxRecDepth 40000 in
theorem okO_isOrIsUnder : dmOK mO_isOrIsUnder = true := by decide +kernel
set_option maxRecDepth 40000 in
theorem okJ_bitCount : dmOK mJ_bitCount = true := by decide +kernel
set_option maxRecDepth 40000 in
theorem okO_tune : dmOK mO_tune = true := by decide +kernel
set_option maxRecDepth 40000 in
theorem okC_hasRoomForTune : dmOK mC_hasRoomForTune = true := by decide +kernel
set_option maxRecDepth 40000 in
theorem okC_addTune : dmOK mC_addTune = true := by decide +kernel
set_option maxRecDepth 40000 in
theorem okO_voice : dmOK mO_voice = true := by decide +kernel
set_option maxRecDepth 40000 in
theorem okC_isFree : dmOK mC_isFree = true := by decide +kernel
set_option maxRecDepth 40000 in
theorem okC_hasRoomForVoice : dmOK mC_hasRoomForVoice = true := by decide +kernel
set_option maxRecDepth 40000 in
theorem okC_addVoice : dmOK mC_addVoice = true := by decide +kernel
set_option maxRecDepth 40000 in
theorem okO_knows : dmOK mO_knows = true := by decide +kernel
set_option maxRecDepth 40000 in
theorem okC_hasTune : dmOK mC_hasTune = true := by decide +kernel
set_option maxRecDepth 40000 in
theorem okC_knowsIt : dmOK mC_knowsIt = true := by decide +kernel
set_option maxRecDepth 40000 in
theorem okC_learn : dmOK mC_learn = true := by decide +kernel
set_option maxRecDepth 40000 in
theorem okO_move : dmOK mO_move = true := by decide +kernel
set_option maxRecDepth 40000 in
theorem okO_ask : dmOK mO_ask = true := by decide +kernel
set_option maxRecDepth 40000 in
theorem okO_voiceOf : dmOK mO_voiceOf = true := by decide +kernel
set_option maxRecDepth 40000 in
theorem okO_highOf : dmOK mO_highOf = true := by decide +kernel
set_option maxRecDepth 40000 in
theorem okO_church : dmOK mO_church = true := by decide +kernel
set_option maxRecDepth 40000 in
theorem okC_become : dmOK mC_become = true := by decide +kernel
set_option maxRecDepth 40000 in
theorem okT_readItems : dmOK mT_readItems = true := by decide +kernel
set_option maxRecDepth 40000 in
theorem okT_readItem : dmOK mT_readItem = true := by decide +kernel
set_option maxRecDepth 40000 in
theorem okT_itemAt : dmOK mT_itemAt = true := by decide +kernel
set_option maxRecDepth 40000 in
theorem okT_letter : dmOK mT_letter = true := by decide +kernel
set_option maxRecDepth 40000 in
theorem okT_wordOf : dmOK mT_wordOf = true := by decide +kernel
set_option maxRecDepth 40000 in
theorem okJS_charAt : dmOK mJS_charAt = true := by decide +kernel
set_option maxRecDepth 40000 in
theorem okJS_isLatin1 : dmOK mJS_isLatin1 = true := by decide +kernel
set_option maxRecDepth 40000 in
theorem okJL_charAt : dmOK mJL_charAt = true := by decide +kernel
set_option maxRecDepth 40000 in
theorem okJS_checkIndex : dmOK mJS_checkIndex = true := by decide +kernel
set_option maxRecDepth 40000 in
theorem okJP_checkIndex : dmOK mJP_checkIndex = true := by decide +kernel
set_option maxRecDepth 40000 in
theorem okT_faultAt : dmOK mT_faultAt = true := by decide +kernel
set_option maxRecDepth 40000 in
theorem okT_takeWord : dmOK mT_takeWord = true := by decide +kernel
set_option maxRecDepth 40000 in
theorem okJS_length : dmOK mJS_length = true := by decide +kernel
set_option maxRecDepth 40000 in
theorem okJS_coder : dmOK mJS_coder = true := by decide +kernel
set_option maxRecDepth 40000 in
theorem okT_takeLetter : dmOK mT_takeLetter = true := by decide +kernel
set_option maxRecDepth 40000 in
theorem okT_hasRoomFor : dmOK mT_hasRoomFor = true := by decide +kernel
set_option maxRecDepth 40000 in
theorem okT_takeNumber : dmOK mT_takeNumber = true := by decide +kernel
set_option maxRecDepth 40000 in
theorem okT_mayBe : dmOK mT_mayBe = true := by decide +kernel
set_option maxRecDepth 40000 in
theorem okT_mayBeOfVoice : dmOK mT_mayBeOfVoice = true := by decide +kernel
set_option maxRecDepth 40000 in
theorem okT_tell : dmOK mT_tell = true := by decide +kernel
set_option maxRecDepth 40000 in
theorem okO_fault : dmOK mO_fault = true := by decide +kernel
set_option maxRecDepth 40000 in
theorem okO_sung : dmOK mO_sung = true := by decide +kernel
set_option maxRecDepth 40000 in
theorem okO_isPitch : dmOK mO_isPitch = true := by decide +kernel
set_option maxRecDepth 40000 in
theorem okO_isVerse : dmOK mO_isVerse = true := by decide +kernel
set_option maxRecDepth 40000 in
theorem okS_begin : dmOK mS_begin = true := by decide +kernel
set_option maxRecDepth 40000 in
theorem okC_needOf : dmOK mC_needOf = true := by decide +kernel
set_option maxRecDepth 40000 in
theorem okC_needByBold : dmOK mC_needByBold = true := by decide +kernel
set_option maxRecDepth 40000 in
theorem okC_isInReach : dmOK mC_isInReach = true := by decide +kernel
set_option maxRecDepth 40000 in
theorem okS_singTo : dmOK mS_singTo = true := by decide +kernel
set_option maxRecDepth 40000 in
theorem okS_nextVerse : dmOK mS_nextVerse = true := by decide +kernel
set_option maxRecDepth 40000 in
theorem okS_joinsIn : dmOK mS_joinsIn = true := by decide +kernel
set_option maxRecDepth 40000 in
theorem okS_singsRight : dmOK mS_singsRight = true := by decide +kernel
set_option maxRecDepth 40000 in
theorem okC_voicesIn : dmOK mC_voicesIn = true := by decide +kernel
set_option maxRecDepth 40000 in
theorem okS_placesNear : dmOK mS_placesNear = true := by decide +kernel
set_option maxRecDepth 40000 in
theorem okO_needs : dmOK mO_needs = true := by decide +kernel
set_option maxRecDepth 40000 in
theorem okO_verse : dmOK mO_verse = true := by decide +kernel
set_option maxRecDepth 40000 in
theorem okS_catchesAt : dmOK mS_catchesAt = true := by decide +kernel
set_option maxRecDepth 40000 in
theorem okS_settlesAt : dmOK mS_settlesAt = true := by decide +kernel
set_option maxRecDepth 40000 in
theorem okO_best : dmOK mO_best = true := by decide +kernel
set_option maxRecDepth 40000 in
theorem okO_rightAt : dmOK mO_rightAt = true := by decide +kernel
set_option maxRecDepth 40000 in
theorem okO_pitch : dmOK mO_pitch = true := by decide +kernel
set_option maxRecDepth 40000 in
theorem okO_two : dmOK mO_two = true := by decide +kernel
set_option maxRecDepth 40000 in
theorem okO_leaders : dmOK mO_leaders = true := by decide +kernel
set_option maxRecDepth 40000 in
theorem okO_rightLedFrom : dmOK mO_rightLedFrom = true := by decide +kernel
set_option maxRecDepth 40000 in
theorem okC_addLeader : dmOK mC_addLeader = true := by decide +kernel
set_option maxRecDepth 40000 in
theorem okC_allTunes : dmOK mC_allTunes = true := by decide +kernel
set_option maxRecDepth 40000 in
theorem okO_taught : dmOK mO_taught = true := by decide +kernel
set_option maxRecDepth 40000 in
theorem okO_catchesIfTaught : dmOK mO_catchesIfTaught = true := by decide +kernel
set_option maxRecDepth 40000 in
theorem okO_helps : dmOK mO_helps = true := by decide +kernel
set_option maxRecDepth 40000 in
theorem okS_leaveOut : dmOK mS_leaveOut = true := by decide +kernel
set_option maxRecDepth 40000 in
theorem okO_late : dmOK mO_late = true := by decide +kernel
set_option maxRecDepth 40000 in
theorem okO_lateLedBy : dmOK mO_lateLedBy = true := by decide +kernel
set_option maxRecDepth 40000 in
theorem okO_ahead : dmOK mO_ahead = true := by decide +kernel
set_option maxRecDepth 40000 in
theorem okO_fits : dmOK mO_fits = true := by decide +kernel
set_option maxRecDepth 40000 in
theorem okO_noPart : dmOK mO_noPart = true := by decide +kernel
set_option maxRecDepth 40000 in
theorem okS_isHeardAs : dmOK mS_isHeardAs = true := by decide +kernel
set_option maxRecDepth 40000 in
theorem okO_changed : dmOK mO_changed = true := by decide +kernel
set_option maxRecDepth 40000 in
theorem okC_changePlaces : dmOK mC_changePlaces = true := by decide +kernel
set_option maxRecDepth 40000 in
theorem okO_known : dmOK mO_known = true := by decide +kernel
set_option maxRecDepth 40000 in
theorem okC_knownTogether : dmOK mC_knownTogether = true := by decide +kernel
set_option maxRecDepth 40000 in
theorem okC_knownToAll : dmOK mC_knownToAll = true := by decide +kernel
set_option maxRecDepth 40000 in
theorem okC_likestVoice : dmOK mC_likestVoice = true := by decide +kernel
set_option maxRecDepth 40000 in
theorem okO_judge : dmOK mO_judge = true := by decide +kernel
set_option maxRecDepth 40000 in
theorem okO_firstWrong : dmOK mO_firstWrong = true := by decide +kernel
set_option maxRecDepth 40000 in
theorem okH_told : dmOK mH_told = true := by decide +kernel
set_option maxRecDepth 40000 in
theorem okO_behind : dmOK mO_behind = true := by decide +kernel
set_option maxRecDepth 40000 in
theorem okO_maySing : dmOK mO_maySing = true := by decide +kernel
set_option maxRecDepth 40000 in
theorem okO_singTold : dmOK mO_singTold = true := by decide +kernel
set_option maxRecDepth 40000 in
theorem okO_singInTruth : dmOK mO_singInTruth = true := by decide +kernel
set_option maxRecDepth 40000 in
theorem okC_learnAll : dmOK mC_learnAll = true := by decide +kernel
set_option maxRecDepth 40000 in
theorem okO_done : dmOK mO_done = true := by decide +kernel
set_option maxRecDepth 40000 in
theorem okO_hymn : dmOK mO_hymn = true := by decide +kernel
set_option maxRecDepth 40000 in
theorem okO_years : dmOK mO_years = true := by decide +kernel
set_option maxRecDepth 40000 in
theorem okC_draw : dmOK mC_draw = true := by decide +kernel
set_option maxRecDepth 40000 in
theorem okO_seed : dmOK mO_seed = true := by decide +kernel
set_option maxRecDepth 40000 in
theorem okO_act : dmOK mO_act = true := by decide +kernel
set_option maxRecDepth 40000 in
theorem okV_forget : dmOK mV_forget = true := by decide +kernel
set_option maxRecDepth 40000 in
theorem okV_start : dmOK mV_start = true := by decide +kernel
set_option maxRecDepth 40000 in
theorem okV_runFrom : dmOK mV_runFrom = true := by decide +kernel
set_option maxRecDepth 40000 in
theorem okV_note : dmOK mV_note = true := by decide +kernel
set_option maxRecDepth 40000 in
theorem okV_runBody : dmOK mV_runBody = true := by decide +kernel
set_option maxRecDepth 40000 in
theorem okO_trace : dmOK mO_trace = true := by decide +kernel
set_option maxRecDepth 40000 in
theorem okV_bodyAt : dmOK mV_bodyAt = true := by decide +kernel
set_option maxRecDepth 40000 in
theorem okO_image : dmOK mO_image = true := by decide +kernel
set_option maxRecDepth 40000 in
theorem okO_restore : dmOK mO_restore = true := by decide +kernel
set_option maxRecDepth 40000 in
theorem okH_dropVoicesFrom : dmOK mH_dropVoicesFrom = true := by decide +kernel
set_option maxRecDepth 40000 in
theorem okO_status : dmOK mO_status = true := by decide +kernel
set_option maxRecDepth 40000 in
theorem okM_init : dmOK mM_init = true := by decide +kernel
set_option maxRecDepth 40000 in
theorem okM_row : dmOK mM_row = true := by decide +kernel
set_option maxRecDepth 40000 in
theorem okM_within : dmOK mM_within = true := by decide +kernel
set_option maxRecDepth 40000 in
theorem okM_no : dmOK mM_no = true := by decide +kernel
set_option maxRecDepth 40000 in
theorem okM_set : dmOK mM_set = true := by decide +kernel
set_option maxRecDepth 40000 in
theorem okM_noRow : dmOK mM_noRow = true := by decide +kernel
set_option maxRecDepth 40000 in
theorem okM_isRow : dmOK mM_isRow = true := by decide +kernel
set_option maxRecDepth 40000 in
theorem okM_copy : dmOK mM_copy = true := by decide +kernel
set_option maxRecDepth 40000 in
theorem okM_element : dmOK mM_element = true := by decide +kernel
set_option maxRecDepth 40000 in
theorem okM_show : dmOK mM_show = true := by decide +kernel
set_option maxRecDepth 40000 in
theorem okM_isVoice : dmOK mM_isVoice = true := by decide +kernel
set_option maxRecDepth 40000 in
theorem okM_holds : dmOK mM_holds = true := by decide +kernel
set_option maxRecDepth 40000 in
theorem okM_says : dmOK mM_says = true := by decide +kernel
set_option maxRecDepth 40000 in
theorem okM_isUnder : dmOK mM_isUnder = true := by decide +kernel
set_option maxRecDepth 40000 in
theorem okM_above : dmOK mM_above = true := by decide +kernel
set_option maxRecDepth 40000 in
theorem okM_tune : dmOK mM_tune = true := by decide +kernel
set_option maxRecDepth 40000 in
theorem okM_newTune : dmOK mM_newTune = true := by decide +kernel
set_option maxRecDepth 40000 in
theorem okM_voice : dmOK mM_voice = true := by decide +kernel
set_option maxRecDepth 40000 in
theorem okM_isFree : dmOK mM_isFree = true := by decide +kernel
set_option maxRecDepth 40000 in
theorem okM_isTaken : dmOK mM_isTaken = true := by decide +kernel
set_option maxRecDepth 40000 in
theorem okM_newVoice : dmOK mM_newVoice = true := by decide +kernel
set_option maxRecDepth 40000 in
theorem okM_knows : dmOK mM_knows = true := by decide +kernel
set_option maxRecDepth 40000 in
theorem okM_isTune : dmOK mM_isTune = true := by decide +kernel
set_option maxRecDepth 40000 in
theorem okM_move : dmOK mM_move = true := by decide +kernel
set_option maxRecDepth 40000 in
theorem okM_ask : dmOK mM_ask = true := by decide +kernel
set_option maxRecDepth 40000 in
theorem okM_voiceOf : dmOK mM_voiceOf = true := by decide +kernel
set_option maxRecDepth 40000 in
theorem okM_highOf : dmOK mM_highOf = true := by decide +kernel
set_option maxRecDepth 40000 in
theorem okM_church : dmOK mM_church = true := by decide +kernel
set_option maxRecDepth 40000 in
theorem okM_keep : dmOK mM_keep = true := by decide +kernel
set_option maxRecDepth 40000 in
theorem okM_item : dmOK mM_item = true := by decide +kernel
set_option maxRecDepth 40000 in
theorem okM_sign : dmOK mM_sign = true := by decide +kernel
set_option maxRecDepth 40000 in
theorem okM_word : dmOK mM_word = true := by decide +kernel
set_option maxRecDepth 40000 in
theorem okM_word2 : dmOK mM_word2 = true := by decide +kernel
set_option maxRecDepth 40000 in
theorem okM_is : dmOK mM_is = true := by decide +kernel
set_option maxRecDepth 40000 in
theorem okM_number : dmOK mM_number = true := by decide +kernel
set_option maxRecDepth 40000 in
theorem okM_stands : dmOK mM_stands = true := by decide +kernel
set_option maxRecDepth 40000 in
theorem okM_again : dmOK mM_again = true := by decide +kernel
set_option maxRecDepth 40000 in
theorem okM_fault : dmOK mM_fault = true := by decide +kernel
set_option maxRecDepth 40000 in
theorem okM_sung : dmOK mM_sung = true := by decide +kernel
set_option maxRecDepth 40000 in
theorem okM_isPitch : dmOK mM_isPitch = true := by decide +kernel
set_option maxRecDepth 40000 in
theorem okM_isVerse : dmOK mM_isVerse = true := by decide +kernel
set_option maxRecDepth 40000 in
theorem okM_hears : dmOK mM_hears = true := by decide +kernel
set_option maxRecDepth 40000 in
theorem okM_sings : dmOK mM_sings = true := by decide +kernel
set_option maxRecDepth 40000 in
theorem okM_isEnough : dmOK mM_isEnough = true := by decide +kernel
set_option maxRecDepth 40000 in
theorem okM_near : dmOK mM_near = true := by decide +kernel
set_option maxRecDepth 40000 in
theorem okM_has : dmOK mM_has = true := by decide +kernel
set_option maxRecDepth 40000 in
theorem okM_areNear : dmOK mM_areNear = true := by decide +kernel
set_option maxRecDepth 40000 in
theorem okM_need : dmOK mM_need = true := by decide +kernel
set_option maxRecDepth 40000 in
theorem okM_needs : dmOK mM_needs = true := by decide +kernel
set_option maxRecDepth 40000 in
theorem okM_verse : dmOK mM_verse = true := by decide +kernel
set_option maxRecDepth 40000 in
theorem okM_no10 : dmOK mM_no10 = true := by decide +kernel
set_option maxRecDepth 40000 in
theorem okM_catches : dmOK mM_catches = true := by decide +kernel
set_option maxRecDepth 40000 in
theorem okM_settles : dmOK mM_settles = true := by decide +kernel
set_option maxRecDepth 40000 in
theorem okM_isSame : dmOK mM_isSame = true := by decide +kernel
set_option maxRecDepth 40000 in
theorem okM_best : dmOK mM_best = true := by decide +kernel
set_option maxRecDepth 40000 in
theorem okM_manyAt : dmOK mM_manyAt = true := by decide +kernel
set_option maxRecDepth 40000 in
theorem okM_rightAt : dmOK mM_rightAt = true := by decide +kernel
set_option maxRecDepth 40000 in
theorem okM_pitch : dmOK mM_pitch = true := by decide +kernel
set_option maxRecDepth 40000 in
theorem okM_two : dmOK mM_two = true := by decide +kernel
set_option maxRecDepth 40000 in
theorem okM_leaders : dmOK mM_leaders = true := by decide +kernel
set_option maxRecDepth 40000 in
theorem okM_bestLeaders : dmOK mM_bestLeaders = true := by decide +kernel
set_option maxRecDepth 40000 in
theorem okM_leads : dmOK mM_leads = true := by decide +kernel
set_option maxRecDepth 40000 in
theorem okM_ledAt : dmOK mM_ledAt = true := by decide +kernel
set_option maxRecDepth 40000 in
theorem okM_taught : dmOK mM_taught = true := by decide +kernel
set_option maxRecDepth 40000 in
theorem okM_helps : dmOK mM_helps = true := by decide +kernel
set_option maxRecDepth 40000 in
theorem okM_late : dmOK mM_late = true := by decide +kernel
set_option maxRecDepth 40000 in
theorem okM_lateBy : dmOK mM_lateBy = true := by decide +kernel
set_option maxRecDepth 40000 in
theorem okM_ahead : dmOK mM_ahead = true := by decide +kernel
set_option maxRecDepth 40000 in
theorem okM_fits : dmOK mM_fits = true := by decide +kernel
set_option maxRecDepth 40000 in
theorem okM_noTold : dmOK mM_noTold = true := by decide +kernel
set_option maxRecDepth 40000 in
theorem okM_isFit : dmOK mM_isFit = true := by decide +kernel
set_option maxRecDepth 40000 in
theorem okM_toldAt : dmOK mM_toldAt = true := by decide +kernel
set_option maxRecDepth 40000 in
theorem okM_changed : dmOK mM_changed = true := by decide +kernel
set_option maxRecDepth 40000 in
theorem okM_change : dmOK mM_change = true := by decide +kernel
set_option maxRecDepth 40000 in
theorem okM_known : dmOK mM_known = true := by decide +kernel
set_option maxRecDepth 40000 in
theorem okM_knownAll : dmOK mM_knownAll = true := by decide +kernel
set_option maxRecDepth 40000 in
theorem okM_whomToAsk : dmOK mM_whomToAsk = true := by decide +kernel
set_option maxRecDepth 40000 in
theorem okM_judge : dmOK mM_judge = true := by decide +kernel
set_option maxRecDepth 40000 in
theorem okM_wrongAt : dmOK mM_wrongAt = true := by decide +kernel
set_option maxRecDepth 40000 in
theorem okM_behind : dmOK mM_behind = true := by decide +kernel
set_option maxRecDepth 40000 in
theorem okM_isSung : dmOK mM_isSung = true := by decide +kernel
set_option maxRecDepth 40000 in
theorem okM_done : dmOK mM_done = true := by decide +kernel
set_option maxRecDepth 40000 in
theorem okM_hymn : dmOK mM_hymn = true := by decide +kernel
set_option maxRecDepth 40000 in
theorem okM_years : dmOK mM_years = true := by decide +kernel
set_option maxRecDepth 40000 in
theorem okM_draw : dmOK mM_draw = true := by decide +kernel
set_option maxRecDepth 40000 in
theorem okM_seed : dmOK mM_seed = true := by decide +kernel
set_option maxRecDepth 40000 in
theorem okM_act : dmOK mM_act = true := by decide +kernel
set_option maxRecDepth 40000 in
theorem okM_breathesBy : dmOK mM_breathesBy = true := by decide +kernel
set_option maxRecDepth 40000 in
theorem okM_ran : dmOK mM_ran = true := by decide +kernel
set_option maxRecDepth 40000 in
theorem okM_singsBy : dmOK mM_singsBy = true := by decide +kernel
set_option maxRecDepth 40000 in
theorem okM_sitsBy : dmOK mM_sitsBy = true := by decide +kernel
set_option maxRecDepth 40000 in
theorem okM_trace : dmOK mM_trace = true := by decide +kernel
set_option maxRecDepth 40000 in
theorem okM_image : dmOK mM_image = true := by decide +kernel
set_option maxRecDepth 40000 in
theorem okM_restore : dmOK mM_restore = true := by decide +kernel
set_option maxRecDepth 40000 in
theorem okM_status : dmOK mM_status = true := by decide +kernel
end
section
set_option maxRecDepth 40000 in
theorem okL_law_0 : kL_law_0.all (dmCk mL_law) = true := by decide +kernel
set_option maxRecDepth 40000 in
theorem okL_law_1 : kL_law_1.all (dmCk mL_law) = true := by decide +kernel
set_option maxRecDepth 40000 in
theorem okL_law_2 : kL_law_2.all (dmCk mL_law) = true := by decide +kernel
set_option maxRecDepth 40000 in
theorem okL_law_3 : kL_law_3.all (dmCk mL_law) = true := by decide +kernel
set_option maxRecDepth 40000 in
theorem okL_law_4 : kL_law_4.all (dmCk mL_law) = true := by decide +kernel
set_option maxRecDepth 40000 in
theorem okL_law_5 : kL_law_5.all (dmCk mL_law) = true := by decide +kernel
set_option maxRecDepth 40000 in
theorem okL_law_6 : kL_law_6.all (dmCk mL_law) = true := by decide +kernel
set_option maxRecDepth 40000 in
theorem okL_law_7 : kL_law_7.all (dmCk mL_law) = true := by decide +kernel
set_option maxRecDepth 40000 in
theorem okL_law_8 : kL_law_8.all (dmCk mL_law) = true := by decide +kernel
set_option maxRecDepth 40000 in
theorem okL_law_9 : kL_law_9.all (dmCk mL_law) = true := by decide +kernel
set_option maxRecDepth 40000 in
theorem okL_law_10 : kL_law_10.all (dmCk mL_law) = true := by decide +kernel
set_option maxRecDepth 40000 in
theorem okL_law_11 : kL_law_11.all (dmCk mL_law) = true := by decide +kernel
set_option maxRecDepth 40000 in
theorem okL_law_12 : kL_law_12.all (dmCk mL_law) = true := by decide +kernel
set_option maxRecDepth 40000 in
theorem okL_law_13 : kL_law_13.all (dmCk mL_law) = true := by decide +kernel
set_option maxRecDepth 40000 in
theorem okL_law_14 : kL_law_14.all (dmCk mL_law) = true := by decide +kernel
set_option maxRecDepth 40000 in
theorem okL_law_15 : kL_law_15.all (dmCk mL_law) = true := by decide +kernel
set_option maxRecDepth 40000 in
theorem okL_law_16 : kL_law_16.all (dmCk mL_law) = true := by decide +kernel
set_option maxRecDepth 40000 in
theorem okL_law_17 : kL_law_17.all (dmCk mL_law) = true := by decide +kernel
set_option maxRecDepth 40000 in
theorem okL_law_18 : kL_law_18.all (dmCk mL_law) = true := by decide +kernel
set_option maxRecDepth 40000 in
theorem okL_law_19 : kL_law_19.all (dmCk mL_law) = true := by decide +kernel
set_option maxRecDepth 40000 in
theorem okL_law_20 : kL_law_20.all (dmCk mL_law) = true := by decide +kernel
set_option maxRecDepth 40000 in
theorem okL_law_21 : kL_law_21.all (dmCk mL_law) = true := by decide +kernel
set_option maxRecDepth 40000 in
theorem okL_law_22 : kL_law_22.all (dmCk mL_law) = true := by decide +kernel
set_option maxRecDepth 40000 in
theorem okL_law_23 : kL_law_23.all (dmCk mL_law) = true := by decide +kernel
set_option maxRecDepth 40000 in
theorem okL_law_24 : kL_law_24.all (dmCk mL_law) = true := by decide +kernel
set_option maxRecDepth 40000 in
theorem okL_law_25 : kL_law_25.all (dmCk mL_law) = true := by decide +kernel
set_option maxRecDepth 40000 in
theorem okL_law_26 : kL_law_26.all (dmCk mL_law) = true := by decide +kernel
set_option maxRecDepth 40000 in
theorem okL_law_27 : kL_law_27.all (dmCk mL_law) = true := by decide +kernel
set_option maxRecDepth 40000 in
theorem okL_law_28 : kL_law_28.all (dmCk mL_law) = true := by decide +kernel
set_option maxRecDepth 40000 in
theorem okL_law_29 : kL_law_29.all (dmCk mL_law) = true := by decide +kernel
set_option maxRecDepth 40000 in
theorem okL_law_30 : kL_law_30.all (dmCk mL_law) = true := by decide +kernel
set_option maxRecDepth 40000 in
theorem okL_law_31 : kL_law_31.all (dmCk mL_law) = true := by decide +kernel
set_option maxRecDepth 40000 in
theorem okL_law_32 : kL_law_32.all (dmCk mL_law) = true := by decide +kernel
set_option maxRecDepth 40000 in
theorem okL_law_33 : kL_law_33.all (dmCk mL_law) = true := by decide +kernel
set_option maxRecDepth 40000 in
theorem okL_law_34 : kL_law_34.all (dmCk mL_law) = true := by decide +kernel
set_option maxRecDepth 40000 in
theorem okL_law_35 : kL_law_35.all (dmCk mL_law) = true := by decide +kernel
set_option maxRecDepth 40000 in
theorem okL_law_36 : kL_law_36.all (dmCk mL_law) = true := by decide +kernel
set_option maxRecDepth 40000 in
theorem okL_law_37 : kL_law_37.all (dmCk mL_law) = true := by decide +kernel
set_option maxRecDepth 40000 in
theorem okL_law_38 : kL_law_38.all (dmCk mL_law) = true := by decide +kernel
set_option maxRecDepth 40000 in
theorem okL_law_39 : kL_law_39.all (dmCk mL_law) = true := by decide +kernel
set_option maxRecDepth 40000 in
theorem okL_law_40 : kL_law_40.all (dmCk mL_law) = true := by decide +kernel
set_option maxRecDepth 40000 in
theorem okL_law_41 : kL_law_41.all (dmCk mL_law) = true := by decide +kernel
set_option maxRecDepth 40000 in
theorem okL_law_42 : kL_law_42.all (dmCk mL_law) = true := by decide +kernel
set_option maxRecDepth 40000 in
theorem okL_law_43 : kL_law_43.all (dmCk mL_law) = true := by decide +kernel
set_option maxRecDepth 40000 in
theorem okL_law_44 : kL_law_44.all (dmCk mL_law) = true := by decide +kernel
set_option maxRecDepth 40000 in
theorem okL_law_45 : kL_law_45.all (dmCk mL_law) = true := by decide +kernel
set_option maxRecDepth 40000 in
theorem okL_law_46 : kL_law_46.all (dmCk mL_law) = true := by decide +kernel
set_option maxRecDepth 40000 in
theorem okL_law_47 : kL_law_47.all (dmCk mL_law) = true := by decide +kernel
set_option maxRecDepth 40000 in
theorem okL_law_48 : kL_law_48.all (dmCk mL_law) = true := by decide +kernel
set_option maxRecDepth 40000 in
theorem okL_law_49 : kL_law_49.all (dmCk mL_law) = true := by decide +kernel
set_option maxRecDepth 40000 in
theorem okL_law_50 : kL_law_50.all (dmCk mL_law) = true := by decide +kernel
set_option maxRecDepth 40000 in
theorem okL_law_51 : kL_law_51.all (dmCk mL_law) = true := by decide +kernel
set_option maxRecDepth 40000 in
theorem okL_law_52 : kL_law_52.all (dmCk mL_law) = true := by decide +kernel
set_option maxRecDepth 40000 in
theorem okL_law_53 : kL_law_53.all (dmCk mL_law) = true := by decide +kernel
set_option maxRecDepth 40000 in
theorem okL_law_54 : kL_law_54.all (dmCk mL_law) = true := by decide +kernel
set_option maxRecDepth 40000 in
theorem okL_law_55 : kL_law_55.all (dmCk mL_law) = true := by decide +kernel
set_option maxRecDepth 40000 in
theorem okL_law_56 : kL_law_56.all (dmCk mL_law) = true := by decide +kernel
set_option maxRecDepth 40000 in
theorem okL_law_57 : kL_law_57.all (dmCk mL_law) = true := by decide +kernel
set_option maxRecDepth 40000 in
theorem okL_law_58 : kL_law_58.all (dmCk mL_law) = true := by decide +kernel
set_option maxRecDepth 40000 in
theorem okL_law_59 : kL_law_59.all (dmCk mL_law) = true := by decide +kernel
set_option maxRecDepth 40000 in
theorem okL_law_60 : kL_law_60.all (dmCk mL_law) = true := by decide +kernel
set_option maxRecDepth 40000 in
theorem okL_law_61 : kL_law_61.all (dmCk mL_law) = true := by decide +kernel
set_option maxRecDepth 40000 in
theorem okL_law_62 : kL_law_62.all (dmCk mL_law) = true := by decide +kernel
set_option maxRecDepth 40000 in
theorem okL_law_63 : kL_law_63.all (dmCk mL_law) = true := by decide +kernel
set_option maxRecDepth 40000 in
theorem okL_law_64 : kL_law_64.all (dmCk mL_law) = true := by decide +kernel
set_option maxRecDepth 40000 in
theorem okL_law_65 : kL_law_65.all (dmCk mL_law) = true := by decide +kernel
set_option maxRecDepth 40000 in
theorem okL_law_66 : kL_law_66.all (dmCk mL_law) = true := by decide +kernel
set_option maxRecDepth 40000 in
theorem okL_law_67 : kL_law_67.all (dmCk mL_law) = true := by decide +kernel
set_option maxRecDepth 40000 in
theorem okL_law_68 : kL_law_68.all (dmCk mL_law) = true := by decide +kernel
set_option maxRecDepth 40000 in
theorem okL_law_69 : kL_law_69.all (dmCk mL_law) = true := by decide +kernel
set_option maxRecDepth 40000 in
theorem okL_law_70 : kL_law_70.all (dmCk mL_law) = true := by decide +kernel
set_option maxRecDepth 40000 in
theorem okL_law_71 : kL_law_71.all (dmCk mL_law) = true := by decide +kernel
set_option maxRecDepth 40000 in
theorem okL_law_72 : kL_law_72.all (dmCk mL_law) = true := by decide +kernel
set_option maxRecDepth 40000 in
theorem okL_law_73 : kL_law_73.all (dmCk mL_law) = true := by decide +kernel
set_option maxRecDepth 40000 in
theorem okL_law_74 : kL_law_74.all (dmCk mL_law) = true := by decide +kernel
set_option maxRecDepth 40000 in
theorem okL_law_75 : kL_law_75.all (dmCk mL_law) = true := by decide +kernel
set_option maxRecDepth 40000 in
theorem okL_law_76 : kL_law_76.all (dmCk mL_law) = true := by decide +kernel
set_option maxRecDepth 40000 in
theorem okL_law_77 : kL_law_77.all (dmCk mL_law) = true := by decide +kernel
theorem okL_law : dmOK mL_law = true := by
  show (kL_law.all (fun bl => bl.all (dmCk mL_law))) = true
  simp only [kL_law, List.all_cons, List.all_nil, Bool.and_true, Bool.and_self, okL_law_0, okL_law_1, okL_law_2, okL_law_3, okL_law_4, okL_law_5, okL_law_6, okL_law_7, okL_law_8, okL_law_9, okL_law_10, okL_law_11, okL_law_12, okL_law_13, okL_law_14, okL_law_15, okL_law_16, okL_law_17, okL_law_18, okL_law_19, okL_law_20, okL_law_21, okL_law_22, okL_law_23, okL_law_24, okL_law_25, okL_law_26, okL_law_27, okL_law_28, okL_law_29, okL_law_30, okL_law_31, okL_law_32, okL_law_33, okL_law_34, okL_law_35, okL_law_36, okL_law_37, okL_law_38, okL_law_39, okL_law_40, okL_law_41, okL_law_42, okL_law_43, okL_law_44, okL_law_45, okL_law_46, okL_law_47, okL_law_48, okL_law_49, okL_law_50, okL_law_51, okL_law_52, okL_law_53, okL_law_54, okL_law_55, okL_law_56, okL_law_57, okL_law_58, okL_law_59, okL_law_60, okL_law_61, okL_law_62, okL_law_63, okL_law_64, okL_law_65, okL_law_66, okL_law_67, okL_law_68, okL_law_69, okL_law_70, okL_law_71, okL_law_72, okL_law_73, okL_law_74, okL_law_75, okL_law_76, okL_law_77]
end
section
/-! THE JUDGEMENT -/
abbrev dmG : Type := va_G × (Nat → ClassId) × (Nat → Nat)
/-- the law's script -/
abbrev dmX : Type := Nat × (Nat → Int32)
abbrev dmTys (dA : Nat → ClassId) : List (ClassId × FieldType) := [(dA 0, .int), (dA 1, .long), (dA 2, .array .long)]
def va_AOA (ty : FieldType) (U : State) : Prop := (Cond.arrayOver (.array ty)).before #[] U = true
def dmKs (G : dmG) (s : State) : Prop := va_K G.1 dmCl (dmTys G.2.1) s ∧ va_Nw (.fieldLinkNest "WhichOneAllKnow$Moves" 50 "WhichOneAllKnow" "ABOVE" "[I" "WhichOneAllKnow") s ∧ (∀ q ∈ dmNest, va_Nw (.methodLinkNest q.1 q.2.1 q.2.2.1 q.2.2.2) s) ∧ va_AOA .long s ∧ ∀ (i : Nat) (y : String × Nat × String), dmStr[i]? = some y → vk_R y.1 y.2.1 y.2.2 (G.2.2 (10 + i)) s
def dmSF (E : dmX) (G : dmG) (A : Nat → Prop) (s : State) (H : Heap) : Prop :=
  (∀ i, i < 3 → va_Z (dmStName i).1 (dmStName i).2 "[I" (.ref (G.2.2 i)) A s H ∧ va_T .int (G.2.2 i) (dmTab i).length (fun j => .int ((dmTab i).getD j 0)) A s H) ∧
  (va_X (G.2.2 3) E.1 E.2 s H ∧ ¬ A (G.2.2 3) ∧ G.2.2 3 < H.size) ∧
  vk_S 10 (dmStr.map (fun y => y.2.2.length)) (dmStr.map (fun y => dmBytes y.2.2)) (fun i => G.2.2 (10 + i)) (fun i => G.2.2 (30 + i)) A s H ∧
  va_Z "java/lang/String" "COMPACT_STRINGS" "Z" (.int 1) A s H ∧
  (va_Z "jdk/internal/util/Preconditions" "SIOOBE_FORMATTER" "Ljava/util/function/BiFunction;" .null A s H ∨ va_Z "jdk/internal/util/Preconditions" "SIOOBE_FORMATTER" "Ljava/util/function/BiFunction;" (.ref (G.2.2 50)) A s H)
theorem va_AOA.moved {ty : FieldType} {u U : State} (hvm : u.vm.Alike U.vm) (h : va_AOA ty u) : va_AOA ty U := by
  have h1 := Cond.arrayOver_setVmC (args := #[]) (s := u) (vm' := U.vm) hvm (.array ty)
  have h2 : (Cond.arrayOver (.array ty)).before #[] (u.setVm U.vm) = true := h1.trans h
  exact h2
theorem dmKs.warm {G : dmG} {s U : State} (hW : s.WarmedH U.vm) (h : dmKs G s) : dmKs G U :=
  ⟨va_K.moved hW.alike h.1, va_Nw.warmF hW h.2.1, fun q hq => va_Nw.warmM hW (h.2.2.1 q hq), va_AOA.moved hW.alike h.2.2.2.1, fun i y hy => vk_R.warm hW (h.2.2.2.2 i y hy)⟩
theorem dmKs.same {G : dmG} {u U : State} (hv : u.vm = U.vm) (h : dmKs G u) : dmKs G U := by
  have ha : u.vm.Alike U.vm := by rw [hv]; exact Vm.Alike.refl _
  exact ⟨va_K.moved ha h.1, va_Nw.same rfl hv h.2.1, fun q hq => va_Nw.same rfl hv (h.2.2.1 q hq), va_AOA.moved ha h.2.2.2.1, fun i y hy => vk_R.same hv.symm (h.2.2.2.2 i y hy)⟩
theorem dmSF.go {E : dmX} {G : dmG} {A B : Nat → Prop} {s U : State} {H H1 : Heap} (hvm : s.vm.Alike U.vm) (hk : ∀ a : Nat, a < H.size → ¬ A a → H1[a]? = H[a]?) (hz : H.size ≤ H1.size) (hAB : ∀ q, B q → A q) (h : dmSF E G A s H) : dmSF E G B U H1 := by
  obtain ⟨h1, ⟨h2, h3, h4⟩, h5, h6, h7⟩ := h
  refine ⟨fun i hi => ?_, ⟨?_, fun z => h3 (hAB _ z), Nat.lt_of_lt_of_le h4 hz⟩, ?_, ?_, ?_⟩
  · exact ⟨((va_Z.moved hvm (h1 i hi).1).kept hk).narrow hAB, ((va_T.moved hvm (h1 i hi).2).kept hk).narrow hAB⟩
  · exact (va_X.moved hvm h2).kept (hk _ h4 h3)
  · exact ((vk_S.moved hvm h5).kept hk).narrow hAB
  · exact ((va_Z.moved hvm h6).kept hk).narrow hAB
  · exact h7.imp (fun z => ((va_Z.moved hvm z).kept hk).narrow hAB) (fun z => ((va_Z.moved hvm z).kept hk).narrow hAB)
/-- how a return stands in the code -/
def dmRetAt (M : dmM) (pc : Nat) (r : Option Value) : Prop := match r with
  | none => decode M.2.1 pc = .ok (.return_, 1) ∧ M.2.2.2.1 = none
  | some (.int v) => decode M.2.1 pc = .ok (.ireturn, 1) ∧ ∃ ty, M.2.2.2.1 = some ty ∧ narrow ty (.int v) = .int v
  | some (.long _) => decode M.2.1 pc = .ok (.lreturn, 1) ∧ M.2.2.2.1 = some .long
  | some v => decode M.2.1 pc = .ok (.areturn, 1) ∧ dmIsRef v = true ∧ ∃ n, M.2.2.2.1 = some (.object n)
/-- what holds of a frame as long as it stands -/
def dmCx (E : dmX) (M : dmM) (d mc ms : Nat) (Q : Option Value → dmW → Prop) (G : dmG) (p : Program) (l : Launch) (e : Jvm.Env) (Rm : Room) (s : State) (m : MethodId) (args : Array Value) (below : List Frame) (meth : Method) (c : Code) (A : Nat → Prop) (ads0 : List Nat) (Zf : State → Prop) : Prop :=
  p.tables.exec = Jvm.exec ∧ c.code = M.2.1 ∧ c.maxLocals = M.2.2.1 ∧ s.vm.findClass M.1.cls = some m.cls ∧ (∀ w ∈ dmTB, w.before args s = true) ∧ meth.name = M.1.name ∧ dmKs G s ∧ dmSF E G A s s.heap ∧ (∀ q, s.heap.size ≤ q → A q) ∧
  (d ≤ Rm.frames ∧ 40 * d ≤ Rm.locals ∧ mc ≤ Rm.cells ∧ ms ≤ Rm.slots) ∧
  (∀ (H : Heap) (locs : List Loc) (ads : List Nat) (kc ks pc : Nat) (ls : Array Slot) (r : Option Value) (w : dmW), ads0 <+: ads → ads.length = w.length → va_P G.1 dmCl (dmCw ads G.2.2 G.2.1 w) H → va_D A (dmCw ads G.2.2 G.2.1 w) → va_S A s.heap H locs → kc ≤ mc → ks ≤ ms → Q r w → dmRetAt M pc r →
    W p l e Rm s m args below meth c H locs kc ks Zf (F0 m pc ls ((r.map (dmCv ads G.2.2)).toList)))
/-- the frame at a state of the small machine comes to its return, and there Q holds -/
def GW (E : dmX) (M : dmM) (d mc ms kc ks : Nat) (S : dmS) (Q : Option Value → dmW → Prop) : Prop :=
  dmOK M = true → ∀ (G : dmG) (p : Program) (l : Launch) (e : Jvm.Env) (Rm : Room) (s : State) (m : MethodId) (args : Array Value) (below : List Frame) (meth : Method) (c : Code) (A : Nat → Prop) (ads0 : List Nat) (Zf : State → Prop),
    dmCx E M d mc ms Q G p l e Rm s m args below meth c A ads0 Zf → ∀ (H : Heap) (locs : List Loc) (ads : List Nat) (lsC : Array Slot), ads0 <+: ads → ads.length = S.2.2.2.length → va_P G.1 dmCl (dmCw ads G.2.2 G.2.1 S.2.2.2) H → va_D A (dmCw ads G.2.2 G.2.1 S.2.2.2) → va_S A s.heap H locs → dmLR ads G.2.2 M.2.2.1 S.2.1 lsC →
    W p l e Rm s m args below meth c H locs kc ks Zf (F0 m (dmPc M S.1) lsC (S.2.2.1.map (dmCv ads G.2.2)))
/-- the room of a method whose calls go d deep -/
def dmRm (d mc ms : Nat) : Room := { frames := d, cells := mc, slots := ms, locals := 40 * d }
def dmWs (M : dmM) : List Cond := Cond.code M.1 M.2.1 M.2.2.1 M.2.2.2.1 :: dmTB
def dmBg (E : dmX) (G : dmG) (ads : List Nat) (w : dmW) (sz : Nat) (U : State) : Prop := U.heap.size = sz ∧ va_P G.1 dmCl (dmCw ads G.2.2 G.2.1 w) U.heap ∧ dmKs G U ∧ va_D (fun _ => True) (dmCw ads G.2.2 G.2.1 w) ∧ dmSF E G (va_A (dmCw ads G.2.2 G.2.1 w) sz) U U.heap
def dmQc (G : dmG) (ads : List Nat) (A : Nat → Prop) (Q : Option Value → dmW → Prop) : Array Value → State → Outcome → State → Prop := fun _ st oc t =>
  (∃ (r : Option Value) (w : dmW) (ads' : List Nat), Q r w ∧ oc = .returned (r.map (dmCv ads' G.2.2)) ∧ ads <+: ads' ∧ ads'.length = w.length ∧ va_P G.1 dmCl (dmCw ads' G.2.2 G.2.1 w) t.heap ∧ va_D A (dmCw ads' G.2.2 G.2.1 w)) ∧ va_F A st t
/-- a method's contract -/
def GM (E : dmX) (M : dmM) (d mc ms : Nat) (as : List Value) (w : dmW) (Q : Option Value → dmW → Prop) : Prop :=
  ∀ (l : Launch) (G : dmG) (ads : List Nat) (sz : Nat), ads.length = w.length →
    Met l M.1 (dmWs M) (dmRm d mc ms) (va_Pc (as.map (dmCv ads G.2.2)) (dmBg E G ads w sz)) (dmQc G ads (va_A (dmCw ads G.2.2 G.2.1 w) sz) Q) mc ms (va_A (dmCw ads G.2.2 G.2.1 w) sz)
end
section
/-! A SIMPLE STEP, over the machine -/
theorem dmGet_mem {α : Type} {l : List α} {n : Nat} {x : α} (h : dmGet l n = some x) : x ∈ l := by
  rw [dmGet_eq] at h
  exact List.mem_of_getElem? h
theorem dmOK_at {M : dmM} {i : Nat} {x : dmA} (h : dmOK M = true) (hA : dmAt M.2.2.2.2.1 i = some x) : dmCk M x = true := by
  unfold dmAt at hA
  split at hA
  · rename_i l hl
    exact List.all_eq_true.mp (List.all_eq_true.mp h l (dmGet_mem hl)) x (dmGet_mem hA)
  · cases hA
theorem dmPc_at {M : dmM} {i : Nat} {x : dmA} (hA : dmAt M.2.2.2.2.1 i = some x) : dmPc M i = x.1 := by
  unfold dmPc
  rw [hA]
theorem dmD_of {M : dmM} {pc n : Nat} {ins : ClassFile.Instr} (h : dmD M pc ins n = true) : decode M.2.1 pc = .ok (ins, n) := of_decide_eq_true h
theorem dmNx_of {M : dmM} {pc nx n : Nat} (h : dmNx M pc nx n = true) : dmPc M nx = pc + n := Nat.eq_of_beq_eq_true h
theorem dmWd_of {t : Nat} {w : Cond} (h : dmWd t w = true) : lw_tbl[t]? = some w := of_decide_eq_true h
theorem iCl0 : ∀ w ∈ u_ws RX0 TX0 12, w ∈ dmTB := by decide +kernel
theorem iCl1 : ∀ w ∈ u_ws RX1 TX1 5, w ∈ dmTB := by decide +kernel
theorem iCl2 : ∀ w ∈ u_ws RX2 TX2 3, w ∈ dmTB := by decide +kernel
theorem iCl3 : ∀ w ∈ u_ws RX3 TX3 11, w ∈ dmTB := by decide +kernel
theorem iCl4 : ∀ w ∈ u_ws RX4 TX4 6, w ∈ dmTB := by decide +kernel
theorem iCl5 : ∀ w ∈ u_ws RX5 TX5 10, w ∈ dmTB := by decide +kernel
theorem iCl6 : ∀ w ∈ u_ws RX6 TX6 29, w ∈ dmTB := by decide +kernel
theorem dm_cls {b : Nat} {C : String} {T : u_T} {N : Nat} (h : dmCl[b]? = some (C, T, N)) : (∀ w ∈ u_ws C T N, w ∈ dmTB) ∧ (∀ k, k < N → parseFieldDescriptor (T k).2.2.1 = some (dmTy b k)) ∧ (∀ a, a < N → ∀ b, b < N → a ≠ b → (T a).2.1 ≠ (T b).2.1) := by
  match b, h with
  | 0, h => cases h; exact ⟨iCl0, tyX0_ok, nmX0⟩
  | 1, h => cases h; exact ⟨iCl1, tyX1_ok, nmX1⟩
  | 2, h => cases h; exact ⟨iCl2, tyX2_ok, nmX2⟩
  | 3, h => cases h; exact ⟨iCl3, tyX3_ok, nmX3⟩
  | 4, h => cases h; exact ⟨iCl4, tyX4_ok, nmX4⟩
  | 5, h => cases h; exact ⟨iCl5, tyX5_ok, nmX5⟩
  | 6, h => cases h; exact ⟨iCl6, tyX6_ok, nmX6⟩
  | k + 7, h => simp at h
theorem dmCe_ob {ads : List Nat} {sad : Nat → Nat} {dA : Nat → ClassId} {c : Nat} {fs : List Value} (h : c ≠ 100) : dmCe ads sad dA (.inr (c, fs)) = .inr (c, fs.map (dmCv ads sad)) := by
  simp only [dmCe, if_neg h]
theorem dm_cl100 {c : Nat} {q : vw_C} (h : dmCl[c]? = some q) : c ≠ 100 := fun e => by
  subst e
  simp at h
theorem dmCat1_cv {ads : List Nat} {sad : Nat → Nat} {v : Value} (h : dmCat1 v = true) : (dmCv ads sad v).category = 1 := by
  cases v with
  | retAddr n => cases n <;> simp_all [dmCat1, dmCv, Value.category]
  | _ => simp_all [dmCat1, dmCv, Value.category]
theorem dmRef_cv {ads : List Nat} {sad : Nat → Nat} {v : Value} (h : dmIsRef v = true) : ∃ q, dmCv ads sad v = .ref q := by
  cases v with
  | retAddr n => cases n <;> simp_all [dmIsRef, dmCv]
  | _ => simp_all [dmIsRef, dmCv]
theorem dmFit_cv {ads : List Nat} {sad : Nat → Nat} {ty : FieldType} {v : Value} (h : dmFit ty v = true) : narrow ty (dmCv ads sad v) = dmCv ads sad v ∧ fits ty (dmCv ads sad v) = true := by
  cases ty with
  | int => cases v <;> simp_all [dmFit, dmIsInt, dmCv, narrow, fits]
  | boolean =>
    cases v with
    | int x =>
      simp only [dmFit, Bool.or_eq_true, beq_iff_eq] at h
      rcases h with h | h <;> subst h <;> exact ⟨by rfl, by rfl⟩
    | _ => simp [dmFit] at h
  | object n =>
    obtain ⟨q, hq⟩ := dmRef_cv (ads := ads) (sad := sad) (v := v) h
    rw [hq]
    exact ⟨by rfl, by rfl⟩
  | array t =>
    obtain ⟨q, hq⟩ := dmRef_cv (ads := ads) (sad := sad) (v := v) h
    rw [hq]
    exact ⟨by rfl, by rfl⟩
  | _ => simp [dmFit] at h
theorem dmTys_at (dA : Nat → ClassId) {t : Nat} (h : Nat.ble t 2 = true) : ∃ ty, (dmTys dA)[t]? = some (dA t, ty) := by
  match t, h with
  | 0, _ => exact ⟨_, rfl⟩
  | 1, _ => exact ⟨_, rfl⟩
  | 2, _ => exact ⟨_, rfl⟩
  | k + 3, h => simp [Nat.ble_eq] at h
theorem GW.at {E : dmX} {M : dmM} {d mc ms kc ks nx : Nat} {ls st : List Value} {w : dmW} {Q : Option Value → dmW → Prop} (k : GW E M d mc ms kc ks (nx, ls, st, w) Q) (hOK : dmOK M = true) {G : dmG} {p : Program} {l : Launch} {e : Env} {Rm : Room} {s : State} {m : MethodId} {args : Array Value} {below : List Frame} {meth : Method} {c : Code} {A : Nat → Prop} {ads0 : List Nat} {Zf : State → Prop}
    (cx : dmCx E M d mc ms Q G p l e Rm s m args below meth c A ads0 Zf) {H : Heap} {locs : List Loc} {ads : List Nat} {lsC : Array Slot} (hp : ads0 <+: ads) (hn : ads.length = w.length) (hP : va_P G.1 dmCl (dmCw ads G.2.2 G.2.1 w) H) (hD : va_D A (dmCw ads G.2.2 G.2.1 w)) (hS : va_S A s.heap H locs) (hL : dmLR ads G.2.2 M.2.2.1 ls lsC)
    {q : Nat} (hq : dmPc M nx = q) : W p l e Rm s m args below meth c H locs kc ks Zf (F0 m q lsC (st.map (dmCv ads G.2.2))) := hq ▸ k hOK G p l e Rm s m args below meth c A ads0 Zf cx H locs ads lsC hp hn hP hD hS hL
set_option maxHeartbeats 4000000 in
theorem GW_step {E : dmX} {M : dmM} {d mc ms kc ks : Nat} {s₀ t : dmS} {Q : Option Value → dmW → Prop} (h0 : dmStep M s₀ = some t) (k : GW E M d mc ms kc ks t Q) : GW E M d mc ms kc ks s₀ Q := by
  obtain ⟨i, ls, st, w⟩ := s₀
  cases hAt : dmAt M.2.2.2.2.1 i with
  | none =>
    simp only [dmStep, hAt] at h0
    cases h0
  | some x =>
    obtain ⟨pc, ins, nx, a, b, c0, tt, L⟩ := x
    have h : dmI ins nx a b c0 ls st w = some t := by simpa only [dmStep, hAt] using h0
    clear h0
    intro hOK G p l e Rm s m args below meth c A ads0 Zf cx H locs ads lsC hp hn hP hD hS hL
    have hck := dmOK_at hOK hAt
    show W p l e Rm s m args below meth c H locs kc ks Zf (F0 m (dmPc M i) lsC (st.map (dmCv ads G.2.2)))
    rw [dmPc_at hAt]
    have cx0 := cx
    obtain ⟨hx, hb, hml, hown, hts, hnm, hK, hF, hA, ⟨hr1, hr2, hr3, hr4⟩, -⟩ := cx
    clear hAt
    cases ins with
    | iadd =>
      simp only [dmI] at h
      split at h
      · cases h
        simp only [dmCk, Bool.and_eq_true] at hck
        obtain ⟨h1, h2⟩ := hck
        refine lv_iadd hx hb (dmD_of h1) ?_
        exact k.at hOK cx0 hp hn hP hD hS hL (dmNx_of h2)
      · cases h
    | isub =>
      simp only [dmI] at h
      split at h
      · cases h
        simp only [dmCk, Bool.and_eq_true] at hck
        obtain ⟨h1, h2⟩ := hck
        refine lv_isub hx hb (dmD_of h1) ?_
        exact k.at hOK cx0 hp hn hP hD hS hL (dmNx_of h2)
      · cases h
    | imul =>
      simp only [dmI] at h
      split at h
      · cases h
        simp only [dmCk, Bool.and_eq_true] at hck
        obtain ⟨h1, h2⟩ := hck
        refine lv_imul hx hb (dmD_of h1) ?_
        exact k.at hOK cx0 hp hn hP hD hS hL (dmNx_of h2)
      · cases h
    | iand =>
      simp only [dmI] at h
      split at h
      · cases h
        simp only [dmCk, Bool.and_eq_true] at hck
        obtain ⟨h1, h2⟩ := hck
        refine lv_iand hx hb (dmD_of h1) ?_
        exact k.at hOK cx0 hp hn hP hD hS hL (dmNx_of h2)
      · cases h
    | ior =>
      simp only [dmI] at h
      split at h
      · cases h
        simp only [dmCk, Bool.and_eq_true] at hck
        obtain ⟨h1, h2⟩ := hck
        refine lv_ior hx hb (dmD_of h1) ?_
        exact k.at hOK cx0 hp hn hP hD hS hL (dmNx_of h2)
      · cases h
    | ixor =>
      simp only [dmI] at h
      split at h
      · cases h
        simp only [dmCk, Bool.and_eq_true] at hck
        obtain ⟨h1, h2⟩ := hck
        refine lv_ixor hx hb (dmD_of h1) ?_
        exact k.at hOK cx0 hp hn hP hD hS hL (dmNx_of h2)
      · cases h
    | ishl =>
      simp only [dmI] at h
      split at h
      · cases h
        simp only [dmCk, Bool.and_eq_true] at hck
        obtain ⟨h1, h2⟩ := hck
        refine lv_ishl hx hb (dmD_of h1) ?_
        exact k.at hOK cx0 hp hn hP hD hS hL (dmNx_of h2)
      · cases h
    | ishr =>
      simp only [dmI] at h
      split at h
      · cases h
        simp only [dmCk, Bool.and_eq_true] at hck
        obtain ⟨h1, h2⟩ := hck
        refine lv_ishr hx hb (dmD_of h1) ?_
        exact k.at hOK cx0 hp hn hP hD hS hL (dmNx_of h2)
      · cases h
    | ladd =>
      simp only [dmI] at h
      split at h
      · cases h
        simp only [dmCk, Bool.and_eq_true] at hck
        obtain ⟨h1, h2⟩ := hck
        refine lv_ladd hx hb (dmD_of h1) ?_
        exact k.at hOK cx0 hp hn hP hD hS hL (dmNx_of h2)
      · cases h
    | land =>
      simp only [dmI] at h
      split at h
      · cases h
        simp only [dmCk, Bool.and_eq_true] at hck
        obtain ⟨h1, h2⟩ := hck
        refine lv_land hx hb (dmD_of h1) ?_
        exact k.at hOK cx0 hp hn hP hD hS hL (dmNx_of h2)
      · cases h
    | lor =>
      simp only [dmI] at h
      split at h
      · cases h
        simp only [dmCk, Bool.and_eq_true] at hck
        obtain ⟨h1, h2⟩ := hck
        refine lv_lor hx hb (dmD_of h1) ?_
        exact k.at hOK cx0 hp hn hP hD hS hL (dmNx_of h2)
      · cases h
    | iushr =>
      simp only [dmI] at h
      split at h
      · cases h
        simp only [dmCk, Bool.and_eq_true] at hck
        obtain ⟨h1, h2⟩ := hck
        refine lv_iushr hx hb (dmD_of h1) rfl ?_
        exact k.at hOK cx0 hp hn hP hD hS hL (dmNx_of h2)
      · cases h
    | lshl =>
      simp only [dmI] at h
      split at h
      · cases h
        simp only [dmCk, Bool.and_eq_true] at hck
        obtain ⟨h1, h2⟩ := hck
        refine lv_lshl hx hb (dmD_of h1) rfl ?_
        exact k.at hOK cx0 hp hn hP hD hS hL (dmNx_of h2)
      · cases h
    | lcmp =>
      simp only [dmI] at h
      split at h
      · cases h
        simp only [dmCk, Bool.and_eq_true] at hck
        obtain ⟨h1, h2⟩ := hck
        refine W.lcmp hx hb (dmD_of h1) ?_
        exact k.at hOK cx0 hp hn hP hD hS hL (dmNx_of h2)
      · cases h
    | ineg =>
      simp only [dmI] at h
      split at h
      · cases h
        simp only [dmCk, Bool.and_eq_true] at hck
        obtain ⟨h1, h2⟩ := hck
        refine lv_ineg hx hb (dmD_of h1) ?_
        exact k.at hOK cx0 hp hn hP hD hS hL (dmNx_of h2)
      · cases h
    | i2l =>
      simp only [dmI] at h
      split at h
      · cases h
        simp only [dmCk, Bool.and_eq_true] at hck
        obtain ⟨h1, h2⟩ := hck
        refine lv_i2l hx hb (dmD_of h1) rfl ?_
        exact k.at hOK cx0 hp hn hP hD hS hL (dmNx_of h2)
      · cases h
    | l2i =>
      simp only [dmI] at h
      split at h
      · cases h
        simp only [dmCk, Bool.and_eq_true] at hck
        obtain ⟨h1, h2⟩ := hck
        refine lv_l2i hx hb (dmD_of h1) rfl ?_
        exact k.at hOK cx0 hp hn hP hD hS hL (dmNx_of h2)
      · cases h
    | i2b =>
      simp only [dmI] at h
      split at h
      · cases h
        simp only [dmCk, Bool.and_eq_true] at hck
        obtain ⟨h1, h2⟩ := hck
        refine lv_i2b hx hb (dmD_of h1) rfl ?_
        exact k.at hOK cx0 hp hn hP hD hS hL (dmNx_of h2)
      · cases h
    | i2s =>
      simp only [dmI] at h
      split at h
      · cases h
        simp only [dmCk, Bool.and_eq_true] at hck
        obtain ⟨h1, h2⟩ := hck
        refine lv_i2s hx hb (dmD_of h1) rfl ?_
        exact k.at hOK cx0 hp hn hP hD hS hL (dmNx_of h2)
      · cases h
    | i2c =>
      simp only [dmI] at h
      split at h
      · cases h
        simp only [dmCk, Bool.and_eq_true] at hck
        obtain ⟨h1, h2⟩ := hck
        refine lv_i2c hx hb (dmD_of h1) rfl ?_
        exact k.at hOK cx0 hp hn hP hD hS hL (dmNx_of h2)
      · cases h
    | iload_n q =>
      simp only [dmI] at h
      split at h
      · rename_i x hg
        cases h
        simp only [dmCk, Bool.and_eq_true] at hck
        obtain ⟨⟨h1, h2⟩, h3⟩ := hck
        refine lv_iload_n hx hb (dmD_of h1) (Nat.eq_of_beq_eq_true h3) (hL.at hg rfl) ?_
        exact k.at hOK cx0 hp hn hP hD hS hL (dmNx_of h2)
      · cases h
    | iload q =>
      simp only [dmI] at h
      split at h
      · rename_i x hg
        cases h
        simp only [dmCk, Bool.and_eq_true] at hck
        obtain ⟨⟨h1, h2⟩, h3⟩ := hck
        have h3 := Nat.eq_of_beq_eq_true h3
        subst h3
        refine lv_iload hx hb (dmD_of h1)  (hL.at hg rfl) ?_
        exact k.at hOK cx0 hp hn hP hD hS hL (dmNx_of h2)
      · cases h
    | lload_n q =>
      simp only [dmI] at h
      split at h
      · rename_i x hg
        cases h
        simp only [dmCk, Bool.and_eq_true] at hck
        obtain ⟨⟨h1, h2⟩, h3⟩ := hck
        refine lv_lload_n hx hb (dmD_of h1) (Nat.eq_of_beq_eq_true h3) (hL.at hg rfl) ?_
        exact k.at hOK cx0 hp hn hP hD hS hL (dmNx_of h2)
      · cases h
    | aload_n q =>
      simp only [dmI] at h
      split at h
      · rename_i x hg
        split at h
        · rename_i hr
          cases h
          simp only [dmCk, Bool.and_eq_true] at hck
          obtain ⟨⟨h1, h2⟩, h3⟩ := hck
          obtain ⟨y, hy⟩ := dmRef_cv (ads := ads) (sad := G.2.2) hr
          have hkn : dmKn x = true := by
            cases x with
            | retAddr n => cases n <;> simp_all [dmIsRef, dmKn]
            | _ => rfl
          have h4 := hL.at hg hkn
          rw [hy] at h4
          have h5 := k.at hOK cx0 hp hn hP hD hS hL (dmNx_of h2)
          rw [List.map_cons, hy] at h5
          exact lv_aload_n hx hb (dmD_of h1) (Nat.eq_of_beq_eq_true h3) h4 h5
        · cases h
      · cases h
    | aload q =>
      simp only [dmI] at h
      split at h
      · rename_i x hg
        split at h
        · rename_i hr
          cases h
          simp only [dmCk, Bool.and_eq_true] at hck
          obtain ⟨⟨h1, h2⟩, h3⟩ := hck
          have h3 := Nat.eq_of_beq_eq_true h3
          subst h3
          obtain ⟨y, hy⟩ := dmRef_cv (ads := ads) (sad := G.2.2) hr
          have hkn : dmKn x = true := by
            cases x with
            | retAddr n => cases n <;> simp_all [dmIsRef, dmKn]
            | _ => rfl
          have h4 := hL.at hg hkn
          rw [hy] at h4
          have h5 := k.at hOK cx0 hp hn hP hD hS hL (dmNx_of h2)
          rw [List.map_cons, hy] at h5
          exact lv_aload hx hb (dmD_of h1)  h4 h5
        · cases h
      · cases h
    | istore_n q =>
      simp only [dmI] at h
      split at h
      · rename_i x st'
        split at h
        · rename_i hpv
          split at h
          · rename_i ls' hst
            cases h
            simp only [dmCk, Bool.and_eq_true] at hck
            obtain ⟨⟨h1, h2⟩, h3⟩ := hck
            have hlt := Nat.lt_of_lt_of_le (dmSet_eq _ _ _ _ hst).1 hL.2
            refine lv_istore_n hx hb (dmD_of h1) (Nat.eq_of_beq_eq_true h3) hL.1 hlt rfl (fun lsD hlD => ?_)
            exact k.at hOK cx0 hp hn hP hD hS (dmLR.put hL.2 hpv hst hlD) (dmNx_of h2)
          · cases h
        · cases h
      · cases h
    | istore q =>
      simp only [dmI] at h
      split at h
      · rename_i x st'
        split at h
        · rename_i hpv
          split at h
          · rename_i ls' hst
            cases h
            simp only [dmCk, Bool.and_eq_true] at hck
            obtain ⟨⟨h1, h2⟩, h3⟩ := hck
            have h3 := Nat.eq_of_beq_eq_true h3
            subst h3
            have hlt := Nat.lt_of_lt_of_le (dmSet_eq _ _ _ _ hst).1 hL.2
            refine lv_istore hx hb (dmD_of h1)  hL.1 hlt rfl (fun lsD hlD => ?_)
            exact k.at hOK cx0 hp hn hP hD hS (dmLR.put hL.2 hpv hst hlD) (dmNx_of h2)
          · cases h
        · cases h
      · cases h
    | astore_n q =>
      simp only [dmI] at h
      split at h
      · rename_i x st'
        split at h
        · rename_i hpv
          split at h
          · rename_i ls' hst
            cases h
            simp only [dmCk, Bool.and_eq_true] at hck
            obtain ⟨⟨h1, h2⟩, h3⟩ := hck
            have hlt := Nat.lt_of_lt_of_le (dmSet_eq _ _ _ _ hst).1 hL.2
            refine lv_astore_n hx hb (dmD_of h1) (Nat.eq_of_beq_eq_true h3) hL.1 hlt rfl (fun lsD hlD => ?_)
            exact k.at hOK cx0 hp hn hP hD hS (dmLR.put hL.2 hpv hst hlD) (dmNx_of h2)
          · cases h
        · cases h
      · cases h
    | iinc q z =>
      simp only [dmI] at h
      split at h
      · rename_i x hg
        split at h
        · rename_i hpv
          split at h
          · rename_i ls' hst
            cases h
            simp only [dmCk, Bool.and_eq_true] at hck
            obtain ⟨⟨⟨h1, h2⟩, h3⟩, h4⟩ := hck
            have h3 := Nat.eq_of_beq_eq_true h3
            subst h3
            have h4 := of_decide_eq_true h4
            have hlt := Nat.lt_of_lt_of_le (dmSet_eq _ _ _ _ hst).1 hL.2
            obtain ⟨j, hj⟩ := List.getElem?_of_mem (dmPairs_mem.mpr ⟨_, hg, rfl, rfl⟩ : (q, dmCv ads G.2.2 (.int x)) ∈ dmPairs ads G.2.2 ls)
            refine lv_iinc (v := x + c0) hx hb (dmD_of h1) hL.1 hj (by rw [h4]) hlt rfl (fun lsD hlD => ?_)
            exact k.at hOK cx0 hp hn hP hD hS (dmLR.put hL.2 hpv hst hlD) (dmNx_of h2)
          · cases h
        · cases h
      · cases h
    | iconst q =>
      cases h
      simp only [dmCk, Bool.and_eq_true] at hck
      obtain ⟨⟨h1, h2⟩, h3⟩ := hck
      refine lv_iconst hx hb (dmD_of h1) (of_decide_eq_true h3) ?_
      exact k.at hOK cx0 hp hn hP hD hS hL (dmNx_of h2)
    | bipush q =>
      cases h
      simp only [dmCk, Bool.and_eq_true] at hck
      obtain ⟨⟨h1, h2⟩, h3⟩ := hck
      refine lv_bipush hx hb (dmD_of h1) (of_decide_eq_true h3) ?_
      exact k.at hOK cx0 hp hn hP hD hS hL (dmNx_of h2)
    | sipush q =>
      cases h
      simp only [dmCk, Bool.and_eq_true] at hck
      obtain ⟨⟨h1, h2⟩, h3⟩ := hck
      refine lv_sipush hx hb (dmD_of h1) (of_decide_eq_true h3) ?_
      exact k.at hOK cx0 hp hn hP hD hS hL (dmNx_of h2)
    | ldc q =>
      simp only [dmCk, Bool.and_eq_true] at hck
      obtain ⟨⟨h1, h2⟩, h3⟩ := hck
      cases b with
      | zero =>
        cases h
        refine lv_ldc hx hb hown (hts _ (dmTB_in (dmWd_of h3) rfl)) (dmD_of h1) ?_
        exact k.at hOK cx0 hp hn hP hD hS hL (dmNx_of h2)
      | succ b =>
        cases h
        change (match dmStr[a - 10]? with
          | some y => decide (10 ≤ a) && decide (M.1.cls = y.1) && decide (q = y.2.1)
          | none => false) = true at h3
        split at h3
        · rename_i y hy
          simp only [Bool.and_eq_true] at h3
          obtain ⟨⟨h4, h5⟩, h6⟩ := h3
          have h4 := of_decide_eq_true h4
          have h5 := of_decide_eq_true h5
          have h6 := of_decide_eq_true h6
          subst h6
          have h7 := hK.2.2.2.2 (a - 10) y hy
          rw [← h5, show 10 + (a - 10) = a by omega] at h7
          refine va_ldcS hx hb hown h7 (dmD_of h1) ?_
          exact k.at hOK cx0 hp hn hP hD hS hL (dmNx_of h2)
        · cases h3
    | ldc_w q =>
      simp only [dmI] at h
      split at h
      · cases h
        simp only [dmCk, Bool.and_eq_true] at hck
        obtain ⟨⟨h1, h2⟩, h3⟩ := hck
        refine lv_ldcw hx hb hown (hts _ (dmTB_in (dmWd_of h3) rfl)) (dmD_of h1) ?_
        exact k.at hOK cx0 hp hn hP hD hS hL (dmNx_of h2)
      · cases h
    | ldc2_w q =>
      cases h
      simp only [dmCk, Bool.and_eq_true] at hck
      obtain ⟨⟨h1, h2⟩, h3⟩ := hck
      refine lv_ldc2 hx hb hown (hts _ (dmTB_in (dmWd_of h3) rfl)) (dmD_of h1) ?_
      exact k.at hOK cx0 hp hn hP hD hS hL (dmNx_of h2)
    | lconst q =>
      cases h
      simp only [dmCk, Bool.and_eq_true] at hck
      obtain ⟨⟨h1, h2⟩, h3⟩ := hck
      refine lv_lconst (v := 0) hx hb (dmD_of h1) (by rw [Nat.eq_of_beq_eq_true h3]; rfl) ?_
      exact k.at hOK cx0 hp hn hP hD hS hL (dmNx_of h2)
    | getstatic q =>
      simp only [dmCk, Bool.and_eq_true] at hck
      obtain ⟨⟨⟨h1, h2⟩, h3⟩, h4⟩ := hck
      have h3 := Nat.le_of_ble_eq_true h3
      match b, h, h4 with
      | 0, h, h4 =>
        cases h
        refine va_gets hx hb (hF.1 a (by omega)).1 hS hown (hts _ (dmTB_in (dmWd_of h4) rfl)) (fun _ z => z) (dmD_of h1) ?_
        exact k.at hOK cx0 hp hn hP hD hS hL (dmNx_of h2)
      | 1, h, h4 =>
        cases h
        have h4 := of_decide_eq_true h4
        obtain ⟨e1, e2, e3⟩ := h4
        subst e2; subst e3
        refine va_getsN (own := "WhichOneAllKnow$Moves") hx hb (hF.1 0 (by omega)).1 hS (by rw [← e1]; exact hown) (va_Nw.use rfl hK.2.1) (fun _ z => z) (dmD_of h1) ?_
        exact k.at hOK cx0 hp hn hP hD hS hL (dmNx_of h2)
      | 2, h, h4 =>
        cases h
        refine va_gets hx hb hF.2.2.2.1 hS hown (hts _ (dmTB_in (dmWd_of h4) rfl)) (fun _ z => z) (dmD_of h1) ?_
        exact k.at hOK cx0 hp hn hP hD hS hL (dmNx_of h2)
      | b + 3, h, h4 => cases h
    | dup =>
      simp only [dmI] at h
      split at h
      · split at h
        · rename_i hc1
          cases h
          simp only [dmCk, Bool.and_eq_true] at hck
          obtain ⟨h1, h2⟩ := hck
          refine lv_dup hx hb (dmD_of h1) (dmCat1_cv hc1) ?_
          exact k.at hOK cx0 hp hn hP hD hS hL (dmNx_of h2)
        · cases h
      · cases h
    | pop =>
      simp only [dmI] at h
      split at h
      · split at h
        · rename_i hc1
          cases h
          simp only [dmCk, Bool.and_eq_true] at hck
          obtain ⟨h1, h2⟩ := hck
          refine lv_pop hx hb (dmD_of h1) (dmCat1_cv hc1) ?_
          exact k.at hOK cx0 hp hn hP hD hS hL (dmNx_of h2)
        · cases h
      · cases h
    | dup2 =>
      simp only [dmI] at h
      split at h
      · split at h
        · rename_i hc1
          cases h
          simp only [dmCk, Bool.and_eq_true] at hck hc1
          obtain ⟨h1, h2⟩ := hck
          refine lv_dup2_11 hx hb (dmD_of h1) (dmCat1_cv hc1.1) (dmCat1_cv hc1.2) ?_
          exact k.at hOK cx0 hp hn hP hD hS hL (dmNx_of h2)
        · cases h
      · cases h
    | dup_x1 =>
      simp only [dmI] at h
      split at h
      · split at h
        · rename_i hc1
          cases h
          simp only [dmCk, Bool.and_eq_true] at hck hc1
          obtain ⟨h1, h2⟩ := hck
          refine lv_dup_x1 hx hb (dmD_of h1) (dmCat1_cv hc1.1) (dmCat1_cv hc1.2) ?_
          exact k.at hOK cx0 hp hn hP hD hS hL (dmNx_of h2)
        · cases h
      · cases h
    | goto q =>
      cases h
      simp only [dmCk, Bool.and_eq_true] at hck
      obtain ⟨h1, h2⟩ := hck
      refine lv_goto hx hb (dmD_of h1) (of_decide_eq_true h2) ?_
      exact k.at hOK cx0 hp hn hP hD hS hL rfl
    | getfield q =>
      simp only [dmI] at h
      split at h
      · split at h
        · rename_i hh st' _ ci fs hg
          split at h
          · rename_i hbq
            split at h
            · rename_i v hv
              cases h
              rw [Bool.and_eq_true] at hbq
              have hb6 := Nat.le_of_ble_eq_true hbq.2
              have hbq := Nat.eq_of_beq_eq_true hbq.1
              subst hbq
              simp only [dmCk, Bool.and_eq_true] at hck
              obtain ⟨⟨h1, h2⟩, h3⟩ := hck
              split at h3
              · rename_i C T N hcl
                simp only [Bool.and_eq_true] at h3
                obtain ⟨h4, h5⟩ := h3
                have h4 : a < N := Nat.le_of_ble_eq_true h4
                rw [dmGet_eq] at hv
                refine va_get (D := G.1) (v := dmCv ads G.2.2 v) hx hb hts (dm_cls hcl).1 hown hK.1 hP hh (by rw [dmCw_get hn hg, dmCe_ob (dm_cl100 hcl)]) hcl a h4 (hts _ (dmTB_in (dmWd_of h5) rfl)) (fun _ z => z) (by rw [List.getElem?_map, hv]; rfl) (dmD_of h1) ?_
                exact k.at hOK cx0 hp hn hP hD hS hL (dmNx_of h2)
              · rename_i hno
                rw [List.getElem?_eq_none_iff] at hno
                exact absurd hno (by simp; omega)
            · cases h
          · cases h
        · cases h
      · cases h
    | putfield q =>
      simp only [dmI] at h
      split at h
      · split at h
        · rename_i v hh st' _ ci fs hg
          split at h
          · rename_i hbq
            split at h
            · rename_i hft
              split at h
              · rename_i fs' hfs
                split at h
                · rename_i w' hw'
                  cases h
                  have hbq := Nat.eq_of_beq_eq_true hbq
                  subst hbq
                  simp only [dmCk, Bool.and_eq_true] at hck
                  obtain ⟨⟨h1, h2⟩, h3⟩ := hck
                  split at h3
                  · rename_i C T N hcl
                    simp only [Bool.and_eq_true] at h3
                    obtain ⟨⟨h4, h5⟩, h6⟩ := h3
                    have h4 : a < N := Nat.le_of_ble_eq_true h4
                    obtain ⟨hl, hfe⟩ := dmSet_eq _ _ _ _ hfs
                    obtain ⟨g1, g2⟩ := dmFit_cv (ads := ads) (sad := G.2.2) hft
                    have hset := dmCw_set (ads := ads) (sad := G.2.2) (dA := G.2.1) hn hw'
                    have hce : dmCe ads G.2.2 G.2.1 (.inr (ci, fs')) = .inr (ci, (fs.map (dmCv ads G.2.2)).set a (dmCv ads G.2.2 v)) := by
                      rw [hfe, dmCe_ob (dm_cl100 hcl), List.map_set]
                    rw [hce] at hset
                    cases hfin : (T a).2.2.2 with
                    | false =>
                      refine va_put (D := G.1) (v := dmCv ads G.2.2 v) hx hb hts (dm_cls hcl).1 (dmTy ci) (dm_cls hcl).2.1 (dm_cls hcl).2.2 hown hK.1 hP hD hS hh (by rw [dmCw_get hn hg, dmCe_ob (dm_cl100 hcl)]) hcl a h4 (hts _ (dmTB_in (dmWd_of h5) rfl)) (fun _ z => z) hfin ((dm_cls hcl).2.1 a h4) g1 g2 (by rw [List.length_map]; exact hl) (dmD_of h1) (fun H1 locs1 hP1 hD1 hS1 => ?_)
                      rw [hset.1] at hP1 hD1
                      exact k.at hOK cx0 hp hset.2 hP1 hD1 hS1 hL (dmNx_of h2)
                    | true =>
                      rw [hfin] at h6
                      simp only [Bool.not_true, Bool.false_or, Bool.and_eq_true] at h6
                      refine va_putF (D := G.1) (v := dmCv ads G.2.2 v) hx hb hts (dm_cls hcl).1 (dmTy ci) (dm_cls hcl).2.1 (dm_cls hcl).2.2 hown hK.1 hP hD hS hh (by rw [dmCw_get hn hg, dmCe_ob (dm_cl100 hcl)]) hcl a h4 (hts _ (dmTB_in (dmWd_of h5) rfl)) (fun _ z => z) hfin (hnm.trans (of_decide_eq_true h6.1)) (of_decide_eq_true h6.2) ((dm_cls hcl).2.1 a h4) g1 g2 (by rw [List.length_map]; exact hl) (dmD_of h1) (fun H1 locs1 hP1 hD1 hS1 => ?_)
                      rw [hset.1] at hP1 hD1
                      exact k.at hOK cx0 hp hset.2 hP1 hD1 hS1 hL (dmNx_of h2)
                  · cases h3
                · cases h
              · cases h
            · cases h
          · cases h
        · cases h
      · cases h
    | arraylength =>
      simp only [dmI] at h
      split at h
      · split at h
        · rename_i hh st' _ tg n f hg
          split at h
          · rename_i htg
            cases h
            simp only [dmCk, Bool.and_eq_true] at hck
            obtain ⟨h1, h2⟩ := hck
            have hg2 := dmCw_get (sad := G.2.2) (dA := G.2.1) hn hg
            obtain ⟨ty, hty⟩ := dmTys_at G.2.1 htg
            refine va_alen hx hb hK.1 hP hh tg hg2 hty rfl (dmD_of h1) ?_
            exact k.at hOK cx0 hp hn hP hD hS hL (dmNx_of h2)
          · cases h
        · cases h
      · cases h
    | _ => exact absurd h (by simp [dmI])
theorem GW_run {E : dmX} {M : dmM} {d mc ms kc ks : Nat} {Q : Option Value → dmW → Prop} : ∀ (n : Nat) {s t : dmS}, dmRun M n s = some t → GW E M d mc ms kc ks t Q → GW E M d mc ms kc ks s Q
  | 0, s, t, h, k => by
    cases h
    exact k
  | n + 1, s, t, h, k => by
    unfold dmRun at h
    cases hs : dmStep M s with
    | none =>
      rw [hs] at h
      cases h
      exact k
    | some u =>
      rw [hs] at h
      exact GW_step hs (GW_run n h k)
end
section
/-! BRANCHES, ARRAYS, RETURNS -/
def dmBr (M : dmM) (s : dmS) : Option (Prop × dmS × dmS) := match s with
  | (i, ls, st, w) => match dmAt M.2.2.2.2.1 i with
    | some (_, .if_icmp cnd _, nx, a, _, _, _, _) => match st with
      | .int y :: .int x :: st' => match cnd with
        | .eq => some (x = y, (a, ls, st', w), (nx, ls, st', w))
        | .ne => some (x = y, (nx, ls, st', w), (a, ls, st', w))
        | .lt => some (x < y, (a, ls, st', w), (nx, ls, st', w))
        | .ge => some (x < y, (nx, ls, st', w), (a, ls, st', w))
        | .gt => some (y < x, (a, ls, st', w), (nx, ls, st', w))
        | .le => some (y < x, (nx, ls, st', w), (a, ls, st', w))
      | _ => none
    | some (_, .ifCond cnd _, nx, a, _, _, _, _) => match st with
      | .int x :: st' => match cnd with
        | .eq => some (x = 0, (a, ls, st', w), (nx, ls, st', w))
        | .ne => some (x = 0, (nx, ls, st', w), (a, ls, st', w))
        | .lt => some (x < 0, (a, ls, st', w), (nx, ls, st', w))
        | .ge => some (x < 0, (nx, ls, st', w), (a, ls, st', w))
        | .gt => some (0 < x, (a, ls, st', w), (nx, ls, st', w))
        | .le => some (0 < x, (nx, ls, st', w), (a, ls, st', w))
      | _ => none
    | _ => none
theorem dm_ge {x y : Int32} (h : y ≤ x) : ¬ x < y := Int32.not_lt.mpr h
theorem dm_nge {x y : Int32} (h : ¬ y ≤ x) : x < y := Int32.not_le.mp h
set_option maxHeartbeats 4000000 in
theorem G_if {E : dmX} {M : dmM} {d mc ms kc ks : Nat} {s₀ t f : dmS} {Q : Option Value → dmW → Prop} {cnd : Prop} (h : dmBr M s₀ = some (cnd, t, f)) (kt : cnd → GW E M d mc ms kc ks t Q) (kf : ¬ cnd → GW E M d mc ms kc ks f Q) : GW E M d mc ms kc ks s₀ Q := by
  obtain ⟨i, ls, st, w⟩ := s₀
  simp only [dmBr] at h
  split at h
  · rename_i pc cc off nx a b c0 tt L hAt
    split at h
    · rename_i y x st'
      intro hOK G p l e Rm s m args below meth c A ads0 Zf cx H locs ads lsC hp hn hP hD hS hL
      have hck := dmOK_at hOK hAt
      show W p l e Rm s m args below meth c H locs kc ks Zf (F0 m (dmPc M i) lsC (.int y :: .int x :: st'.map (dmCv ads G.2.2)))
      rw [dmPc_at hAt]
      have cx0 := cx
      obtain ⟨hx, hb, -⟩ := cx
      simp only [dmCk, Bool.and_eq_true] at hck
      obtain ⟨⟨h1, h2⟩, h3⟩ := hck
      have h1 := dmD_of h1
      have h3 := of_decide_eq_true h3
      cases cc <;> cases h
      · exact lv_icmp_eq hx hb h1 h3 (fun z => (kt z).at hOK cx0 hp hn hP hD hS hL rfl) (fun z => (kf z).at hOK cx0 hp hn hP hD hS hL (dmNx_of h2))
      · exact lv_icmp_ne hx hb h1 h3 (fun z => (kf z).at hOK cx0 hp hn hP hD hS hL rfl) (fun z => (kt z).at hOK cx0 hp hn hP hD hS hL (dmNx_of h2))
      · exact lv_icmp_lt hx hb h1 h3 (fun z => (kt z).at hOK cx0 hp hn hP hD hS hL rfl) (fun z => (kf z).at hOK cx0 hp hn hP hD hS hL (dmNx_of h2))
      · exact lv_icmp_ge hx hb h1 h3 (fun z => (kf (dm_ge z)).at hOK cx0 hp hn hP hD hS hL rfl) (fun z => (kt (dm_nge z)).at hOK cx0 hp hn hP hD hS hL (dmNx_of h2))
      · exact lv_icmp_gt hx hb h1 h3 (fun z => (kt z).at hOK cx0 hp hn hP hD hS hL rfl) (fun z => (kf z).at hOK cx0 hp hn hP hD hS hL (dmNx_of h2))
      · exact lv_icmp_le hx hb h1 h3 (fun z => (kf (dm_ge z)).at hOK cx0 hp hn hP hD hS hL rfl) (fun z => (kt (dm_nge z)).at hOK cx0 hp hn hP hD hS hL (dmNx_of h2))
    · cases h
  · rename_i pc cc off nx a b c0 tt L hAt
    split at h
    · rename_i x st'
      intro hOK G p l e Rm s m args below meth c A ads0 Zf cx H locs ads lsC hp hn hP hD hS hL
      have hck := dmOK_at hOK hAt
      show W p l e Rm s m args below meth c H locs kc ks Zf (F0 m (dmPc M i) lsC (.int x :: st'.map (dmCv ads G.2.2)))
      rw [dmPc_at hAt]
      have cx0 := cx
      obtain ⟨hx, hb, -⟩ := cx
      simp only [dmCk, Bool.and_eq_true] at hck
      obtain ⟨⟨h1, h2⟩, h3⟩ := hck
      have h1 := dmD_of h1
      have h3 := of_decide_eq_true h3
      cases cc <;> cases h
      · exact lv_if_eq hx hb h1 h3 (fun z => (kt z).at hOK cx0 hp hn hP hD hS hL rfl) (fun z => (kf z).at hOK cx0 hp hn hP hD hS hL (dmNx_of h2))
      · exact lv_if_ne hx hb h1 h3 (fun z => (kf z).at hOK cx0 hp hn hP hD hS hL rfl) (fun z => (kt z).at hOK cx0 hp hn hP hD hS hL (dmNx_of h2))
      · exact lv_if_lt hx hb h1 h3 (fun z => (kt z).at hOK cx0 hp hn hP hD hS hL rfl) (fun z => (kf z).at hOK cx0 hp hn hP hD hS hL (dmNx_of h2))
      · exact lv_if_ge hx hb h1 h3 (fun z => (kf (dm_ge z)).at hOK cx0 hp hn hP hD hS hL rfl) (fun z => (kt (dm_nge z)).at hOK cx0 hp hn hP hD hS hL (dmNx_of h2))
      · exact lv_if_gt hx hb h1 h3 (fun z => (kt z).at hOK cx0 hp hn hP hD hS hL rfl) (fun z => (kf z).at hOK cx0 hp hn hP hD hS hL (dmNx_of h2))
      · exact lv_if_le hx hb h1 h3 (fun z => (kf (dm_ge z)).at hOK cx0 hp hn hP hD hS hL rfl) (fun z => (kt (dm_nge z)).at hOK cx0 hp hn hP hD hS hL (dmNx_of h2))
    · cases h
  · cases h
theorem dm_in {j : Int32} {k n : Nat} (hj : j = nI k) (hk : k < n) (hn : n < 2147483648) : vp_in j n ∧ j.toNatClampNeg = k := by
  subst hj
  exact ⟨vp_in_nI hk hn, nI_clamp (Nat.lt_trans hk hn)⟩
section RA
variable {E : dmX} {M : dmM} {d mc ms kc ks i h pc nx n x1 x2 x4 : Nat} {x3 : Int32} {x5 : List Nat} {ls st : List Value} {w : dmW} {Q : Option Value → dmW → Prop} {j : Int32}
theorem G_iald (k : Nat) {f : Nat → Int32} (hA : dmAt M.2.2.2.2.1 i = some (pc, .iaload, nx, x1, x2, x3, x4, x5)) (hw : dmGet w h = some (.inl (0, n, .inl f))) (hj : j = nI k) (hk : k < n) (hn : n < 2147483648)
    (K : GW E M d mc ms kc ks (nx, ls, .int (f k) :: st, w) Q) : GW E M d mc ms kc ks (i, ls, .int j :: .ref h :: st, w) Q := by
  intro hOK G p l e Rm s m args below meth c A ads0 Zf cx H locs ads lsC hp hl hP hD hS hL
  have hck := dmOK_at hOK hA
  show W p l e Rm s m args below meth c H locs kc ks Zf (F0 m (dmPc M i) lsC (.int j :: .ref (ads.getD h 0) :: st.map (dmCv ads G.2.2)))
  rw [dmPc_at hA]
  have cx0 := cx
  obtain ⟨hx, hb, -, -, -, -, hK, -⟩ := cx
  simp only [dmCk, Bool.and_eq_true] at hck
  obtain ⟨h1, h2⟩ := dm_in hj hk hn
  refine va_iald hx hb hK.1 hP h 0 (dmCw_get hl hw) rfl h1 (dmD_of hck.1) ?_
  rw [h2]
  exact K.at hOK cx0 hp hl hP hD hS hL (dmNx_of hck.2)
theorem G_lald (k : Nat) {f : Nat → Int64} (hA : dmAt M.2.2.2.2.1 i = some (pc, .laload, nx, x1, x2, x3, x4, x5)) (hw : dmGet w h = some (.inl (1, n, .inr (.inl f)))) (hj : j = nI k) (hk : k < n) (hn : n < 2147483648)
    (K : GW E M d mc ms kc ks (nx, ls, .long (f k) :: st, w) Q) : GW E M d mc ms kc ks (i, ls, .int j :: .ref h :: st, w) Q := by
  intro hOK G p l e Rm s m args below meth c A ads0 Zf cx H locs ads lsC hp hl hP hD hS hL
  have hck := dmOK_at hOK hA
  show W p l e Rm s m args below meth c H locs kc ks Zf (F0 m (dmPc M i) lsC (.int j :: .ref (ads.getD h 0) :: st.map (dmCv ads G.2.2)))
  rw [dmPc_at hA]
  have cx0 := cx
  obtain ⟨hx, hb, -, -, -, -, hK, -⟩ := cx
  simp only [dmCk, Bool.and_eq_true] at hck
  obtain ⟨h1, h2⟩ := dm_in hj hk hn
  refine va_lald hx hb hK.1 hP h 1 (dmCw_get hl hw) rfl h1 (dmD_of hck.1) ?_
  rw [h2]
  exact K.at hOK cx0 hp hl hP hD hS hL (dmNx_of hck.2)
theorem G_iast (k : Nat) {f : Nat → Int32} {x : Int32} {w' : dmW} (hA : dmAt M.2.2.2.2.1 i = some (pc, .iastore, nx, x1, x2, x3, x4, x5)) (hw : dmGet w h = some (.inl (0, n, .inl f))) (hs : dmSet w h (.inl (0, n, .inl (upd f k x))) = some w') (hj : j = nI k) (hk : k < n) (hn : n < 2147483648)
    (K : GW E M d mc ms kc ks (nx, ls, st, w') Q) : GW E M d mc ms kc ks (i, ls, .int x :: .int j :: .ref h :: st, w) Q := by
  intro hOK G p l e Rm s m args below meth c A ads0 Zf cx H locs ads lsC hp hl hP hD hS hL
  have hck := dmOK_at hOK hA
  show W p l e Rm s m args below meth c H locs kc ks Zf (F0 m (dmPc M i) lsC (.int x :: .int j :: .ref (ads.getD h 0) :: st.map (dmCv ads G.2.2)))
  rw [dmPc_at hA]
  have cx0 := cx
  obtain ⟨hx, hb, -, -, -, -, hK, -⟩ := cx
  simp only [dmCk, Bool.and_eq_true] at hck
  obtain ⟨h1, h2⟩ := dm_in hj hk hn
  have hset := dmCw_set (ads := ads) (sad := G.2.2) (dA := G.2.1) hl hs
  refine va_iast hx hb hK.1 hP hD hS h 0 (dmCw_get hl hw) rfl h1 (dmD_of hck.1) (fun H1 locs1 hP1 hD1 hS1 => ?_)
  rw [h2] at hP1 hD1
  have e1 : (dmCw ads G.2.2 G.2.1 w).set h (ads.getD h 0, .inl (G.2.1 0, n, .inl (upd f k x))) = dmCw ads G.2.2 G.2.1 w' := hset.1
  rw [e1] at hP1 hD1
  exact K.at hOK cx0 hp hset.2 hP1 hD1 hS1 hL (dmNx_of hck.2)
theorem G_last (k : Nat) {f : Nat → Int64} {x : Int64} {w' : dmW} (hA : dmAt M.2.2.2.2.1 i = some (pc, .lastore, nx, x1, x2, x3, x4, x5)) (hw : dmGet w h = some (.inl (1, n, .inr (.inl f)))) (hs : dmSet w h (.inl (1, n, .inr (.inl (vp_updL f k x)))) = some w') (hj : j = nI k) (hk : k < n) (hn : n < 2147483648)
    (K : GW E M d mc ms kc ks (nx, ls, st, w') Q) : GW E M d mc ms kc ks (i, ls, .long x :: .int j :: .ref h :: st, w) Q := by
  intro hOK G p l e Rm s m args below meth c A ads0 Zf cx H locs ads lsC hp hl hP hD hS hL
  have hck := dmOK_at hOK hA
  show W p l e Rm s m args below meth c H locs kc ks Zf (F0 m (dmPc M i) lsC (.long x :: .int j :: .ref (ads.getD h 0) :: st.map (dmCv ads G.2.2)))
  rw [dmPc_at hA]
  have cx0 := cx
  obtain ⟨hx, hb, -, -, -, -, hK, -⟩ := cx
  simp only [dmCk, Bool.and_eq_true] at hck
  obtain ⟨h1, h2⟩ := dm_in hj hk hn
  have hset := dmCw_set (ads := ads) (sad := G.2.2) (dA := G.2.1) hl hs
  refine va_last hx hb hK.1 hP hD hS h 1 (dmCw_get hl hw) rfl h1 (dmD_of hck.1) (fun H1 locs1 hP1 hD1 hS1 => ?_)
  rw [h2] at hP1 hD1
  have e1 : (dmCw ads G.2.2 G.2.1 w).set h (ads.getD h 0, .inl (G.2.1 1, n, .inr (.inl (vp_updL f k x)))) = dmCw ads G.2.2 G.2.1 w' := hset.1
  rw [e1] at hP1 hD1
  exact K.at hOK cx0 hp hset.2 hP1 hD1 hS1 hL (dmNx_of hck.2)
theorem G_aald (k : Nat) {fs : List Value} {h' : Nat} (hA : dmAt M.2.2.2.2.1 i = some (pc, .aaload, nx, x1, x2, x3, x4, x5)) (hw : dmGet w h = some (.inr (100, fs))) (hf : dmGet fs k = some (.ref h')) (hj : j = nI k) (hn : fs.length < 2147483648)
    (K : GW E M d mc ms kc ks (nx, ls, .ref h' :: st, w) Q) : GW E M d mc ms kc ks (i, ls, .int j :: .ref h :: st, w) Q := by
  intro hOK G p l e Rm s m args below meth c A ads0 Zf cx H locs ads lsC hp hl hP hD hS hL
  have hck := dmOK_at hOK hA
  show W p l e Rm s m args below meth c H locs kc ks Zf (F0 m (dmPc M i) lsC (.int j :: .ref (ads.getD h 0) :: st.map (dmCv ads G.2.2)))
  rw [dmPc_at hA]
  have cx0 := cx
  obtain ⟨hx, hb, -, -, -, -, hK, -⟩ := cx
  simp only [dmCk, Bool.and_eq_true] at hck
  rw [dmGet_eq] at hf
  have hk : k < fs.length := (List.getElem?_eq_some_iff.mp hf).1
  obtain ⟨h1, h2⟩ := dm_in hj hk hn
  have hg : (dmCw ads G.2.2 G.2.1 w)[h]? = some (ads.getD h 0, .inl (G.2.1 2, fs.length, .inr (.inr (.inr (.inr (dmRf ads fs)))))) := dmCw_get hl hw
  have hlt : j.toNatClampNeg < fs.length := by rw [h2]; exact hk
  refine W.aald (v := .ref (ads.getD h' 0)) (ty := .array .long) hx hb (hP h _ hg) ((hK.1.2 2 _ rfl).1 fs.length (fun j => va_rf (dmRf ads fs j))) rfl (fun q => by cases q) (by show ¬ (j < 0 ∨ (arrV _ _ _).slots.size ≤ _); rw [arrV_size]; exact h1) (by show (arrV _ _ _).slots[_]? = _; rw [arrV_read _ _ hlt, h2]; unfold dmRf; rw [hf]; rfl) rfl rfl (dmD_of hck.1) ?_
  exact K.at hOK cx0 hp hl hP hD hS hL (dmNx_of hck.2)
/-- a static table -/
theorem G_tald (a k : Nat) (hA : dmAt M.2.2.2.2.1 i = some (pc, .iaload, nx, x1, x2, x3, x4, x5)) (ha : a < 3) (hj : j = nI k) (hk : k < (dmTab a).length)
    (K : GW E M d mc ms kc ks (nx, ls, .int ((dmTab a).getD k 0) :: st, w) Q) : GW E M d mc ms kc ks (i, ls, .int j :: .retAddr (a + 1) :: st, w) Q := by
  intro hOK G p l e Rm s m args below meth c A ads0 Zf cx H locs ads lsC hp hl hP hD hS hL
  have hck := dmOK_at hOK hA
  show W p l e Rm s m args below meth c H locs kc ks Zf (F0 m (dmPc M i) lsC (.int j :: .ref (G.2.2 a) :: st.map (dmCv ads G.2.2)))
  rw [dmPc_at hA]
  have cx0 := cx
  obtain ⟨hx, hb, -, -, -, -, hK, hF, -⟩ := cx
  simp only [dmCk, Bool.and_eq_true] at hck
  have hN : (dmTab a).length < 2147483648 := by
    match a, ha with
    | 0, _ => decide
    | 1, _ => decide
    | 2, _ => decide
  obtain ⟨h1, h2⟩ := dm_in hj hk hN
  refine va_ti hx hb (hF.1 a ha).2 hS h1 rfl (dmD_of hck.1) ?_
  rw [h2]
  exact K.at hOK cx0 hp hl hP hD hS hL (dmNx_of hck.2)
/-- the script -/
theorem G_sald (k : Nat) (hA : dmAt M.2.2.2.2.1 i = some (pc, .iaload, nx, x1, x2, x3, x4, x5)) (hj : j = nI k) (hk : k < E.1) (hn : E.1 < 2147483648)
    (K : GW E M d mc ms kc ks (nx, ls, .int (E.2 k) :: st, w) Q) : GW E M d mc ms kc ks (i, ls, .int j :: .retAddr 4 :: st, w) Q := by
  intro hOK G p l e Rm s m args below meth c A ads0 Zf cx H locs ads lsC hp hl hP hD hS hL
  have hck := dmOK_at hOK hA
  show W p l e Rm s m args below meth c H locs kc ks Zf (F0 m (dmPc M i) lsC (.int j :: .ref (G.2.2 3) :: st.map (dmCv ads G.2.2)))
  rw [dmPc_at hA]
  have cx0 := cx
  obtain ⟨hx, hb, -, -, -, -, hK, hF, -⟩ := cx
  simp only [dmCk, Bool.and_eq_true] at hck
  obtain ⟨h1, h2⟩ := dm_in hj hk hn
  refine va_sld hx hb hF.2.1.1 hF.2.1.2.2 hF.2.1.2.1 hS h1 (dmD_of hck.1) ?_
  rw [h2]
  exact K.at hOK cx0 hp hl hP hD hS hL (dmNx_of hck.2)
theorem G_slen (hA : dmAt M.2.2.2.2.1 i = some (pc, .arraylength, nx, x1, x2, x3, x4, x5))
    (K : GW E M d mc ms kc ks (nx, ls, .int (nI E.1) :: st, w) Q) : GW E M d mc ms kc ks (i, ls, .retAddr 4 :: st, w) Q := by
  intro hOK G p l e Rm s m args below meth c A ads0 Zf cx H locs ads lsC hp hl hP hD hS hL
  have hck := dmOK_at hOK hA
  show W p l e Rm s m args below meth c H locs kc ks Zf (F0 m (dmPc M i) lsC (.ref (G.2.2 3) :: st.map (dmCv ads G.2.2)))
  rw [dmPc_at hA]
  have cx0 := cx
  obtain ⟨hx, hb, -, -, -, -, hK, hF, -⟩ := cx
  simp only [dmCk, Bool.and_eq_true] at hck
  refine va_slen hx hb hF.2.1.1 hF.2.1.2.2 hF.2.1.2.1 hS (dmD_of hck.1) ?_
  exact K.at hOK cx0 hp hl hP hD hS hL (dmNx_of hck.2)
theorem G_div {x y : Int32} (hA : dmAt M.2.2.2.2.1 i = some (pc, .idiv, nx, x1, x2, x3, x4, x5)) (hy : ¬ y = 0)
    (K : GW E M d mc ms kc ks (nx, ls, .int (x / y) :: st, w) Q) : GW E M d mc ms kc ks (i, ls, .int y :: .int x :: st, w) Q := by
  intro hOK G p l e Rm s m args below meth c A ads0 Zf cx H locs ads lsC hp hl hP hD hS hL
  have hck := dmOK_at hOK hA
  show W p l e Rm s m args below meth c H locs kc ks Zf (F0 m (dmPc M i) lsC (.int y :: .int x :: st.map (dmCv ads G.2.2)))
  rw [dmPc_at hA]
  have cx0 := cx
  obtain ⟨hx, hb, -⟩ := cx
  simp only [dmCk, Bool.and_eq_true] at hck
  refine lv_idiv hx hb (dmD_of hck.1) hy ?_
  exact K.at hOK cx0 hp hl hP hD hS hL (dmNx_of hck.2)
theorem G_rem {x y : Int32} (hA : dmAt M.2.2.2.2.1 i = some (pc, .irem, nx, x1, x2, x3, x4, x5)) (hy : ¬ y = 0)
    (K : GW E M d mc ms kc ks (nx, ls, .int (x - x / y * y) :: st, w) Q) : GW E M d mc ms kc ks (i, ls, .int y :: .int x :: st, w) Q := by
  intro hOK G p l e Rm s m args below meth c A ads0 Zf cx H locs ads lsC hp hl hP hD hS hL
  have hck := dmOK_at hOK hA
  show W p l e Rm s m args below meth c H locs kc ks Zf (F0 m (dmPc M i) lsC (.int y :: .int x :: st.map (dmCv ads G.2.2)))
  rw [dmPc_at hA]
  have cx0 := cx
  obtain ⟨hx, hb, -⟩ := cx
  simp only [dmCk, Bool.and_eq_true] at hck
  refine lv_irem hx hb (dmD_of hck.1) hy ?_
  exact K.at hOK cx0 hp hl hP hD hS hL (dmNx_of hck.2)
theorem G_ret {v : Int32} {ty : FieldType} (hA : dmAt M.2.2.2.2.1 i = some (pc, .ireturn, nx, x1, x2, x3, x4, x5)) (hr : M.2.2.2.1 = some ty) (hz : narrow ty (.int v) = .int v) (hk : kc ≤ mc) (hs : ks ≤ ms) (hq : Q (some (.int v)) w) : GW E M d mc ms kc ks (i, ls, [.int v], w) Q := by
  intro hOK G p l e Rm s m args below meth c A ads0 Zf cx H locs ads lsC hp hl hP hD hS hL
  have hck := dmOK_at hOK hA
  show W p l e Rm s m args below meth c H locs kc ks Zf (F0 m (dmPc M i) lsC [.int v])
  rw [dmPc_at hA]
  obtain ⟨-, -, -, -, -, -, -, -, -, -, hret⟩ := cx
  exact hret H locs ads kc ks pc lsC (some (.int v)) w hp hl hP hD hS hk hs hq ⟨dmD_of hck, ty, hr, hz⟩
theorem G_retl {v : Int64} (hA : dmAt M.2.2.2.2.1 i = some (pc, .lreturn, nx, x1, x2, x3, x4, x5)) (hr : M.2.2.2.1 = some .long) (hk : kc ≤ mc) (hs : ks ≤ ms) (hq : Q (some (.long v)) w) : GW E M d mc ms kc ks (i, ls, [.long v], w) Q := by
  intro hOK G p l e Rm s m args below meth c A ads0 Zf cx H locs ads lsC hp hl hP hD hS hL
  have hck := dmOK_at hOK hA
  show W p l e Rm s m args below meth c H locs kc ks Zf (F0 m (dmPc M i) lsC [.long v])
  rw [dmPc_at hA]
  obtain ⟨-, -, -, -, -, -, -, -, -, -, hret⟩ := cx
  exact hret H locs ads kc ks pc lsC (some (.long v)) w hp hl hP hD hS hk hs hq ⟨dmD_of hck, hr⟩
theorem G_retv (hA : dmAt M.2.2.2.2.1 i = some (pc, .return_, nx, x1, x2, x3, x4, x5)) (hr : M.2.2.2.1 = none) (hk : kc ≤ mc) (hs : ks ≤ ms) (hq : Q none w) : GW E M d mc ms kc ks (i, ls, [], w) Q := by
  intro hOK G p l e Rm s m args below meth c A ads0 Zf cx H locs ads lsC hp hl hP hD hS hL
  have hck := dmOK_at hOK hA
  show W p l e Rm s m args below meth c H locs kc ks Zf (F0 m (dmPc M i) lsC [])
  rw [dmPc_at hA]
  obtain ⟨-, -, -, -, -, -, -, -, -, -, hret⟩ := cx
  exact hret H locs ads kc ks pc lsC none w hp hl hP hD hS hk hs hq ⟨dmD_of hck, hr⟩
/-- a text constant is answered -/
theorem G_reta {a : Nat} {n : String} (hA : dmAt M.2.2.2.2.1 i = some (pc, .areturn, nx, x1, x2, x3, x4, x5)) (hr : M.2.2.2.1 = some (.object n)) (hk : kc ≤ mc) (hs : ks ≤ ms) (hq : Q (some (.retAddr (a + 1))) w) : GW E M d mc ms kc ks (i, ls, [.retAddr (a + 1)], w) Q := by
  intro hOK G p l e Rm s m args below meth c A ads0 Zf cx H locs ads lsC hp hl hP hD hS hL
  have hck := dmOK_at hOK hA
  show W p l e Rm s m args below meth c H locs kc ks Zf (F0 m (dmPc M i) lsC [.ref (G.2.2 a)])
  rw [dmPc_at hA]
  obtain ⟨-, -, -, -, -, -, -, -, -, -, hret⟩ := cx
  exact hret H locs ads kc ks pc lsC (some (.retAddr (a + 1))) w hp hl hP hD hS hk hs hq ⟨dmD_of hck, rfl, n, hr⟩
theorem G_tsw {x : Int32} {df lo hi : Int} {os : Array Int} (k : Nat) {a len tgt : Nat} {L : List Nat} (hA : dmAt M.2.2.2.2.1 i = some (pc, .tableswitch df lo hi os, nx, a, len, x3, x4, L)) (hx0 : x.toInt = lo + k) (hh : lo + k ≤ hi) (hL : L[k]? = some tgt)
    (K : GW E M d mc ms kc ks (tgt, ls, st, w) Q) : GW E M d mc ms kc ks (i, ls, .int x :: st, w) Q := by
  intro hOK G p l e Rm s m args below meth c A ads0 Zf cx H locs ads lsC hp hl hP hD hS hL2
  have hck := dmOK_at hOK hA
  show W p l e Rm s m args below meth c H locs kc ks Zf (F0 m (dmPc M i) lsC (.int x :: st.map (dmCv ads G.2.2)))
  rw [dmPc_at hA]
  have cx0 := cx
  obtain ⟨hx, hb, -⟩ := cx
  simp only [dmCk, Bool.and_eq_true] at hck
  have h2 := of_decide_eq_true hck.2
  have h3 : (L.map (fun k => (dmPc M k : Int)))[k]? = some (dmPc M tgt : Int) := by rw [List.getElem?_map, hL]; rfl
  rw [h2, List.getElem?_map] at h3
  cases ho : os.toList[k]? with
  | none => rw [ho] at h3; cases h3
  | some o =>
    rw [ho] at h3
    have h4 : (pc : Int) + o = (dmPc M tgt : Int) := Option.some.inj h3
    refine lv_tableIn (off := o) hx hb (dmD_of hck.1.1) (by omega) (by omega) ?_ h4 (K.at hOK cx0 hp hl hP hD hS hL2 rfl)
    rw [show (x.toInt - lo).toNat = k by omega]
    simpa using ho
theorem G_tswOut {x : Int32} {df lo hi : Int} {os : Array Int} {a len : Nat} {L : List Nat} (hA : dmAt M.2.2.2.2.1 i = some (pc, .tableswitch df lo hi os, nx, a, len, x3, x4, L)) (hx0 : x.toInt < lo ∨ hi < x.toInt)
    (K : GW E M d mc ms kc ks (a, ls, st, w) Q) : GW E M d mc ms kc ks (i, ls, .int x :: st, w) Q := by
  intro hOK G p l e Rm s m args below meth c A ads0 Zf cx H locs ads lsC hp hl hP hD hS hL2
  have hck := dmOK_at hOK hA
  show W p l e Rm s m args below meth c H locs kc ks Zf (F0 m (dmPc M i) lsC (.int x :: st.map (dmCv ads G.2.2)))
  rw [dmPc_at hA]
  have cx0 := cx
  obtain ⟨hx, hb, -⟩ := cx
  simp only [dmCk, Bool.and_eq_true] at hck
  exact lv_tableOut hx hb (dmD_of hck.1.1) hx0 (of_decide_eq_true hck.1.2) (K.at hOK cx0 hp hl hP hD hS hL2 rfl)
theorem G_lsw {x : Int32} {df off : Int} {ps : Array (Int × Int)} {a len tgt : Nat} (hA : dmAt M.2.2.2.2.1 i = some (pc, .lookupswitch df ps, nx, a, len, x3, x4, x5)) (hp0 : (ps.toList.zip (ps.toList.drop 1)).all (fun (a, next) => a.1 < next.1) = true) (ho : Op.lookupswitch.offset ps.toList df x.toInt = off) (ht : (pc : Int) + off = (dmPc M tgt : Int))
    (K : GW E M d mc ms kc ks (tgt, ls, st, w) Q) : GW E M d mc ms kc ks (i, ls, .int x :: st, w) Q := by
  intro hOK G p l e Rm s m args below meth c A ads0 Zf cx H locs ads lsC hp hl hP hD hS hL2
  have hck := dmOK_at hOK hA
  show W p l e Rm s m args below meth c H locs kc ks Zf (F0 m (dmPc M i) lsC (.int x :: st.map (dmCv ads G.2.2)))
  rw [dmPc_at hA]
  have cx0 := cx
  obtain ⟨hx, hb, -⟩ := cx
  exact lv_lookup hx hb (dmD_of hck) hp0 ho ht (K.at hOK cx0 hp hl hP hD hS hL2 rfl)
end RA
end
section
/-! CONTRACTS AND CALLS -/
theorem dm_blind {E : dmX} {G : dmG} {ads : List Nat} {w : dmW} {sz : Nat} {av : List Value} : FrameBlind (va_Pc av (dmBg E G ads w sz)) := by
  intro a U g mk q
  obtain ⟨q0, q1, q2, q3, q4, q5⟩ := q
  exact ⟨q0, q1, q2, dmKs.same (u := U) (U := U.calling g mk a) rfl q3, q4, dmSF.go (U := U.calling g mk a) (Vm.Alike.refl U.vm) (fun _ _ _ => rfl) (Nat.le_refl _) (fun _ z => z) q5⟩
/-- the locals of a method's start: n places -/
def dmEnt : Nat → List Value → Option (List Value)
  | 0, [] => some []
  | n + 1, [] => match dmEnt n [] with
    | some l => some (U0 :: l)
    | none => none
  | 0, _ :: _ => none
  | n + 1, v :: vs => match v with
    | .long x => match n with
      | 0 => none
      | m + 1 => match dmEnt m vs with
        | some l => some (.long x :: U0 :: l)
        | none => none
    | .double _ => none
    | .retAddr 0 => none
    | u => match dmEnt n vs with
      | some l => some (u :: l)
      | none => none
theorem dmEnt_mem (ads : List Nat) (sad : Nat → Nat) : ∀ (n : Nat) (as ls : List Value), dmEnt n as = some ls → ls.length = n ∧ ∀ (b i : Nat) (v : Value), dmGet ls i = some v → dmKn v = true → (b + i, dmCv ads sad v) ∈ lv_args b (as.map (dmCv ads sad)) := by
  intro n
  induction n using Nat.strongRecOn with
  | ind n ih =>
    intro as ls h
    match n, as, h with
    | 0, [], h =>
      simp only [dmEnt] at h
      cases h
      exact ⟨rfl, fun b i v hg => by simp [dmGet] at hg⟩
    | n + 1, [], h =>
      simp only [dmEnt] at h
      split at h
      · rename_i l hl
        cases h
        obtain ⟨h1, h2⟩ := ih n (Nat.lt_succ_self n) [] l hl
        refine ⟨by simp [h1], fun b i v hg hk => ?_⟩
        match i, hg with
        | 0, hg =>
          simp only [dmGet] at hg
          cases hg
          simp [dmKn] at hk
        | i + 1, hg =>
          simp only [dmGet] at hg
          have := h2 b i v hg hk
          simp [lv_args] at this
      · cases h
    | n + 1, a :: as, h =>
      have one : ∀ l, dmEnt n as = some l → ls = a :: l → (dmCv ads sad a).category ≠ 2 → ls.length = n + 1 ∧ ∀ (b i : Nat) (v : Value), dmGet ls i = some v → dmKn v = true → (b + i, dmCv ads sad v) ∈ lv_args b ((a :: as).map (dmCv ads sad)) := by
        intro l hl he hc
        subst he
        obtain ⟨h1, h2⟩ := ih n (Nat.lt_succ_self n) as l hl
        refine ⟨by simp [h1], fun b i v hg hk => ?_⟩
        rw [List.map_cons]
        match i, hg with
        | 0, hg =>
          simp only [dmGet] at hg
          cases hg
          exact List.mem_cons_self
        | i + 1, hg =>
          simp only [dmGet] at hg
          simp only [lv_args, if_neg hc]
          rw [show b + (i + 1) = b + 1 + i by omega]
          exact List.mem_cons_of_mem _ (h2 (b + 1) i v hg hk)
      cases a with
      | long x =>
        match n, h with
        | 0, h => simp [dmEnt] at h
        | m + 1, h =>
          simp only [dmEnt] at h
          split at h
          · rename_i l hl
            cases h
            obtain ⟨h1, h2⟩ := ih m (by omega) as l hl
            refine ⟨by simp [h1], fun b i v hg hk => ?_⟩
            rw [List.map_cons]
            match i, hg with
            | 0, hg =>
              simp only [dmGet] at hg
              cases hg
              exact List.mem_cons_self
            | 1, hg =>
              simp only [dmGet] at hg
              cases hg
              simp [dmKn] at hk
            | i + 2, hg =>
              simp only [dmGet] at hg
              have hc : (dmCv ads sad (.long x)).category = 2 := rfl
              simp only [lv_args, if_pos hc]
              rw [show b + (i + 2) = b + 2 + i by omega]
              exact List.mem_cons_of_mem _ (h2 (b + 2) i v hg hk)
          · cases h
      | double x => simp [dmEnt] at h
      | retAddr k =>
        cases k with
        | zero => simp [dmEnt] at h
        | succ k =>
          simp only [dmEnt] at h
          split at h
          · rename_i l hl
            cases h
            exact one l hl rfl (fun e => by cases e)
          · cases h
      | _ =>
        simp only [dmEnt] at h
        split at h
        · rename_i l hl
          cases h
          exact one l hl rfl (fun e => by cases e)
        · cases h
theorem GM_of {E : dmX} {M : dmM} {d mc ms : Nat} {as ls : List Value} {w : dmW} {Q : Option Value → dmW → Prop} (hOK : dmOK M = true) (hpl : plainName M.1.cls = true) (hls : dmEnt M.2.2.1 as = some ls) (hpc : dmPc M 0 = 0) (k : GW E M d mc ms 0 0 (0, ls, [], w) Q) : GM E M d mc ms as w Q := by
  intro l G ads sz hn
  refine Met.ofW (cc := M.2.1) (maxL := M.2.2.1) (ret := M.2.2.2.1) hpl rfl ?_
  intro p e s m args below meth c s₁ B hml hv
  obtain ⟨rfl, hsz, hP, hK, hD0, hF⟩ := hv
  have hts0 := atoms_spec (ws := dmWs M) B.pre
  have hnm := (name_of_methodNamed B.named B.method).1
  have hlocks := B.notSynchronized
  have hr := B.returns
  subst hsz
  have hD := hD0.self (sz := s.heap.size)
  obtain ⟨hlen, hmem⟩ := dmEnt_mem ads G.2.2 _ _ _ hls
  have hl0 := lv_entry (as.map (dmCv ads G.2.2)) (n := M.2.2.1)
  rw [lg_entry_eq]
  have hlg : ∀ (as ls : List Value) (n : Nat), dmEnt n as = some ls → (lg_sl (as.map (dmCv ads G.2.2))).length ≤ n := by
    intro as
    induction as with
    | nil => intro ls n _; simp [lg_sl]
    | cons a as ih =>
      intro ls n h
      have cat : ∀ v : Value, ((if v.category = 2 then [Slot.val v, Slot.second] else [Slot.val v]) : List Slot).length = v.category := by
        intro v
        cases v <;> rfl
      have e1 : (lg_sl ((a :: as).map (dmCv ads G.2.2))).length = (dmCv ads G.2.2 a).category + (lg_sl (as.map (dmCv ads G.2.2))).length := by
        rw [List.map_cons]
        unfold lg_sl
        rw [List.flatMap_cons, List.length_append, cat]
      rw [e1]
      have one : ∀ n l, dmEnt n as = some l → (dmCv ads G.2.2 a).category = 1 → (dmCv ads G.2.2 a).category + (lg_sl (as.map (dmCv ads G.2.2))).length ≤ n + 1 := by
        intro n l hl hc
        have := ih l n hl
        omega
      cases n with
      | zero => simp [dmEnt] at h
      | succ n =>
        cases a with
        | long x =>
          match n, h with
          | 0, h => simp [dmEnt] at h
          | m + 1, h =>
            simp only [dmEnt] at h
            split at h
            · rename_i l hl
              have := ih l m hl
              have hc : (dmCv ads G.2.2 (.long x)).category = 2 := rfl
              omega
            · cases h
        | double x => simp [dmEnt] at h
        | retAddr k =>
          cases k with
          | zero => simp [dmEnt] at h
          | succ k =>
            simp only [dmEnt] at h
            split at h
            · rename_i l hl
              exact one n l hl rfl
            · cases h
        | _ =>
          simp only [dmEnt] at h
          split at h
          · rename_i l hl
            exact one n l hl rfl
          · cases h
  have hl1 := hl0 (hlg _ _ _ hls)
  have hL : dmLR ads G.2.2 M.2.2.1 ls ((lg_sl (as.map (dmCv ads G.2.2)) ++ List.replicate (M.2.2.1 - (lg_sl (as.map (dmCv ads G.2.2))).length) Slot.unset).toArray) := by
    refine ⟨⟨hl1.1, hl1.2.1, fun q hq => hl1.2.2 q ?_⟩, Nat.le_of_eq hlen⟩
    obtain ⟨v, h1, h2, h3⟩ := dmPairs_mem.mp hq
    have h4 := hmem 0 q.1 v h1 h2
    rw [Nat.zero_add, ← h3] at h4
    exact h4
  refine W.eq (g2 := F0 m (dmPc M 0) _ []) (by rw [hpc]) ?_
  refine k hOK G p l e (dmRm d mc ms) s m (as.map (dmCv ads G.2.2)).toArray below meth c (va_A (dmCw ads G.2.2 G.2.1 w) s.heap.size) ads _ ⟨B.exec, B.bytes, hml, findClass_of_methodNamed B.named, fun w hw => hts0 w (List.mem_cons_of_mem _ hw), hnm, hK, hF, fun q h => Or.inr h, ⟨Nat.le_refl _, Nat.le_refl _, Nat.le_refl _, Nat.le_refl _⟩, ?_⟩ s.heap [] ads _ (List.prefix_refl _) hn hP hD va_S.rf hL
  intro H locs ads' kc ks pc lsD r w' hp hn' hP' hD' hS' hk hs hq hra
  refine W.widen hk hs ?_
  have done : ∀ t : State, t.heap = H → s.WarmedH t.vm → dmQc G ads (va_A (dmCw ads G.2.2 G.2.1 w) s.heap.size) Q (as.map (dmCv ads G.2.2)).toArray s (.returned (r.map (dmCv ads' G.2.2))) t := by
    intro t ht hW
    exact ⟨⟨r, w', ads', hq, rfl, hp, hn', by rw [ht]; exact hP', hD'⟩, hS'.F ht⟩
  match r, hra, done with
  | none, hra, done => exact W.vret B.exec B.bytes (hr.trans hra.2) done hS'.2.2 hra.1 hlocks
  | some (.int v), hra, done =>
    obtain ⟨h1, ty, h2, h3⟩ := hra
    exact W.zret B.exec B.bytes (hr.trans h2) h3 done hS'.2.2 h1 hlocks
  | some (.long v), hra, done => exact W.lret B.exec B.bytes (hr.trans hra.2) done hS'.2.2 hra.1 hlocks
  | some (.ref v), hra, done =>
    obtain ⟨h1, h2, n, h3⟩ := hra
    exact W.aret B.exec B.bytes (hr.trans h3) (Or.inl ⟨n, rfl⟩) (Or.inr ⟨_, rfl⟩) done hS'.2.2 h1 hlocks
  | some (.retAddr (v + 1)), hra, done =>
    obtain ⟨h1, h2, n, h3⟩ := hra
    exact W.aret B.exec B.bytes (hr.trans h3) (Or.inl ⟨n, rfl⟩) (Or.inr ⟨_, rfl⟩) done hS'.2.2 h1 hlocks
  | some (.retAddr 0), hra, done => exact absurd hra.2.1 (by simp [dmIsRef])
  | some .null, hra, done => exact absurd hra.2.1 (by simp [dmIsRef])
  | some (.float v), hra, done => exact absurd hra.2.1 (by simp [dmIsRef])
  | some (.double v), hra, done => exact absurd hra.2.1 (by simp [dmIsRef])
end
section
/-! CALLS: the callee's world is a part of the caller's, under other handles -/
def dmRnV (is : List Nat) (o4 o5 : Value) : Value → Option Value
  | .ref j => match dmGet is j with
    | some h => some (.ref h)
    | none => none
  | .retAddr n => match n with
    | 5 => some o4
    | 6 => some o5
    | n => some (.retAddr n)
  | .int x => some (.int x)
  | .long x => some (.long x)
  | .null => some .null
  | _ => none
def dmRnL (is : List Nat) (o4 o5 : Value) : List Value → Option (List Value)
  | [] => some []
  | v :: vs => match dmRnV is o4 o5 v with
    | some u => match dmRnL is o4 o5 vs with
      | some us => some (u :: us)
      | none => none
    | none => none
def dmRef1 : Value → Bool
  | .ref _ => true
  | _ => false
def dmRnE (is : List Nat) (o4 o5 : Value) : va_E → Option va_E
  | .inl x => some (.inl x)
  | .inr (c, fs) => match dmRnL is o4 o5 fs with
    | some fs' => match Nat.beq c 100 && !(fs.all dmRef1) with
      | true => none
      | false => some (.inr (c, fs'))
    | none => none
def dmRnW (is : List Nat) (o4 o5 : Value) : dmW → Option dmW
  | [] => some []
  | v :: vs => match dmRnE is o4 o5 v with
    | some u => match dmRnW is o4 o5 vs with
      | some us => some (u :: us)
      | none => none
    | none => none
def dmPick (w : dmW) : List Nat → Option dmW
  | [] => some []
  | i :: is => match dmGet w i with
    | some u => match dmPick w is with
      | some us => some (u :: us)
      | none => none
    | none => none
def dmPut : List Nat → dmW → dmW → Option dmW
  | [], [], w => some w
  | i :: is, e :: es, w => match dmSet w i e with
    | some w' => dmPut is es w'
    | none => none
  | _, _, _ => none
def dmRnO (is : List Nat) (o4 o5 : Value) : Option Value → Option (List Value)
  | none => some []
  | some v => match dmRnV is o4 o5 v with
    | some u => some [u]
    | none => none
def dmPop : Nat → List Value → List Value → Option (List Value × List Value)
  | 0, st, acc => some (acc, st)
  | n + 1, v :: st, acc => dmPop n st (v :: acc)
  | _ + 1, [], _ => none
theorem dmPop_eq : ∀ (n : Nat) (st acc as st' : List Value), dmPop n st acc = some (as, st') → ∃ xs, as = xs ++ acc ∧ xs.length = n ∧ st = xs.reverse ++ st'
  | 0, st, acc, as, st', h => by
    simp only [dmPop] at h
    cases h
    exact ⟨[], rfl, rfl, rfl⟩
  | n + 1, v :: st, acc, as, st', h => by
    simp only [dmPop] at h
    obtain ⟨xs, h1, h2, h3⟩ := dmPop_eq n st (v :: acc) as st' h
    refine ⟨xs ++ [v], by simp [h1], by simp [h2], ?_⟩
    rw [h3]
    simp
  | n + 1, [], acc, as, st', h => by simp [dmPop] at h
theorem dmPop0 {n : Nat} {st as st' : List Value} (h : dmPop n st [] = some (as, st')) : as.length = n ∧ st = as.reverse ++ st' := by
  obtain ⟨xs, h1, h2, h3⟩ := dmPop_eq _ _ _ _ _ h
  rw [List.append_nil] at h1
  subst h1
  exact ⟨h2, h3⟩
theorem dmRnL_at {is : List Nat} {o4 o5 : Value} : ∀ {vs us : List Value}, dmRnL is o4 o5 vs = some us → us.length = vs.length ∧ ∀ k : Nat, (∀ v, vs[k]? = some v → ∃ u, us[k]? = some u ∧ dmRnV is o4 o5 v = some u)
  | [], us, h => by
    simp only [dmRnL] at h
    cases h
    exact ⟨rfl, fun k v hv => by simp at hv⟩
  | v :: vs, us, h => by
    simp only [dmRnL] at h
    split at h
    · rename_i u hu
      split at h
      · rename_i us' hus
        cases h
        obtain ⟨h1, h2⟩ := dmRnL_at hus
        refine ⟨by simp [h1], fun k v' hv => ?_⟩
        cases k with
        | zero => simp at hv; subst hv; exact ⟨u, by simp, hu⟩
        | succ k => simpa using h2 k v' (by simpa using hv)
      · cases h
    · cases h
theorem dmRnW_at {is : List Nat} {o4 o5 : Value} : ∀ {vs us : dmW}, dmRnW is o4 o5 vs = some us → us.length = vs.length ∧ ∀ k : Nat, (∀ v, vs[k]? = some v → ∃ u, us[k]? = some u ∧ dmRnE is o4 o5 v = some u)
  | [], us, h => by
    simp only [dmRnW] at h
    cases h
    exact ⟨rfl, fun k v hv => by simp at hv⟩
  | v :: vs, us, h => by
    simp only [dmRnW] at h
    split at h
    · rename_i u hu
      split at h
      · rename_i us' hus
        cases h
        obtain ⟨h1, h2⟩ := dmRnW_at hus
        refine ⟨by simp [h1], fun k v' hv => ?_⟩
        cases k with
        | zero => simp at hv; subst hv; exact ⟨u, by simp, hu⟩
        | succ k => simpa using h2 k v' (by simpa using hv)
      · cases h
    · cases h
theorem dmPick_at {w : dmW} : ∀ {is : List Nat} {us : dmW}, dmPick w is = some us → us.length = is.length ∧ ∀ k : Nat, (∀ i, is[k]? = some i → ∃ u, us[k]? = some u ∧ w[i]? = some u)
  | [], us, h => by
    simp only [dmPick] at h
    cases h
    exact ⟨rfl, fun k v hv => by simp at hv⟩
  | v :: vs, us, h => by
    simp only [dmPick] at h
    split at h
    · rename_i u hu
      split at h
      · rename_i us' hus
        cases h
        obtain ⟨h1, h2⟩ := dmPick_at hus
        rw [dmGet_eq] at hu
        refine ⟨by simp [h1], fun k v' hv => ?_⟩
        cases k with
        | zero => simp at hv; subst hv; exact ⟨u, by simp, hu⟩
        | succ k => simpa using h2 k v' (by simpa using hv)
      · cases h
    · cases h
theorem dmPut_at : ∀ {is : List Nat} {es w w1 : dmW}, dmPut is es w = some w1 → va_nd is = true → es.length = is.length ∧ w1.length = w.length ∧ ∀ j : Nat, (∃ q : Nat, is[q]? = some j ∧ w1[j]? = es[q]?) ∨ (j ∉ is ∧ w1[j]? = w[j]?)
  | [], [], w, w1, h, _ => by
    simp only [dmPut] at h
    cases h
    exact ⟨rfl, rfl, fun j => Or.inr ⟨by simp, rfl⟩⟩
  | i :: is, e :: es, w, w1, h, hnd => by
    simp only [dmPut] at h
    split at h
    · rename_i w' hw
      obtain ⟨hlt, he⟩ := dmSet_eq _ _ _ _ hw
      simp only [va_nd, Bool.and_eq_true, decide_eq_true_eq] at hnd
      obtain ⟨h1, h2, h3⟩ := dmPut_at h hnd.2
      subst he
      refine ⟨by simp [h1], by simpa using h2, fun j => ?_⟩
      rcases h3 j with ⟨q, h4, h5⟩ | ⟨h4, h5⟩
      · exact Or.inl ⟨q + 1, by simpa using h4, by simpa using h5⟩
      · by_cases hj : i = j
        · subst hj
          refine Or.inl ⟨0, by simp, ?_⟩
          rw [h5]
          simp [hlt]
        · refine Or.inr ⟨by simp [h4, Ne.symm hj], ?_⟩
          rw [h5, List.getElem?_set_ne hj]
    · cases h
  | [], e :: es, w, w1, h, _ => by simp [dmPut] at h
  | i :: is, [], w, w1, h, _ => by simp [dmPut] at h
/-- the addresses of the callee's handles, and of what it doesn't know -/
def dmAc (ads is : List Nat) : List Nat := is.map (fun h => ads.getD h 0)
def dmVa (ads : List Nat) (sad : Nat → Nat) (o : Value) : Nat := match dmCv ads sad o with
  | .ref q => q
  | _ => 0
def dmSc (ads : List Nat) (sad : Nat → Nat) (o4 o5 : Value) : Nat → Nat := fun n => if n = 4 then dmVa ads sad o4 else if n = 5 then dmVa ads sad o5 else sad n
theorem dmVa_cv {ads : List Nat} {sad : Nat → Nat} {o : Value} (h : dmIsRef o = true) : dmCv ads sad o = .ref (dmVa ads sad o) := by
  obtain ⟨q, hq⟩ := dmRef_cv (ads := ads) (sad := sad) h
  unfold dmVa
  rw [hq]
theorem dmAc_at {ads is : List Nat} {j h : Nat} (hj : is[j]? = some h) : (dmAc ads is).getD j 0 = ads.getD h 0 := by
  unfold dmAc
  rw [List.getD_eq_getElem?_getD, List.getElem?_map, hj]
  rfl
theorem dmRnV_cv {ads is : List Nat} {sad : Nat → Nat} {o4 o5 v u : Value} (h4 : dmIsRef o4 = true) (h5 : dmIsRef o5 = true) (h : dmRnV is o4 o5 v = some u) : dmCv (dmAc ads is) (dmSc ads sad o4 o5) v = dmCv ads sad u := by
  cases v with
  | ref j =>
    simp only [dmRnV] at h
    split at h
    · rename_i k hk
      cases h
      rw [dmGet_eq] at hk
      simp only [dmCv, dmAc_at hk]
    · cases h
  | retAddr n =>
    by_cases e4 : n = 5
    · subst e4
      simp only [dmRnV] at h
      cases h
      rw [dmVa_cv h4]
      simp [dmCv, dmSc]
    · by_cases e5 : n = 6
      · subst e5
        simp only [dmRnV] at h
        cases h
        rw [dmVa_cv h5]
        simp [dmCv, dmSc]
      · have h : some (Value.retAddr n) = some u := by
          rw [← h]
          simp only [dmRnV]
        cases h
        cases n with
        | zero => rfl
        | succ n =>
          simp only [dmCv, dmSc]
          rw [if_neg (by omega), if_neg (by omega)]
  | int x => simp only [dmRnV] at h; cases h; rfl
  | long x => simp only [dmRnV] at h; cases h; rfl
  | null => simp only [dmRnV] at h; cases h; rfl
  | _ => simp [dmRnV] at h
theorem dmRnL_cv {ads is : List Nat} {sad : Nat → Nat} {o4 o5 : Value} (h4 : dmIsRef o4 = true) (h5 : dmIsRef o5 = true) {vs us : List Value} (h : dmRnL is o4 o5 vs = some us) : vs.map (dmCv (dmAc ads is) (dmSc ads sad o4 o5)) = us.map (dmCv ads sad) := by
  obtain ⟨h1, h2⟩ := dmRnL_at h
  apply List.ext_getElem?
  intro k
  rw [List.getElem?_map, List.getElem?_map]
  cases hv : vs[k]? with
  | none =>
    have : us[k]? = none := by
      rw [List.getElem?_eq_none_iff] at hv ⊢
      omega
    rw [this]
    rfl
  | some v =>
    obtain ⟨u, hu, hr⟩ := h2 k v hv
    rw [hu]
    simp only [Option.map_some]
    rw [dmRnV_cv h4 h5 hr]
theorem dmRnE_ce {ads is : List Nat} {sad : Nat → Nat} {dA : Nat → ClassId} {o4 o5 : Value} (h4 : dmIsRef o4 = true) (h5 : dmIsRef o5 = true) {v u : va_E} (h : dmRnE is o4 o5 v = some u) : dmCe (dmAc ads is) (dmSc ads sad o4 o5) dA v = dmCe ads sad dA u := by
  cases v with
  | inl x =>
    simp only [dmRnE] at h
    cases h
    rfl
  | inr x =>
    obtain ⟨c, fs⟩ := x
    simp only [dmRnE] at h
    split at h
    · rename_i fs' hfs
      split at h
      · cases h
      · rename_i hc
        cases h
        simp only [dmCe]
        by_cases e : c = 100
        · subst e
          rw [if_pos rfl, if_pos rfl]
          obtain ⟨h1, h2⟩ := dmRnL_at hfs
          have h3 : fs.all dmRef1 = true := by simpa using hc
          have h6 : dmRf (dmAc ads is) fs = dmRf ads fs' := by
            funext k
            unfold dmRf
            cases hv : fs[k]? with
            | none =>
              have : fs'[k]? = none := by
                rw [List.getElem?_eq_none_iff] at hv ⊢
                omega
              rw [this]
            | some v =>
              obtain ⟨u, hu, hr⟩ := h2 k v hv
              rw [hu]
              have h7 := List.all_eq_true.mp h3 v (List.mem_of_getElem? hv)
              cases v with
              | ref j =>
                simp only [dmRnV] at hr
                split at hr
                · rename_i q hq
                  cases hr
                  rw [dmGet_eq] at hq
                  simp only [dmAc_at hq]
                · cases hr
              | _ => simp [dmRef1] at h7
          rw [h1, h6]
        · rw [if_neg e, if_neg e, dmRnL_cv h4 h5 hfs]
    · cases h
/-- the callee's world, cut out of the caller's -/
theorem dm_cut {G : dmG} {ads is : List Nat} {w wc es : dmW} {o4 o5 : Value} {H : Heap} {A : Nat → Prop} (h4 : dmIsRef o4 = true) (h5 : dmIsRef o5 = true) (hn : ads.length = w.length) (hP : va_P G.1 dmCl (dmCw ads G.2.2 G.2.1 w) H) (hD : va_D A (dmCw ads G.2.2 G.2.1 w)) (hnd : va_nd is = true) (hpk : dmPick w is = some es) (hrn : dmRnW is o4 o5 wc = some es) :
    (dmAc ads is).length = wc.length ∧ (∀ (k : Nat) q, (dmCw (dmAc ads is) (dmSc ads G.2.2 o4 o5) G.2.1 wc)[k]? = some q → ∃ j : Nat, is[k]? = some j ∧ (dmCw ads G.2.2 G.2.1 w)[j]? = some q) ∧ va_P G.1 dmCl (dmCw (dmAc ads is) (dmSc ads G.2.2 o4 o5) G.2.1 wc) H ∧ va_D (fun _ => True) (dmCw (dmAc ads is) (dmSc ads G.2.2 o4 o5) G.2.1 wc) := by
  obtain ⟨a1, a2⟩ := dmPick_at hpk
  obtain ⟨b1, b2⟩ := dmRnW_at hrn
  have hl : (dmAc ads is).length = wc.length := by
    unfold dmAc
    rw [List.length_map]
    omega
  have key : ∀ (k : Nat) q, (dmCw (dmAc ads is) (dmSc ads G.2.2 o4 o5) G.2.1 wc)[k]? = some q → ∃ j : Nat, is[k]? = some j ∧ (dmCw ads G.2.2 G.2.1 w)[j]? = some q := by
    intro k q hq
    have hk : k < wc.length := by
      have := (List.getElem?_eq_some_iff.mp hq).1
      rw [dmCw_len hl] at this
      exact this
    have hv : wc[k]? = some wc[k] := List.getElem?_eq_getElem hk
    have hj : is[k]? = some (is[k]'(by omega)) := List.getElem?_eq_getElem (by omega)
    obtain ⟨u, hu, hr⟩ := b2 k _ hv
    obtain ⟨u2, hu2, hw⟩ := a2 k _ hj
    rw [hu] at hu2
    cases hu2
    have e1 := dmCw_get (ads := dmAc ads is) (sad := dmSc ads G.2.2 o4 o5) (dA := G.2.1) hl (h := k) (e := wc[k]) (by rw [dmGet_eq]; exact hv)
    rw [hq] at e1
    rw [dmRnE_ce h4 h5 hr, dmAc_at hj] at e1
    refine ⟨_, hj, ?_⟩
    rw [dmCw_get hn (by rw [dmGet_eq]; exact hw), Option.some.inj e1]
  refine ⟨hl, key, fun k q hq => ?_, ⟨fun i j p q hi hj hpq => ?_, fun _ _ _ => trivial⟩⟩
  · obtain ⟨j, -, h2⟩ := key k q hq
    exact hP j q h2
  · obtain ⟨x, x1, x2⟩ := key i p hi
    obtain ⟨y, y1, y2⟩ := key j q hj
    have e := hD.1 x y p q x2 y2 hpq
    subst e
    exact va_nd_inj is hnd i j x x1 y1
/-- behind the call: what came back stands in its places, the rest is unchanged -/
theorem dm_join {G : dmG} {ads is : List Nat} {w wc es wc' es' w1 : dmW} {o4 o5 : Value} {H H1 : Heap} {A : Nat → Prop} (h4 : dmIsRef o4 = true) (h5 : dmIsRef o5 = true) (hn : ads.length = w.length) (hP : va_P G.1 dmCl (dmCw ads G.2.2 G.2.1 w) H) (hD : va_D A (dmCw ads G.2.2 G.2.1 w)) (hnd : va_nd is = true) (hpk : dmPick w is = some es) (hrn : dmRnW is o4 o5 wc = some es)
    (hrn' : dmRnW is o4 o5 wc' = some es') (hput : dmPut is es' w = some w1) (hP1 : va_P G.1 dmCl (dmCw (dmAc ads is) (dmSc ads G.2.2 o4 o5) G.2.1 wc') H1) (hk : ∀ q : Nat, q < H.size → ¬ va_A (dmCw (dmAc ads is) (dmSc ads G.2.2 o4 o5) G.2.1 wc) H.size q → H1[q]? = H[q]?) :
    ads.length = w1.length ∧ va_P G.1 dmCl (dmCw ads G.2.2 G.2.1 w1) H1 ∧ va_D A (dmCw ads G.2.2 G.2.1 w1) := by
  obtain ⟨c1, c2, -, -⟩ := dm_cut (G := G) h4 h5 hn hP hD hnd hpk hrn
  obtain ⟨p1, p2, p3⟩ := dmPut_at hput hnd
  obtain ⟨b1, b2⟩ := dmRnW_at hrn'
  have hn1 : ads.length = w1.length := by omega
  have hadr : ∀ (k : Nat) q, (dmCw ads G.2.2 G.2.1 w1)[k]? = some q → ∃ e, w1[k]? = some e ∧ q = (ads.getD k 0, dmCe ads G.2.2 G.2.1 e) ∧ ∃ e0, w[k]? = some e0 := by
    intro k q hq
    have hkl : k < w1.length := by
      have := (List.getElem?_eq_some_iff.mp hq).1
      rw [dmCw_len hn1] at this
      exact this
    have hv : w1[k]? = some w1[k] := List.getElem?_eq_getElem hkl
    refine ⟨_, hv, ?_, _, List.getElem?_eq_getElem (by omega)⟩
    have e1 := dmCw_get (ads := ads) (sad := G.2.2) (dA := G.2.1) hn1 (h := k) (by rw [dmGet_eq]; exact hv)
    exact Option.some.inj (hq.symm.trans e1)
  refine ⟨hn1, fun k q hq => ?_, ⟨fun i j p q hi hj hpq => ?_, fun k q hq => ?_⟩⟩
  · obtain ⟨e, he, rfl, e0, he0⟩ := hadr k q hq
    rcases p3 k with ⟨z, z1, z2⟩ | ⟨z1, z2⟩
    · rw [he] at z2
      have hz : z < wc'.length := by
        have := (List.getElem?_eq_some_iff.mp z1).1
        omega
      obtain ⟨u, u1, u2⟩ := b2 z _ (List.getElem?_eq_getElem hz)
      rw [← z2] at u1
      cases u1
      have hl : (dmAc ads is).length = wc'.length := by
        unfold dmAc
        rw [List.length_map]
        omega
      have g1 := dmCw_get (ads := dmAc ads is) (sad := dmSc ads G.2.2 o4 o5) (dA := G.2.1) hl (h := z) (by rw [dmGet_eq]; exact List.getElem?_eq_getElem hz)
      rw [dmRnE_ce h4 h5 u2, dmAc_at z1] at g1
      exact hP1 z _ g1
    · rw [z2, he0] at he
      cases he
      have g1 := dmCw_get (ads := ads) (sad := G.2.2) (dA := G.2.1) hn (h := k) (by rw [dmGet_eq]; exact he0)
      have g2 := hP k _ g1
      refine g2.kept (hk _ g2.lt (fun hA => ?_))
      rcases hA with ⟨x, y, hx⟩ | hx
      · obtain ⟨j, j1, j2⟩ := c2 x _ hx
        have e := hD.1 k j _ _ g1 j2 rfl
        subst e
        exact z1 (List.mem_of_getElem? j1)
      · exact absurd g2.lt (Nat.not_lt.mpr hx)
  · obtain ⟨e, he, rfl, e0, he0⟩ := hadr i p hi
    obtain ⟨f, hf, rfl, f0, hf0⟩ := hadr j q hj
    exact hD.1 i j (ads.getD i 0, dmCe ads G.2.2 G.2.1 e0) (ads.getD j 0, dmCe ads G.2.2 G.2.1 f0) (dmCw_get hn (by rw [dmGet_eq]; exact he0)) (dmCw_get hn (by rw [dmGet_eq]; exact hf0)) hpq
  · obtain ⟨e, he, rfl, e0, he0⟩ := hadr k q hq
    exact hD.2 k (ads.getD k 0, dmCe ads G.2.2 G.2.1 e0) (dmCw_get hn (by rw [dmGet_eq]; exact he0))
theorem dmSF.sad {E : dmX} {G : dmG} {sad' : Nat → Nat} {A : Nat → Prop} {s : State} {H : Heap} (hs : ∀ n, n ≠ 4 → n ≠ 5 → sad' n = G.2.2 n) (h : dmSF E G A s H) : dmSF E (G.1, G.2.1, sad') A s H := by
  obtain ⟨h1, ⟨h2, h3, h4⟩, h5, h6, h7⟩ := h
  have e3 : sad' 3 = G.2.2 3 := hs 3 (by omega) (by omega)
  have e10 : (fun i => sad' (10 + i)) = fun i => G.2.2 (10 + i) := funext fun i => hs _ (by omega) (by omega)
  have e30 : (fun i => sad' (30 + i)) = fun i => G.2.2 (30 + i) := funext fun i => hs _ (by omega) (by omega)
  refine ⟨fun i hi => ?_, ⟨?_, ?_, ?_⟩, ?_, h6, ?_⟩
  · show va_Z _ _ _ (.ref (sad' i)) _ _ _ ∧ va_T _ (sad' i) _ _ _ _ _
    rw [hs i (by omega) (by omega)]
    exact h1 i hi
  · show va_X (sad' 3) _ _ _ _
    rw [e3]; exact h2
  · show ¬ A (sad' 3)
    rw [e3]; exact h3
  · show sad' 3 < _
    rw [e3]; exact h4
  · show vk_S 10 _ _ (fun i => sad' (10 + i)) (fun i => sad' (30 + i)) _ _ _
    rw [e10, e30]; exact h5
  · show va_Z _ _ _ .null _ _ _ ∨ va_Z _ _ _ (.ref (sad' 50)) _ _ _
    rw [hs 50 (by omega) (by omega)]; exact h7
theorem dmKs.sad {G : dmG} {sad' : Nat → Nat} {s : State} (hs : ∀ n, n ≠ 4 → n ≠ 5 → sad' n = G.2.2 n) (h : dmKs G s) : dmKs (G.1, G.2.1, sad') s := by
  refine ⟨h.1, h.2.1, h.2.2.1, h.2.2.2.1, fun i y hy => ?_⟩
  show vk_R _ _ _ (sad' (10 + i)) s
  rw [hs _ (by omega) (by omega)]
  exact h.2.2.2.2 i y hy
theorem dmSc_eq (ads : List Nat) (sad : Nat → Nat) (o4 o5 : Value) : ∀ n, n ≠ 4 → n ≠ 5 → dmSc ads sad o4 o5 n = sad n := fun n h1 h2 => by simp only [dmSc, if_neg h1, if_neg h2]
theorem dmCv_cat (ads : List Nat) (sad : Nat → Nat) (v : Value) : (dmCv ads sad v).category = v.category := by
  cases v with
  | retAddr n => cases n <;> rfl
  | _ => rfl
theorem dm_cats {ads : List Nat} {sad : Nat → Nat} {st : List Value} (h : (st.map Value.category).sum ≤ 8) : ((st.map (dmCv ads sad)).map fun v => v.category).sum ≤ 8 := by
  rw [List.map_map]
  have : ((fun v : Value => v.category) ∘ dmCv ads sad) = Value.category := funext fun v => dmCv_cat ads sad v
  rw [this]
  exact h
section DMB
variable {p : Program} {l : Launch} {e : Jvm.Env} {Rm : Room} {s : State} {m : MethodId} {args : Array Value} {below : List Frame} {meth : Method} {c : Code} {H : Heap} {locs : List Loc} {kc ks : Nat} {Zf : State → Prop}
/-- what a call leaves, handed on -/
theorem dm_back {G : dmG} {adsC : List Nat} {A A1 free : Nat → Prop} {Qc : Option Value → dmW → Prop} {mc' ms' pc : Nat} {ls : Array Slot} {st0 rest : List Value} {a : Array Value} (hr : va_Run p l e Rm s m args below meth c H locs kc ks mc' ms' (F0 m pc ls st0) rest (dmQc G adsC A1 Qc a) free) (hS : va_S A s.heap H locs) (hA : ∀ q, q < H.size → A1 q → A q) (hf : ∀ q, free q → A q)
    (kk : ∀ (r : Option Value) (w' : dmW) (ads' : List Nat) (H1 : Heap) (locs1 : List Loc), Qc r w' → adsC <+: ads' → ads'.length = w'.length → va_P G.1 dmCl (dmCw ads' G.2.2 G.2.1 w') H1 → va_D A1 (dmCw ads' G.2.2 G.2.1 w') → H.size ≤ H1.size → (∀ q : Nat, q < H.size → ¬ A1 q → H1[q]? = H[q]?) → va_S A s.heap H1 locs1 → W p l e Rm s m args below meth c H1 locs1 (kc + mc') (ks + ms') Zf (F0 m (pc + 3) ls ((r.map (dmCv ads' G.2.2)).toList ++ rest))) : W p l e Rm s m args below meth c H locs kc ks Zf (F0 m pc ls st0) := by
  intro T hT X
  obtain ⟨v, st₀, t, T', L, h0, X', hL, e1, e2, ⟨⟨r, w', ads', hq, hv, hp, hn, hP, hD⟩, hz, hk⟩, st⟩ := hr T hT X
  cases hv
  rw [h0] at hz hk
  obtain ⟨t2, a1, b1⟩ := kk r w' ads' T'.heap (locs ++ L) hq hp hn (by rw [e1]; exact hP) hD (by rw [e1]; exact hz) (fun q h1 h2 => by rw [e1]; exact hk q h1 h2)
    ⟨Nat.le_trans hS.1 (by rw [e1]; exact hz), fun q h1 h2 => by rw [e1, hk q (Nat.lt_of_lt_of_le h1 hS.1) (fun z => h2 (hA q (Nat.lt_of_lt_of_le h1 hS.1) z))]; exact hS.2.1 q h1 h2, fun q hq => by
      rcases List.mem_append.mp hq with h | h
      · exact hS.2.2 q h
      · exact hf _ (hL q h)⟩ T' rfl X'
  exact ⟨t2, st t2 a1, b1⟩
end DMB
theorem dmMt_of {M' : dmM} {n : Nat} (h : dmMt M' n = true) : (parseMethodDescriptor M'.1.desc).map (fun d => d.parameters.length) = some n ∧ (M'.1.cls ≠ "java/lang/invoke/MethodHandle" ∧ M'.1.cls ≠ "java/lang/invoke/VarHandle") ∧ M'.2.2.1 ≤ 21 ∧ Cond.code M'.1 M'.2.1 M'.2.2.1 M'.2.2.2.1 ∈ dmTB ∧ Cond.initialized M'.1.cls ∈ dmTB := by
  simp only [dmMt, Bool.and_eq_true] at h
  obtain ⟨⟨⟨⟨h1, h2⟩, h3⟩, h4⟩, h5⟩ := h
  exact ⟨of_decide_eq_true h1, of_decide_eq_true h2, Nat.le_of_ble_eq_true h3, dmTB_in (dmWd_of h4) rfl, dmTB_in (dmWd_of h5) rfl⟩
theorem dmWs_good {M' : dmM} (h : Cond.code M'.1 M'.2.1 M'.2.2.1 M'.2.2.2.1 ∈ dmTB) : GoodIn dmTB (dmWs M') := by
  intro w hw
  rcases List.mem_cons.mp hw with rfl | hw
  · exact ⟨h, good_of_word (dmTB_good _ h)⟩
  · exact ⟨hw, good_of_word (dmTB_good _ hw)⟩
theorem dmGood_cons {w : Cond} {ws : List Cond} (h : w ∈ dmTB) (hw : GoodIn dmTB ws) : GoodIn dmTB (w :: ws) := by
  intro x hx
  rcases List.mem_cons.mp hx with rfl | hx
  · exact ⟨h, good_of_word (dmTB_good _ h)⟩
  · exact hw x hx
section GC
variable {E : dmX} {M M' : dmM} {d mc ms kc ks mc' ms' i pc idx nx b x4 : Nat} {a : Nat} {x3 : Int32} {x5 : List Nat} {ls st st' as as' : List Value} {w wc es : dmW} {Q Qc : Option Value → dmW → Prop}
/-- a call of an object's method -/
theorem G_callV (is : List Nat) (o4 o5 : Value) {h ci : Nat} {fs : List Value} (hA : dmAt M.2.2.2.2.1 i = some (pc, .invokevirtual idx, nx, a, b, x3, x4, x5)) (hT : dmAt dmT a = some M') (hpop : dmPop (b + 1) st [] = some (.ref h :: as, st')) (hrc : dmGet w h = some (.inr (ci, fs))) (hcl : (dmCl[ci]?).map (fun q => q.1) = some M'.1.cls)
    (hm : GM E M' d mc' ms' as' wc Qc) (ha : dmRnL is o4 o5 as' = some (.ref h :: as)) (hpk : dmPick w is = some es) (hrn : dmRnW is o4 o5 wc = some es) (h4 : dmIsRef o4 = true) (h5 : dmIsRef o5 = true) (hnd : va_nd is = true) (hcat : (st'.map Value.category).sum ≤ 8) (hkc : kc + mc' ≤ mc) (hks : ks + ms' ≤ ms)
    (k : ∀ r wc', Qc r wc' → ∃ rr es' w1, dmRnO is o4 o5 r = some rr ∧ dmRnW is o4 o5 wc' = some es' ∧ dmPut is es' w = some w1 ∧ GW E M (d + 1) mc ms (kc + mc') (ks + ms') (nx, ls, rr ++ st', w1) Q) : GW E M (d + 1) mc ms kc ks (i, ls, st, w) Q := by
  intro hOK G p l e Rm s m args below meth c A ads0 Zf cx H locs ads lsC hp hn hP hD hS hL
  have hck := dmOK_at hOK hA
  show W p l e Rm s m args below meth c H locs kc ks Zf (F0 m (dmPc M i) lsC (st.map (dmCv ads G.2.2)))
  rw [dmPc_at hA]
  have cx0 := cx
  obtain ⟨hx, hb, hml, hown, hts, hnm, hK, hF, hAA, ⟨hr1, hr2, hr3, hr4⟩, -⟩ := cx
  simp only [dmCk, Bool.and_eq_true] at hck
  obtain ⟨⟨h1, h2⟩, h3⟩ := hck
  rw [hT] at h3
  simp only [Bool.and_eq_true] at h3
  obtain ⟨⟨⟨g1, g2⟩, g3⟩, g4⟩ := h3
  obtain ⟨m1, m2, m3, m4, m5⟩ := dmMt_of g2
  obtain ⟨c1, c2, c3, c4⟩ := dm_cut (G := G) h4 h5 hn hP hD hnd hpk hrn
  obtain ⟨p1, p2⟩ := dmPop0 hpop
  have hargs := dmRnL_cv (ads := ads) (sad := G.2.2) h4 h5 ha
  have hAs : as.length = b := by simpa using p1
  have hst : st.map (dmCv ads G.2.2) = (as.map (dmCv ads G.2.2)).reverse ++ .ref (ads.getD h 0) :: st'.map (dmCv ads G.2.2) := by
    rw [p2]
    simp [dmCv]
  rw [hst]
  have hfree : ∀ q, va_A (dmCw (dmAc ads is) (dmSc ads G.2.2 o4 o5) G.2.1 wc) H.size q → A q := by
    intro q hq
    rcases hq with ⟨x, y, hx⟩ | hx
    · obtain ⟨j, -, j2⟩ := c2 x _ hx
      exact hD.2 j _ j2
    · exact hAA q (Nat.le_trans hS.1 hx)
  have hG : GoodIn dmTB (wsV M.1.cls idx M'.1.cls M'.1 (dmWs M')) := dmGood_cons (dmTB_in (dmWd_of g1) rfl) (dmGood_cons (dmTB_in (dmWd_of g3) rfl) (dmGood_cons (dmTB_in (dmWd_of g4) rfl) (dmGood_cons m5 (dmWs_good m4))))
  have cw := cwV (R := Rm) (s := s) (args := args) (bytes := M'.2.1) (maxL := M'.2.2.1) (ret := M'.2.2.2.1) (mc := mc') (ms := ms') (rm := dmRm d mc' ms') b hts hG rfl rfl rfl ⟨rfl, m2.1, m2.2, m1⟩ ⟨hr1, by show 8 + (M'.2.2.1 + 11) + 40 * d ≤ _; omega⟩
  have hobj : ∃ cell : Cell, H[ads.getD h 0]? = some cell ∧ cell.vm.isStatics = false ∧ s.vm.findClass M'.1.cls = some cell.cls := by
    cases hq : dmCl[ci]? with
    | none => rw [hq] at hcl; cases hcl
    | some q =>
      rw [hq] at hcl
      have e : q.1 = M'.1.cls := Option.some.inj hcl
      obtain ⟨cell, z1, z2, z3⟩ := va_recv hK.1 hP (ci := ci) (q0 := h) (a := ads.getD h 0) (fs := fs.map (dmCv ads G.2.2)) hq (by rw [dmCw_get hn hrc, dmCe_ob (dm_cl100 hq)])
      exact ⟨cell, z1, z2, by rw [← e]; exact z3⟩
  refine dm_back (G := (G.1, G.2.1, dmSc ads G.2.2 o4 o5)) (va_runV (As := as.map (dmCv ads G.2.2)) (rest := st'.map (dmCv ads G.2.2)) ⟨hx, hb, hml, hown, hts⟩ (hm l (G.1, G.2.1, dmSc ads G.2.2 o4 o5) (dmAc ads is) H.size c1) cw ⟨dm_blind, hobj, fun U hU hW => ⟨?_, by rw [hU], by rw [hU]; exact c3, (hK.warm hW).sad (dmSc_eq ads G.2.2 o4 o5), c4, ?_⟩⟩ rfl (by rw [List.length_map]; exact hAs) hL.1.1 rfl (lv_room (dm_cats hcat)) (dmD_of h1) ⟨by omega, by omega⟩) hS (fun q _ h => hfree q h) hfree ?_
  · show (Value.ref (ads.getD h 0) :: as.map (dmCv ads G.2.2)).toArray = _
    rw [hargs]
    rfl
  · rw [hU]
    refine dmSF.sad (G := G) (dmSc_eq ads G.2.2 o4 o5) (dmSF.go hW.alike (fun q q1 q2 => hS.2.1 q q1 q2) hS.1 hfree hF)
  · intro r w' ads' H1 locs1 hq hpr hn' hP1 hD1 hz hk hS1
    obtain ⟨rr, es', w1, k1, k2, k3, k4⟩ := k r w' hq
    have hl1 := (dmPut_at k3 hnd).1
    have hl2 := (dmRnW_at k2).1
    have hads : ads' = dmAc ads is := by
      refine (hpr.eq_of_length ?_).symm
      unfold dmAc
      rw [List.length_map]
      omega
    subst hads
    obtain ⟨j1, j2, j3⟩ := dm_join (G := G) h4 h5 hn hP hD hnd hpk hrn k2 k3 hP1 hk
    have hrr : (r.map (dmCv (dmAc ads is) (dmSc ads G.2.2 o4 o5))).toList = rr.map (dmCv ads G.2.2) := by
      cases r with
      | none => simp only [dmRnO] at k1; cases k1; rfl
      | some v =>
        simp only [dmRnO] at k1
        split at k1
        · rename_i u hu
          cases k1
          simp [dmRnV_cv h4 h5 hu]
        · cases k1
    show W p l e Rm s m args below meth c H1 locs1 (kc + mc') (ks + ms') Zf (F0 m (pc + 3) lsC ((r.map (dmCv (dmAc ads is) (dmSc ads G.2.2 o4 o5))).toList ++ st'.map (dmCv ads G.2.2)))
    rw [hrr, ← List.map_append]
    exact k4.at hOK cx0 hp j1 j2 j3 hS1 hL (dmNx_of h2)
end GC
end
section
/-! STATIC CALLS; CALLS IN THE SAME WORLD -/
section GC2
variable {E : dmX} {M M' : dmM} {d mc ms kc ks mc' ms' i pc idx nx b x4 : Nat} {a : Nat} {x3 : Int32} {x5 : List Nat} {ls st st' as as' : List Value} {w wc es : dmW} {Q Qc : Option Value → dmW → Prop}

theorem G_callS (is : List Nat) (o4 o5 : Value) (hA : dmAt M.2.2.2.2.1 i = some (pc, .invokestatic idx, nx, a, b, x3, x4, [1])) (hT : dmAt dmT a = some M') (hpop : dmPop b st [] = some (as, st'))
    (hm : GM E M' d mc' ms' as' wc Qc) (ha : dmRnL is o4 o5 as' = some as) (hpk : dmPick w is = some es) (hrn : dmRnW is o4 o5 wc = some es) (h4 : dmIsRef o4 = true) (h5 : dmIsRef o5 = true) (hnd : va_nd is = true) (hcat : (st'.map Value.category).sum ≤ 8) (hkc : kc + mc' ≤ mc) (hks : ks + ms' ≤ ms)
    (k : ∀ r wc', Qc r wc' → ∃ rr es' w1, dmRnO is o4 o5 r = some rr ∧ dmRnW is o4 o5 wc' = some es' ∧ dmPut is es' w = some w1 ∧ GW E M (d + 1) mc ms (kc + mc') (ks + ms') (nx, ls, rr ++ st', w1) Q) : GW E M (d + 1) mc ms kc ks (i, ls, st, w) Q := by
  intro hOK G p l e Rm s m args below meth c A ads0 Zf cx H locs ads lsC hp hn hP hD hS hL
  have hck := dmOK_at hOK hA
  show W p l e Rm s m args below meth c H locs kc ks Zf (F0 m (dmPc M i) lsC (st.map (dmCv ads G.2.2)))
  rw [dmPc_at hA]
  have cx0 := cx
  obtain ⟨hx, hb, hml, hown, hts, hnm, hK, hF, hAA, ⟨hr1, hr2, hr3, hr4⟩, -⟩ := cx
  simp only [dmCk, Bool.and_eq_true] at hck
  obtain ⟨⟨h1, h2⟩, h3⟩ := hck
  rw [hT] at h3
  simp only [Bool.and_eq_true] at h3
  obtain ⟨⟨g1, g2⟩, g3⟩ := h3
  obtain ⟨m1, m2, m3, m4, m5⟩ := dmMt_of g2
  have hG : GoodIn dmTB (va_wsS M.1.cls idx M'.1 (dmWs M')) := dmGood_cons (dmTB_in (dmWd_of g1) rfl) (dmGood_cons (dmTB_in (dmWd_of g3) rfl) (dmGood_cons m5 (dmWs_good m4)))
  have cw := va_cwS (R := Rm) (s := s) (args := args) (bytes := M'.2.1) (maxL := M'.2.2.1) (ret := M'.2.2.2.1) (mc := mc') (ms := ms') (rm := dmRm d mc' ms') b hts hG rfl rfl rfl ⟨m2.1, m2.2, m1⟩ ⟨hr1, by show 8 + (M'.2.2.1 + 11) + 40 * d ≤ _; omega⟩
  obtain ⟨c1, c2, c3, c4⟩ := dm_cut (G := G) h4 h5 hn hP hD hnd hpk hrn
  have hargs := dmRnL_cv (ads := ads) (sad := G.2.2) h4 h5 ha
  have hfree : ∀ q, va_A (dmCw (dmAc ads is) (dmSc ads G.2.2 o4 o5) G.2.1 wc) H.size q → A q := by
    intro q hq
    rcases hq with ⟨x, y, hx⟩ | hx
    · obtain ⟨j, -, j2⟩ := c2 x _ hx
      exact hD.2 j _ j2
    · exact hAA q (Nat.le_trans hS.1 hx)
  obtain ⟨p1, p2⟩ := dmPop0 hpop
  have hst : st.map (dmCv ads G.2.2) = (as.map (dmCv ads G.2.2)).reverse ++ st'.map (dmCv ads G.2.2) := by
    rw [p2]
    simp
  rw [hst]
  refine dm_back (G := (G.1, G.2.1, dmSc ads G.2.2 o4 o5)) (va_runS (As := as.map (dmCv ads G.2.2)) (rest := st'.map (dmCv ads G.2.2)) ⟨hx, hb, hml, hown, hts⟩ (hm l (G.1, G.2.1, dmSc ads G.2.2 o4 o5) (dmAc ads is) H.size c1) cw ⟨dm_blind, fun U hU hW => ⟨?_, by rw [hU], by rw [hU]; exact c3, (hK.warm hW).sad (dmSc_eq ads G.2.2 o4 o5), c4, ?_⟩⟩ rfl (by rw [List.length_map]; exact p1) hL.1.1 rfl (lv_room (dm_cats hcat)) (dmD_of h1) ⟨by omega, by omega⟩) hS (fun q _ h => hfree q h) hfree ?_
  · show (as.map (dmCv ads G.2.2)).toArray = _
    rw [hargs]
  · rw [hU]
    refine dmSF.sad (G := G) (dmSc_eq ads G.2.2 o4 o5) (dmSF.go hW.alike (fun q q1 q2 => hS.2.1 q q1 q2) hS.1 hfree hF)
  · intro r w' ads' H1 locs1 hq hpr hn' hP1 hD1 hz hk hS1
    obtain ⟨rr, es', w1, k1, k2, k3, k4⟩ := k r w' hq
    have hl1 := (dmPut_at k3 hnd).1
    have hl2 := (dmRnW_at k2).1
    have hads : ads' = dmAc ads is := by
      refine (hpr.eq_of_length ?_).symm
      unfold dmAc
      rw [List.length_map]
      omega
    subst hads
    obtain ⟨j1, j2, j3⟩ := dm_join (G := G) h4 h5 hn hP hD hnd hpk hrn k2 k3 hP1 hk
    have hrr : (r.map (dmCv (dmAc ads is) (dmSc ads G.2.2 o4 o5))).toList = rr.map (dmCv ads G.2.2) := by
      cases r with
      | none => simp only [dmRnO] at k1; cases k1; rfl
      | some v =>
        simp only [dmRnO] at k1
        split at k1
        · rename_i u hu
          cases k1
          simp [dmRnV_cv h4 h5 hu]
        · cases k1
    show W p l e Rm s m args below meth c H1 locs1 (kc + mc') (ks + ms') Zf (F0 m (pc + 3) lsC ((r.map (dmCv (dmAc ads is) (dmSc ads G.2.2 o4 o5))).toList ++ st'.map (dmCv ads G.2.2)))
    rw [hrr, ← List.map_append]
    exact k4.at hOK cx0 hp j1 j2 j3 hS1 hL (dmNx_of h2)

theorem G_callS0 (hA : dmAt M.2.2.2.2.1 i = some (pc, .invokestatic idx, nx, a, b, x3, x4, [1])) (hT : dmAt dmT a = some M') (hpop : dmPop b st [] = some (as, st'))
    (hm : GM E M' d mc' ms' as w Qc) (hcat : (st'.map Value.category).sum ≤ 8) (hkc : kc + mc' ≤ mc) (hks : ks + ms' ≤ ms)
    (k : ∀ r w1, Qc r w1 → w1.length = w.length ∧ GW E M (d + 1) mc ms (kc + mc') (ks + ms') (nx, ls, r.toList ++ st', w1) Q) : GW E M (d + 1) mc ms kc ks (i, ls, st, w) Q := by
  intro hOK G p l e Rm s m args below meth c A ads0 Zf cx H locs ads lsC hp hn hP hD hS hL
  have hck := dmOK_at hOK hA
  show W p l e Rm s m args below meth c H locs kc ks Zf (F0 m (dmPc M i) lsC (st.map (dmCv ads G.2.2)))
  rw [dmPc_at hA]
  have cx0 := cx
  obtain ⟨hx, hb, hml, hown, hts, hnm, hK, hF, hAA, ⟨hr1, hr2, hr3, hr4⟩, -⟩ := cx
  simp only [dmCk, Bool.and_eq_true] at hck
  obtain ⟨⟨h1, h2⟩, h3⟩ := hck
  rw [hT] at h3
  simp only [Bool.and_eq_true] at h3
  obtain ⟨⟨g1, g2⟩, g3⟩ := h3
  obtain ⟨m1, m2, m3, m4, m5⟩ := dmMt_of g2
  have hG : GoodIn dmTB (va_wsS M.1.cls idx M'.1 (dmWs M')) := dmGood_cons (dmTB_in (dmWd_of g1) rfl) (dmGood_cons (dmTB_in (dmWd_of g3) rfl) (dmGood_cons m5 (dmWs_good m4)))
  have cw := va_cwS (R := Rm) (s := s) (args := args) (bytes := M'.2.1) (maxL := M'.2.2.1) (ret := M'.2.2.2.1) (mc := mc') (ms := ms') (rm := dmRm d mc' ms') b hts hG rfl rfl rfl ⟨m2.1, m2.2, m1⟩ ⟨hr1, by show 8 + (M'.2.2.1 + 11) + 40 * d ≤ _; omega⟩
  have hfree : ∀ q, va_A (dmCw ads G.2.2 G.2.1 w) H.size q → A q := by
    intro q hq
    rcases hq with ⟨x, y, hx⟩ | hx
    · exact hD.2 x _ hx
    · exact hAA q (Nat.le_trans hS.1 hx)
  obtain ⟨p1, p2⟩ := dmPop0 hpop
  have hst : st.map (dmCv ads G.2.2) = (as.map (dmCv ads G.2.2)).reverse ++ st'.map (dmCv ads G.2.2) := by
    rw [p2]
    simp
  rw [hst]
  refine dm_back (G := G) (va_runS (As := as.map (dmCv ads G.2.2)) (rest := st'.map (dmCv ads G.2.2)) ⟨hx, hb, hml, hown, hts⟩ (hm l G ads H.size hn) cw ⟨dm_blind, fun U hU hW => ⟨rfl, by rw [hU], by rw [hU]; exact hP, hK.warm hW, hD.weaken (fun _ _ _ _ => trivial), ?_⟩⟩ rfl (by rw [List.length_map]; exact p1) hL.1.1 rfl (lv_room (dm_cats hcat)) (dmD_of h1) ⟨by omega, by omega⟩) hS (fun q _ h => hfree q h) hfree ?_
  · rw [hU]
    exact dmSF.go hW.alike (fun q q1 q2 => hS.2.1 q q1 q2) hS.1 hfree hF
  · intro r w' ads' H1 locs1 hq hpr hn' hP1 hD1 hz hk hS1
    obtain ⟨k1, k2⟩ := k r w' hq
    have hads : ads' = ads := (hpr.eq_of_length (Eq.trans (show ads.length = w.length from hn) (k1.symm.trans hn'.symm))).symm
    subst hads
    have hD2 := hD1.weaken (B := A) (fun _ _ _ z => hfree _ z)
    have hrr : (r.map (dmCv ads' G.2.2)).toList = r.toList.map (dmCv ads' G.2.2) := by cases r <;> rfl
    rw [hrr, ← List.map_append]
    exact k2.at hOK cx0 hp hn' hP1 hD2 hS1 hL (dmNx_of h2)

theorem G_callN (is : List Nat) (o4 o5 : Value) (hA : dmAt M.2.2.2.2.1 i = some (pc, .invokestatic idx, nx, a, b, x3, x4, [3])) (hT : dmAt dmT a = some M') (hpop : dmPop b st [] = some (as, st'))
    (hm : GM E M' d mc' ms' as' wc Qc) (ha : dmRnL is o4 o5 as' = some as) (hpk : dmPick w is = some es) (hrn : dmRnW is o4 o5 wc = some es) (h4 : dmIsRef o4 = true) (h5 : dmIsRef o5 = true) (hnd : va_nd is = true) (hcat : (st'.map Value.category).sum ≤ 8) (hkc : kc + mc' ≤ mc) (hks : ks + ms' ≤ ms)
    (k : ∀ r wc', Qc r wc' → ∃ rr es' w1, dmRnO is o4 o5 r = some rr ∧ dmRnW is o4 o5 wc' = some es' ∧ dmPut is es' w = some w1 ∧ GW E M (d + 1) mc ms (kc + mc') (ks + ms') (nx, ls, rr ++ st', w1) Q) : GW E M (d + 1) mc ms kc ks (i, ls, st, w) Q := by
  intro hOK G p l e Rm s m args below meth c A ads0 Zf cx H locs ads lsC hp hn hP hD hS hL
  have hck := dmOK_at hOK hA
  show W p l e Rm s m args below meth c H locs kc ks Zf (F0 m (dmPc M i) lsC (st.map (dmCv ads G.2.2)))
  rw [dmPc_at hA]
  have cx0 := cx
  obtain ⟨hx, hb, hml, hown, hts, hnm, hK, hF, hAA, ⟨hr1, hr2, hr3, hr4⟩, -⟩ := cx
  simp only [dmCk, Bool.and_eq_true] at hck
  obtain ⟨⟨h1, h2⟩, h3⟩ := hck
  rw [hT] at h3
  simp only [Bool.and_eq_true] at h3
  obtain ⟨⟨g1, g2⟩, g3⟩ := h3
  obtain ⟨m1, m2, m3, m4, m5⟩ := dmMt_of g2
  have cw := va_cnB (R := Rm) (s := s) (args := args) (bytes := M'.2.1) (maxL := M'.2.2.1) (ret := M'.2.2.2.1) (mc := mc') (ms := ms') (rm := dmRm d mc' ms') b hts (dmWs_good m4) rfl rfl rfl (hK.2.2.1 _ (of_decide_eq_true g1)) (hts _ m5) ⟨m2.1, m2.2, m1⟩ ⟨hr1, by show 8 + (M'.2.2.1 + 11) + 40 * d ≤ _; omega⟩
  obtain ⟨c1, c2, c3, c4⟩ := dm_cut (G := G) h4 h5 hn hP hD hnd hpk hrn
  have hargs := dmRnL_cv (ads := ads) (sad := G.2.2) h4 h5 ha
  have hfree : ∀ q, va_A (dmCw (dmAc ads is) (dmSc ads G.2.2 o4 o5) G.2.1 wc) H.size q → A q := by
    intro q hq
    rcases hq with ⟨x, y, hx⟩ | hx
    · obtain ⟨j, -, j2⟩ := c2 x _ hx
      exact hD.2 j _ j2
    · exact hAA q (Nat.le_trans hS.1 hx)
  obtain ⟨p1, p2⟩ := dmPop0 hpop
  have hst : st.map (dmCv ads G.2.2) = (as.map (dmCv ads G.2.2)).reverse ++ st'.map (dmCv ads G.2.2) := by
    rw [p2]
    simp
  rw [hst]
  refine dm_back (G := (G.1, G.2.1, dmSc ads G.2.2 o4 o5)) (va_runSN (As := as.map (dmCv ads G.2.2)) (rest := st'.map (dmCv ads G.2.2)) ⟨hx, hb, hml, hown, hts⟩ (hm l (G.1, G.2.1, dmSc ads G.2.2 o4 o5) (dmAc ads is) H.size c1) ⟨cw, hts _ (dmTB_in (dmWd_of g3) rfl), trivial⟩ ⟨dm_blind, fun U hU hW => ⟨?_, by rw [hU], by rw [hU]; exact c3, (hK.warm hW).sad (dmSc_eq ads G.2.2 o4 o5), c4, ?_⟩⟩ rfl (by rw [List.length_map]; exact p1) hL.1.1 rfl (lv_room (dm_cats hcat)) (dmD_of h1) ⟨by omega, by omega⟩) hS (fun q _ h => hfree q h) hfree ?_
  · show (as.map (dmCv ads G.2.2)).toArray = _
    rw [hargs]
  · rw [hU]
    refine dmSF.sad (G := G) (dmSc_eq ads G.2.2 o4 o5) (dmSF.go hW.alike (fun q q1 q2 => hS.2.1 q q1 q2) hS.1 hfree hF)
  · intro r w' ads' H1 locs1 hq hpr hn' hP1 hD1 hz hk hS1
    obtain ⟨rr, es', w1, k1, k2, k3, k4⟩ := k r w' hq
    have hl1 := (dmPut_at k3 hnd).1
    have hl2 := (dmRnW_at k2).1
    have hads : ads' = dmAc ads is := by
      refine (hpr.eq_of_length ?_).symm
      unfold dmAc
      rw [List.length_map]
      omega
    subst hads
    obtain ⟨j1, j2, j3⟩ := dm_join (G := G) h4 h5 hn hP hD hnd hpk hrn k2 k3 hP1 hk
    have hrr : (r.map (dmCv (dmAc ads is) (dmSc ads G.2.2 o4 o5))).toList = rr.map (dmCv ads G.2.2) := by
      cases r with
      | none => simp only [dmRnO] at k1; cases k1; rfl
      | some v =>
        simp only [dmRnO] at k1
        split at k1
        · rename_i u hu
          cases k1
          simp [dmRnV_cv h4 h5 hu]
        · cases k1
    show W p l e Rm s m args below meth c H1 locs1 (kc + mc') (ks + ms') Zf (F0 m (pc + 3) lsC ((r.map (dmCv (dmAc ads is) (dmSc ads G.2.2 o4 o5))).toList ++ st'.map (dmCv ads G.2.2)))
    rw [hrr, ← List.map_append]
    exact k4.at hOK cx0 hp j1 j2 j3 hS1 hL (dmNx_of h2)

theorem G_callN0 (hA : dmAt M.2.2.2.2.1 i = some (pc, .invokestatic idx, nx, a, b, x3, x4, [3])) (hT : dmAt dmT a = some M') (hpop : dmPop b st [] = some (as, st'))
    (hm : GM E M' d mc' ms' as w Qc) (hcat : (st'.map Value.category).sum ≤ 8) (hkc : kc + mc' ≤ mc) (hks : ks + ms' ≤ ms)
    (k : ∀ r w1, Qc r w1 → w1.length = w.length ∧ GW E M (d + 1) mc ms (kc + mc') (ks + ms') (nx, ls, r.toList ++ st', w1) Q) : GW E M (d + 1) mc ms kc ks (i, ls, st, w) Q := by
  intro hOK G p l e Rm s m args below meth c A ads0 Zf cx H locs ads lsC hp hn hP hD hS hL
  have hck := dmOK_at hOK hA
  show W p l e Rm s m args below meth c H locs kc ks Zf (F0 m (dmPc M i) lsC (st.map (dmCv ads G.2.2)))
  rw [dmPc_at hA]
  have cx0 := cx
  obtain ⟨hx, hb, hml, hown, hts, hnm, hK, hF, hAA, ⟨hr1, hr2, hr3, hr4⟩, -⟩ := cx
  simp only [dmCk, Bool.and_eq_true] at hck
  obtain ⟨⟨h1, h2⟩, h3⟩ := hck
  rw [hT] at h3
  simp only [Bool.and_eq_true] at h3
  obtain ⟨⟨g1, g2⟩, g3⟩ := h3
  obtain ⟨m1, m2, m3, m4, m5⟩ := dmMt_of g2
  have cw := va_cnB (R := Rm) (s := s) (args := args) (bytes := M'.2.1) (maxL := M'.2.2.1) (ret := M'.2.2.2.1) (mc := mc') (ms := ms') (rm := dmRm d mc' ms') b hts (dmWs_good m4) rfl rfl rfl (hK.2.2.1 _ (of_decide_eq_true g1)) (hts _ m5) ⟨m2.1, m2.2, m1⟩ ⟨hr1, by show 8 + (M'.2.2.1 + 11) + 40 * d ≤ _; omega⟩
  have hfree : ∀ q, va_A (dmCw ads G.2.2 G.2.1 w) H.size q → A q := by
    intro q hq
    rcases hq with ⟨x, y, hx⟩ | hx
    · exact hD.2 x _ hx
    · exact hAA q (Nat.le_trans hS.1 hx)
  obtain ⟨p1, p2⟩ := dmPop0 hpop
  have hst : st.map (dmCv ads G.2.2) = (as.map (dmCv ads G.2.2)).reverse ++ st'.map (dmCv ads G.2.2) := by
    rw [p2]
    simp
  rw [hst]
  refine dm_back (G := G) (va_runSN (As := as.map (dmCv ads G.2.2)) (rest := st'.map (dmCv ads G.2.2)) ⟨hx, hb, hml, hown, hts⟩ (hm l G ads H.size hn) ⟨cw, hts _ (dmTB_in (dmWd_of g3) rfl), trivial⟩ ⟨dm_blind, fun U hU hW => ⟨rfl, by rw [hU], by rw [hU]; exact hP, hK.warm hW, hD.weaken (fun _ _ _ _ => trivial), ?_⟩⟩ rfl (by rw [List.length_map]; exact p1) hL.1.1 rfl (lv_room (dm_cats hcat)) (dmD_of h1) ⟨by omega, by omega⟩) hS (fun q _ h => hfree q h) hfree ?_
  · rw [hU]
    exact dmSF.go hW.alike (fun q q1 q2 => hS.2.1 q q1 q2) hS.1 hfree hF
  · intro r w' ads' H1 locs1 hq hpr hn' hP1 hD1 hz hk hS1
    obtain ⟨k1, k2⟩ := k r w' hq
    have hads : ads' = ads := (hpr.eq_of_length (Eq.trans (show ads.length = w.length from hn) (k1.symm.trans hn'.symm))).symm
    subst hads
    have hD2 := hD1.weaken (B := A) (fun _ _ _ z => hfree _ z)
    have hrr : (r.map (dmCv ads' G.2.2)).toList = r.toList.map (dmCv ads' G.2.2) := by cases r <;> rfl
    rw [hrr, ← List.map_append]
    exact k2.at hOK cx0 hp hn' hP1 hD2 hS1 hL (dmNx_of h2)

theorem G_callV0 {h ci : Nat} {fs : List Value} (hA : dmAt M.2.2.2.2.1 i = some (pc, .invokevirtual idx, nx, a, b, x3, x4, x5)) (hT : dmAt dmT a = some M') (hpop : dmPop (b + 1) st [] = some (.ref h :: as, st')) (hrc : dmGet w h = some (.inr (ci, fs))) (hcl : (dmCl[ci]?).map (fun q => q.1) = some M'.1.cls)
    (hm : GM E M' d mc' ms' (.ref h :: as) w Qc) (hcat : (st'.map Value.category).sum ≤ 8) (hkc : kc + mc' ≤ mc) (hks : ks + ms' ≤ ms)
    (k : ∀ r w1, Qc r w1 → w1.length = w.length ∧ GW E M (d + 1) mc ms (kc + mc') (ks + ms') (nx, ls, r.toList ++ st', w1) Q) : GW E M (d + 1) mc ms kc ks (i, ls, st, w) Q := by
  intro hOK G p l e Rm s m args below meth c A ads0 Zf cx H locs ads lsC hp hn hP hD hS hL
  have hck := dmOK_at hOK hA
  show W p l e Rm s m args below meth c H locs kc ks Zf (F0 m (dmPc M i) lsC (st.map (dmCv ads G.2.2)))
  rw [dmPc_at hA]
  have cx0 := cx
  obtain ⟨hx, hb, hml, hown, hts, hnm, hK, hF, hAA, ⟨hr1, hr2, hr3, hr4⟩, -⟩ := cx
  simp only [dmCk, Bool.and_eq_true] at hck
  obtain ⟨⟨h1, h2⟩, h3⟩ := hck
  rw [hT] at h3
  simp only [Bool.and_eq_true] at h3
  obtain ⟨⟨⟨g1, g2⟩, g3⟩, g4⟩ := h3
  obtain ⟨m1, m2, m3, m4, m5⟩ := dmMt_of g2
  obtain ⟨p1, p2⟩ := dmPop0 hpop
  have hAs : as.length = b := by simpa using p1
  have hst : st.map (dmCv ads G.2.2) = (as.map (dmCv ads G.2.2)).reverse ++ .ref (ads.getD h 0) :: st'.map (dmCv ads G.2.2) := by
    rw [p2]
    simp [dmCv]
  rw [hst]
  have hfree : ∀ q, va_A (dmCw ads G.2.2 G.2.1 w) H.size q → A q := by
    intro q hq
    rcases hq with ⟨x, y, hx⟩ | hx
    · exact hD.2 x _ hx
    · exact hAA q (Nat.le_trans hS.1 hx)
  have hG : GoodIn dmTB (wsV M.1.cls idx M'.1.cls M'.1 (dmWs M')) := dmGood_cons (dmTB_in (dmWd_of g1) rfl) (dmGood_cons (dmTB_in (dmWd_of g3) rfl) (dmGood_cons (dmTB_in (dmWd_of g4) rfl) (dmGood_cons m5 (dmWs_good m4))))
  have cw := cwV (R := Rm) (s := s) (args := args) (bytes := M'.2.1) (maxL := M'.2.2.1) (ret := M'.2.2.2.1) (mc := mc') (ms := ms') (rm := dmRm d mc' ms') b hts hG rfl rfl rfl ⟨rfl, m2.1, m2.2, m1⟩ ⟨hr1, by show 8 + (M'.2.2.1 + 11) + 40 * d ≤ _; omega⟩
  have hobj : ∃ cell : Cell, H[ads.getD h 0]? = some cell ∧ cell.vm.isStatics = false ∧ s.vm.findClass M'.1.cls = some cell.cls := by
    cases hq : dmCl[ci]? with
    | none => rw [hq] at hcl; cases hcl
    | some q =>
      rw [hq] at hcl
      have e : q.1 = M'.1.cls := Option.some.inj hcl
      obtain ⟨cell, z1, z2, z3⟩ := va_recv hK.1 hP (ci := ci) (q0 := h) (a := ads.getD h 0) (fs := fs.map (dmCv ads G.2.2)) hq (by rw [dmCw_get hn hrc, dmCe_ob (dm_cl100 hq)])
      exact ⟨cell, z1, z2, by rw [← e]; exact z3⟩
  refine dm_back (G := G) (va_runV (As := as.map (dmCv ads G.2.2)) (rest := st'.map (dmCv ads G.2.2)) ⟨hx, hb, hml, hown, hts⟩ (hm l G ads H.size hn) cw ⟨dm_blind, hobj, fun U hU hW => ⟨rfl, by rw [hU], by rw [hU]; exact hP, hK.warm hW, hD.weaken (fun _ _ _ _ => trivial), ?_⟩⟩ rfl (by rw [List.length_map]; exact hAs) hL.1.1 rfl (lv_room (dm_cats hcat)) (dmD_of h1) ⟨by omega, by omega⟩) hS (fun q _ h => hfree q h) hfree ?_
  · rw [hU]
    exact dmSF.go hW.alike (fun q q1 q2 => hS.2.1 q q1 q2) hS.1 hfree hF
  · intro r w' ads' H1 locs1 hq hpr hn' hP1 hD1 hz hk hS1
    obtain ⟨k1, k2⟩ := k r w' hq
    have hads : ads' = ads := (hpr.eq_of_length (Eq.trans (show ads.length = w.length from hn) (k1.symm.trans hn'.symm))).symm
    subst hads
    have hD2 := hD1.weaken (B := A) (fun _ _ _ z => hfree _ z)
    have hrr : (r.map (dmCv ads' G.2.2)).toList = r.toList.map (dmCv ads' G.2.2) := by cases r <;> rfl
    rw [hrr, ← List.map_append]
    exact k2.at hOK cx0 hp hn' hP1 hD2 hS1 hL (dmNx_of h2)

end GC2
end
section
/-! MATH, COPIES, NEW CELLS -/
theorem iMax : (Cond.static Lib.Math.max.name ∈ dmTB ∧ Cond.code Lib.Math.max.name Lib.Math.max.code 2 (some .int) ∈ dmTB) := by decide +kernel
theorem iMin : (Cond.static Lib.Math.min.name ∈ dmTB ∧ Cond.code Lib.Math.min.name Lib.Math.min.code 2 (some .int) ∈ dmTB) := by decide +kernel
theorem iAbs : (Cond.static Lib.Math.abs.name ∈ dmTB ∧ Cond.code Lib.Math.abs.name Lib.Math.abs.code 1 (some .int) ∈ dmTB) := by decide +kernel
theorem iMath : Cond.initialized "java/lang/Math" ∈ dmTB := by decide +kernel
theorem iCopy : (Cond.native arraycopyName ∈ dmTB ∧ Cond.static arraycopyName ∈ dmTB ∧ Cond.initialized "java/lang/System" ∈ dmTB) := by decide +kernel
theorem iObj : (Cond.instanceMethod Lib.objectInit ∈ dmTB ∧ Cond.code Lib.objectInit ⟨#[0xb1]⟩ 1 none ∈ dmTB) := by decide +kernel
theorem iCopyW : nativeFrameWords "java/lang/System" "arraycopy" 5 ≤ 20 := by decide
section GM1
variable {E : dmX} {M : dmM} {d mc ms kc ks i pc idx nx a b x4 : Nat} {x3 : Int32} {ls st : List Value} {w : dmW} {Q : Option Value → dmW → Prop}
theorem G_max {x y : Int32} (hA : dmAt M.2.2.2.2.1 i = some (pc, .invokestatic idx, nx, a, b, x3, x4, [4])) (hcat : (st.map Value.category).sum ≤ 8) (hkc : kc ≤ mc) (hks : ks ≤ ms)
    (k : GW E M (d + 1) mc ms kc ks (nx, ls, .int (if x < y then y else x) :: st, w) Q) : GW E M (d + 1) mc ms kc ks (i, ls, .int y :: .int x :: st, w) Q := by
  intro hOK G p l e Rm s m args below meth c A ads0 Zf cx H locs ads lsC hp hn hP hD hS hL
  have hck := dmOK_at hOK hA
  show W p l e Rm s m args below meth c H locs kc ks Zf (F0 m (dmPc M i) lsC (.int y :: .int x :: st.map (dmCv ads G.2.2)))
  rw [dmPc_at hA]
  have cx0 := cx
  obtain ⟨hx, hb, hml, hown, hts, hnm, hK, hF, hAA, ⟨hr1, hr2, hr3, hr4⟩, -⟩ := cx
  simp only [dmCk, Bool.and_eq_true] at hck
  have h8 := dm_cats (ads := ads) (sad := G.2.2) hcat
  exact va_mmax hx hb (hml.trans hL.1.1.symm) hown (hts _ (dmTB_in (dmWd_of hck.2) rfl)) (hts _ iMax.1) (hts _ iMath) (hts _ iMax.2) (by omega) (by omega) (by omega) (by omega) (dmD_of hck.1.1) (k.at hOK cx0 hp hn hP hD hS hL (dmNx_of hck.1.2))
theorem G_min {x y : Int32} (hA : dmAt M.2.2.2.2.1 i = some (pc, .invokestatic idx, nx, a, b, x3, x4, [5])) (hcat : (st.map Value.category).sum ≤ 8) (hkc : kc ≤ mc) (hks : ks ≤ ms)
    (k : GW E M (d + 1) mc ms kc ks (nx, ls, .int (if y < x then y else x) :: st, w) Q) : GW E M (d + 1) mc ms kc ks (i, ls, .int y :: .int x :: st, w) Q := by
  intro hOK G p l e Rm s m args below meth c A ads0 Zf cx H locs ads lsC hp hn hP hD hS hL
  have hck := dmOK_at hOK hA
  show W p l e Rm s m args below meth c H locs kc ks Zf (F0 m (dmPc M i) lsC (.int y :: .int x :: st.map (dmCv ads G.2.2)))
  rw [dmPc_at hA]
  have cx0 := cx
  obtain ⟨hx, hb, hml, hown, hts, hnm, hK, hF, hAA, ⟨hr1, hr2, hr3, hr4⟩, -⟩ := cx
  simp only [dmCk, Bool.and_eq_true] at hck
  have h8 := dm_cats (ads := ads) (sad := G.2.2) hcat
  exact va_mmin hx hb (hml.trans hL.1.1.symm) hown (hts _ (dmTB_in (dmWd_of hck.2) rfl)) (hts _ iMin.1) (hts _ iMath) (hts _ iMin.2) (by omega) (by omega) (by omega) (by omega) (dmD_of hck.1.1) (k.at hOK cx0 hp hn hP hD hS hL (dmNx_of hck.1.2))
theorem G_abs {x : Int32} (hA : dmAt M.2.2.2.2.1 i = some (pc, .invokestatic idx, nx, a, b, x3, x4, [6])) (hcat : (st.map Value.category).sum ≤ 8) (hkc : kc ≤ mc) (hks : ks ≤ ms)
    (k : GW E M (d + 1) mc ms kc ks (nx, ls, .int (if 0 ≤ x then x else 0 - x) :: st, w) Q) : GW E M (d + 1) mc ms kc ks (i, ls, .int x :: st, w) Q := by
  intro hOK G p l e Rm s m args below meth c A ads0 Zf cx H locs ads lsC hp hn hP hD hS hL
  have hck := dmOK_at hOK hA
  show W p l e Rm s m args below meth c H locs kc ks Zf (F0 m (dmPc M i) lsC (.int x :: st.map (dmCv ads G.2.2)))
  rw [dmPc_at hA]
  have cx0 := cx
  obtain ⟨hx, hb, hml, hown, hts, hnm, hK, hF, hAA, ⟨hr1, hr2, hr3, hr4⟩, -⟩ := cx
  simp only [dmCk, Bool.and_eq_true] at hck
  have h8 := dm_cats (ads := ads) (sad := G.2.2) hcat
  exact va_mabs hx hb (hml.trans hL.1.1.symm) hown (hts _ (dmTB_in (dmWd_of hck.2) rfl)) (hts _ iAbs.1) (hts _ iMath) (hts _ iAbs.2) (by omega) (by omega) (by omega) (by omega) (dmD_of hck.1.1) (k.at hOK cx0 hp hn hP hD hS hL (dmNx_of hck.1.2))
theorem G_copyi (sp dp n : Nat) {sp' dp' n' : Int32} {h0 h1 n0 n1 : Nat} {f g : Nat → Int32} {w' : dmW} (hA : dmAt M.2.2.2.2.1 i = some (pc, .invokestatic idx, nx, a, b, x3, x4, [7])) (hw0 : dmGet w h0 = some (.inl (0, n0, .inl f))) (hw1 : dmGet w h1 = some (.inl (0, n1, .inl g))) (hs : dmSet w h1 (.inl (0, n1, .inl (va_cpy f g sp dp n))) = some w')
    (e1 : sp' = nI sp) (e2 : dp' = nI dp) (e3 : n' = nI n) (hb1 : sp + n ≤ n0) (hb2 : dp + n ≤ n1) (hn0 : n0 < 2147483648) (hn1 : n1 < 2147483648) (hcat : (st.map Value.category).sum ≤ 8)
    (k : GW E M (d + 1) mc ms kc ks (nx, ls, st, w') Q) : GW E M (d + 1) mc ms kc ks (i, ls, .int n' :: .int dp' :: .ref h1 :: .int sp' :: .ref h0 :: st, w) Q := by
  intro hOK G p l e Rm s m args below meth c A ads0 Zf cx H locs ads lsC hp hn hP hD hS hL
  have hck := dmOK_at hOK hA
  show W p l e Rm s m args below meth c H locs kc ks Zf (F0 m (dmPc M i) lsC (.int n' :: .int dp' :: .ref (ads.getD h1 0) :: .int sp' :: .ref (ads.getD h0 0) :: st.map (dmCv ads G.2.2)))
  rw [dmPc_at hA]
  have cx0 := cx
  obtain ⟨hx, hb, hml, hown, hts, hnm, hK, hF, hAA, ⟨hr1, hr2, hr3, hr4⟩, -⟩ := cx
  simp only [dmCk, Bool.and_eq_true] at hck
  have h8 := dm_cats (ads := ads) (sad := G.2.2) hcat
  have hcw := iCopyW
  subst e1; subst e2; subst e3
  have q1 : (nI sp).toNatClampNeg = sp := nI_clamp (by omega)
  have q2 : (nI dp).toNatClampNeg = dp := nI_clamp (by omega)
  have q3 : (nI n).toNatClampNeg = n := nI_clamp (by omega)
  have hset := dmCw_set (ads := ads) (sad := G.2.2) (dA := G.2.1) hn hs
  refine va_copyi (ty := .int) hx hb (hml.trans hL.1.1.symm) hown (hts _ (dmTB_in (dmWd_of hck.2) rfl)) (hts _ iCopy.1) (hts _ iCopy.2.1) (hts _ iCopy.2.2) hK.1 hP hD hS h0 h1 0 0 (dmCw_get hn hw0) (dmCw_get hn hw1) rfl rfl rfl (nI_pos (by omega)) (nI_pos (by omega)) (nI_pos (by omega)) (by rw [q1, q3]; exact hb1) (by rw [q2, q3]; exact hb2) (fun _ _ => rfl) (by omega) (by omega) (dmD_of hck.1.1) (fun H1 locs1 hP1 hD1 hS1 => ?_)
  rw [q1, q2, q3] at hP1 hD1
  have e9 : (dmCw ads G.2.2 G.2.1 w).set h1 (ads.getD h1 0, .inl (G.2.1 0, n1, .inl (va_cpy f g sp dp n))) = dmCw ads G.2.2 G.2.1 w' := hset.1
  rw [e9] at hP1 hD1
  exact k.at hOK cx0 hp hset.2 hP1 hD1 hS1 hL (dmNx_of hck.1.2)
theorem G_copyl (sp dp n : Nat) {sp' dp' n' : Int32} {h0 h1 n0 n1 : Nat} {f g : Nat → Int64} {w' : dmW} (hA : dmAt M.2.2.2.2.1 i = some (pc, .invokestatic idx, nx, a, b, x3, x4, [7])) (hw0 : dmGet w h0 = some (.inl (1, n0, .inr (.inl f)))) (hw1 : dmGet w h1 = some (.inl (1, n1, .inr (.inl g)))) (hs : dmSet w h1 (.inl (1, n1, .inr (.inl (va_cpy f g sp dp n)))) = some w')
    (e1 : sp' = nI sp) (e2 : dp' = nI dp) (e3 : n' = nI n) (hb1 : sp + n ≤ n0) (hb2 : dp + n ≤ n1) (hn0 : n0 < 2147483648) (hn1 : n1 < 2147483648) (hcat : (st.map Value.category).sum ≤ 8)
    (k : GW E M (d + 1) mc ms kc ks (nx, ls, st, w') Q) : GW E M (d + 1) mc ms kc ks (i, ls, .int n' :: .int dp' :: .ref h1 :: .int sp' :: .ref h0 :: st, w) Q := by
  intro hOK G p l e Rm s m args below meth c A ads0 Zf cx H locs ads lsC hp hn hP hD hS hL
  have hck := dmOK_at hOK hA
  show W p l e Rm s m args below meth c H locs kc ks Zf (F0 m (dmPc M i) lsC (.int n' :: .int dp' :: .ref (ads.getD h1 0) :: .int sp' :: .ref (ads.getD h0 0) :: st.map (dmCv ads G.2.2)))
  rw [dmPc_at hA]
  have cx0 := cx
  obtain ⟨hx, hb, hml, hown, hts, hnm, hK, hF, hAA, ⟨hr1, hr2, hr3, hr4⟩, -⟩ := cx
  simp only [dmCk, Bool.and_eq_true] at hck
  have h8 := dm_cats (ads := ads) (sad := G.2.2) hcat
  have hcw := iCopyW
  subst e1; subst e2; subst e3
  have q1 : (nI sp).toNatClampNeg = sp := nI_clamp (by omega)
  have q2 : (nI dp).toNatClampNeg = dp := nI_clamp (by omega)
  have q3 : (nI n).toNatClampNeg = n := nI_clamp (by omega)
  have hset := dmCw_set (ads := ads) (sad := G.2.2) (dA := G.2.1) hn hs
  refine va_copyl (ty := .long) hx hb (hml.trans hL.1.1.symm) hown (hts _ (dmTB_in (dmWd_of hck.2) rfl)) (hts _ iCopy.1) (hts _ iCopy.2.1) (hts _ iCopy.2.2) hK.1 hP hD hS h0 h1 1 1 (dmCw_get hn hw0) (dmCw_get hn hw1) rfl rfl rfl (nI_pos (by omega)) (nI_pos (by omega)) (nI_pos (by omega)) (by rw [q1, q3]; exact hb1) (by rw [q2, q3]; exact hb2) (fun _ _ => rfl) (by omega) (by omega) (dmD_of hck.1.1) (fun H1 locs1 hP1 hD1 hS1 => ?_)
  rw [q1, q2, q3] at hP1 hD1
  have e9 : (dmCw ads G.2.2 G.2.1 w).set h1 (ads.getD h1 0, .inl (G.2.1 1, n1, .inr (.inl (va_cpy f g sp dp n)))) = dmCw ads G.2.2 G.2.1 w' := hset.1
  rw [e9] at hP1 hD1
  exact k.at hOK cx0 hp hset.2 hP1 hD1 hS1 hL (dmNx_of hck.1.2)
theorem G_obj {h : Nat} (hA : dmAt M.2.2.2.2.1 i = some (pc, .invokespecial idx, nx, a, b, x3, x4, [8])) (hcat : (st.map Value.category).sum ≤ 8)
    (k : GW E M (d + 1) mc ms kc ks (nx, ls, st, w) Q) : GW E M (d + 1) mc ms kc ks (i, ls, .ref h :: st, w) Q := by
  intro hOK G p l e Rm s m args below meth c A ads0 Zf cx H locs ads lsC hp hn hP hD hS hL
  have hck := dmOK_at hOK hA
  show W p l e Rm s m args below meth c H locs kc ks Zf (F0 m (dmPc M i) lsC (.ref (ads.getD h 0) :: st.map (dmCv ads G.2.2)))
  rw [dmPc_at hA]
  have cx0 := cx
  obtain ⟨hx, hb, hml, hown, hts, hnm, hK, hF, hAA, ⟨hr1, hr2, hr3, hr4⟩, -⟩ := cx
  simp only [dmCk, Bool.and_eq_true] at hck
  have h8 := dm_cats (ads := ads) (sad := G.2.2) hcat
  have h9 : 2 * (F0 m pc lsC (.ref (ads.getD h 0) :: st.map (dmCv ads G.2.2))).monitorRoom + ((st.map (dmCv ads G.2.2)).map fun v => v.category).sum ≤ 8 := lv_room h8
  refine W.objInit hx hb hown (hts _ (dmTB_in (dmWd_of hck.2) rfl)) (hts _ iObj.1) (hts _ iObj.2) rfl (hL.1.1.trans hml.symm) rfl (dmD_of hck.1.1) (by omega) (by show 2 * (F0 m pc lsC (.ref (ads.getD h 0) :: st.map (dmCv ads G.2.2))).monitorRoom + ((st.map (dmCv ads G.2.2)).map fun v => v.category).sum + 12 ≤ _; omega) ?_
  exact k.at hOK cx0 hp hn hP hD hS hL (dmNx_of hck.1.2)
end GM1
end
section
/-! NEW CELLS -/
theorem iIn0 : Cond.instantiable RX0 12 ∈ dmTB ∧ Cond.initialized RX0 ∈ dmTB := by decide +kernel
theorem iIn1 : Cond.instantiable RX1 5 ∈ dmTB ∧ Cond.initialized RX1 ∈ dmTB := by decide +kernel
theorem iIn2 : Cond.instantiable RX2 3 ∈ dmTB ∧ Cond.initialized RX2 ∈ dmTB := by decide +kernel
theorem iIn3 : Cond.instantiable RX3 11 ∈ dmTB ∧ Cond.initialized RX3 ∈ dmTB := by decide +kernel
theorem iIn4 : Cond.instantiable RX4 6 ∈ dmTB ∧ Cond.initialized RX4 ∈ dmTB := by decide +kernel
theorem iIn5 : Cond.instantiable RX5 10 ∈ dmTB ∧ Cond.initialized RX5 ∈ dmTB := by decide +kernel
theorem iIn6 : Cond.instantiable RX6 29 ∈ dmTB ∧ Cond.initialized RX6 ∈ dmTB := by decide +kernel
theorem dm_inst {b : Nat} {C : String} {T : u_T} {N : Nat} (h : dmCl[b]? = some (C, T, N)) : Cond.instantiable C N ∈ dmTB ∧ Cond.initialized C ∈ dmTB := by
  match b, h with
  | 0, h => cases h; exact iIn0
  | 1, h => cases h; exact iIn1
  | 2, h => cases h; exact iIn2
  | 3, h => cases h; exact iIn3
  | 4, h => cases h; exact iIn4
  | 5, h => cases h; exact iIn5
  | 6, h => cases h; exact iIn6
  | k + 7, h => simp at h
theorem iArr : Cond.arrayClass .int ∈ dmTB ∧ Cond.arrayClass .long ∈ dmTB := by decide +kernel
/-- references only to what is there -/
def dmWfV (n : Nat) : Value → Bool
  | .ref h => Nat.blt h n
  | _ => true
def dmWfE (n : Nat) : va_E → Bool
  | .inl _ => true
  | .inr (_, fs) => fs.all (dmWfV n)
def dmWf (n : Nat) (w : dmW) (ls : List Value) : Bool := w.all (dmWfE n) && ls.all (dmWfV n)
def dmApp : dmW → dmW → Option dmW
  | [], es => some es
  | a :: w, es => match dmApp w es with
    | some r => some (a :: r)
    | none => none
theorem dmApp_eq : ∀ (w es r : dmW), dmApp w es = some r → r = w ++ es
  | [], es, r, h => by simp only [dmApp] at h; cases h; rfl
  | a :: w, es, r, h => by
    simp only [dmApp] at h
    split at h
    · rename_i r' hr
      cases h
      rw [dmApp_eq w es r' hr]
      rfl
    · cases h
theorem dmWfV_cv {ads ex : List Nat} {sad : Nat → Nat} {v : Value} (h : dmWfV ads.length v = true) : dmCv (ads ++ ex) sad v = dmCv ads sad v := by
  cases v with
  | ref k =>
    have hk : k < ads.length := Nat.le_of_ble_eq_true h
    simp only [dmCv]
    rw [List.getD_eq_getElem?_getD, List.getD_eq_getElem?_getD, List.getElem?_append_left hk]
  | _ => rfl
theorem dmWfL_cv {ads ex : List Nat} {sad : Nat → Nat} {vs : List Value} (h : vs.all (dmWfV ads.length) = true) : vs.map (dmCv (ads ++ ex) sad) = vs.map (dmCv ads sad) :=
  List.map_congr_left fun v hv => dmWfV_cv (List.all_eq_true.mp h v hv)
theorem dmWfE_ce {ads ex : List Nat} {sad : Nat → Nat} {dA : Nat → ClassId} {e : va_E} (h : dmWfE ads.length e = true) : dmCe (ads ++ ex) sad dA e = dmCe ads sad dA e := by
  cases e with
  | inl x => rfl
  | inr x =>
    obtain ⟨c, fs⟩ := x
    have h : fs.all (dmWfV ads.length) = true := h
    simp only [dmCe]
    have h2 : dmRf (ads ++ ex) fs = dmRf ads fs := by
      funext k
      unfold dmRf
      cases hv : fs[k]? with
      | none => rfl
      | some v =>
        have h3 := List.all_eq_true.mp h v (List.mem_of_getElem? hv)
        cases v with
        | ref q =>
          have h4 := dmWfV_cv (ex := ex) (sad := sad) h3
          simpa [dmCv] using h4
        | _ => rfl
    rw [dmWfL_cv h, h2]
theorem dmCw_app {ads ex : List Nat} {sad : Nat → Nat} {dA : Nat → ClassId} {w es : dmW} (hn : ads.length = w.length) (hwf : w.all (dmWfE ads.length) = true) : dmCw (ads ++ ex) sad dA (w ++ es) = dmCw ads sad dA w ++ List.zipWith (fun a e => (a, dmCe (ads ++ ex) sad dA e)) ex es := by
  unfold dmCw
  rw [List.zipWith_append hn]
  congr 1
  apply List.ext_getElem?
  intro k
  rw [List.getElem?_zipWith, List.getElem?_zipWith]
  cases ha : ads[k]? with
  | none => rfl
  | some a =>
    cases he : w[k]? with
    | none => rfl
    | some e =>
      simp only
      rw [dmWfE_ce (List.all_eq_true.mp hwf e (List.mem_of_getElem? he))]
theorem dmLR_app {ads ex : List Nat} {sad : Nat → Nat} {nL : Nat} {ls : List Value} {lsC : Array Slot} (hwf : ls.all (dmWfV ads.length) = true) (h : dmLR ads sad nL ls lsC) : dmLR (ads ++ ex) sad nL ls lsC := by
  refine ⟨⟨h.1.1, h.1.2.1, fun q hq => h.1.2.2 q ?_⟩, h.2⟩
  obtain ⟨v, h1, h2, h3⟩ := dmPairs_mem.mp hq
  refine dmPairs_mem.mpr ⟨v, h1, h2, ?_⟩
  rw [h3]
  exact dmWfV_cv (List.all_eq_true.mp hwf v (dmGet_mem h1))
/-- what a fresh object holds -/
def dmPrim : Value → Bool
  | .int _ => true
  | .null => true
  | _ => false
theorem dmPrim_cv {ads : List Nat} {sad : Nat → Nat} {vs : List Value} (h : vs.all dmPrim = true) : vs.map (dmCv ads sad) = vs := by
  conv => rhs; rw [← List.map_id vs]
  refine List.map_congr_left fun v hv => ?_
  have h1 := List.all_eq_true.mp h v hv
  cases v <;> simp_all [dmPrim, dmCv]
section GN
variable {E : dmX} {M : dmM} {d mc ms kc ks i pc idx nx b x4 : Nat} {x3 : Int32} {x5 : List Nat} {ls st : List Value} {w : dmW} {Q : Option Value → dmW → Prop}
theorem G_new {h a N : Nat} {C : String} {T : u_T} {fs : List Value} {w' : dmW} (hA : dmAt M.2.2.2.2.1 i = some (pc, .new idx, nx, a, b, x3, x4, x5)) (hcl : dmCl[a]? = some (C, T, N)) (hfs : ∀ j, j < N → defaultValue (dmTy a j) = vp_V fs j) (hpr : fs.all dmPrim = true) (hh : w.length = h) (hw : dmApp w [.inr (a, fs)] = some w') (hwf : dmWf h w (ls ++ st) = true) (hkc : kc + 1 ≤ mc) (hks : ks + N ≤ ms)
    (k : GW E M d mc ms (kc + 1) (ks + N) (nx, ls, .ref h :: st, w') Q) : GW E M d mc ms kc ks (i, ls, st, w) Q := by
  intro hOK G p l e Rm s m args below meth c A ads0 Zf cx H locs ads lsC hp hn hP hD hS hL
  have hn : ads.length = w.length := hn
  have hck := dmOK_at hOK hA
  show W p l e Rm s m args below meth c H locs kc ks Zf (F0 m (dmPc M i) lsC (st.map (dmCv ads G.2.2)))
  rw [dmPc_at hA]
  have cx0 := cx
  obtain ⟨hx, hb, hml, hown, hts, hnm, hK, hF, hAA, ⟨hr1, hr2, hr3, hr4⟩, -⟩ := cx
  simp only [dmCk, Bool.and_eq_true] at hck
  obtain ⟨⟨h1, h2⟩, h3⟩ := hck
  rw [hcl] at h3
  have hwf := (Bool.and_eq_true _ _).mp hwf
  subst hh
  rw [← hn] at hwf
  have hwl := hwf.2
  rw [List.all_append, Bool.and_eq_true] at hwl
  refine va_new (ci := a) (fs := fs) hx hb hts (dm_cls hcl).1 (dmTy a) (dm_cls hcl).2.1 hown (hts _ (dmTB_in (dmWd_of h3) rfl)) (hts _ (dm_inst hcl).1) (hts _ (dm_inst hcl).2) hK.1 hP hD hS hAA hcl hfs (by omega) (by omega) (dmD_of h1) (fun q H1 hP1 hD1 hS1 => ?_)
  have hw' := dmApp_eq _ _ _ hw
  have e1 : dmCw (ads ++ [q]) G.2.2 G.2.1 w' = dmCw ads G.2.2 G.2.1 w ++ [(q, .inr (a, fs))] := by
    rw [hw', dmCw_app hn hwf.1]
    simp only [List.zipWith_cons_cons, List.zipWith_nil_right, dmCe_ob (dm_cl100 hcl), dmPrim_cv hpr]
  rw [← e1] at hP1 hD1
  have hq := k.at hOK cx0 (ads := ads ++ [q]) (hp.trans (List.prefix_append _ _)) (by rw [hw']; simp [hn]) hP1 hD1 hS1 (dmLR_app hwl.1 hL) (dmNx_of h2)
  have e2 : (Value.ref w.length :: st).map (dmCv (ads ++ [q]) G.2.2) = .ref q :: st.map (dmCv ads G.2.2) := by
    rw [List.map_cons, dmWfL_cv hwl.2]
    simp [dmCv, ← hn]
  rw [e2] at hq
  exact hq
theorem dm_cls_eq {G : dmG} {s : State} {tys : List (ClassId × FieldType)} {k t : Nat} {cA : ClassId} {ty : FieldType} (hK : va_K G.1 dmCl tys s) (h : tys[k]? = some (cA, ty)) (h2 : va_K G.1 dmCl (dmTys G.2.1) s) (h3 : (dmTys G.2.1)[t]? = some (G.2.1 t, ty)) (hno : ∀ C, ty ≠ .object C) : cA = G.2.1 t := by
  have a1 := (hK.2 k _ h).2
  have a2 := (h2.2 t _ h3).2
  cases ty with
  | object C => exact absurd rfl (hno C)
  | _ =>
    simp only [va_RA] at a1 a2
    rw [a1] at a2
    exact Option.some.inj a2
theorem G_newi (n : Nat) {n' : Int32} {h : Nat} {w' : dmW} (hA : dmAt M.2.2.2.2.1 i = some (pc, .newarray .int, nx, idx, b, x3, x4, x5)) (hn' : n' = nI n) (hnb : n ≤ 1000) (hh : w.length = h) (hw : dmApp w [.inl (0, n, .inl (fun _ => 0))] = some w') (hwf : dmWf h w (ls ++ st) = true) (hkc : kc + 1 ≤ mc) (hks : ks + n ≤ ms)
    (k : GW E M d mc ms (kc + 1) (ks + n) (nx, ls, .ref h :: st, w') Q) : GW E M d mc ms kc ks (i, ls, .int n' :: st, w) Q := by
  intro hOK G p l e Rm s m args below meth c A ads0 Zf cx H locs ads lsC hp hn hP hD hS hL
  have hn : ads.length = w.length := hn
  have hck := dmOK_at hOK hA
  show W p l e Rm s m args below meth c H locs kc ks Zf (F0 m (dmPc M i) lsC (.int n' :: st.map (dmCv ads G.2.2)))
  rw [dmPc_at hA]
  have cx0 := cx
  obtain ⟨hx, hb, hml, hown, hts, hnm, hK, hF, hAA, ⟨hr1, hr2, hr3, hr4⟩, -⟩ := cx
  simp only [dmCk, Bool.and_eq_true] at hck
  have hwf := (Bool.and_eq_true _ _).mp hwf
  subst hh
  subst hn'
  rw [← hn] at hwf
  have hwl := hwf.2
  rw [List.all_append, Bool.and_eq_true] at hwl
  refine va_newa (atype := .int) (ty := .int) (n := nI n) (N' := n) (a0 := (n, .inl (fun _ => 0))) hx hb (hts _ iArr.1) rfl hK.1 hP hD hS hAA (fun cA => rfl) (nI_pos (by omega)) (nI_clamp (by omega)) (by show n * 4 ≤ _; omega) (by omega) (by omega) (dmD_of hck.1) (fun q cA H1 hK1 hP1 hD1 hS1 => ?_)
  have hcA : cA = G.2.1 0 := dm_cls_eq (t := 0) hK1 (k := 3) rfl hK.1 rfl (fun C e => by cases e)
  subst hcA
  have hw' := dmApp_eq _ _ _ hw
  have e1 : dmCw (ads ++ [q]) G.2.2 G.2.1 w' = dmCw ads G.2.2 G.2.1 w ++ [(q, .inl (G.2.1 0, n, .inl (fun _ => 0)))] := by
    rw [hw', dmCw_app hn hwf.1]
    rfl
  rw [← e1] at hP1 hD1
  have hq := k.at hOK cx0 (ads := ads ++ [q]) (hp.trans (List.prefix_append _ _)) (by rw [hw']; simp [hn]) hP1 hD1 hS1 (dmLR_app hwl.1 hL) (dmNx_of hck.2)
  have e2 : (Value.ref w.length :: st).map (dmCv (ads ++ [q]) G.2.2) = .ref q :: st.map (dmCv ads G.2.2) := by
    rw [List.map_cons, dmWfL_cv hwl.2]
    simp [dmCv, ← hn]
  rw [e2] at hq
  exact hq
theorem G_newl (n : Nat) {n' : Int32} {h : Nat} {w' : dmW} (hA : dmAt M.2.2.2.2.1 i = some (pc, .newarray .long, nx, idx, b, x3, x4, x5)) (hn' : n' = nI n) (hnb : n ≤ 2000) (hh : w.length = h) (hw : dmApp w [.inl (1, n, .inr (.inl (fun _ => 0)))] = some w') (hwf : dmWf h w (ls ++ st) = true) (hkc : kc + 1 ≤ mc) (hks : ks + n ≤ ms)
    (k : GW E M d mc ms (kc + 1) (ks + n) (nx, ls, .ref h :: st, w') Q) : GW E M d mc ms kc ks (i, ls, .int n' :: st, w) Q := by
  intro hOK G p l e Rm s m args below meth c A ads0 Zf cx H locs ads lsC hp hn hP hD hS hL
  have hn : ads.length = w.length := hn
  have hck := dmOK_at hOK hA
  show W p l e Rm s m args below meth c H locs kc ks Zf (F0 m (dmPc M i) lsC (.int n' :: st.map (dmCv ads G.2.2)))
  rw [dmPc_at hA]
  have cx0 := cx
  obtain ⟨hx, hb, hml, hown, hts, hnm, hK, hF, hAA, ⟨hr1, hr2, hr3, hr4⟩, -⟩ := cx
  simp only [dmCk, Bool.and_eq_true] at hck
  have hwf := (Bool.and_eq_true _ _).mp hwf
  subst hh
  subst hn'
  rw [← hn] at hwf
  have hwl := hwf.2
  rw [List.all_append, Bool.and_eq_true] at hwl
  refine va_newa (atype := .long) (ty := .long) (n := nI n) (N' := n) (a0 := (n, .inr (.inl (fun _ => 0)))) hx hb (hts _ iArr.2) rfl hK.1 hP hD hS hAA (fun cA => rfl) (nI_pos (by omega)) (nI_clamp (by omega)) (by show n * 8 ≤ _; omega) (by omega) (by omega) (dmD_of hck.1) (fun q cA H1 hK1 hP1 hD1 hS1 => ?_)
  have hcA : cA = G.2.1 1 := dm_cls_eq (t := 1) hK1 (k := 3) rfl hK.1 rfl (fun C e => by cases e)
  subst hcA
  have hw' := dmApp_eq _ _ _ hw
  have e1 : dmCw (ads ++ [q]) G.2.2 G.2.1 w' = dmCw ads G.2.2 G.2.1 w ++ [(q, .inl (G.2.1 1, n, .inr (.inl (fun _ => 0))))] := by
    rw [hw', dmCw_app hn hwf.1]
    rfl
  rw [← e1] at hP1 hD1
  have hq := k.at hOK cx0 (ads := ads ++ [q]) (hp.trans (List.prefix_append _ _)) (by rw [hw']; simp [hn]) hP1 hD1 hS1 (dmLR_app hwl.1 hL) (dmNx_of hck.2)
  have e2 : (Value.ref w.length :: st).map (dmCv (ads ++ [q]) G.2.2) = .ref q :: st.map (dmCv ads G.2.2) := by
    rw [List.map_cons, dmWfL_cv hwl.2]
    simp [dmCv, ← hn]
  rw [e2] at hq
  exact hq
end GN
end
section
/-! TEXT CONSTANTS; A CONSTRUCTOR'S CALL -/
def dmLen (k : Nat) : Nat := (dmStr.map (fun y => y.2.2.length)).getD k 0
def dmByt (k j : Nat) : Int32 := ((dmStr.map (fun y => dmBytes y.2.2)).getD k []).getD j 0
section GS
variable {E : dmX} {M M' : dmM} {d mc ms kc ks mc' ms' i pc idx nx b x4 : Nat} {a : Nat} {x3 : Int32} {x5 : List Nat} {ls st st' as as' : List Value} {w wc es : dmW} {Q Qc : Option Value → dmW → Prop}
theorem G_sgetv (k : Nat) (hA : dmAt M.2.2.2.2.1 i = some (pc, .getfield idx, nx, 0, 7, x3, x4, x5)) (hk : k < 10)
    (K : GW E M d mc ms kc ks (nx, ls, .retAddr (k + 31) :: st, w) Q) : GW E M d mc ms kc ks (i, ls, .retAddr (k + 11) :: st, w) Q := by
  intro hOK G p l e Rm s m args below meth c A ads0 Zf cx H locs ads lsC hp hl hP hD hS hL
  have hck := dmOK_at hOK hA
  show W p l e Rm s m args below meth c H locs kc ks Zf (F0 m (dmPc M i) lsC (.ref (G.2.2 (k + 10)) :: st.map (dmCv ads G.2.2)))
  rw [dmPc_at hA]
  have cx0 := cx
  obtain ⟨hx, hb, hml, hown, hts, hnm, hK, hF, hAA, hR, -⟩ := cx
  simp only [dmCk, Bool.and_eq_true] at hck
  obtain ⟨⟨h1, h2⟩, h3⟩ := hck
  have h3 : dmWd x4 (.fieldLink M.1.cls idx "java/lang/String" "value" "[B") = true := h3
  have h4 := (hF.2.2.1.1 k hk).2.2.1
  refine vk_getf (v := .ref (G.2.2 (k + 30))) hx hb (by rw [Nat.add_comm k 10, Nat.add_comm k 30]; exact h4) hS hown (hts _ (dmTB_in (dmWd_of h3) rfl)) (fun _ z => z) (dmD_of h1) ?_
  exact K.at hOK cx0 hp hl hP hD hS hL (dmNx_of h2)
theorem G_sgetc (k : Nat) (hA : dmAt M.2.2.2.2.1 i = some (pc, .getfield idx, nx, 1, 7, x3, x4, x5)) (hk : k < 10)
    (K : GW E M d mc ms kc ks (nx, ls, .int 0 :: st, w) Q) : GW E M d mc ms kc ks (i, ls, .retAddr (k + 11) :: st, w) Q := by
  intro hOK G p l e Rm s m args below meth c A ads0 Zf cx H locs ads lsC hp hl hP hD hS hL
  have hck := dmOK_at hOK hA
  show W p l e Rm s m args below meth c H locs kc ks Zf (F0 m (dmPc M i) lsC (.ref (G.2.2 (k + 10)) :: st.map (dmCv ads G.2.2)))
  rw [dmPc_at hA]
  have cx0 := cx
  obtain ⟨hx, hb, hml, hown, hts, hnm, hK, hF, hAA, hR, -⟩ := cx
  simp only [dmCk, Bool.and_eq_true] at hck
  obtain ⟨⟨h1, h2⟩, h3⟩ := hck
  have h3 : dmWd x4 (.fieldLink M.1.cls idx "java/lang/String" "coder" "B") = true := h3
  have h4 := (hF.2.2.1.1 k hk).2.1
  refine vk_getf (v := .int 0) hx hb (by rw [Nat.add_comm k 10]; exact h4) hS hown (hts _ (dmTB_in (dmWd_of h3) rfl)) (fun _ z => z) (dmD_of h1) ?_
  exact K.at hOK cx0 hp hl hP hD hS hL (dmNx_of h2)
theorem G_blen (k : Nat) (hA : dmAt M.2.2.2.2.1 i = some (pc, .arraylength, nx, a, b, x3, x4, x5)) (hk : k < 10)
    (K : GW E M d mc ms kc ks (nx, ls, .int (nI (dmLen k)) :: st, w) Q) : GW E M d mc ms kc ks (i, ls, .retAddr (k + 31) :: st, w) Q := by
  intro hOK G p l e Rm s m args below meth c A ads0 Zf cx H locs ads lsC hp hl hP hD hS hL
  have hck := dmOK_at hOK hA
  show W p l e Rm s m args below meth c H locs kc ks Zf (F0 m (dmPc M i) lsC (.ref (G.2.2 (k + 30)) :: st.map (dmCv ads G.2.2)))
  rw [dmPc_at hA]
  have cx0 := cx
  obtain ⟨hx, hb, hml, hown, hts, hnm, hK, hF, hAA, hR, -⟩ := cx
  simp only [dmCk, Bool.and_eq_true] at hck
  have h4 := (hF.2.2.1.1 k hk).2.2.2
  refine va_tlen hx hb (by rw [Nat.add_comm k 30]; exact h4) hS rfl (dmD_of hck.1) ?_
  exact K.at hOK cx0 hp hl hP hD hS hL (dmNx_of hck.2)
theorem G_bald (k j : Nat) {j' : Int32} (hA : dmAt M.2.2.2.2.1 i = some (pc, .baload, nx, a, b, x3, x4, x5)) (hk : k < 10) (hj : j' = nI j) (hlt : j < dmLen k) (hsm : dmLen k < 2147483648)
    (K : GW E M d mc ms kc ks (nx, ls, .int (dmByt k j) :: st, w) Q) : GW E M d mc ms kc ks (i, ls, .int j' :: .retAddr (k + 31) :: st, w) Q := by
  intro hOK G p l e Rm s m args below meth c A ads0 Zf cx H locs ads lsC hp hl hP hD hS hL
  have hck := dmOK_at hOK hA
  show W p l e Rm s m args below meth c H locs kc ks Zf (F0 m (dmPc M i) lsC (.int j' :: .ref (G.2.2 (k + 30)) :: st.map (dmCv ads G.2.2)))
  rw [dmPc_at hA]
  have cx0 := cx
  obtain ⟨hx, hb, hml, hown, hts, hnm, hK, hF, hAA, hR, -⟩ := cx
  simp only [dmCk, Bool.and_eq_true] at hck
  have h4 := (hF.2.2.1.1 k hk).2.2.2
  obtain ⟨h5, h6⟩ := dm_in hj hlt hsm
  refine va_tb (v := .int (dmByt k j)) hx hb (by rw [Nat.add_comm k 30]; exact h4) hS h5 (by rw [h6]; rfl) (dmD_of hck.1) ?_
  exact K.at hOK cx0 hp hl hP hD hS hL (dmNx_of hck.2)
theorem G_fmt (hA : dmAt M.2.2.2.2.1 i = some (pc, .getstatic idx, nx, a, 3, x3, x4, x5))
    (K1 : GW E M d mc ms kc ks (nx, ls, .null :: st, w) Q) (K2 : GW E M d mc ms kc ks (nx, ls, .retAddr 51 :: st, w) Q) : GW E M d mc ms kc ks (i, ls, st, w) Q := by
  intro hOK G p l e Rm s m args below meth c A ads0 Zf cx H locs ads lsC hp hl hP hD hS hL
  have hck := dmOK_at hOK hA
  show W p l e Rm s m args below meth c H locs kc ks Zf (F0 m (dmPc M i) lsC (st.map (dmCv ads G.2.2)))
  rw [dmPc_at hA]
  have cx0 := cx
  obtain ⟨hx, hb, hml, hown, hts, hnm, hK, hF, hAA, hR, -⟩ := cx
  simp only [dmCk, Bool.and_eq_true] at hck
  obtain ⟨⟨⟨h1, h2⟩, h3⟩, h4⟩ := hck
  have h4 : dmWd x4 (.fieldLink M.1.cls idx "jdk/internal/util/Preconditions" "SIOOBE_FORMATTER" "Ljava/util/function/BiFunction;") = true := h4
  rcases hF.2.2.2.2 with z | z
  · refine va_gets hx hb z hS hown (hts _ (dmTB_in (dmWd_of h4) rfl)) (fun _ z => z) (dmD_of h1) ?_
    exact K1.at hOK cx0 hp hl hP hD hS hL (dmNx_of h2)
  · refine va_gets hx hb z hS hown (hts _ (dmTB_in (dmWd_of h4) rfl)) (fun _ z => z) (dmD_of h1) ?_
    exact K2.at hOK cx0 hp hl hP hD hS hL (dmNx_of h2)
/-- a text's method -/
theorem G_callT (j : Nat) (hA : dmAt M.2.2.2.2.1 i = some (pc, .invokevirtual idx, nx, a, b, x3, x4, x5)) (hT : dmAt dmT a = some M') (hj : j < 10) (hpop : dmPop (b + 1) st [] = some (.retAddr (j + 11) :: as, st')) (hcl : M'.1.cls = "java/lang/String") (hint : as.all dmIsInt = true)
    (hm : GM E M' d mc' ms' (.retAddr (j + 11) :: as) [] Qc) (hcat : (st'.map Value.category).sum ≤ 8) (hkc : kc + mc' ≤ mc) (hks : ks + ms' ≤ ms)
    (k : ∀ r w1, Qc r w1 → w1 = [] ∧ (∃ x, r = some (.int x)) ∧ GW E M (d + 1) mc ms (kc + mc') (ks + ms') (nx, ls, r.toList ++ st', w) Q) : GW E M (d + 1) mc ms kc ks (i, ls, st, w) Q := by
  intro hOK G p l e Rm s m args below meth c A ads0 Zf cx H locs ads lsC hp hn hP hD hS hL
  have hck := dmOK_at hOK hA
  show W p l e Rm s m args below meth c H locs kc ks Zf (F0 m (dmPc M i) lsC (st.map (dmCv ads G.2.2)))
  rw [dmPc_at hA]
  have cx0 := cx
  obtain ⟨hx, hb, hml, hown, hts, hnm, hK, hF, hAA, ⟨hr1, hr2, hr3, hr4⟩, -⟩ := cx
  simp only [dmCk, Bool.and_eq_true] at hck
  obtain ⟨⟨h1, h2⟩, h3⟩ := hck
  rw [hT] at h3
  simp only [Bool.and_eq_true] at h3
  obtain ⟨⟨⟨g1, g2⟩, g3⟩, g4⟩ := h3
  obtain ⟨m1, m2, m3, m4, m5⟩ := dmMt_of g2
  obtain ⟨p1, p2⟩ := dmPop0 hpop
  have hAs : as.length = b := by simpa using p1
  have hai : ∀ (ads1 ads2 : List Nat) (sad : Nat → Nat), as.map (dmCv ads1 sad) = as.map (dmCv ads2 sad) := fun ads1 ads2 sad => List.map_congr_left fun v hv => by
    have := List.all_eq_true.mp hint v hv
    cases v <;> simp_all [dmIsInt, dmCv]
  have hst : st.map (dmCv ads G.2.2) = (as.map (dmCv ads G.2.2)).reverse ++ .ref (G.2.2 (j + 10)) :: st'.map (dmCv ads G.2.2) := by
    rw [p2]
    simp [dmCv]
  rw [hst]
  have hfree : ∀ q, va_A (dmCw [] G.2.2 G.2.1 []) H.size q → A q := by
    intro q hq
    rcases hq with ⟨x, y, hx⟩ | hx
    · simp [dmCw] at hx
    · exact hAA q (Nat.le_trans hS.1 hx)
  have hG : GoodIn dmTB (wsV M.1.cls idx M'.1.cls M'.1 (dmWs M')) := dmGood_cons (dmTB_in (dmWd_of g1) rfl) (dmGood_cons (dmTB_in (dmWd_of g3) rfl) (dmGood_cons (dmTB_in (dmWd_of g4) rfl) (dmGood_cons m5 (dmWs_good m4))))
  have cw := cwV (R := Rm) (s := s) (args := args) (bytes := M'.2.1) (maxL := M'.2.2.1) (ret := M'.2.2.2.1) (mc := mc') (ms := ms') (rm := dmRm d mc' ms') b hts hG rfl rfl rfl ⟨rfl, m2.1, m2.2, m1⟩ ⟨hr1, by show 8 + (M'.2.2.1 + 11) + 40 * d ≤ _; omega⟩
  have hobj : ∃ cell : Cell, H[G.2.2 (j + 10)]? = some cell ∧ cell.vm.isStatics = false ∧ s.vm.findClass M'.1.cls = some cell.cls := by
    have z := vk_recv (i := j) hF.2.2.1 hj hS
    rw [hcl, Nat.add_comm j 10]
    exact z
  refine dm_back (G := G) (va_runV (As := as.map (dmCv ads G.2.2)) (rest := st'.map (dmCv ads G.2.2)) ⟨hx, hb, hml, hown, hts⟩ (hm l G [] H.size rfl) cw ⟨dm_blind, hobj, fun U hU hW => ⟨?_, by rw [hU], by rw [hU]; exact fun k q hq => by simp [dmCw] at hq, hK.warm hW, ⟨fun i j p q hq => by simp [dmCw] at hq, fun _ _ _ => trivial⟩, ?_⟩⟩ rfl (by rw [List.length_map]; exact hAs) hL.1.1 rfl (lv_room (dm_cats hcat)) (dmD_of h1) ⟨by omega, by omega⟩) hS (fun q _ h => hfree q h) hfree ?_
  · show (Value.ref (G.2.2 (j + 10)) :: as.map (dmCv ads G.2.2)).toArray = _
    rw [hai ads [] G.2.2]
    rfl
  · rw [hU]
    exact dmSF.go hW.alike (fun q q1 q2 => hS.2.1 q q1 q2) hS.1 hfree hF
  · intro r w' ads' H1 locs1 hq hpr hn' hP1 hD1 hz hk hS1
    obtain ⟨k1, ⟨x, hx1⟩, k2⟩ := k r w' hq
    subst k1
    subst hx1
    have hn0 : ads.length = w.length := hn
    have hP2 : va_P G.1 dmCl (dmCw ads G.2.2 G.2.1 w) H1 := hP.kept (fun k q hq2 => hk q.1 (hP k q hq2).lt (fun z => by
      rcases z with ⟨x, y, hx⟩ | hx
      · simp [dmCw] at hx
      · exact absurd (hP k q hq2).lt (Nat.not_lt.mpr hx)))
    exact k2.at hOK cx0 hp hn hP2 hD hS1 hL (dmNx_of h2)
end GS
end
section
/-! CONSTRUCTORS: the callee's new cells come behind the caller's -/
def dmSplit : Nat → dmW → Option (dmW × dmW)
  | 0, es => some ([], es)
  | n + 1, e :: es => match dmSplit n es with
    | some (x, y) => some (e :: x, y)
    | none => none
  | _ + 1, [] => none
theorem dmSplit_eq : ∀ (n : Nat) (es x y : dmW), dmSplit n es = some (x, y) → es = x ++ y ∧ x.length = n
  | 0, es, x, y, h => by
    simp only [dmSplit] at h
    cases h
    exact ⟨rfl, rfl⟩
  | n + 1, e :: es, x, y, h => by
    simp only [dmSplit] at h
    split at h
    · rename_i x' y' hs
      cases h
      obtain ⟨h1, h2⟩ := dmSplit_eq n es x' _ hs
      exact ⟨by rw [h1]; rfl, by simp [h2]⟩
    · cases h
  | n + 1, [], x, y, h => by simp [dmSplit] at h
theorem dmAc_app {ads ex is is2 : List Nat} {n : Nat} (hb : ∀ h ∈ is, h < ads.length) (h2 : is2 = is ++ List.range' ads.length n) (hx : ex.length = n) : dmAc (ads ++ ex) is2 = dmAc ads is ++ ex := by
  subst h2
  unfold dmAc
  rw [List.map_append]
  congr 1
  · refine List.map_congr_left fun h hh => ?_
    rw [List.getD_eq_getElem?_getD, List.getD_eq_getElem?_getD, List.getElem?_append_left (hb h hh)]
  · apply List.ext_getElem?
    intro k
    rw [List.getElem?_map]
    by_cases hk : k < n
    · rw [List.getElem?_range' hk]
      simp only [Option.map_some, Nat.one_mul]
      rw [List.getD_eq_getElem?_getD, List.getElem?_append_right (by omega), show ads.length + k - ads.length = k by omega, List.getElem?_eq_getElem (by omega)]
      rfl
    · rw [List.getElem?_eq_none (by rw [List.length_range']; omega), List.getElem?_eq_none (by omega)]
      rfl
theorem dmVa_app {ads ex : List Nat} {sad : Nat → Nat} {o : Value} (h : dmWfV ads.length o = true) : dmVa (ads ++ ex) sad o = dmVa ads sad o := by
  unfold dmVa
  rw [dmWfV_cv h]
theorem dmSc_app {ads ex : List Nat} {sad : Nat → Nat} {o4 o5 : Value} (h4 : dmWfV ads.length o4 = true) (h5 : dmWfV ads.length o5 = true) : dmSc (ads ++ ex) sad o4 o5 = dmSc ads sad o4 o5 := by
  funext n
  simp only [dmSc, dmVa_app h4, dmVa_app h5]
section GI
variable {E : dmX} {M M' : dmM} {d mc ms kc ks mc' ms' i pc idx nx b x4 : Nat} {a : Nat} {x3 : Int32} {ls st st' as as' : List Value} {w wc es : dmW} {Q Qc : Option Value → dmW → Prop}
theorem G_callI (is : List Nat) (o4 o5 : Value) {h : Nat} (hA : dmAt M.2.2.2.2.1 i = some (pc, .invokespecial idx, nx, a, b, x3, x4, [2])) (hT : dmAt dmT a = some M') (hpop : dmPop (b + 1) st [] = some (.ref h :: as, st'))
    (hm : GM E M' d mc' ms' as' wc Qc) (ha : dmRnL is o4 o5 as' = some (.ref h :: as)) (hpk : dmPick w is = some es) (hrn : dmRnW is o4 o5 wc = some es) (h4 : dmIsRef o4 = true) (h5 : dmIsRef o5 = true) (hnd : va_nd is = true) (hcat : (st'.map Value.category).sum ≤ 8) (hwf : dmWf w.length w (o4 :: o5 :: ls ++ st') = true) (hkc : kc + mc' ≤ mc) (hks : ks + ms' ≤ ms)
    (k : ∀ r wc', Qc r wc' → r = none ∧ ∃ n is2 es' x y w1 w2, is2 = is ++ List.range' w.length n ∧ is.length + n = wc'.length ∧ dmRnW is2 o4 o5 wc' = some es' ∧ dmSplit is.length es' = some (x, y) ∧ dmPut is x w = some w1 ∧ dmApp w1 y = some w2 ∧ GW E M (d + 1) mc ms (kc + mc') (ks + ms') (nx, ls, st', w2) Q) : GW E M (d + 1) mc ms kc ks (i, ls, st, w) Q := by
  intro hOK G p l e Rm s m args below meth c A ads0 Zf cx H locs ads lsC hp hn hP hD hS hL
  have hn : ads.length = w.length := hn
  have hck := dmOK_at hOK hA
  show W p l e Rm s m args below meth c H locs kc ks Zf (F0 m (dmPc M i) lsC (st.map (dmCv ads G.2.2)))
  rw [dmPc_at hA]
  have cx0 := cx
  obtain ⟨hx, hb, hml, hown, hts, hnm, hK, hF, hAA, ⟨hr1, hr2, hr3, hr4⟩, -⟩ := cx
  simp only [dmCk, Bool.and_eq_true] at hck
  obtain ⟨⟨h1, h2⟩, h3⟩ := hck
  rw [hT] at h3
  simp only [Bool.and_eq_true] at h3
  obtain ⟨⟨⟨⟨g1, g2⟩, g3⟩, g4⟩, g5⟩ := h3
  have g4 := of_decide_eq_true g4
  have g5 := of_decide_eq_true g5
  obtain ⟨m1, m2, m3, m4, m5⟩ := dmMt_of g2
  obtain ⟨c1, c2, c3, c4⟩ := dm_cut (G := G) h4 h5 hn hP hD hnd hpk hrn
  obtain ⟨p1, p2⟩ := dmPop0 hpop
  have hargs := dmRnL_cv (ads := ads) (sad := G.2.2) h4 h5 ha
  have hAs : as.length = b := by simpa using p1
  have hst : st.map (dmCv ads G.2.2) = (as.map (dmCv ads G.2.2)).reverse ++ .ref (ads.getD h 0) :: st'.map (dmCv ads G.2.2) := by
    rw [p2]
    simp [dmCv]
  rw [hst]
  have hfree : ∀ q, va_A (dmCw (dmAc ads is) (dmSc ads G.2.2 o4 o5) G.2.1 wc) H.size q → A q := by
    intro q hq
    rcases hq with ⟨x, y, hx⟩ | hx
    · obtain ⟨j, -, j2⟩ := c2 x _ hx
      exact hD.2 j _ j2
    · exact hAA q (Nat.le_trans hS.1 hx)
  have hcode : Cond.code M'.1 M'.2.1 M'.2.2.1 none ∈ dmTB := by rw [← g5]; exact m4
  have cw := cwI (R := Rm) (s := s) (args := args) (bytes := M'.2.1) (maxL := M'.2.2.1) (mc := mc') (ms := ms') (rm := dmRm d mc' ms') (ws := dmWs M') (ws' := dmTB) b hts (dmWs_good m4) (by unfold dmWs; rw [g5]) rfl rfl (hts _ m5) (hts _ (dmTB_in (dmWd_of g1) rfl)) (hts _ (dmTB_in (dmWd_of g3) rfl)) g4 ⟨m2.1, m2.2, m1⟩ ⟨hr1, by show 8 + (M'.2.2.1 + 11) + 40 * d ≤ _; omega⟩
  refine dm_back (G := (G.1, G.2.1, dmSc ads G.2.2 o4 o5)) (va_runI (As := as.map (dmCv ads G.2.2)) (rest := st'.map (dmCv ads G.2.2)) ⟨hx, hb, hml, hown, hts⟩ (hm l (G.1, G.2.1, dmSc ads G.2.2 o4 o5) (dmAc ads is) H.size c1) cw ⟨dm_blind, fun U hU hW => ⟨?_, by rw [hU], by rw [hU]; exact c3, (hK.warm hW).sad (dmSc_eq ads G.2.2 o4 o5), c4, ?_⟩⟩ rfl (by rw [List.length_map]; exact hAs) hL.1.1 rfl (lv_room (dm_cats hcat)) (dmD_of h1) ⟨by omega, by omega⟩) hS (fun q _ h => hfree q h) hfree ?_
  · show (Value.ref (ads.getD h 0) :: as.map (dmCv ads G.2.2)).toArray = _
    rw [hargs]
    rfl
  · rw [hU]
    refine dmSF.sad (G := G) (dmSc_eq ads G.2.2 o4 o5) (dmSF.go hW.alike (fun q q1 q2 => hS.2.1 q q1 q2) hS.1 hfree hF)
  · intro r wc' ads' H1 locs1 hq hpr hn' hP1 hD1 hz hk hS1
    obtain ⟨hr0, n, is2, es', x, y, w1, w2, q1, q2, q3, q4, q5, q6, q7⟩ := k r wc' hq
    subst hr0
    obtain ⟨ex, hex⟩ := hpr
    subst hex
    obtain ⟨s1, s2⟩ := dmSplit_eq _ _ _ _ q4
    obtain ⟨u1, u2, u3⟩ := dmPut_at q5 hnd
    have hw2 := dmApp_eq _ _ _ q6
    have hl2 := (dmRnW_at q3).1
    obtain ⟨r1, r2⟩ := dmRnW_at q3
    have hacl : (dmAc ads is).length = is.length := by unfold dmAc; rw [List.length_map]
    have hexl : ex.length = n := by rw [List.length_append] at hn'; omega
    have hyl : y.length = n := by
      rw [s1, List.length_append] at hl2
      omega
    have hwf9 := hwf
    unfold dmWf at hwf9
    rw [Bool.and_eq_true] at hwf9
    obtain ⟨wf1, wf2⟩ := hwf9
    rw [← hn] at wf1 wf2
    rw [List.cons_append, List.cons_append, List.all_cons, List.all_cons, Bool.and_eq_true, Bool.and_eq_true, List.all_append, Bool.and_eq_true] at wf2
    obtain ⟨wo4, wo5, wls, wst⟩ := wf2
    obtain ⟨a1, a2⟩ := dmPick_at hpk
    have hisb : ∀ h ∈ is, h < ads.length := by
      intro h hh
      obtain ⟨j, hj⟩ := List.getElem?_of_mem hh
      obtain ⟨u, -, hu⟩ := a2 j h hj
      rw [hn]
      exact (List.getElem?_eq_some_iff.mp hu).1
    have hac := dmAc_app (ads := ads) (ex := ex) (is := is) (is2 := is2) (n := n) hisb (hn ▸ q1) hexl
    have hsc := dmSc_app (ex := ex) (sad := G.2.2) wo4 wo5
    have ho4 := h4
    have hn2 : (ads ++ ex).length = w2.length := by
      rw [hw2, List.length_append, List.length_append]
      omega
    have hn3 : (dmAc ads is ++ ex).length = wc'.length := hn'
    -- a cell of the new world: a cell of the caller's own, or one that came back
    have own : ∀ (j : Nat) (e : va_E), w2[j]? = some e → (j ∉ is2 ∧ w[j]? = some e) ∨ ∃ z : Nat, is2[z]? = some j ∧ (dmCw (dmAc ads is ++ ex) (dmSc ads G.2.2 o4 o5) G.2.1 wc')[z]? = some ((ads ++ ex).getD j 0, dmCe (ads ++ ex) G.2.2 G.2.1 e) := by
      intro j e he
      have back : ∀ z : Nat, is2[z]? = some j → es'[z]? = some e → (dmCw (dmAc ads is ++ ex) (dmSc ads G.2.2 o4 o5) G.2.1 wc')[z]? = some ((ads ++ ex).getD j 0, dmCe (ads ++ ex) G.2.2 G.2.1 e) := by
        intro z hz1 hz2
        have hzl : z < wc'.length := by
          have := (List.getElem?_eq_some_iff.mp hz2).1
          omega
        obtain ⟨u, v1, v2⟩ := r2 z _ (List.getElem?_eq_getElem hzl)
        rw [hz2] at v1
        cases v1
        have g9 := dmCw_get (ads := dmAc ads is ++ ex) (sad := dmSc ads G.2.2 o4 o5) (dA := G.2.1) hn3 (h := z) (e := wc'[z]) (by rw [dmGet_eq]; exact List.getElem?_eq_getElem hzl)
        have g8 := dmRnE_ce (ads := ads ++ ex) (is := is2) (sad := G.2.2) (dA := G.2.1) h4 h5 v2
        rw [hac, hsc] at g8
        rw [g8, ← hac, dmAc_at hz1] at g9
        rw [← hac]
        exact g9
      by_cases hj : j < w.length
      · have he1 : w1[j]? = some e := by
          rw [hw2, List.getElem?_append_left (by omega)] at he
          exact he
        rcases u3 j with ⟨z, z1, z2⟩ | ⟨z1, z2⟩
        · refine Or.inr ⟨z, ?_, ?_⟩
          · rw [q1, List.getElem?_append_left (List.getElem?_eq_some_iff.mp z1).1]
            exact z1
          · refine back z ?_ ?_
            · rw [q1, List.getElem?_append_left (List.getElem?_eq_some_iff.mp z1).1]
              exact z1
            · rw [s1, List.getElem?_append_left (by have := (List.getElem?_eq_some_iff.mp z1).1; omega), ← z2]
              exact he1
        · refine Or.inl ⟨?_, by rw [← z2]; exact he1⟩
          rw [q1, List.mem_append]
          rintro (h9 | h9)
          · exact z1 h9
          · rw [List.mem_range'_1] at h9
            omega
      · have he1 : y[j - w.length]? = some e := by
          rw [hw2, List.getElem?_append_right (by omega), u2] at he
          exact he
        have hjy := (List.getElem?_eq_some_iff.mp he1).1
        have hi2 : is2[is.length + (j - w.length)]? = some j := by
          rw [q1, List.getElem?_append_right (by omega), show is.length + (j - w.length) - is.length = j - w.length by omega, List.getElem?_range' (by omega)]
          congr 1
          omega
        refine Or.inr ⟨is.length + (j - w.length), hi2, back _ hi2 ?_⟩
        rw [s1, List.getElem?_append_right (by omega), show is.length + (j - w.length) - x.length = j - w.length by omega]
        exact he1
    have oldP : ∀ (j : Nat) (e : va_E), w[j]? = some e → (dmCw ads G.2.2 G.2.1 w)[j]? = some ((ads ++ ex).getD j 0, dmCe (ads ++ ex) G.2.2 G.2.1 e) := by
      intro j e he
      have hjl := (List.getElem?_eq_some_iff.mp he).1
      rw [dmCw_get hn (by rw [dmGet_eq]; exact he), dmWfE_ce (List.all_eq_true.mp wf1 e (List.mem_of_getElem? he)), List.getD_eq_getElem?_getD, List.getD_eq_getElem?_getD, List.getElem?_append_left (by omega)]
    have cell : ∀ (j : Nat) (q : Nat × va_E), (dmCw (ads ++ ex) G.2.2 G.2.1 w2)[j]? = some q → ∃ e, w2[j]? = some e ∧ q = ((ads ++ ex).getD j 0, dmCe (ads ++ ex) G.2.2 G.2.1 e) := by
      intro j q hq
      have hjl : j < w2.length := by
        have := (List.getElem?_eq_some_iff.mp hq).1
        rw [dmCw_len hn2] at this
        exact this
      refine ⟨_, List.getElem?_eq_getElem hjl, ?_⟩
      have g9 := dmCw_get (ads := ads ++ ex) (sad := G.2.2) (dA := G.2.1) hn2 (h := j) (e := w2[j]) (by rw [dmGet_eq]; exact List.getElem?_eq_getElem hjl)
      exact Option.some.inj (hq.symm.trans g9)
    have notin : ∀ (j : Nat) (q : Nat × va_E), j ∉ is2 → (dmCw ads G.2.2 G.2.1 w)[j]? = some q → q.1 < H.size ∧ ¬ va_A (dmCw (dmAc ads is) (dmSc ads G.2.2 o4 o5) G.2.1 wc) H.size q.1 := by
      intro j q hj hq
      have hlt := (hP j q hq).lt
      refine ⟨hlt, fun hA => ?_⟩
      rcases hA with ⟨x, y, hx⟩ | hx
      · obtain ⟨j', j1, j2⟩ := c2 x _ hx
        have e := hD.1 j j' _ _ hq j2 rfl
        subst e
        exact hj (by rw [q1]; exact List.mem_append_left _ (List.mem_of_getElem? j1))
      · exact absurd hlt (Nat.not_lt.mpr hx)
    have hP2 : va_P G.1 dmCl (dmCw (ads ++ ex) G.2.2 G.2.1 w2) H1 := by
      intro j q hq
      obtain ⟨e, he, rfl⟩ := cell j q hq
      rcases own j e he with ⟨o1, o2⟩ | ⟨z, o1, o2⟩
      · have o3 := oldP j e o2
        obtain ⟨o6, o7⟩ := notin j _ o1 o3
        exact (hP j _ o3).kept (hk _ o6 o7)
      · exact hP1 z _ o2
    have hD2 : va_D A (dmCw (ads ++ ex) G.2.2 G.2.1 w2) := by
      refine ⟨fun i j p q hi hj hpq => ?_, fun j q hq => ?_⟩
      · obtain ⟨e, he, rfl⟩ := cell i p hi
        obtain ⟨f, hf, rfl⟩ := cell j q hj
        rcases own i e he with ⟨o1, o2⟩ | ⟨z, o1, o2⟩
        · have o3 := oldP i e o2
          rcases own j f hf with ⟨t1, t2⟩ | ⟨z', t1, t2⟩
          · have t3 := oldP j f t2
            exact hD.1 i j _ _ o3 t3 hpq
          · obtain ⟨o6, o7⟩ := notin i _ o1 o3
            have t3 := hD1.2 z' _ t2
            have hpq : (ads ++ ex).getD i 0 = (ads ++ ex).getD j 0 := hpq
            exact absurd (by rw [show ((ads ++ ex).getD i 0, dmCe (ads ++ ex) G.2.2 G.2.1 e).1 = (ads ++ ex).getD j 0 from hpq]; exact t3) o7
        · rcases own j f hf with ⟨t1, t2⟩ | ⟨z', t1, t2⟩
          · have t3 := oldP j f t2
            obtain ⟨o6, o7⟩ := notin j _ t1 t3
            have o3 := hD1.2 z _ o2
            have hpq : (ads ++ ex).getD i 0 = (ads ++ ex).getD j 0 := hpq
            exact absurd (by rw [show ((ads ++ ex).getD j 0, dmCe (ads ++ ex) G.2.2 G.2.1 f).1 = (ads ++ ex).getD i 0 from hpq.symm]; exact o3) o7
          · have ez := hD1.1 z z' _ _ o2 t2 hpq
            subst ez
            rw [o1] at t1
            exact Option.some.inj t1
      · obtain ⟨e, he, rfl⟩ := cell j q hq
        rcases own j e he with ⟨o1, o2⟩ | ⟨z, o1, o2⟩
        · exact hD.2 j _ (oldP j e o2)
        · exact hfree _ (hD1.2 z _ o2)
    have g9 := q7.at hOK cx0 (ads := ads ++ ex) (hp.trans (List.prefix_append _ _)) hn2 hP2 hD2 hS1 (dmLR_app wls hL) (dmNx_of h2)
    rw [dmWfL_cv wst] at g9
    exact g9
end GI
end
section
theorem va_AOA.use {ty : FieldType} {A : Array Value} {U : State} (h : va_AOA ty U) : (Cond.arrayOver (.array ty)).before A U = true := by
  first
    | exact va_tabs rfl rfl h
    | exact h
/-! ===== BEGIN new T[n][m]: the outer array a place, the inner ones among the pooled ===== -/
/-- f, but v at every address of l -/
def vr_up {α : Type} (f : Nat → α) (l : List Nat) (v : α) : Nat → α := fun a => if a ∈ l then v else f a
theorem vr_up_in {α : Type} {f : Nat → α} {l : List Nat} {v : α} {a : Nat} (h : a ∈ l) : vr_up f l v a = v := if_pos h
theorem vr_up_ne {α : Type} {f : Nat → α} {l : List Nat} {v : α} {a : Nat} (h : a ∉ l) : vr_up f l v a = f a := if_neg h
theorem vr_rows {L l : List Nat} {f : Nat → va_E} {e : va_E} (h : ∀ a, a ∈ l → a ∉ L) : va_pl L f ++ l.map (fun a => (a, e)) = va_pl (L ++ l) (vr_up f l e) := by
  unfold va_pl
  rw [List.map_append]
  congr 1
  · apply List.map_congr_left
    intro a ha
    rw [vr_up_ne (fun q => h a q ha)]
  · apply List.map_congr_left
    intro a ha
    rw [vr_up_in ha]
theorem vr_lay {X rows : va_W} {x : Nat × va_E} {pl : va_W} {D : va_G} {cl : List vw_C} {H : Heap} (hP : va_P D cl (((X ++ pl) ++ [x]) ++ rows) H) : va_P D cl ((X ++ [x]) ++ (pl ++ rows)) H := by
  rw [List.append_assoc (X ++ pl)] at hP
  have h := va_P.swap hP
  rw [← List.append_assoc X] at h
  have h2 := va_P.swap h
  rw [List.append_assoc (X ++ [x])] at h2
  exact h2
theorem vr_layD {X rows : va_W} {x : Nat × va_E} {pl : va_W} {A : Nat → Prop} (hD : va_D A (((X ++ pl) ++ [x]) ++ rows)) : va_D A ((X ++ [x]) ++ (pl ++ rows)) := by
  rw [List.append_assoc (X ++ pl)] at hD
  have h := va_D.swap hD
  rw [← List.append_assoc X] at h
  have h2 := va_D.swap h
  rw [List.append_assoc (X ++ [x])] at h2
  exact h2
theorem vr_outer (c : ClassId) (N h0 : Nat) : ∀ i : Nat, Jvm.Free.Multi.outerC c N h0 i = arrV c N (fun j => va_rf (if j < i then some (h0 + 1 + j) else none))
  | 0 => by
    show ({ cls := c, slots := Array.replicate N .null, vm := .none } : Cell) = _
    rw [arrV_new]
    refine congrArg (arrV c N) (funext fun j => ?_)
    simp [va_rf]
  | i + 1 => by
    show (Jvm.Free.Multi.outerC c N h0 i).setSlot i (.ref (h0 + 1 + i)) = _
    rw [vr_outer c N h0 i, arrV_store]
    refine congrArg (arrV c N) (funext fun j => ?_)
    by_cases e : j = i
    · subst e
      simp [updV, va_rf]
    · by_cases h : j < i
      · simp [updV, e, h, Nat.lt_succ_of_lt h]
      · simp [updV, e, h, show ¬ j < i + 1 by omega]
section VGM
variable {p : Program} {l : Launch} {e : Env} {R : Room} {s : State} {m : MethodId} {args : Array Value} {below : List Frame} {meth : Method} {c : Code} {H : Heap} {locs : List Loc} {cells slots : Nat} {Q : State → Prop}
variable {cc : ByteArray} {pc : Nat} {ls : Array Slot} {rest : List Value} {D : va_G} {cl : List vw_C} {A : Nat → Prop} {a : Nat} {tys : List (ClassId × FieldType)} {ws : va_W} {H0 : Heap}
theorem va_mna {X : va_W} {L : List Nat} {f : Nat → va_E} {cc : ByteArray} (hexec : p.tables.exec = Jvm.exec) (hb : c.code = cc) {own : String} {index : Nat} {ty : FieldType} {cy : ClassId} (hown : s.vm.findClass own = some m.cls) (hclink : (Cond.classLink own index ("[" ++ (FieldType.array ty).toString)).before args s = true) (hover : va_AOA ty s) (harr : (Cond.arrayClass ty).before args s = true) (hcy : s.vm.findClass (FieldType.array ty).toString = some cy)
    (hK : va_K D cl tys s) (hP : va_P D cl (X ++ va_pl L f) H) (hD : va_D A (X ++ va_pl L f)) (hS : va_S A H0 H locs) (hA : ∀ q, H0.size ≤ q → A q) {n k : Int32} {N' K' : Nat} {z : vp_A} (hn : ¬ n < 0) (hk : ¬ k < 0) (hN : n.toNatClampNeg = N') (hM : k.toNatClampNeg = K')
    (hb1 : N' * 4 ≤ 536870912) (hb2 : K' * componentBytes ty ≤ 536870912) (hb3 : K' ≤ 536870912) (hdf : fits ty (defaultValue ty) = true) (hdd : (defaultValue ty).isDefault = true) (hcells : cells + (1 + N') ≤ R.cells) (hslots : slots + (N' + N' * K') ≤ R.slots) (hz : ∀ c : ClassId, Jvm.Free.Multi.innerC c K' (defaultValue ty) = vp_cell c z) (hdg : decode cc pc = .ok (.multianewarray index 2, 4))
    (kk : ∀ (q : Nat) (r : Nat → Nat) (cA : ClassId) (H1 : Heap), (∀ i j : Nat, i < N' → j < N' → r i = r j → i = j) → (∀ i : Nat, i < N' → r i ∉ L) → va_K D cl (tys ++ [(cA, .array ty)]) s →
      va_P D cl ((X ++ [(q, .inl (cA, N', .inr (.inr (.inr (.inr (fun i => if i < N' then some (r i) else none))))))]) ++ va_pl (L ++ (List.range N').map r) (vr_up f ((List.range N').map r) (.inl (cy, z)))) H1 → va_D A ((X ++ [(q, .inl (cA, N', .inr (.inr (.inr (.inr (fun i => if i < N' then some (r i) else none))))))]) ++ va_pl (L ++ (List.range N').map r) (vr_up f ((List.range N').map r) (.inl (cy, z)))) → va_S A H0 H1 locs →
      W p l e R s m args below meth c H1 locs (cells + 1 + N') (slots + N' + N' * K') Q (F0 m (pc + 4) ls (.ref q :: rest))) : W p l e R s m args below meth c H locs cells slots Q (F0 m pc ls (.int k :: .int n :: rest)) := by
  subst hN
  subst hM
  intro T hT Xs
  obtain ⟨vm₁, cA, comp, -, fA, fC, hO, -, X', step⟩ := Xs.multianewarray2F hexec hown hclink (va_AOA.use hover) harr (g := F0 m pc ls (.int k :: .int n :: rest)) rfl (by rw [hb]; exact hdg) rfl hn hk hb1 hb2 hb3 hdf hdd hcells hslots
  have ec : some cy = some comp := hcy.symm.trans fC
  cases ec
  generalize hF : Jvm.Free.Multi.fill (T.setVm vm₁) cA cy n.toNatClampNeg k.toNatClampNeg (defaultValue ty) n.toNatClampNeg = F at X' step
  have hTh : (T.setVm vm₁).heap = H := hT
  obtain ⟨f1, f2, -, -⟩ := Jvm.Free.Multi.fill_facts (T.setVm vm₁) cA cy n.toNatClampNeg k.toNatClampNeg (defaultValue ty) n.toNatClampNeg
  rw [hF, hTh] at f1 f2
  have hold : ∀ x : Nat, x < H.size → F.heap[x]? = H[x]? := fun x hx => by
    have := Jvm.Free.Multi.fill_old (T.setVm vm₁) cA cy n.toNatClampNeg k.toNatClampNeg (defaultValue ty) (a := x) (by rw [hTh]; exact hx) n.toNatClampNeg
    rw [hF, hTh] at this
    exact this
  have hrow : ∀ j : Nat, j < n.toNatClampNeg → F.heap[H.size + 1 + j]? = some (vp_cell cy z) := fun j hj => by
    have := Jvm.Free.Multi.fill_inner (T.setVm vm₁) cA cy n.toNatClampNeg k.toNatClampNeg (defaultValue ty) n.toNatClampNeg j hj
    rw [hF, hTh, hz] at this
    exact this
  have hout : Jvm.Free.Multi.outerC cA n.toNatClampNeg H.size n.toNatClampNeg = vp_cell cA (n.toNatClampNeg, .inr (.inr (.inr (.inr (fun i => if i < n.toNatClampNeg then some (H.size + 1 + i) else none))))) := by
    rw [vp_cell_q]
    exact vr_outer cA n.toNatClampNeg H.size n.toNatClampNeg
  rw [hout] at f2
  have hlt : ∀ a, a ∈ L → a < H.size := fun a ha => by
    obtain ⟨k9, hk9⟩ := va_pl_get (X := X) (f := f) ha
    exact (hP k9 _ hk9).lt
  have hnl : ∀ i : Nat, i < n.toNatClampNeg → H.size + 1 + i ∉ L := fun i _ h => by
    have := hlt _ h
    omega
  have hnm : ∀ a, a ∈ (List.range n.toNatClampNeg).map (fun i => H.size + 1 + i) → a ∉ L := fun a ha h => by
    obtain ⟨i, -, rfl⟩ := List.mem_map.mp ha
    have := hlt _ h
    omega
  have hP0 : va_P D cl (X ++ va_pl L f) F.heap := hP.kept (fun k9 x hx => hold x.1 ((hP k9 x hx).lt))
  have hP1 : va_P D cl ((X ++ va_pl L f) ++ [(H.size, .inl (cA, n.toNatClampNeg, .inr (.inr (.inr (.inr (fun i => if i < n.toNatClampNeg then some (H.size + 1 + i) else none))))))]) F.heap := hP0.app (fun k9 x hx => by
    have h0 : k9 < 1 := (List.getElem?_eq_some_iff.mp hx).1
    rw [show k9 = 0 by omega] at hx
    cases hx
    exact f2)
  have hP2 : va_P D cl (((X ++ va_pl L f) ++ [(H.size, .inl (cA, n.toNatClampNeg, .inr (.inr (.inr (.inr (fun i => if i < n.toNatClampNeg then some (H.size + 1 + i) else none))))))]) ++ ((List.range n.toNatClampNeg).map (fun i => H.size + 1 + i)).map (fun a => (a, .inl (cy, z)))) F.heap := hP1.app (fun k9 x hx => by
    obtain ⟨a, ha, rfl⟩ := List.mem_map.mp (List.mem_of_getElem? hx)
    obtain ⟨i, hi, rfl⟩ := List.mem_map.mp ha
    exact hrow i (List.mem_range.mp hi))
  have hD2 : va_D A (((X ++ va_pl L f) ++ [(H.size, .inl (cA, n.toNatClampNeg, .inr (.inr (.inr (.inr (fun i => if i < n.toNatClampNeg then some (H.size + 1 + i) else none))))))]) ++ ((List.range n.toNatClampNeg).map (fun i => H.size + 1 + i)).map (fun a => (a, .inl (cy, z)))) := by
    have hD1 := hD.push (e := .inl (cA, n.toNatClampNeg, .inr (.inr (.inr (.inr (fun i => if i < n.toNatClampNeg then some (H.size + 1 + i) else none)))))) hP rfl (hA _ hS.1)
    generalize hW1 : (X ++ va_pl L f) ++ [(H.size, .inl (cA, n.toNatClampNeg, .inr (.inr (.inr (.inr (fun i => if i < n.toNatClampNeg then some (H.size + 1 + i) else none))))))] = W1 at hD1 hP1 ⊢
    have hle : ∀ (k9 : Nat) (x : Nat × va_E), W1[k9]? = some x → x.1 ≤ H.size := fun k9 x hx => by
      rw [← hW1] at hx
      by_cases hl : k9 < (X ++ va_pl L f).length
      · rw [List.getElem?_append_left hl] at hx
        exact Nat.le_of_lt ((hP k9 x hx).lt)
      · rw [List.getElem?_append_right (by omega)] at hx
        have h0 : k9 - (X ++ va_pl L f).length < 1 := (List.getElem?_eq_some_iff.mp hx).1
        rw [show k9 - (X ++ va_pl L f).length = 0 by omega] at hx
        cases hx
        exact Nat.le_refl _
    have hr : ∀ (k9 : Nat) (x : Nat × va_E), (((List.range n.toNatClampNeg).map (fun i => H.size + 1 + i)).map (fun a => ((a, .inl (cy, z)) : Nat × va_E)))[k9]? = some x → x.1 = H.size + 1 + k9 := fun k9 x hx => by
      rw [List.getElem?_map, List.getElem?_map] at hx
      by_cases h9 : k9 < n.toNatClampNeg
      · rw [List.getElem?_range h9] at hx
        cases hx
        rfl
      · have hn0 : (List.range n.toNatClampNeg)[k9]? = none := List.getElem?_eq_none (by rw [List.length_range]; omega)
        rw [hn0] at hx
        cases hx
    refine ⟨fun i j x y hi hj hxy => ?_, fun k9 x hx => ?_⟩
    · by_cases h1 : i < W1.length <;> by_cases h2 : j < W1.length
      · rw [List.getElem?_append_left h1] at hi
        rw [List.getElem?_append_left h2] at hj
        exact hD1.1 i j x y hi hj hxy
      · rw [List.getElem?_append_left h1] at hi
        rw [List.getElem?_append_right (by omega)] at hj
        have := hle _ _ hi
        have := hr _ _ hj
        omega
      · rw [List.getElem?_append_right (by omega)] at hi
        rw [List.getElem?_append_left h2] at hj
        have := hle _ _ hj
        have := hr _ _ hi
        omega
      · rw [List.getElem?_append_right (by omega)] at hi hj
        have := hr _ _ hi
        have := hr _ _ hj
        omega
    · by_cases h1 : k9 < W1.length
      · rw [List.getElem?_append_left h1] at hx
        exact hD1.2 k9 x hx
      · rw [List.getElem?_append_right (by omega)] at hx
        have := hr _ _ hx
        exact hA _ (by have := hS.1; omega)
  have hAr : ArrOfT s cA (.array ty) := fun N9 z9 => by
    obtain ⟨-, k9, hk9, cm9, hkk9⟩ := (hO 0 0 0).1
    exact ⟨(fun q hq => by cases hq), k9, hk9, cm9, hkk9⟩
  have hK2 : va_K D cl (tys ++ [(cA, .array ty)]) s := ⟨hK.1, fun k9 x hx => by
    by_cases hl : k9 < tys.length
    · rw [List.getElem?_append_left hl] at hx
      exact hK.2 k9 x hx
    · rw [List.getElem?_append_right (by omega)] at hx
      have h0 : k9 - tys.length < 1 := (List.getElem?_eq_some_iff.mp hx).1
      rw [show k9 - tys.length = 0 by omega] at hx
      cases hx
      exact ⟨hAr, fA⟩⟩
  obtain ⟨t, a1, b1⟩ := kk H.size (fun i => H.size + 1 + i) cA F.heap (fun i j _ _ h => by have h9 : H.size + 1 + i = H.size + 1 + j := h; omega) hnl hK2 (by rw [← vr_rows hnm]; exact vr_lay hP2) (by rw [← vr_rows hnm]; exact vr_layD hD2) ⟨by rw [f1]; have := hS.1; omega, fun x h1 h2 => (hold x (Nat.lt_of_lt_of_le h1 hS.1)).trans (hS.2.1 x h1 h2), hS.2.2⟩ F rfl X'
  refine ⟨t, step t ?_, b1⟩
  have e : T.heap.size = H.size := by rw [hT]
  rw [e]
  exact a1
end VGM
section GMN
variable {E : dmX} {M : dmM} {d mc ms kc ks i pc idx nx a b x4 : Nat} {x3 : Int32} {x5 : List Nat} {ls st : List Value} {w : dmW} {Q : Option Value → dmW → Prop}
theorem G_mna {h : Nat} {fs : List Value} {w' : dmW} (hA : dmAt M.2.2.2.2.1 i = some (pc, .multianewarray idx 2, nx, a, b, x3, x4, x5)) (hfs : fs = (List.range 8).map (fun k => Value.ref (h + 1 + k))) (hh : w.length = h) (hw : dmApp w (.inr (100, fs) :: List.replicate 8 (.inl (1, 160, .inr (.inl (fun _ => 0))))) = some w') (hwf : dmWf h w (ls ++ st) = true) (hkc : kc + 1 + 8 ≤ mc) (hks : ks + 8 + 1280 ≤ ms)
    (k : GW E M d mc ms (kc + 1 + 8) (ks + 8 + 1280) (nx, ls, .ref h :: st, w') Q) : GW E M d mc ms kc ks (i, ls, .int 160 :: .int 8 :: st, w) Q := by
  intro hOK G p l e Rm s m args below meth c A ads0 Zf cx H locs ads lsC hp hn hP hD hS hL
  have hn : ads.length = w.length := hn
  have hck := dmOK_at hOK hA
  show W p l e Rm s m args below meth c H locs kc ks Zf (F0 m (dmPc M i) lsC (.int 160 :: .int 8 :: st.map (dmCv ads G.2.2)))
  rw [dmPc_at hA]
  have cx0 := cx
  obtain ⟨hx, hb, hml, hown, hts, hnm, hK, hF, hAA, ⟨hr1, hr2, hr3, hr4⟩, -⟩ := cx
  simp only [dmCk, Bool.and_eq_true] at hck
  obtain ⟨⟨h1, h2⟩, h3⟩ := hck
  have hwf := (Bool.and_eq_true _ _).mp hwf
  subst hh
  rw [← hn] at hwf
  have hwl := hwf.2
  rw [List.all_append, Bool.and_eq_true] at hwl
  have hcy : s.vm.findClass (FieldType.array .long).toString = some (G.2.1 1) := (hK.1.2 1 _ rfl).2
  have hP0 : va_P G.1 dmCl (dmCw ads G.2.2 G.2.1 w ++ va_pl [] (fun _ => .inr (0, []))) H := by
    rw [show va_pl [] (fun _ => (.inr (0, []) : va_E)) = [] from rfl, List.append_nil]
    exact hP
  have hD0 : va_D A (dmCw ads G.2.2 G.2.1 w ++ va_pl [] (fun _ => .inr (0, []))) := by
    rw [show va_pl [] (fun _ => (.inr (0, []) : va_E)) = [] from rfl, List.append_nil]
    exact hD
  refine va_mna (X := dmCw ads G.2.2 G.2.1 w) (L := []) (f := fun _ => .inr (0, [])) (ty := .long) (N' := 8) (K' := 160) (z := (160, .inr (.inl (fun _ => 0)))) hx hb hown (hts _ (dmTB_in (dmWd_of h3) rfl)) hK.2.2.2.1 (hts _ iArr.2) hcy hK.1 hP0 hD0 hS hAA (by decide) (by decide) (by decide) (by decide) (by decide) (by decide) (by decide) rfl rfl (by omega) (by omega) (fun c => ?_) (dmD_of h1) (fun q r cA H1 hr _ hK1 hP1 hD1 hS1 => ?_)
  · show ({ cls := c, slots := Array.replicate 160 (.long 0), vm := .none } : Cell) = _
    rw [arrV_new]
    rfl
  have hcA : cA = G.2.1 2 := dm_cls_eq (t := 2) hK1 (k := 3) rfl hK.1 rfl (fun C e => by cases e)
  subst hcA
  have hw' := dmApp_eq _ _ _ hw
  have hal : ∀ k, k < 8 → (ads ++ q :: (List.range 8).map r).getD (w.length + 1 + k) 0 = r k := by
    intro k hk
    rw [List.getD_eq_getElem?_getD, List.getElem?_append_right (by omega), show w.length + 1 + k - ads.length = k + 1 by omega, List.getElem?_cons_succ, List.getElem?_map, List.getElem?_range hk]
    rfl
  have hrf : dmRf (ads ++ q :: (List.range 8).map r) fs = fun i => if i < 8 then some (r i) else none := by
    funext k
    unfold dmRf
    rw [hfs, List.getElem?_map]
    by_cases hk : k < 8
    · rw [List.getElem?_range hk, if_pos hk]
      simp only [Option.map_some]
      rw [hal k hk]
    · rw [List.getElem?_eq_none (by simp; omega), if_neg hk]
      rfl
  have hfl : fs.length = 8 := by rw [hfs]; simp
  have e1 : dmCw (ads ++ q :: (List.range 8).map r) G.2.2 G.2.1 w' = (dmCw ads G.2.2 G.2.1 w ++ [(q, .inl (G.2.1 2, 8, .inr (.inr (.inr (.inr (fun i => if i < 8 then some (r i) else none))))))]) ++ va_pl ([] ++ (List.range 8).map r) (vr_up (fun _ => .inr (0, [])) ((List.range 8).map r) (.inl (G.2.1 1, (160, .inr (.inl (fun _ => 0)))))) := by
    rw [hw', dmCw_app hn hwf.1, List.append_assoc]
    congr 1
    rw [List.zipWith_cons_cons]
    simp only [dmCe, if_pos, hrf, hfl]
    rw [List.singleton_append]
    congr 1
    unfold va_pl
    rw [List.nil_append]
    apply List.ext_getElem?
    intro k
    rw [List.getElem?_zipWith]
    simp only [List.getElem?_map, List.getElem?_replicate]
    by_cases hk : k < 8
    · rw [List.getElem?_range hk, if_pos hk]
      simp only [Option.map_some]
      rw [vr_up_in (List.mem_map.mpr ⟨k, List.mem_range.mpr hk, rfl⟩)]
    · rw [List.getElem?_eq_none (by simp; omega)]
      rfl
  rw [← e1] at hP1 hD1
  have hq := k.at hOK cx0 (ads := ads ++ q :: (List.range 8).map r) (hp.trans (List.prefix_append _ _)) (by rw [hw']; simp [hn]) hP1 hD1 hS1 (dmLR_app hwl.1 hL) (dmNx_of h2)
  have e2 : (Value.ref w.length :: st).map (dmCv (ads ++ q :: (List.range 8).map r) G.2.2) = .ref q :: st.map (dmCv ads G.2.2) := by
    rw [List.map_cons, dmWfL_cv hwl.2]
    simp [dmCv, ← hn]
  rw [e2] at hq
  exact hq
end GMN
end
section
/-! SHORT NAMES for walks that make no cells -/
abbrev dmE (r : Option Value) (w : dmW) : Option Value → dmW → Prop := fun r' w' => r' = r ∧ w' = w
abbrev GW0 (E : dmX) (M : dmM) (d : Nat) (S : dmS) (Q : Option Value → dmW → Prop) : Prop := GW E M d 0 0 0 0 S Q
abbrev GM0 (E : dmX) (M : dmM) (d : Nat) (as : List Value) (w : dmW) (Q : Option Value → dmW → Prop) : Prop := GM E M d 0 0 as w Q
/-- a truth value as the machine has it -/
def bI (b : Bool) : Int32 := match b with
  | true => 1
  | false => 0
theorem bI_0 {b : Bool} : bI b = 0 ↔ b = false := by cases b <;> simp [bI]
theorem bI_nz (b : Bool) : narrow .boolean (.int (bI b)) = .int (bI b) := by cases b <;> rfl
def nA (f : Nat → Nat) : Nat → Int32 := fun k => nI (f k)
theorem nA_up (f : Nat → Nat) (k x : Nat) : upd (nA f) k (nI x) = nA (va_up f k x) := by
  funext j
  unfold upd nA va_up
  by_cases h : j = k
  · rw [if_pos h, if_pos h]
  · rw [if_neg h, if_neg h]
/-- simple instructions, up to a jump back -/
def dmGo (M : dmM) : Nat → dmS → Option dmS
  | 0, s => some s
  | n + 1, s => match dmStep M s with
    | some t => match Nat.blt t.1 s.1 with
      | true => some t
      | false => dmGo M n t
    | none => some s
theorem GW_go {E : dmX} {M : dmM} {d mc ms kc ks : Nat} {Q : Option Value → dmW → Prop} : ∀ (n : Nat) {s t : dmS}, dmGo M n s = some t → GW E M d mc ms kc ks t Q → GW E M d mc ms kc ks s Q
  | 0, s, t, h, k => by
    cases h
    exact k
  | n + 1, s, t, h, k => by
    unfold dmGo at h
    cases hs : dmStep M s with
    | none =>
      rw [hs] at h
      cases h
      exact k
    | some u =>
      rw [hs] at h
      dsimp only at h
      split at h
      · cases h
        exact GW_step hs k
      · exact GW_step hs (GW_go n h k)
section SH
variable {E : dmX} {M M' : dmM} {d i pc nx x1 x2 x4 h n : Nat} {x3 : Int32} {x5 : List Nat} {ls st : List Value} {w : dmW} {Q : Option Value → dmW → Prop} {S t f : dmS} {cnd : Prop} {j : Int32}
theorem gm {as : List Value} (hOK : dmOK M = true) (hls : dmEnt M.2.2.1 as = some ls) (k : GW0 E M d (0, ls, [], w) Q) (hpl : plainName M.1.cls = true := by decide) (hpc : dmPc M 0 = 0 := by rfl) : GM0 E M d as w Q := GM_of hOK hpl hls hpc k
theorem gr (h : dmGo M 400 S = some t) (k : GW0 E M d t Q) : GW0 E M d S Q := GW_go 400 h k
/-- just n of them -/
theorem grn (n : Nat) (h : dmGo M n S = some t) (k : GW0 E M d t Q) : GW0 E M d S Q := GW_go n h k
theorem gi (h : dmBr M S = some (cnd, t, f)) (kt : cnd → GW0 E M d t Q) (kf : ¬ cnd → GW0 E M d f Q) : GW0 E M d S Q := G_if h kt kf
theorem gt (h : dmBr M S = some (cnd, t, f)) (hc : cnd) (kt : GW0 E M d t Q) : GW0 E M d S Q := G_if h (fun _ => kt) (fun z => absurd hc z)
theorem gf (h : dmBr M S = some (cnd, t, f)) (hc : ¬ cnd) (kf : GW0 E M d f Q) : GW0 E M d S Q := G_if h (fun z => absurd z hc) (fun _ => kf)
theorem gz {b : Bool} (h : dmBr M S = some (bI b = 0, t, f)) (kt : b = false → GW0 E M d t Q) (kf : b = true → GW0 E M d f Q) : GW0 E M d S Q := G_if h (fun z => kt (bI_0.mp z)) (fun z => kf (by cases b with | false => exact absurd rfl z | true => rfl))
/-- two naturals compared -/
theorem gl (x y : Nat) (h : dmBr M S = some (nI x < nI y, t, f)) (hx : x < 2147483648) (hy : y < 2147483648) (kt : x < y → GW0 E M d t Q) (kf : y ≤ x → GW0 E M d f Q) : GW0 E M d S Q := G_if h (fun z => kt ((nI_ltI hx hy).mp z)) (fun z => kf (Nat.le_of_not_lt fun z2 => z ((nI_ltI hx hy).mpr z2)))
theorem ge (x y : Nat) (h : dmBr M S = some (nI x = nI y, t, f)) (hx : x < 2147483648) (hy : y < 2147483648) (kt : x = y → GW0 E M d t Q) (kf : x ≠ y → GW0 E M d f Q) : GW0 E M d S Q := G_if h (fun z => kt ((nI_eq hx hy).mp z)) (fun z => kf (fun z2 => z ((nI_eq hx hy).mpr z2)))
theorem gld (k : Nat) {g : Nat → Nat} (hA : dmAt M.2.2.2.2.1 i = some (pc, .iaload, nx, x1, x2, x3, x4, x5)) (hw : dmGet w h = some (.inl (0, n, .inl (nA g)))) (hj : j = nI k) (hk : k < n) (K : GW0 E M d (nx, ls, .int (nI (g k)) :: st, w) Q) (hn : n < 2147483648 := by decide) : GW0 E M d (i, ls, .int j :: .ref h :: st, w) Q := G_iald k hA hw hj hk hn K
theorem gldi (k : Nat) {g : Nat → Int32} (hA : dmAt M.2.2.2.2.1 i = some (pc, .iaload, nx, x1, x2, x3, x4, x5)) (hw : dmGet w h = some (.inl (0, n, .inl g))) (hj : j = nI k) (hk : k < n) (K : GW0 E M d (nx, ls, .int (g k) :: st, w) Q) (hn : n < 2147483648 := by decide) : GW0 E M d (i, ls, .int j :: .ref h :: st, w) Q := G_iald k hA hw hj hk hn K
theorem gst (k x : Nat) {g : Nat → Nat} {w' : dmW} {y : Int32} (hA : dmAt M.2.2.2.2.1 i = some (pc, .iastore, nx, x1, x2, x3, x4, x5)) (hw : dmGet w h = some (.inl (0, n, .inl (nA g)))) (hj : j = nI k) (hy : y = nI x) (hk : k < n) (hs : dmSet w h (.inl (0, n, .inl (nA (va_up g k x)))) = some w') (K : GW0 E M d (nx, ls, st, w') Q) (hn : n < 2147483648 := by decide) : GW0 E M d (i, ls, .int y :: .int j :: .ref h :: st, w) Q := by
  subst hy
  exact G_iast k hA hw (by rw [nA_up]; exact hs) hj hk hn K
theorem gsti (k : Nat) {g : Nat → Int32} {w' : dmW} {y : Int32} (hA : dmAt M.2.2.2.2.1 i = some (pc, .iastore, nx, x1, x2, x3, x4, x5)) (hw : dmGet w h = some (.inl (0, n, .inl g))) (hj : j = nI k) (hk : k < n) (hs : dmSet w h (.inl (0, n, .inl (upd g k y))) = some w') (K : GW0 E M d (nx, ls, st, w') Q) (hn : n < 2147483648 := by decide) : GW0 E M d (i, ls, .int y :: .int j :: .ref h :: st, w) Q := G_iast k hA hw hs hj hk hn K
theorem gret {v : Int32} (hA : dmAt M.2.2.2.2.1 i = some (pc, .ireturn, nx, x1, x2, x3, x4, x5)) (hr : M.2.2.2.1 = some .int) (hq : Q (some (.int v)) w) : GW0 E M d (i, ls, [.int v], w) Q := G_ret hA hr rfl (Nat.le_refl 0) (Nat.le_refl 0) hq
theorem gretz {v : Int32} (b : Bool) (hA : dmAt M.2.2.2.2.1 i = some (pc, .ireturn, nx, x1, x2, x3, x4, x5)) (hr : M.2.2.2.1 = some .boolean) (hv : v = bI b) (hq : Q (some (.int (bI b))) w) : GW0 E M d (i, ls, [.int v], w) Q := by
  subst hv
  exact G_ret hA hr (bI_nz b) (Nat.le_refl 0) (Nat.le_refl 0) hq
theorem gretl {v : Int64} (hA : dmAt M.2.2.2.2.1 i = some (pc, .lreturn, nx, x1, x2, x3, x4, x5)) (hr : M.2.2.2.1 = some .long) (hq : Q (some (.long v)) w) : GW0 E M d (i, ls, [.long v], w) Q := G_retl hA hr (Nat.le_refl 0) (Nat.le_refl 0) hq
theorem gretv (hA : dmAt M.2.2.2.2.1 i = some (pc, .return_, nx, x1, x2, x3, x4, x5)) (hr : M.2.2.2.1 = none) (hq : Q none w) : GW0 E M d (i, ls, [], w) Q := G_retv hA hr (Nat.le_refl 0) (Nat.le_refl 0) hq
variable {a b idx : Nat} {as as' st' rr : List Value} {wc es es' wc' w1 : dmW} {r : Option Value}
/-- calls with one answer and one world behind them -/
theorem cV (is : List Nat) (o4 o5 : Value) {h ci : Nat} {fs : List Value} (hA : dmAt M.2.2.2.2.1 i = some (pc, .invokevirtual idx, nx, a, b, x3, x4, x5)) (hT : dmAt dmT a = some M') (hpop : dmPop (b + 1) st [] = some (.ref h :: as, st')) (hm : GM0 E M' d as' wc (dmE r wc')) (hrc : dmGet w h = some (.inr (ci, fs))) (hcl : (dmCl[ci]?).map (fun q => q.1) = some M'.1.cls)
    (ha : dmRnL is o4 o5 as' = some (.ref h :: as)) (hpk : dmPick w is = some es) (hrn : dmRnW is o4 o5 wc = some es) (h1 : dmRnO is o4 o5 r = some rr) (h2 : dmRnW is o4 o5 wc' = some es') (h3 : dmPut is es' w = some w1) (k : GW0 E M (d + 1) (nx, ls, rr ++ st', w1) Q)
    (h4 : dmIsRef o4 = true := by rfl) (h5 : dmIsRef o5 = true := by rfl) (hnd : va_nd is = true := by decide) (hcat : (st'.map Value.category).sum ≤ 8 := by exact Nat.le_of_ble_eq_true rfl) : GW0 E M (d + 1) (i, ls, st, w) Q :=
  G_callV is o4 o5 hA hT hpop hrc hcl hm ha hpk hrn h4 h5 hnd hcat (Nat.le_refl 0) (Nat.le_refl 0) (fun r2 w2 hq => by
    obtain ⟨q1, q2⟩ := hq
    subst q1; subst q2
    exact ⟨rr, es', w1, h1, h2, h3, k⟩)
theorem cV0 {h ci : Nat} {fs : List Value} (hA : dmAt M.2.2.2.2.1 i = some (pc, .invokevirtual idx, nx, a, b, x3, x4, x5)) (hT : dmAt dmT a = some M') (hpop : dmPop (b + 1) st [] = some (.ref h :: as, st')) (hm : GM0 E M' d (.ref h :: as) w (dmE r w1)) (hrc : dmGet w h = some (.inr (ci, fs))) (hcl : (dmCl[ci]?).map (fun q => q.1) = some M'.1.cls)
    (hl : w1.length = w.length) (k : GW0 E M (d + 1) (nx, ls, r.toList ++ st', w1) Q) (hcat : (st'.map Value.category).sum ≤ 8 := by exact Nat.le_of_ble_eq_true rfl) : GW0 E M (d + 1) (i, ls, st, w) Q :=
  G_callV0 hA hT hpop hrc hcl hm hcat (Nat.le_refl 0) (Nat.le_refl 0) (fun r2 w2 hq => by
    obtain ⟨q1, q2⟩ := hq
    subst q1; subst q2
    exact ⟨hl, k⟩)
theorem cS (is : List Nat) (o4 o5 : Value) (hA : dmAt M.2.2.2.2.1 i = some (pc, .invokestatic idx, nx, a, b, x3, x4, [1])) (hT : dmAt dmT a = some M') (hpop : dmPop b st [] = some (as, st')) (hm : GM0 E M' d as' wc (dmE r wc'))
    (ha : dmRnL is o4 o5 as' = some as) (hpk : dmPick w is = some es) (hrn : dmRnW is o4 o5 wc = some es) (h1 : dmRnO is o4 o5 r = some rr) (h2 : dmRnW is o4 o5 wc' = some es') (h3 : dmPut is es' w = some w1) (k : GW0 E M (d + 1) (nx, ls, rr ++ st', w1) Q)
    (h4 : dmIsRef o4 = true := by rfl) (h5 : dmIsRef o5 = true := by rfl) (hnd : va_nd is = true := by decide) (hcat : (st'.map Value.category).sum ≤ 8 := by exact Nat.le_of_ble_eq_true rfl) : GW0 E M (d + 1) (i, ls, st, w) Q :=
  G_callS is o4 o5 hA hT hpop hm ha hpk hrn h4 h5 hnd hcat (Nat.le_refl 0) (Nat.le_refl 0) (fun r2 w2 hq => by
    obtain ⟨q1, q2⟩ := hq
    subst q1; subst q2
    exact ⟨rr, es', w1, h1, h2, h3, k⟩)
/-- a static method over no world: an int answer -/
theorem cs {v : Int32} (hA : dmAt M.2.2.2.2.1 i = some (pc, .invokestatic idx, nx, a, b, x3, x4, [1])) (hT : dmAt dmT a = some M') (hpop : dmPop b st [] = some (as, st')) (hm : GM0 E M' d as [] (dmE (some (.int v)) [])) (hint : as.all dmIsInt = true) (k : GW0 E M (d + 1) (nx, ls, .int v :: st', w) Q) (hcat : (st'.map Value.category).sum ≤ 8 := by exact Nat.le_of_ble_eq_true rfl) : GW0 E M (d + 1) (i, ls, st, w) Q := by
  have ha : ∀ as : List Value, as.all dmIsInt = true → dmRnL [] (.retAddr 1) (.retAddr 1) as = some as := by
    intro as
    induction as with
    | nil => intro _; rfl
    | cons v vs ih =>
      intro h
      rw [List.all_cons, Bool.and_eq_true] at h
      cases v <;> simp_all [dmIsInt, dmRnL, dmRnV]
  exact cS [] (.retAddr 1) (.retAddr 1) hA hT hpop hm (ha _ hint) rfl rfl rfl rfl rfl k (hcat := hcat)
theorem cn {v : Int32} (hA : dmAt M.2.2.2.2.1 i = some (pc, .invokestatic idx, nx, a, b, x3, x4, [3])) (hT : dmAt dmT a = some M') (hpop : dmPop b st [] = some (as, st')) (hm : GM0 E M' d as [] (dmE (some (.int v)) [])) (hint : as.all dmIsInt = true) (k : GW0 E M (d + 1) (nx, ls, .int v :: st', w) Q) (hcat : (st'.map Value.category).sum ≤ 8 := by exact Nat.le_of_ble_eq_true rfl) : GW0 E M (d + 1) (i, ls, st, w) Q := by
  have ha : ∀ as : List Value, as.all dmIsInt = true → dmRnL [] (.retAddr 1) (.retAddr 1) as = some as := by
    intro as
    induction as with
    | nil => intro _; rfl
    | cons v vs ih =>
      intro h
      rw [List.all_cons, Bool.and_eq_true] at h
      cases v <;> simp_all [dmIsInt, dmRnL, dmRnV]
  exact G_callN [] (.retAddr 1) (.retAddr 1) hA hT hpop hm (ha _ hint) rfl rfl rfl rfl rfl hcat (Nat.le_refl 0) (Nat.le_refl 0) (fun r2 w2 hq => by
    obtain ⟨q1, q2⟩ := hq
    subst q1; subst q2
    exact ⟨_, _, _, rfl, rfl, rfl, k⟩)
theorem gmax {x y : Int32} (hA : dmAt M.2.2.2.2.1 i = some (pc, .invokestatic idx, nx, a, b, x3, x4, [4])) (k : GW0 E M (d + 1) (nx, ls, .int (if x < y then y else x) :: st, w) Q) (hcat : (st.map Value.category).sum ≤ 8 := by exact Nat.le_of_ble_eq_true rfl) : GW0 E M (d + 1) (i, ls, .int y :: .int x :: st, w) Q := G_max hA hcat (Nat.le_refl 0) (Nat.le_refl 0) k
theorem gabs {x : Int32} (hA : dmAt M.2.2.2.2.1 i = some (pc, .invokestatic idx, nx, a, b, x3, x4, [6])) (k : GW0 E M (d + 1) (nx, ls, .int (if 0 ≤ x then x else 0 - x) :: st, w) Q) (hcat : (st.map Value.category).sum ≤ 8 := by exact Nat.le_of_ble_eq_true rfl) : GW0 E M (d + 1) (i, ls, .int x :: st, w) Q := G_abs hA hcat (Nat.le_refl 0) (Nat.le_refl 0) k
end SH
end
section
/-! AN ARRAY IS WHAT IT HOLDS BELOW ITS LENGTH; a static table's length -/
theorem arrV_ext {cA : ClassId} {n : Nat} {f g : Nat → Value} (h : ∀ k, k < n → f k = g k) : arrV cA n f = arrV cA n g := by
  unfold arrV
  congr 1
  congr 1
  funext j
  exact h j.val j.isLt
theorem dm_swap {G : dmG} {ads : List Nat} {w w' : dmW} {h : Nat} {e e' : va_E} {H : Heap} {A : Nat → Prop} (hn : ads.length = w.length) (hP : va_P G.1 dmCl (dmCw ads G.2.2 G.2.1 w) H) (hD : va_D A (dmCw ads G.2.2 G.2.1 w)) (hg : dmGet w h = some e) (hs : dmSet w h e' = some w') (he : ∀ q, va_at G.1 dmCl (q, dmCe ads G.2.2 G.2.1 e) H → va_at G.1 dmCl (q, dmCe ads G.2.2 G.2.1 e') H) : ads.length = w'.length ∧ va_P G.1 dmCl (dmCw ads G.2.2 G.2.1 w') H ∧ va_D A (dmCw ads G.2.2 G.2.1 w') := by
  have hset := dmCw_set (ads := ads) (sad := G.2.2) (dA := G.2.1) hn hs
  have hget := dmCw_get (ads := ads) (sad := G.2.2) (dA := G.2.1) hn hg
  have hlt := (List.getElem?_eq_some_iff.mp hget).1
  have adr : ∀ (k : Nat) (q : Nat × va_E), (dmCw ads G.2.2 G.2.1 w')[k]? = some q → ∃ e0, (dmCw ads G.2.2 G.2.1 w)[k]? = some (q.1, e0) ∧ (k = h ∧ q = (ads.getD h 0, dmCe ads G.2.2 G.2.1 e') ∨ e0 = q.2) := by
    intro k q hq
    rw [← hset.1, List.getElem?_set] at hq
    by_cases hk : h = k
    · subst hk
      rw [if_pos rfl, if_pos hlt] at hq
      cases hq
      exact ⟨_, hget, Or.inl ⟨rfl, rfl⟩⟩
    · rw [if_neg hk] at hq
      exact ⟨q.2, hq, Or.inr rfl⟩
  refine ⟨hset.2, fun k q hq => ?_, ⟨fun i j p q hi hj hpq => ?_, fun k q hq => ?_⟩⟩
  · obtain ⟨e0, h1, h2⟩ := adr k q hq
    rcases h2 with ⟨rfl, rfl⟩ | h2
    · exact he _ (hP _ _ hget)
    · rw [h2] at h1
      exact hP k q h1
  · obtain ⟨e0, h1, -⟩ := adr i p hi
    obtain ⟨e1, h2, -⟩ := adr j q hj
    exact hD.1 i j _ _ h1 h2 hpq
  · obtain ⟨e0, h1, -⟩ := adr k q hq
    exact hD.2 k (q.1, e0) h1
/-- a weaker end -/
theorem GW_mono {E : dmX} {M : dmM} {d mc ms kc ks : Nat} {S : dmS} {Q Q' : Option Value → dmW → Prop} (h : ∀ r w, Q r w → Q' r w) (k : GW E M d mc ms kc ks S Q) : GW E M d mc ms kc ks S Q' := by
  intro hOK G p l e Rm s m args below meth c A ads0 Zf cx H locs ads lsC hp hl hP hD hS hL
  obtain ⟨c1, c2, c3, c4, c5, c6, c7, c8, c9, c10, c11⟩ := cx
  exact k hOK G p l e Rm s m args below meth c A ads0 Zf ⟨c1, c2, c3, c4, c5, c6, c7, c8, c9, c10, fun H locs ads kc ks pc ls r w b1 b2 b3 b4 b5 b6 b7 b8 b9 => c11 H locs ads kc ks pc ls r w b1 b2 b3 b4 b5 b6 b7 (h r w b8) b9⟩ H locs ads lsC hp hl hP hD hS hL
section NR
variable {E : dmX} {M : dmM} {d mc ms kc ks i h n pc nx x1 x2 x4 : Nat} {x3 : Int32} {x5 : List Nat} {ls st : List Value} {w w' : dmW} {Q : Option Value → dmW → Prop}
theorem G_nrmI {f g : Nat → Int32} (hw : dmGet w h = some (.inl (0, n, .inl f))) (hfg : ∀ k, k < n → f k = g k) (hs : dmSet w h (.inl (0, n, .inl g)) = some w') (K : GW E M d mc ms kc ks (i, ls, st, w') Q) : GW E M d mc ms kc ks (i, ls, st, w) Q := by
  intro hOK G p l e Rm s m args below meth c A ads0 Zf cx H locs ads lsC hp hl hP hD hS hL
  obtain ⟨h1, h2, h3⟩ := dm_swap (G := G) hl hP hD hw hs (fun q hq => by
    have e1 : vp_cell (G.2.1 0) (n, .inl f) = vp_cell (G.2.1 0) (n, .inl g) := arrV_ext (f := fun j => .int (f j)) (g := fun j => .int (g j)) (fun k hk => by rw [hfg k hk])
    show H[q]? = some (vp_cell (G.2.1 0) (n, .inl g))
    rw [← e1]
    exact hq)
  exact K.at hOK cx hp h1 h2 h3 hS hL rfl
theorem G_nrmL {f g : Nat → Int64} (hw : dmGet w h = some (.inl (1, n, .inr (.inl f)))) (hfg : ∀ k, k < n → f k = g k) (hs : dmSet w h (.inl (1, n, .inr (.inl g))) = some w') (K : GW E M d mc ms kc ks (i, ls, st, w') Q) : GW E M d mc ms kc ks (i, ls, st, w) Q := by
  intro hOK G p l e Rm s m args below meth c A ads0 Zf cx H locs ads lsC hp hl hP hD hS hL
  obtain ⟨h1, h2, h3⟩ := dm_swap (G := G) hl hP hD hw hs (fun q hq => by
    have e1 : vp_cell (G.2.1 1) (n, .inr (.inl f)) = vp_cell (G.2.1 1) (n, .inr (.inl g)) := arrV_ext (f := fun j => .long (f j)) (g := fun j => .long (g j)) (fun k hk => by rw [hfg k hk])
    show H[q]? = some (vp_cell (G.2.1 1) (n, .inr (.inl g)))
    rw [← e1]
    exact hq)
  exact K.at hOK cx hp h1 h2 h3 hS hL rfl
theorem G_tlen (a : Nat) (hA : dmAt M.2.2.2.2.1 i = some (pc, .arraylength, nx, x1, x2, x3, x4, x5)) (ha : a < 3)
    (K : GW E M d mc ms kc ks (nx, ls, .int (nI (dmTab a).length) :: st, w) Q) : GW E M d mc ms kc ks (i, ls, .retAddr (a + 1) :: st, w) Q := by
  intro hOK G p l e Rm s m args below meth c A ads0 Zf cx H locs ads lsC hp hl hP hD hS hL
  have hck := dmOK_at hOK hA
  show W p l e Rm s m args below meth c H locs kc ks Zf (F0 m (dmPc M i) lsC (.ref (G.2.2 a) :: st.map (dmCv ads G.2.2)))
  rw [dmPc_at hA]
  have cx0 := cx
  obtain ⟨hx, hb, -, -, -, -, hK, hF, -⟩ := cx
  simp only [dmCk, Bool.and_eq_true] at hck
  refine va_tlen hx hb (hF.1 a ha).2 hS rfl (dmD_of hck.1) ?_
  exact K.at hOK cx0 hp hl hP hD hS hL (dmNx_of hck.2)
/-- a whole row copied onto another of its length -/
theorem gcpw (n : Nat) {sp' dp' n' : Int32} {idx a b h0 h1 : Nat} {f g : Nat → Int32} (hA : dmAt M.2.2.2.2.1 i = some (pc, .invokestatic idx, nx, a, b, x3, x4, [7])) (hw0 : dmGet w h0 = some (.inl (0, n, .inl f))) (hw1 : dmGet w h1 = some (.inl (0, n, .inl g))) (hs : dmSet w h1 (.inl (0, n, .inl f)) = some w')
    (e1 : sp' = nI 0) (e2 : dp' = nI 0) (e3 : n' = nI n)
    (K : GW0 E M (d + 1) (nx, ls, st, w') Q) (hn0 : n < 2147483648 := by decide) (hcat : (st.map Value.category).sum ≤ 8 := by exact Nat.le_of_ble_eq_true rfl) : GW0 E M (d + 1) (i, ls, .int n' :: .int dp' :: .ref h1 :: .int sp' :: .ref h0 :: st, w) Q := by
  obtain ⟨hl1, hw'⟩ := dmSet_eq _ _ _ _ hs
  have q1 : dmSet w h1 (.inl (0, n, .inl (va_cpy f g 0 0 n))) = some (w.set h1 (.inl (0, n, .inl (va_cpy f g 0 0 n)))) := by
    have key : ∀ (l : List va_E) (k : Nat) (v : va_E), k < l.length → dmSet l k v = some (l.set k v) := by
      intro l
      induction l with
      | nil => intro k v hk; simp at hk
      | cons a l ih =>
        intro k v hk
        cases k with
        | zero => rfl
        | succ k => simp only [dmSet, ih k v (by simpa using hk), List.set_cons_succ]
    exact key w h1 _ hl1
  refine G_copyi 0 0 n hA hw0 hw1 q1 e1 e2 e3 (by omega) (by omega) hn0 hn0 hcat ?_
  refine G_nrmI (h := h1) (n := n) (f := va_cpy f g 0 0 n) (g := f) (w' := w') ?_ (fun k hk => ?_) ?_ K
  · rw [dmGet_eq, List.getElem?_set_self hl1]
  · unfold va_cpy
    rw [if_pos ⟨Nat.zero_le k, by omega⟩]
    congr 1
    omega
  · have key : ∀ (l : List va_E) (k : Nat) (v u : va_E), k < l.length → dmSet (l.set k v) k u = some (l.set k u) := by
      intro l
      induction l with
      | nil => intro k v u hk; simp at hk
      | cons a l ih =>
        intro k v u hk
        cases k with
        | zero => rfl
        | succ k => simp only [dmSet, List.set_cons_succ, ih k v u (by simpa using hk)]
    rw [key w h1 _ _ hl1, hw']
end NR
end
section
/-! NUMBERS AND BITS -/
theorem nb_sm : ∀ t, t < 32 → ((nI t &&& 31 : Int32).toBitVec.smod 32).toNat = t := by decide
theorem nb_um : ∀ t, t < 32 → (((nI t).toUInt32 &&& Int32.toUInt32 31).toBitVec % 32).toNat = t := by decide
theorem nb_and (a b : Nat) : nI a &&& nI b = nI (a &&& b) := by
  apply Int32.toBitVec_inj.1
  show BitVec.ofNat 32 a &&& BitVec.ofNat 32 b = BitVec.ofNat 32 (a &&& b)
  apply BitVec.eq_of_getLsbD_eq
  intro i hi
  simp [hi]
theorem nb_or (a b : Nat) : nI a ||| nI b = nI (a ||| b) := by
  apply Int32.toBitVec_inj.1
  show BitVec.ofNat 32 a ||| BitVec.ofNat 32 b = BitVec.ofNat 32 (a ||| b)
  apply BitVec.eq_of_getLsbD_eq
  intro i hi
  simp [hi]
theorem nb_and1 {x : Nat} (h : x < 4294967296) : nI x &&& 1 = nI (x % 2) := pk_andN h 1 rfl
theorem nb_shr {x t : Nat} (hx : x < 2147483648) (ht : t < 32) : nI x >>> (nI t &&& 31) = nI (x / 2 ^ t) := pk_shrN hx _ t (nb_sm t ht)
theorem nb_shl {x t : Nat} (h : x * 2 ^ t < 4294967296) (ht : t < 32) : nI x <<< (nI t &&& 31) = nI (x * 2 ^ t) := pk_shlN _ t (nb_sm t ht) h
theorem nb_one {t : Nat} (ht : t < 32) : (1 : Int32) <<< (nI t &&& 31) = nI (2 ^ t) := by
  have h : 1 * 2 ^ t < 4294967296 := by
    have : 2 ^ t < 2 ^ 32 := Nat.pow_lt_pow_right (by decide) ht
    omega
  have h2 := nb_shl h ht
  rw [Nat.one_mul] at h2
  exact h2
theorem nb_not : ∀ t, t < 32 → nI (2 ^ t) ^^^ (-1) = nI (4294967295 - 2 ^ t) := by decide
/-- a number without a bit -/
def clr (a t : Nat) : Nat := a &&& (4294967295 - 2 ^ t)
theorem nb_clr (a : Nat) {t : Nat} (ht : t < 32) : nI a &&& (nI (2 ^ t) ^^^ (-1)) = nI (clr a t) := by
  rw [nb_not t ht, nb_and]
  rfl
theorem clr_mask : ∀ t, t < 32 → ∀ i, i < 32 → (4294967295 - 2 ^ t).testBit i = decide (i ≠ t) := by decide +kernel
theorem clr_bit {a t i : Nat} (ht : t < 32) (hi : i < 32) : (clr a t).testBit i = (a.testBit i && decide (i ≠ t)) := by
  unfold clr
  rw [Nat.testBit_and, clr_mask t ht i hi]
theorem clr_le (a t : Nat) : clr a t ≤ a := Nat.and_le_left
theorem bit_div (x t : Nat) : x / 2 ^ t % 2 = (x.testBit t).toNat := by
  rw [← Nat.shiftRight_eq_div_pow]
  simp [Nat.testBit, Nat.and_comm 1, Nat.and_one_is_mod]
  rcases Nat.mod_two_eq_zero_or_one (x >>> t) with h | h <;> rw [h] <;> rfl
theorem or_lt {a b k : Nat} (ha : a < 2 ^ k) (hb : b < 2 ^ k) : a ||| b < 2 ^ k := Nat.or_lt_two_pow ha hb
/-! how many bits -/
def pcn : Nat → Nat → Nat
  | 0, _ => 0
  | k + 1, x => pcn k x + (x.testBit k).toNat
/-- the steps of Integer.bitCount, on naturals -/
def bc1 (x : Nat) : Nat := x - ((x / 2) &&& 0x55555555)
def bc2 (x : Nat) : Nat := (x &&& 0x33333333) + ((x / 4) &&& 0x33333333)
def bc3 (x : Nat) : Nat := (x + x / 16) &&& 0x0f0f0f0f
theorem and_split (a b c d : Nat) (hc : c < 256) : (a % 256 + 256 * b) &&& (c + 256 * d) = ((a % 256) &&& c) + 256 * (b &&& d) := by
  have h1 : ((a % 256 + 256 * b) &&& (c + 256 * d)) % 2 ^ 8 = (a % 256) &&& c := by
    rw [Nat.and_mod_two_pow]
    have e1 : (a % 256 + 256 * b) % 2 ^ 8 = a % 256 := by omega
    have e2 : (c + 256 * d) % 2 ^ 8 = c := by omega
    rw [e1, e2]
  have h2 : ((a % 256 + 256 * b) &&& (c + 256 * d)) / 2 ^ 8 = b &&& d := by
    rw [Nat.and_div_two_pow]
    have e1 : (a % 256 + 256 * b) / 2 ^ 8 = b := by omega
    have e2 : (c + 256 * d) / 2 ^ 8 = d := by omega
    rw [e1, e2]
  have h3 := Nat.div_add_mod ((a % 256 + 256 * b) &&& (c + 256 * d)) (2 ^ 8)
  rw [h1, h2] at h3
  omega
/-- one byte's count by the three steps -/
def bcb (a : Nat) : Nat := bc3 (bc2 (bc1 a))
theorem bcb_ok : ∀ a, a < 256 → bcb a = pcn 8 a := by decide +kernel
def m5 : Nat → Nat
  | 0 => 0
  | k + 1 => 0x55 + 256 * m5 k
def m3 : Nat → Nat
  | 0 => 0
  | k + 1 => 0x33 + 256 * m3 k
def m0 : Nat → Nat
  | 0 => 0
  | k + 1 => 0x0f + 256 * m0 k
def q1 (k x : Nat) : Nat := x - ((x / 2) &&& m5 k)
def q2 (k x : Nat) : Nat := (x &&& m3 k) + ((x / 4) &&& m3 k)
def q3 (k x : Nat) : Nat := (x + x / 16) &&& m0 k
theorem by1 : ∀ a, a < 256 → ∀ r, r < 2 → ((a / 2 + 128 * r) &&& 0x55) = ((a / 2) &&& 0x55) ∧ ((a / 2) &&& 0x55) ≤ a := by decide +kernel
theorem by2 : ∀ a, a < 256 → ∀ r, r < 4 → ((a / 4 + 64 * r) &&& 0x33) = ((a / 4) &&& 0x33) := by decide +kernel
theorem by3 : ∀ a, a < 256 → ((a &&& 0x33) + ((a / 4) &&& 0x33)) < 256 := by decide +kernel
theorem by4 : ∀ a, a < 256 → (a - ((a / 2) &&& 0x55)) < 256 := by
  intro a h
  omega
theorem q1_s (k a y : Nat) (ha : a < 256) : q1 (k + 1) (a + 256 * y) = q1 1 a + 256 * q1 k y := by
  unfold q1
  have e : (a + 256 * y) / 2 = (a / 2 + 128 * (y % 2)) % 256 + 256 * (y / 2) := by omega
  obtain ⟨h1, h2⟩ := by1 a ha (y % 2) (Nat.mod_lt _ (by decide))
  have hy : (y / 2) &&& m5 k ≤ y / 2 := Nat.and_le_left
  have e3 : (a / 2 + 128 * (y % 2)) % 256 = a / 2 + 128 * (y % 2) := by omega
  simp only [m5]
  rw [e, and_split _ _ 0x55 (m5 k) (by decide), e3, h1]
  simp only [Nat.mul_zero, Nat.add_zero]
  omega
theorem q2_s (k a y : Nat) (ha : a < 256) : q2 (k + 1) (a + 256 * y) = q2 1 a + 256 * q2 k y := by
  unfold q2
  have e : (a + 256 * y) / 4 = (a / 4 + 64 * (y % 4)) % 256 + 256 * (y / 4) := by omega
  have e0 : a + 256 * y = a % 256 + 256 * y := by omega
  have e3 : (a / 4 + 64 * (y % 4)) % 256 = a / 4 + 64 * (y % 4) := by omega
  simp only [m3]
  rw [e, and_split _ _ 0x33 (m3 k) (by decide), e3, by2 a ha (y % 4) (Nat.mod_lt _ (by decide)), e0, and_split _ _ 0x33 (m3 k) (by decide), Nat.mod_eq_of_lt ha]
  simp only [Nat.mul_zero, Nat.add_zero]
  omega
theorem by5 : ∀ a, a < 256 → q1 1 a < 256 ∧ q2 1 (q1 1 a) < 69 ∧ q2 1 (q1 1 a) % 16 < 5 ∧ (∀ r, r < 5 → ((q2 1 (q1 1 a) + q2 1 (q1 1 a) / 16 + 16 * r) &&& 0x0f) = ((q2 1 (q1 1 a) + q2 1 (q1 1 a) / 16) &&& 0x0f)) := by decide +kernel
theorem q3_s (k a y : Nat) (ha : a < 256) (hy : y % 16 < 5) : q3 (k + 1) (q2 1 (q1 1 a) + 256 * y) = q3 1 (q2 1 (q1 1 a)) + 256 * q3 k y := by
  obtain ⟨h1, h2, -, h3⟩ := by5 a ha
  generalize q2 1 (q1 1 a) = z at h2 h3 ⊢
  have h4 := h3 (y % 16) hy
  unfold q3
  simp only [m0]
  have e : z + 256 * y + (z + 256 * y) / 16 = (z + z / 16 + 16 * (y % 16)) % 256 + 256 * (y + y / 16) := by omega
  have e2 : (z + z / 16 + 16 * (y % 16)) % 256 = z + z / 16 + 16 * (y % 16) := by omega
  rw [e, and_split _ _ 0x0f (m0 k) (by decide), e2, h4]
theorem bc_bytes (a b c d : Nat) (ha : a < 256) (hb : b < 256) (hc : c < 256) (hd : d < 256) : bc3 (bc2 (bc1 (a + 256 * (b + 256 * (c + 256 * d))))) = pcn 8 a + 256 * (pcn 8 b + 256 * (pcn 8 c + 256 * pcn 8 d)) := by
  have e1 : ∀ x, bc1 x = q1 4 x := fun _ => rfl
  have e2 : ∀ x, bc2 x = q2 4 x := fun _ => rfl
  have e3 : ∀ x, bc3 x = q3 4 x := fun _ => rfl
  have z1 : ∀ x, x < 256 → q3 1 (q2 1 (q1 1 x)) = pcn 8 x := by decide +kernel
  have n1 : ∀ x, q1 0 x = x := fun x => by simp [q1, m5]
  rw [e3, e2, e1, q1_s 3 a _ ha, q1_s 2 b _ hb, q1_s 1 c _ hc, show q1 1 d = q1 1 d from rfl,
    q2_s 3 _ _ (by5 a ha).1, q2_s 2 _ _ (by5 b hb).1, q2_s 1 _ _ (by5 c hc).1, q3_s 3 a _ ha (by have := (by5 b hb).2.2.1; omega), q3_s 2 b _ hb (by have := (by5 c hc).2.2.1; omega), q3_s 1 c _ hc (by5 d hd).2.2.1, z1 a ha, z1 b hb, z1 c hc, z1 d hd]
theorem pcn_zero : ∀ (k x : Nat), x < 2 ^ 0 → pcn k x = 0
  | 0, _, _ => rfl
  | k + 1, x, h => by
    have hx : x = 0 := by simpa using h
    subst hx
    simp [pcn, pcn_zero k 0 (by simp)]
theorem pcn_split : ∀ (k a y : Nat), a < 256 → pcn (8 + k) (a + 256 * y) = pcn 8 a + pcn k y
  | 0, a, y, ha => by
    have : ∀ j, j ≤ 8 → pcn j (a + 256 * y) = pcn j a := by
      intro j
      induction j with
      | zero => intro _; rfl
      | succ j ih =>
        intro hj
        simp only [pcn]
        rw [ih (by omega)]
        congr 2
        rw [show a + 256 * y = 2 ^ 8 * y + a by omega, Nat.testBit_two_pow_mul_add y (by omega)]
        simp [show j < 8 by omega]
    rw [Nat.add_zero, this 8 (Nat.le_refl 8)]
    rfl
  | k + 1, a, y, ha => by
    have e : (a + 256 * y).testBit (8 + k) = y.testBit k := by
      rw [show a + 256 * y = 2 ^ 8 * y + a by omega, Nat.testBit_two_pow_mul_add y (by omega), if_neg (by omega)]
      congr 1
      omega
    show pcn (8 + k) (a + 256 * y) + ((a + 256 * y).testBit (8 + k)).toNat = pcn 8 a + (pcn k y + (y.testBit k).toNat)
    rw [pcn_split k a y ha, e]
    omega
theorem pcn_le : ∀ (k x : Nat), pcn k x ≤ k
  | 0, _ => Nat.le_refl 0
  | k + 1, x => by
    have := pcn_le k x
    have : (x.testBit k).toNat ≤ 1 := by cases x.testBit k <;> decide
    simp only [pcn]
    omega
/-- what is left of Integer.bitCount -/
theorem bc_end0 : ∀ a, a < 9 → ∀ b, b < 9 → ∀ c, c < 9 → ∀ d, d < 9 → ((a + 256 * (b + 256 * (c + 256 * d)) + (a + 256 * (b + 256 * (c + 256 * d))) / 256) % 4294967296 + (a + 256 * (b + 256 * (c + 256 * d)) + (a + 256 * (b + 256 * (c + 256 * d))) / 256) % 4294967296 / 65536) % 4294967296 % 64 = a + b + c + d := by decide +kernel
theorem bc_end (y : Nat) (a b c d : Nat) (ha : a ≤ 8) (hb : b ≤ 8) (hc : c ≤ 8) (hd : d ≤ 8) (h : y = a + 256 * (b + 256 * (c + 256 * d))) : ((y + y / 256) % 4294967296 + (y + y / 256) % 4294967296 / 65536) % 4294967296 % 64 = a + b + c + d := by
  subst h
  exact bc_end0 a (by omega) b (by omega) c (by omega) d (by omega)
theorem bc_all {x : Nat} (hx : x < 4294967296) : bc3 (bc2 (bc1 x)) < 4294967296 ∧ ((bc3 (bc2 (bc1 x)) + bc3 (bc2 (bc1 x)) / 256) % 4294967296 + (bc3 (bc2 (bc1 x)) + bc3 (bc2 (bc1 x)) / 256) % 4294967296 / 65536) % 4294967296 % 64 = pcn 32 x := by
  have e : x = x % 256 + 256 * (x / 256 % 256 + 256 * (x / 65536 % 256 + 256 * (x / 16777216))) := by omega
  have l0 : x % 256 < 256 := Nat.mod_lt _ (by decide)
  have l1 : x / 256 % 256 < 256 := Nat.mod_lt _ (by decide)
  have l2 : x / 65536 % 256 < 256 := Nat.mod_lt _ (by decide)
  have l3 : x / 16777216 < 256 := by omega
  have h := bc_bytes _ _ _ _ l0 l1 l2 l3
  rw [← e] at h
  have k0 := pcn_le 8 (x % 256)
  have k1 := pcn_le 8 (x / 256 % 256)
  have k2 := pcn_le 8 (x / 65536 % 256)
  have k3 := pcn_le 8 (x / 16777216)
  have hlt : bc3 (bc2 (bc1 x)) < 4294967296 := by rw [h]; omega
  refine ⟨hlt, ?_⟩
  rw [bc_end _ _ _ _ _ k0 k1 k2 k3 h]
  conv => rhs; rw [e]
  rw [show (32 : Nat) = 8 + 24 from rfl, pcn_split 24 _ _ l0, show (24 : Nat) = 8 + 16 from rfl, pcn_split 16 _ _ l1, show (16 : Nat) = 8 + 8 from rfl, pcn_split 8 _ _ l2]
  omega
end
section
/-! THE CHURCH: contracts -/
def anyN : Nat → (Nat → Bool) → Bool
  | 0, _ => false
  | k + 1, P => anyN k P || P k
def sumN : Nat → (Nat → Nat) → Nat
  | 0, _ => 0
  | k + 1, g => sumN k g + g k
/-- a natural number below n -/
def inN (v : Int32) (n : Nat) : Bool := decide (¬ v < 0) && decide (v < nI n)
theorem inN_nI {k n : Nat} (hk : k < 2147483648) (hn : n < 2147483648) : inN (nI k) n = decide (k < n) := by
  unfold inN
  have h1 : ¬ nI k < 0 := nI_pos hk
  rw [decide_eq_true h1, Bool.true_and]
  exact decide_eq_decide.mpr (nI_ltI hk hn)
theorem inN_of {v : Int32} {n : Nat} (h : inN v n = true) (hn : n < 2147483648) : ∃ k, k < n ∧ v = nI k := by
  unfold inN at h
  rw [Bool.and_eq_true, decide_eq_true_eq, decide_eq_true_eq] at h
  obtain ⟨k, hk, rfl⟩ := nI_of h.1
  exact ⟨k, (nI_ltI hk hn).mp h.2, rfl⟩
/-- arrays: 0 kind, 1 a, 2 place, 3 bold, 4 top, 5 knows, 6 high; n voices, t tunes, wt wait, hy hymns, sd seed -/
def WC (F : Nat → Nat → Nat) (n t wt : Nat) (hy sd : Int32) : dmW := [.inr (0, [R 1, R 2, R 3, R 4, R 5, R 6, R 7, I (nI n), I (nI t), I (nI wt), I hy, I sd]), .inl (0, 14, .inl (nA (F 0))), .inl (0, 14, .inl (nA (F 1))), .inl (0, 14, .inl (nA (F 2))), .inl (0, 14, .inl (nA (F 3))), .inl (0, 14, .inl (nA (F 4))), .inl (0, 14, .inl (nA (F 5))), .inl (0, 6, .inl (nA (F 6)))]
section CH
variable {E : dmX} {d : Nat} {F : Nat → Nat → Nat} {n t wt : Nat} {hy sd : Int32}
theorem c_C_hasVoice (v : Int32) : GM0 E mC_hasVoice (d + 1) [R 0, I v] (WC F n t wt hy sd) (dmE (some (I (bI (inN v n)))) (WC F n t wt hy sd)) := by
  refine gm okC_hasVoice rfl ?_
  refine gr rfl ?_
  refine gi rfl (fun h => ?_) (fun h => ?_)
  · refine gr rfl ?_
    exact gretz (inN v n) rfl rfl (by simp [inN, h, bI]) ⟨rfl, rfl⟩
  · refine gr rfl ?_
    refine gi rfl (fun h2 => ?_) (fun h2 => ?_)
    · refine gr rfl ?_
      exact gretz (inN v n) rfl rfl (by simp [inN, h, h2, bI]) ⟨rfl, rfl⟩
    · refine gr rfl ?_
      exact gretz (inN v n) rfl rfl (by simp [inN, h2, bI]) ⟨rfl, rfl⟩
theorem c_C_hasTune (v : Int32) : GM0 E mC_hasTune (d + 1) [R 0, I v] (WC F n t wt hy sd) (dmE (some (I (bI (inN v t)))) (WC F n t wt hy sd)) := by
  refine gm okC_hasTune rfl ?_
  refine gr rfl ?_
  refine gi rfl (fun h => ?_) (fun h => ?_)
  · refine gr rfl ?_
    exact gretz (inN v t) rfl rfl (by simp [inN, h, bI]) ⟨rfl, rfl⟩
  · refine gr rfl ?_
    refine gi rfl (fun h2 => ?_) (fun h2 => ?_)
    · refine gr rfl ?_
      exact gretz (inN v t) rfl rfl (by simp [inN, h, h2, bI]) ⟨rfl, rfl⟩
    · refine gr rfl ?_
      exact gretz (inN v t) rfl rfl (by simp [inN, h2, bI]) ⟨rfl, rfl⟩
theorem c_C_hasRoomForVoice (hn : n < 2147483648) : GM0 E mC_hasRoomForVoice (d + 1) [R 0] (WC F n t wt hy sd) (dmE (some (I (bI (decide (n < 12))))) (WC F n t wt hy sd)) := by
  refine gm okC_hasRoomForVoice rfl ?_
  refine gr rfl ?_
  refine gl n 12 rfl hn (by decide) (fun h => ?_) (fun h => ?_)
  · refine gr rfl ?_
    exact gretz (decide (n < 12)) rfl rfl (by simp [h, bI]) ⟨rfl, rfl⟩
  · refine gr rfl ?_
    exact gretz (decide (n < 12)) rfl rfl (by simp [Nat.not_lt.mpr h, bI]) ⟨rfl, rfl⟩
theorem c_C_hasRoomForTune (ht : t < 2147483648) : GM0 E mC_hasRoomForTune (d + 1) [R 0] (WC F n t wt hy sd) (dmE (some (I (bI (decide (t < 6))))) (WC F n t wt hy sd)) := by
  refine gm okC_hasRoomForTune rfl ?_
  refine gr rfl ?_
  refine gl t 6 rfl ht (by decide) (fun h => ?_) (fun h => ?_)
  · refine gr rfl ?_
    exact gretz (decide (t < 6)) rfl rfl (by simp [h, bI]) ⟨rfl, rfl⟩
  · refine gr rfl ?_
    exact gretz (decide (t < 6)) rfl rfl (by simp [Nat.not_lt.mpr h, bI]) ⟨rfl, rfl⟩
/-- a place that somebody has -/
def tkn (F : Nat → Nat → Nat) (n : Nat) (p : Int32) : Bool := anyN n (fun v => decide (nI (F 2 v) = p))
def frP (F : Nat → Nat → Nat) (n : Nat) (p : Int32) : Bool := inN p 24 && !tkn F n p
theorem anyN_of {P : Nat → Bool} : ∀ {k n : Nat}, k < n → P k = true → anyN n P = true
  | k, n + 1, h, hp => by
    simp only [anyN, Bool.or_eq_true]
    by_cases e : k = n
    · exact Or.inr (by rw [← e]; exact hp)
    · exact Or.inl (anyN_of (by omega) hp)
  | k, 0, h, _ => by omega
theorem anyN_ex {P : Nat → Bool} : ∀ {n : Nat}, anyN n P = true → ∃ k, k < n ∧ P k = true
  | 0, h => by simp [anyN] at h
  | n + 1, h => by
    simp only [anyN, Bool.or_eq_true] at h
    rcases h with h | h
    · obtain ⟨k, h1, h2⟩ := anyN_ex h
      exact ⟨k, by omega, h2⟩
    · exact ⟨n, by omega, h⟩
theorem l_C_isFree (p : Int32) (hn : n ≤ 14) : ∀ (m v : Nat), v + m = n → anyN v (fun u => decide (nI (F 2 u) = p)) = false → GW0 E mC_isFree d (2, [R 0, I p, I (nI v)], [], WC F n t wt hy sd) (dmE (some (I (bI (frP F n p)))) (WC F n t wt hy sd)) := by
  intro m
  induction m with
  | zero =>
    intro v hv h0
    have hvn : v = n := by omega
    subst hvn
    have hf : tkn F v p = false := h0
    refine gr rfl ?_
    refine gl v v rfl (by omega) (by omega) (fun h => absurd h (Nat.lt_irrefl v)) (fun _ => ?_)
    refine gr rfl ?_
    refine gi rfl (fun h => ?_) (fun h => ?_)
    · refine gr rfl ?_
      exact gretz (frP F v p) rfl rfl (by simp [frP, inN, h, bI]) ⟨rfl, rfl⟩
    · refine gr rfl ?_
      refine gi rfl (fun h2 => ?_) (fun h2 => ?_)
      · refine gr rfl ?_
        exact gretz (frP F v p) rfl rfl (by simp [frP, inN, h, show p < nI 24 from h2, hf, bI]) ⟨rfl, rfl⟩
      · refine gr rfl ?_
        exact gretz (frP F v p) rfl rfl (by simp [frP, inN, show ¬ p < nI 24 from h2, bI]) ⟨rfl, rfl⟩
  | succ m ih =>
    intro v hv h0
    refine gr rfl ?_
    refine gl v n rfl (by omega) (by omega) (fun _ => ?_) (fun h => absurd h (by omega))
    refine gr rfl ?_
    refine gld v rfl rfl rfl (by omega) ?_
    refine gr rfl ?_
    refine gi rfl (fun h => ?_) (fun h => ?_)
    · refine gr rfl ?_
      have hf : tkn F n p = true := anyN_of (show v < n by omega) (decide_eq_true h)
      exact gretz (frP F n p) rfl rfl (by simp [frP, hf, bI]) ⟨rfl, rfl⟩
    · refine gr rfl ?_
      rw [nI_1 v]
      exact ih (v + 1) (by omega) (by simp only [anyN, h0, Bool.false_or]; exact decide_eq_false h)
theorem c_C_isFree (p : Int32) (hn : n ≤ 14) : GM0 E mC_isFree (d + 1) [R 0, I p] (WC F n t wt hy sd) (dmE (some (I (bI (frP F n p)))) (WC F n t wt hy sd)) := by
  refine gm okC_isFree rfl ?_
  refine grn 2 rfl ?_
  exact l_C_isFree p hn n 0 (by omega) rfl
end CH
end
section
/-! BIT COUNT, SMALL STATIC METHODS, MORE OF THE CHURCH -/
section BC
variable {E : dmX} {d : Nat}
theorem us_1 {x : Nat} (h : x < 4294967296) (s : Int32) (k : Nat) (hs : ((s.toUInt32 &&& Int32.toUInt32 31).toBitVec % 32).toNat = k) : ((nI x).toUInt32 >>> (s.toUInt32 &&& Int32.toUInt32 31)).toInt32 = nI (x / 2 ^ k) := pk_ushrN h s k hs
theorem nI_mod (x : Nat) : nI x = nI (x % 4294967296) := by
  apply Int32.toBitVec_inj.1
  show BitVec.ofNat 32 x = BitVec.ofNat 32 (x % 4294967296)
  apply BitVec.eq_of_toNat_eq
  simp
theorem c_J_bitCount {x : Nat} (hx : x < 4294967296) : GM0 E mJ_bitCount (d + 1) [I (nI x)] [] (dmE (some (I (nI (pcn 32 x)))) []) := by
  refine gm okJ_bitCount rfl ?_
  refine gr rfl ?_
  refine gret rfl rfl ⟨?_, rfl⟩
  have a1 : bc1 x < 4294967296 := by unfold bc1; omega
  have e1 : nI x - ((((nI x).toUInt32 >>> ((1 : Int32).toUInt32 &&& Int32.toUInt32 31)).toInt32) &&& 1431655765) = nI (bc1 x) := by
    rw [us_1 hx 1 1 (by decide), show (1431655765 : Int32) = nI 0x55555555 from rfl, nb_and, pk_sub (Nat.le_trans Nat.and_le_left (by omega))]
    rfl
  have hb2 : ∀ y, y < 4294967296 → (nI y &&& 858993459) + ((((nI y).toUInt32 >>> ((2 : Int32).toUInt32 &&& Int32.toUInt32 31)).toInt32) &&& 858993459) = nI (bc2 y) := by
    intro y hy
    rw [us_1 hy 2 2 (by decide), show (858993459 : Int32) = nI 0x33333333 from rfl, nb_and, nb_and, nI_add]
    rfl
  have l2 : bc2 (bc1 x) < 4294967296 := by
    unfold bc2
    have h1 : (bc1 x &&& 0x33333333) ≤ 0x33333333 := Nat.and_le_right
    have h2 : ((bc1 x / 4) &&& 0x33333333) ≤ 0x33333333 := Nat.and_le_right
    omega
  have hb3 : ∀ y, y < 4294967296 → (nI y + (((nI y).toUInt32 >>> ((4 : Int32).toUInt32 &&& Int32.toUInt32 31)).toInt32)) &&& 252645135 = nI (bc3 y) := by
    intro y hy
    rw [us_1 hy 4 4 (by decide), show (252645135 : Int32) = nI 0x0f0f0f0f from rfl, nI_add, nb_and]
    rfl
  obtain ⟨l3, hfin⟩ := bc_all hx
  show Option.some (I _) = some (I _)
  congr 2
  rw [e1, hb2 _ a1, hb3 _ l2]
  rw [us_1 l3 8 8 (by decide), nI_add, nI_mod (bc3 (bc2 (bc1 x)) + bc3 (bc2 (bc1 x)) / 2 ^ 8)]
  have l4 : (bc3 (bc2 (bc1 x)) + bc3 (bc2 (bc1 x)) / 2 ^ 8) % 4294967296 < 4294967296 := Nat.mod_lt _ (by decide)
  rw [us_1 l4 16 16 (by decide), nI_add, nI_mod ((bc3 (bc2 (bc1 x)) + bc3 (bc2 (bc1 x)) / 2 ^ 8) % 4294967296 + _)]
  rw [show (63 : Int32) = nI 63 from rfl, pk_andN (Nat.mod_lt _ (by decide)) 6 rfl]
  rw [← hfin]
/-- v is between -/
def wi (v lo hi : Int32) : Bool := decide (¬ v < lo) && decide (¬ hi < v)
theorem c_O_within (v lo hi : Int32) : GM0 E mO_within (d + 1) [I v, I lo, I hi] [] (dmE (some (I (bI (wi v lo hi)))) []) := by
  refine gm okO_within rfl ?_
  refine gr rfl ?_
  refine gi rfl (fun h => ?_) (fun h => ?_)
  · refine gr rfl ?_
    exact gretz (wi v lo hi) rfl rfl (by simp [wi, h, bI]) ⟨rfl, rfl⟩
  · refine gr rfl ?_
    refine gi rfl (fun h2 => ?_) (fun h2 => ?_)
    · refine gr rfl ?_
      exact gretz (wi v lo hi) rfl rfl (by simp [wi, h2, bI]) ⟨rfl, rfl⟩
    · refine gr rfl ?_
      exact gretz (wi v lo hi) rfl rfl (by simp [wi, h, h2, bI]) ⟨rfl, rfl⟩
theorem wi_in {v : Int32} {k : Nat} (hk : k < 2147483647) : wi v 0 (nI k) = inN v (k + 1) := by
  unfold wi inN
  congr 1
  apply decide_eq_decide.mpr
  rw [Int32.not_lt, Int32.le_iff_toInt_le, Int32.lt_iff_toInt_lt, nI_toInt (by omega), nI_toInt (by omega)]
  omega
theorem c_O_isPitch (v : Int32) : GM0 E mO_isPitch (d + 2) [I v] [] (dmE (some (I (bI (inN v 6)))) []) := by
  refine gm okO_isPitch rfl ?_
  refine gr rfl ?_
  refine cs rfl rfl rfl (c_O_within v 0 5) rfl ?_
  rw [show (5 : Int32) = nI 5 from rfl, wi_in (by decide)]
  exact gretz (inN v 6) rfl rfl rfl ⟨rfl, rfl⟩
theorem c_O_isVerse (v : Int32) : GM0 E mO_isVerse (d + 2) [I v] [] (dmE (some (I (bI (inN v 41)))) []) := by
  refine gm okO_isVerse rfl ?_
  refine gr rfl ?_
  refine cs rfl rfl rfl (c_O_within v 0 40) rfl ?_
  rw [show (40 : Int32) = nI 40 from rfl, wi_in (by decide)]
  exact gretz (inN v 41) rfl rfl rfl ⟨rfl, rfl⟩
theorem c_O_isKind (v : Int32) : GM0 E mO_isKind (d + 1) [I v] [] (dmE (some (I (bI (inN v 7)))) []) := by
  refine gm okO_isKind rfl ?_
  refine gr rfl ?_
  refine gi rfl (fun h => ?_) (fun h => ?_)
  · refine gr rfl ?_
    exact gretz (inN v 7) rfl rfl (by simp [inN, h, bI]) ⟨rfl, rfl⟩
  · refine gr rfl ?_
    refine G_tlen 0 rfl (by decide) ?_
    refine gi rfl (fun h2 => ?_) (fun h2 => ?_)
    · refine gr rfl ?_
      exact gretz (inN v 7) rfl rfl (by simp [inN, h, show v < nI 7 from h2, bI]) ⟨rfl, rfl⟩
    · refine gr rfl ?_
      exact gretz (inN v 7) rfl rfl (by simp [inN, show ¬ v < nI 7 from h2, bI]) ⟨rfl, rfl⟩
end BC
section CH2
variable {E : dmX} {d : Nat} {F : Nat → Nat → Nat} {n t wt : Nat} {hy sd : Int32}
theorem c_C_allTunes (ht : t < 31) : GM0 E mC_allTunes (d + 1) [R 0] (WC F n t wt hy sd) (dmE (some (I (nI (2 ^ t - 1)))) (WC F n t wt hy sd)) := by
  refine gm okC_allTunes rfl ?_
  refine gr rfl ?_
  refine gret rfl rfl ⟨?_, rfl⟩
  rw [nb_one (by omega), show (1 : Int32) = nI 1 from rfl, pk_sub (Nat.one_le_two_pow)]
theorem c_C_knowsIt {v k : Nat} (hv : v < 14) (hk : k < 32) (hF : F 5 v < 2147483648) : GM0 E mC_knowsIt (d + 1) [R 0, I (nI v), I (nI k)] (WC F n t wt hy sd) (dmE (some (I (bI ((F 5 v).testBit k)))) (WC F n t wt hy sd)) := by
  refine gm okC_knowsIt rfl ?_
  refine gr rfl ?_
  refine gld v rfl rfl rfl hv ?_
  refine gr rfl ?_
  rw [nb_shr hF hk, nb_and1 (Nat.lt_of_le_of_lt (Nat.div_le_self _ _) (by omega)), bit_div]
  cases h : (F 5 v).testBit k with
  | false =>
    refine gt rfl rfl ?_
    refine gr rfl ?_
    exact gretz false rfl rfl rfl ⟨rfl, rfl⟩
  | true =>
    refine gf rfl (by decide) ?_
    refine gr rfl ?_
    exact gretz true rfl rfl rfl ⟨rfl, rfl⟩
theorem c_C_isInReach {v k p : Nat} (hv : v < 14) (hk : k < 6) (hp : p < 6) (h6 : F 6 k < 12) (h4 : F 4 v < 12) : GM0 E mC_isInReach (d + 1) [R 0, I (nI v), I (nI k), I (nI p)] (WC F n t wt hy sd) (dmE (some (I (bI (decide (F 6 k + p ≤ F 4 v))))) (WC F n t wt hy sd)) := by
  refine gm okC_isInReach rfl ?_
  refine gr rfl ?_
  refine gld k rfl rfl rfl hk ?_
  refine gr rfl ?_
  refine gld v rfl rfl rfl hv ?_
  rw [nI_add]
  refine gl (F 4 v) (F 6 k + p) rfl (by omega) (by omega) (fun h => ?_) (fun h => ?_)
  · refine gr rfl ?_
    exact gretz (decide (F 6 k + p ≤ F 4 v)) rfl rfl (by rw [decide_eq_false (by omega)]; rfl) ⟨rfl, rfl⟩
  · refine gr rfl ?_
    exact gretz (decide (F 6 k + p ≤ F 4 v)) rfl rfl (by rw [decide_eq_true h]; rfl) ⟨rfl, rfl⟩
/-- learns a tune, or forgets it -/
def lrn (x k : Nat) (b : Bool) : Nat := match b with
  | true => x ||| 2 ^ k
  | false => clr x k
def setK (F : Nat → Nat → Nat) (v x : Nat) : Nat → Nat → Nat := va_up F 5 (va_up (F 5) v x)
theorem c_C_learn {v k : Nat} (hv : v < 14) (hk : k < 31) (b : Bool) : GM0 E mC_learn (d + 1) [R 0, I (nI v), I (nI k), I (bI b)] (WC F n t wt hy sd) (dmE none (WC (setK F v (lrn (F 5 v) k b)) n t wt hy sd)) := by
  refine gm okC_learn rfl ?_
  refine gr rfl ?_
  refine gz rfl (fun h => ?_) (fun h => ?_)
  · subst h
    refine gr rfl ?_
    refine gld v rfl rfl rfl hv ?_
    refine gr rfl ?_
    refine gst v (clr (F 5 v) k) rfl rfl rfl (by rw [nb_one (by omega)]; exact nb_clr _ (by omega)) hv rfl ?_
    refine gr rfl ?_
    exact gretv rfl rfl ⟨rfl, rfl⟩
  · subst h
    refine gr rfl ?_
    refine gld v rfl rfl rfl hv ?_
    refine gr rfl ?_
    refine gst v (F 5 v ||| 2 ^ k) rfl rfl rfl (by rw [nb_one (by omega), nb_or]) hv rfl ?_
    refine gr rfl ?_
    exact gretv rfl rfl ⟨rfl, rfl⟩
end CH2
end
section
/-! THE CHURCH, THIRD PART -/
def needB (b : Nat) (kn : Bool) : Nat := match kn with
  | true => 2 - b
  | false => max 1 (4 - b)
def need (F : Nat → Nat → Nat) (v k : Nat) : Nat := match F 0 v with
  | 1 => if (F 5 v).testBit k then 0 else needB (F 3 v) false
  | 2 => F 1 v
  | 3 => 0
  | 5 => F 1 v
  | _ => needB (F 3 v) ((F 5 v).testBit k)
theorem nb_bold1 : ∀ b, b < 6 → (if (0 : Int32) < 2 - nI b then 2 - nI b else 0) = nI (2 - b) := by decide
theorem nb_bold2 : ∀ b, b < 6 → (if (1 : Int32) < 4 - nI b then 4 - nI b else 1) = nI (max 1 (4 - b)) := by decide
def adV (F : Nat → Nat → Nat) (n k a p b tp : Nat) : Nat → Nat → Nat := fun j => match j with
  | 0 => va_up (F 0) n k
  | 1 => va_up (F 1) n a
  | 2 => va_up (F 2) n p
  | 3 => va_up (F 3) n b
  | 4 => va_up (F 4) n tp
  | 5 => va_up (F 5) n 0
  | j + 6 => F (j + 6)
def adT (F : Nat → Nat → Nat) (t h : Nat) : Nat → Nat → Nat := va_up F 6 (va_up (F 6) t h)
def chP (F : Nat → Nat → Nat) (u v : Nat) : Nat → Nat → Nat := va_up F 2 (va_up (va_up (F 2) u (F 2 v)) v (F 2 u))
/-- the voices at the places of X, as bits -/
def vin (F : Nat → Nat → Nat) (X : Nat) : Nat → Nat
  | 0 => 0
  | k + 1 => vin F X k ||| (X / 2 ^ F 2 k % 2 * 2 ^ k)
/-- who learns: what each knows, the first k being done -/
def lal (F : Nat → Nat → Nat) (X t : Nat) : Nat → Nat → Nat
  | 0 => F 5
  | k + 1 => if X.testBit (F 2 k) then va_up (lal F X t k) k (lal F X t k k ||| 2 ^ t) else lal F X t k
def kta (F : Nat → Nat → Nat) (t : Nat) : Nat → Nat
  | 0 => 2 ^ t - 1
  | k + 1 => kta F t k &&& F 5 k
def sdn (sd : Int32) : Int32 := sd * 1103515245 + 12345
def drw (sd : Int32) (b : Nat) : Nat := (sdn sd).toBitVec.toNat / 65536 % b
theorem nI_bv (x : Int32) : x = nI x.toBitVec.toNat := by
  apply Int32.toBitVec_inj.1
  show x.toBitVec = BitVec.ofNat 32 x.toBitVec.toNat
  simp
/-- the whole of a church that stands 8 places behind -/
def WC8 (F : Nat → Nat → Nat) (n t wt : Nat) (hy sd : Int32) : dmW := [.inr (0, [R 9, R 10, R 11, R 12, R 13, R 14, R 15, I (nI n), I (nI t), I (nI wt), I hy, I sd]), .inl (0, 14, .inl (nA (F 0))), .inl (0, 14, .inl (nA (F 1))), .inl (0, 14, .inl (nA (F 2))), .inl (0, 14, .inl (nA (F 3))), .inl (0, 14, .inl (nA (F 4))), .inl (0, 14, .inl (nA (F 5))), .inl (0, 6, .inl (nA (F 6)))]
section CH3
variable {E : dmX} {d : Nat} {F : Nat → Nat → Nat} {n t wt : Nat} {hy sd : Int32}
theorem c_C_needByBold {v : Nat} (hv : v < 14) (hb : F 3 v < 6) (b : Bool) : GM0 E mC_needByBold (d + 1) [R 0, I (nI v), I (bI b)] (WC F n t wt hy sd) (dmE (some (I (nI (needB (F 3 v) b)))) (WC F n t wt hy sd)) := by
  refine gm okC_needByBold rfl ?_
  refine gr rfl ?_
  refine gz rfl (fun h => ?_) (fun h => ?_)
  · subst h
    refine gr rfl ?_
    refine gld v rfl rfl rfl hv ?_
    refine gr rfl ?_
    refine gmax rfl ?_
    rw [nb_bold2 _ hb]
    refine gr rfl ?_
    exact gret rfl rfl ⟨rfl, rfl⟩
  · subst h
    refine gr rfl ?_
    refine gld v rfl rfl rfl hv ?_
    refine gr rfl ?_
    refine gmax rfl ?_
    rw [nb_bold1 _ hb]
    refine gr rfl ?_
    exact gret rfl rfl ⟨rfl, rfl⟩
theorem c_C_needOf {v k : Nat} (hv : v < 14) (hk : k < 32) (h5 : F 5 v < 2147483648) (hb : F 3 v < 6) (h0 : F 0 v < 7) : GM0 E mC_needOf (d + 2) [R 0, I (nI v), I (nI k)] (WC F n t wt hy sd) (dmE (some (I (nI (need F v k)))) (WC F n t wt hy sd)) := by
  refine gm okC_needOf rfl ?_
  refine gr rfl ?_
  refine cV0 rfl rfl rfl (c_C_knowsIt hv hk h5) rfl rfl rfl ?_
  refine gr rfl ?_
  refine gld v rfl rfl rfl hv ?_
  have hcase : F 0 v = 0 ∨ F 0 v = 1 ∨ F 0 v = 2 ∨ F 0 v = 3 ∨ F 0 v = 4 ∨ F 0 v = 5 ∨ F 0 v = 6 := by omega
  have last : ∀ (hneed : need F v k = needB (F 3 v) ((F 5 v).testBit k)), GW0 E mC_needOf (d + 2) (26, [R 0, I (nI v), I (nI k), I (bI ((F 5 v).testBit k))], [], WC F n t wt hy sd) (dmE (some (I (nI (need F v k)))) (WC F n t wt hy sd)) := by
    intro hneed
    refine gr rfl ?_
    refine cV0 rfl rfl rfl (c_C_needByBold hv hb _) rfl rfl rfl ?_
    exact gret rfl rfl ⟨by rw [hneed], rfl⟩
  rcases hcase with h | h | h | h | h | h | h
  · rw [h]
    refine G_tswOut rfl (Or.inl (by decide)) ?_
    exact last (by simp only [need, h])
  · rw [h]
    refine G_tsw 0 rfl (by decide) (by decide) rfl ?_
    refine gr rfl ?_
    refine gz rfl (fun hk0 => ?_) (fun hk0 => ?_)
    · refine gr rfl ?_
      refine cV0 rfl rfl rfl (c_C_needByBold hv hb _) rfl rfl rfl ?_
      exact gret rfl rfl ⟨by simp only [need, h, hk0]; rfl, rfl⟩
    · refine gr rfl ?_
      exact gret rfl rfl ⟨by simp only [need, h, hk0]; rfl, rfl⟩
  · rw [h]
    refine G_tsw 1 rfl (by decide) (by decide) rfl ?_
    refine gr rfl ?_
    refine gld v rfl rfl rfl hv ?_
    exact gret rfl rfl ⟨by simp only [need, h], rfl⟩
  · rw [h]
    refine G_tsw 2 rfl (by decide) (by decide) rfl ?_
    refine gr rfl ?_
    exact gret rfl rfl ⟨by simp only [need, h]; rfl, rfl⟩
  · rw [h]
    refine G_tsw 3 rfl (by decide) (by decide) rfl ?_
    exact last (by simp only [need, h])
  · rw [h]
    refine G_tsw 4 rfl (by decide) (by decide) rfl ?_
    refine gr rfl ?_
    refine gld v rfl rfl rfl hv ?_
    exact gret rfl rfl ⟨by simp only [need, h], rfl⟩
  · rw [h]
    refine G_tswOut rfl (Or.inr (by decide)) ?_
    exact last (by simp only [need, h])
theorem c_C_addTune {h : Nat} (ht : t < 6) : GM0 E mC_addTune (d + 1) [R 0, I (nI h)] (WC F n t wt hy sd) (dmE (some (I (nI t))) (WC (adT F t h) n (t + 1) wt hy sd)) := by
  refine gm okC_addTune rfl ?_
  refine gr rfl ?_
  refine gl t 6 rfl (by omega) (by decide) (fun _ => ?_) (fun h9 => absurd h9 (by omega))
  refine gr rfl ?_
  refine gst t h rfl rfl rfl rfl ht rfl ?_
  refine gr rfl ?_
  rw [nI_1]
  refine gret rfl rfl ⟨?_, rfl⟩
  rw [show (1 : Int32) = nI 1 from rfl, pk_sub (by omega), Nat.add_sub_cancel]
theorem c_C_addVoice {k a p b tp : Nat} (hn : n < 14) : GM0 E mC_addVoice (d + 1) [R 0, I (nI k), I (nI a), I (nI p), I (nI b), I (nI tp)] (WC F n t wt hy sd) (dmE (some (I (nI n))) (WC (adV F n k a p b tp) (n + 1) t wt hy sd)) := by
  refine gm okC_addVoice rfl ?_
  refine gr rfl ?_
  refine gl n 14 rfl (by omega) (by decide) (fun _ => ?_) (fun h9 => absurd h9 (by omega))
  refine gr rfl ?_
  refine gst n k rfl rfl rfl rfl hn rfl ?_
  refine gr rfl ?_
  refine gst n a rfl rfl rfl rfl hn rfl ?_
  refine gr rfl ?_
  refine gst n p rfl rfl rfl rfl hn rfl ?_
  refine gr rfl ?_
  refine gst n b rfl rfl rfl rfl hn rfl ?_
  refine gr rfl ?_
  refine gst n tp rfl rfl rfl rfl hn rfl ?_
  refine gr rfl ?_
  refine gst n 0 rfl rfl rfl rfl hn rfl ?_
  refine gr rfl ?_
  rw [nI_1]
  refine gret rfl rfl ⟨?_, rfl⟩
  rw [show (1 : Int32) = nI 1 from rfl, pk_sub (by omega), Nat.add_sub_cancel]
theorem c_C_addLeader {p : Nat} (hn : n < 14) (ht : t < 31) : GM0 E mC_addLeader (d + 2) [R 0, I (nI p)] (WC F n t wt hy sd) (dmE none (WC (setK (adV F n 1 0 p 5 11) n (2 ^ t - 1)) (n + 1) t wt hy sd)) := by
  refine gm okC_addLeader rfl ?_
  refine gr rfl ?_
  refine cV0 rfl rfl rfl (c_C_addVoice (k := 1) (a := 0) (p := p) (b := 5) (tp := 11) hn) rfl rfl rfl ?_
  refine gr rfl ?_
  refine cV0 rfl rfl rfl (c_C_hasVoice (nI n)) rfl rfl rfl ?_
  rw [inN_nI (by omega) (by omega), decide_eq_true (by omega : n < n + 1)]
  refine gf rfl (by decide) ?_
  refine gr rfl ?_
  refine cV0 rfl rfl rfl (c_C_allTunes ht) rfl rfl rfl ?_
  refine gst n (2 ^ t - 1) rfl rfl rfl rfl hn rfl ?_
  refine gr rfl ?_
  exact gretv rfl rfl ⟨rfl, rfl⟩
theorem c_C_changePlaces {u v : Nat} (hu : u < 14) (hv : v < 14) (huv : u ≠ v) : GM0 E mC_changePlaces (d + 1) [R 0, I (nI u), I (nI v)] (WC F n t wt hy sd) (dmE none (WC (chP F u v) n t wt hy sd)) := by
  refine gm okC_changePlaces rfl ?_
  refine gr rfl ?_
  refine gld u rfl rfl rfl hu ?_
  refine gr rfl ?_
  refine gld v rfl rfl rfl hv ?_
  refine gst u (F 2 v) rfl rfl rfl rfl hu rfl ?_
  refine gr rfl ?_
  refine gst v (F 2 u) rfl rfl rfl rfl hv rfl ?_
  refine gr rfl ?_
  exact gretv rfl rfl ⟨rfl, rfl⟩
theorem l_C_voicesIn {X : Nat} (hX : X < 16777216) (hn : n ≤ 14) (hp : ∀ v, v < n → F 2 v < 24) : ∀ (m v : Nat), v + m = n → GW0 E mC_voicesIn d (4, [R 0, I (nI X), I (nI (vin F X v)), I (nI v)], [], WC F n t wt hy sd) (dmE (some (I (nI (vin F X n)))) (WC F n t wt hy sd)) := by
  intro m
  induction m with
  | zero =>
    intro v hv
    have hvn : v = n := by omega
    subst hvn
    refine gr rfl ?_
    refine gl v v rfl (by omega) (by omega) (fun h => absurd h (Nat.lt_irrefl v)) (fun _ => ?_)
    refine gr rfl ?_
    exact gret rfl rfl ⟨rfl, rfl⟩
  | succ m ih =>
    intro v hv
    refine gr rfl ?_
    refine gl v n rfl (by omega) (by omega) (fun _ => ?_) (fun h => absurd h (by omega))
    refine gr rfl ?_
    refine gld v rfl rfl rfl (by omega) ?_
    refine gr rfl ?_
    have h2 := hp v (by omega)
    have hq : X / 2 ^ F 2 v < 4294967296 := Nat.lt_of_le_of_lt (Nat.div_le_self _ _) (by omega)
    have hb : X / 2 ^ F 2 v % 2 * 2 ^ v < 4294967296 := by
      have h3 : X / 2 ^ F 2 v % 2 < 2 := Nat.mod_lt _ (by decide)
      have h4 : 2 ^ v ≤ 2 ^ 13 := Nat.pow_le_pow_right (by decide) (by omega)
      have h5 : X / 2 ^ F 2 v % 2 * 2 ^ v ≤ 1 * 2 ^ v := Nat.mul_le_mul_right _ (by omega)
      omega
    rw [nb_shr (by omega) (by omega), nb_and1 hq, nb_shl hb (by omega), nb_or, nI_1]
    exact ih (v + 1) (by omega)
theorem c_C_voicesIn {X : Nat} (hX : X < 16777216) (hn : n ≤ 14) (hp : ∀ v, v < n → F 2 v < 24) : GM0 E mC_voicesIn (d + 1) [R 0, I (nI X)] (WC F n t wt hy sd) (dmE (some (I (nI (vin F X n)))) (WC F n t wt hy sd)) := by
  refine gm okC_voicesIn rfl ?_
  refine grn 4 rfl ?_
  exact l_C_voicesIn hX hn hp n 0 (by omega)
theorem l_C_learnAll {X k : Nat} (hX : X < 16777216) (hk : k < 31) (hn : n ≤ 14) (hp : ∀ v, v < n → F 2 v < 24) : ∀ (m v : Nat), v + m = n → GW0 E mC_learnAll (d + 2) (2, [R 0, I (nI X), I (nI k), I (nI v)], [], WC (va_up F 5 (lal F X k v)) n t wt hy sd) (dmE none (WC (va_up F 5 (lal F X k n)) n t wt hy sd)) := by
  intro m
  induction m with
  | zero =>
    intro v hv
    have hvn : v = n := by omega
    subst hvn
    refine gr rfl ?_
    refine gl v v rfl (by omega) (by omega) (fun h => absurd h (Nat.lt_irrefl v)) (fun _ => ?_)
    refine gr rfl ?_
    exact gretv rfl rfl ⟨rfl, rfl⟩
  | succ m ih =>
    intro v hv
    refine gr rfl ?_
    refine gl v n rfl (by omega) (by omega) (fun _ => ?_) (fun h => absurd h (by omega))
    refine gr rfl ?_
    refine gld (g := F 2) v rfl rfl rfl (by omega) ?_
    refine gr rfl ?_
    have h2 := hp v (by omega)
    have hq : X / 2 ^ F 2 v < 4294967296 := Nat.lt_of_le_of_lt (Nat.div_le_self _ _) (by omega)
    rw [nb_shr (by omega) (by omega), nb_and1 hq, bit_div]
    cases hb : X.testBit (F 2 v) with
    | false =>
      refine gt rfl rfl ?_
      refine gr rfl ?_
      rw [nI_1]
      have h9 := ih (v + 1) (by omega)
      rw [show lal F X k (v + 1) = lal F X k v by simp [lal, hb]] at h9
      exact h9
    | true =>
      refine gf rfl (by decide) ?_
      refine gr rfl ?_
      refine cV0 rfl rfl rfl (c_C_learn (v := v) (k := k) (by omega) hk true) rfl rfl rfl ?_
      refine gr rfl ?_
      rw [nI_1]
      have h9 := ih (v + 1) (by omega)
      rw [show lal F X k (v + 1) = va_up (lal F X k v) v (lal F X k v v ||| 2 ^ k) by simp [lal, hb]] at h9
      exact h9
theorem c_C_learnAll {X k : Nat} (hX : X < 16777216) (hk : k < 31) (hn : n ≤ 14) (hp : ∀ v, v < n → F 2 v < 24) : GM0 E mC_learnAll (d + 2) [R 0, I (nI X), I (nI k)] (WC F n t wt hy sd) (dmE none (WC (va_up F 5 (lal F X k n)) n t wt hy sd)) := by
  refine gm okC_learnAll rfl ?_
  refine grn 2 rfl ?_
  exact l_C_learnAll hX hk hn hp n 0 (by omega)
theorem l_C_knownTogether (hn : n ≤ 14) (h5 : ∀ v, v < n → F 5 v < 64) : ∀ (m v : Nat), v + m = n → GW0 E mC_knownTogether (d + 2) (4, [R 0, I (nI (sumN v (fun u => pcn 32 (F 5 u)))), I (nI v)], [], WC F n t wt hy sd) (dmE (some (I (nI (sumN n (fun u => pcn 32 (F 5 u)))))) (WC F n t wt hy sd)) := by
  intro m
  induction m with
  | zero =>
    intro v hv
    have hvn : v = n := by omega
    subst hvn
    refine gr rfl ?_
    refine gl v v rfl (by omega) (by omega) (fun h => absurd h (Nat.lt_irrefl v)) (fun _ => ?_)
    refine gr rfl ?_
    exact gret rfl rfl ⟨rfl, rfl⟩
  | succ m ih =>
    intro v hv
    refine gr rfl ?_
    refine gl v n rfl (by omega) (by omega) (fun _ => ?_) (fun h => absurd h (by omega))
    refine gr rfl ?_
    refine gld v rfl rfl rfl (by omega) ?_
    have := h5 v (by omega)
    refine cs rfl rfl rfl (c_J_bitCount (by omega)) rfl ?_
    refine gr rfl ?_
    rw [nI_1, nI_add]
    exact ih (v + 1) (by omega)
theorem c_C_knownTogether (hn : n ≤ 14) (h5 : ∀ v, v < n → F 5 v < 64) : GM0 E mC_knownTogether (d + 2) [R 0] (WC F n t wt hy sd) (dmE (some (I (nI (sumN n (fun u => pcn 32 (F 5 u)))))) (WC F n t wt hy sd)) := by
  refine gm okC_knownTogether rfl ?_
  refine grn 4 rfl ?_
  exact l_C_knownTogether hn h5 n 0 (by omega)
theorem l_C_knownToAll (hn : n ≤ 14) : ∀ (m v : Nat), v + m = n → GW0 E mC_knownToAll (d + 2) (5, [R 0, I (nI (kta F t v)), I (nI v)], [], WC F n t wt hy sd) (dmE (some (I (nI (kta F t n)))) (WC F n t wt hy sd)) := by
  intro m
  induction m with
  | zero =>
    intro v hv
    have hvn : v = n := by omega
    subst hvn
    refine gr rfl ?_
    refine gl v v rfl (by omega) (by omega) (fun h => absurd h (Nat.lt_irrefl v)) (fun _ => ?_)
    refine gr rfl ?_
    exact gret rfl rfl ⟨rfl, rfl⟩
  | succ m ih =>
    intro v hv
    refine gr rfl ?_
    refine gl v n rfl (by omega) (by omega) (fun _ => ?_) (fun h => absurd h (by omega))
    refine gr rfl ?_
    refine gld v rfl rfl rfl (by omega) ?_
    refine gr rfl ?_
    rw [nI_1, nb_and]
    exact ih (v + 1) (by omega)
theorem c_C_knownToAll (hn : n ≤ 14) (ht : t < 31) : GM0 E mC_knownToAll (d + 2) [R 0] (WC F n t wt hy sd) (dmE (some (I (nI (kta F t n)))) (WC F n t wt hy sd)) := by
  refine gm okC_knownToAll rfl ?_
  refine gr rfl ?_
  refine cV0 rfl rfl rfl (c_C_allTunes ht) rfl rfl rfl ?_
  refine grn 3 rfl ?_
  exact l_C_knownToAll hn n 0 (by omega)
theorem c_C_draw {b : Nat} (hb0 : 0 < b) (hb : b < 65536) : GM0 E mC_draw (d + 1) [R 0, I (nI b)] (WC F n t wt hy sd) (dmE (some (I (nI (drw sd b)))) (WC F n t wt hy (sdn sd))) := by
  refine gm okC_draw rfl ?_
  refine gr rfl ?_
  refine gl 0 b rfl (by decide) (by omega) (fun _ => ?_) (fun h => absurd h (by omega))
  refine gr rfl ?_
  refine G_rem rfl (nI_ne0 hb0 (by omega)) ?_
  refine gr rfl ?_
  refine gret rfl rfl ⟨?_, rfl⟩
  show some (I _) = some (I _)
  congr 2
  have e : (((sd * 1103515245 + 12345).toUInt32 >>> ((16 : Int32).toUInt32 &&& Int32.toUInt32 31)).toInt32) = nI ((sdn sd).toBitVec.toNat / 65536) := by
    show (((sdn sd).toUInt32 >>> ((16 : Int32).toUInt32 &&& Int32.toUInt32 31)).toInt32) = _
    conv => lhs; rw [nI_bv (sdn sd)]
    exact us_1 (sdn sd).toBitVec.isLt 16 16 (by decide)
  rw [e, pk_rem (by have := (sdn sd).toBitVec.isLt; omega) hb0 (by omega)]
  rfl
theorem c_C_become {F' : Nat → Nat → Nat} {n' t' wt' : Nat} {hy' sd' : Int32} : GM0 E mC_become (d + 1) [R 0, R 8] (WC F n t wt hy sd ++ WC8 F' n' t' wt' hy' sd') (dmE none (WC F' n' t' wt' hy' sd' ++ WC8 F' n' t' wt' hy' sd')) := by
  refine gm okC_become rfl ?_
  refine gr rfl ?_
  refine gcpw 14 rfl rfl rfl rfl rfl rfl rfl ?_
  refine gr rfl ?_
  refine gcpw 14 rfl rfl rfl rfl rfl rfl rfl ?_
  refine gr rfl ?_
  refine gcpw 14 rfl rfl rfl rfl rfl rfl rfl ?_
  refine gr rfl ?_
  refine gcpw 14 rfl rfl rfl rfl rfl rfl rfl ?_
  refine gr rfl ?_
  refine gcpw 14 rfl rfl rfl rfl rfl rfl rfl ?_
  refine gr rfl ?_
  refine gcpw 14 rfl rfl rfl rfl rfl rfl rfl ?_
  refine gr rfl ?_
  refine gcpw 6 rfl rfl rfl rfl rfl rfl rfl ?_
  refine gr rfl ?_
  exact gretv rfl rfl ⟨rfl, rfl⟩
end CH3
end
section
/-! SINGING -/
/-- p and q are near each other -/
def nrb (p q : Nat) : Bool := decide (max (q / 6 - p / 6 + (p / 6 - q / 6)) (q % 6 - p % 6 + (p % 6 - q % 6)) = 1)
def npl (p : Nat) : Nat → Nat
  | 0 => 0
  | q + 1 => if nrb p q then npl p q ||| 2 ^ q else npl p q
/-- the places near p, as bits -/
def nmk (p : Nat) : Nat := npl p 24
theorem npl_lt (p : Nat) : ∀ q, q ≤ 24 → npl p q < 2 ^ 24
  | 0, _ => by show 0 < 2 ^ 24; decide
  | q + 1, h => by
    have h1 := npl_lt p q (by omega)
    have h2 : 2 ^ q < 2 ^ 24 := Nat.pow_lt_pow_right (by decide) (by omega)
    simp only [npl]
    split
    · exact or_lt h1 h2
    · exact h1
theorem nmk_lt (p : Nat) : nmk p < 16777216 := npl_lt p 24 (Nat.le_refl 24)
def WC3 (F : Nat → Nat → Nat) (n t wt : Nat) (hy sd : Int32) : dmW := [.inr (0, [R 4, R 5, R 6, R 7, R 8, R 9, R 10, I (nI n), I (nI t), I (nI wt), I hy, I sd]), .inl (0, 14, .inl (nA (F 0))), .inl (0, 14, .inl (nA (F 1))), .inl (0, 14, .inl (nA (F 2))), .inl (0, 14, .inl (nA (F 3))), .inl (0, 14, .inl (nA (F 4))), .inl (0, 14, .inl (nA (F 5))), .inl (0, 6, .inl (nA (F 6)))]
def WSw (who : Value) (nd : Nat → Nat) (ir kn rt wr mi ac : Nat) (sa fe : Bool) (F : Nat → Nat → Nat) (n t wt : Nat) (hy sd : Int32) : dmW := .inr (3, [R 1, R 2, who, I (nI ir), I (nI kn), I (nI rt), I (nI wr), I (nI mi), I (nI ac), I (bI sa), I (bI fe)]) :: .inl (0, 24, .inl (nA nmk)) :: .inl (0, 14, .inl (nA nd)) :: WC3 F n t wt hy sd
abbrev WS := WSw (R 3)
/-- a church as it may be -/
def okF (F : Nat → Nat → Nat) (n t : Nat) : Prop := n ≤ 14 ∧ t ≤ 6 ∧ (∀ v, v < n → F 0 v < 7 ∧ F 1 v < 10 ∧ F 2 v < 24 ∧ F 3 v < 6 ∧ F 4 v < 12 ∧ F 5 v < 64) ∧ ∀ u, u < t → F 6 u < 12
def ndf (nd : Nat → Nat) (F : Nat → Nat → Nat) (k : Nat) : Nat → Nat → Nat
  | 0 => nd
  | m + 1 => va_up (ndf nd F k m) m (need F m k)
def bst (g : Nat → Bool) : Nat → Nat
  | 0 => 0
  | m + 1 => bst g m ||| ((g m).toNat * 2 ^ m)
theorem bst_lt (g : Nat → Bool) : ∀ m, bst g m < 2 ^ m
  | 0 => by show 0 < 2 ^ 0; decide
  | m + 1 => by
    have h1 := bst_lt g m
    have h2 : 2 ^ m < 2 ^ (m + 1) := Nat.pow_lt_pow_right (by decide) (by omega)
    simp only [bst]
    refine or_lt (by omega) ?_
    cases g m with
    | false => simp only [Bool.toNat_false, Nat.zero_mul]; omega
    | true => simp only [Bool.toNat_true, Nat.one_mul]; exact h2
theorem bst_bit (g : Nat → Bool) : ∀ (m v : Nat), (bst g m).testBit v = (decide (v < m) && g v)
  | 0, v => by simp [bst]
  | m + 1, v => by
    simp only [bst, Nat.testBit_or, bst_bit g m v]
    cases hg : g m with
    | false =>
      simp only [Bool.toNat_false, Nat.zero_mul, Nat.zero_testBit, Bool.or_false]
      by_cases h : v < m
      · simp [h, Nat.lt_succ_of_lt h]
      · by_cases h2 : v = m
        · subst h2; simp [hg]
        · simp [h, show ¬ v < m + 1 by omega]
    | true =>
      simp only [Bool.toNat_true, Nat.one_mul, Nat.testBit_two_pow]
      by_cases h : v < m
      · simp [h, Nat.lt_succ_of_lt h, show ¬ m = v by omega]
      · by_cases h2 : v = m
        · subst h2; simp [hg]
        · simp [h, show ¬ v < m + 1 by omega, show ¬ m = v by omega]
def irg (F : Nat → Nat → Nat) (k p : Nat) : Nat → Bool := fun v => decide (F 6 k + p ≤ F 4 v)
def kng (F : Nat → Nat → Nat) (k : Nat) : Nat → Bool := fun v => (F 5 v).testBit k
abbrev U1 : Value := .retAddr 1
section SI
variable {E : dmX} {d : Nat} {F : Nat → Nat → Nat} {n t wt : Nat} {hy sd : Int32} {nd : Nat → Nat} {ir kn rt wr mi ac : Nat} {sa fe : Bool}
theorem nr_abs : ∀ p, p < 24 → ∀ q, q < 24 → (if (if 0 ≤ nI q / 6 - nI p / 6 then nI q / 6 - nI p / 6 else 0 - (nI q / 6 - nI p / 6)) < (if 0 ≤ (nI q - nI q / 6 * 6) - (nI p - nI p / 6 * 6) then (nI q - nI q / 6 * 6) - (nI p - nI p / 6 * 6) else 0 - ((nI q - nI q / 6 * 6) - (nI p - nI p / 6 * 6))) then (if 0 ≤ (nI q - nI q / 6 * 6) - (nI p - nI p / 6 * 6) then (nI q - nI q / 6 * 6) - (nI p - nI p / 6 * 6) else 0 - ((nI q - nI q / 6 * 6) - (nI p - nI p / 6 * 6))) else (if 0 ≤ nI q / 6 - nI p / 6 then nI q / 6 - nI p / 6 else 0 - (nI q / 6 - nI p / 6))) = nI (max (q / 6 - p / 6 + (p / 6 - q / 6)) (q % 6 - p % 6 + (p % 6 - q % 6))) := by decide +kernel
theorem l_S_placesNearOne {p : Nat} (hp : p < 24) : ∀ (m q : Nat), q + m = 24 → ∀ x3 x4 : Value, GW0 E mS_placesNearOne (d + 1) (4, [I (nI p), I (nI (npl p q)), I (nI q), x3, x4], [], []) (dmE (some (I (nI (nmk p)))) []) := by
  intro m
  induction m with
  | zero =>
    intro q hq x3 x4
    have hq24 : q = 24 := by omega
    subst hq24
    refine gr rfl ?_
    refine gl 24 24 rfl (by decide) (by decide) (fun h => absurd h (Nat.lt_irrefl 24)) (fun _ => ?_)
    refine gr rfl ?_
    exact gret rfl rfl ⟨rfl, rfl⟩
  | succ m ih =>
    intro q hq x3 x4
    refine gr rfl ?_
    refine gl q 24 rfl (by omega) (by decide) (fun _ => ?_) (fun h => absurd h (by omega))
    refine gr rfl ?_
    refine G_div rfl (by decide) ?_
    refine gr rfl ?_
    refine G_div rfl (by decide) ?_
    refine gr rfl ?_
    refine gabs rfl ?_
    refine gr rfl ?_
    refine G_rem rfl (by decide) ?_
    refine gr rfl ?_
    refine G_rem rfl (by decide) ?_
    refine gr rfl ?_
    refine gabs rfl ?_
    refine gr rfl ?_
    refine gmax rfl ?_
    rw [nr_abs p hp q (by omega)]
    refine gr rfl ?_
    have hb : max (q / 6 - p / 6 + (p / 6 - q / 6)) (q % 6 - p % 6 + (p % 6 - q % 6)) < 2147483648 := by omega
    refine ge _ 1 rfl hb (by decide) (fun h => ?_) (fun h => ?_)
    · refine gr rfl ?_
      rw [nb_one (by omega), nb_or, nI_1]
      have h9 := ih (q + 1) (by omega)
      rw [show npl p (q + 1) = npl p q ||| 2 ^ q by simp [npl, nrb, h]] at h9
      exact h9 _ _
    · refine gr rfl ?_
      rw [nI_1]
      have h9 := ih (q + 1) (by omega)
      rw [show npl p (q + 1) = npl p q by simp [npl, nrb, h]] at h9
      exact h9 _ _
theorem c_S_placesNearOne {p : Nat} (hp : p < 24) : GM0 E mS_placesNearOne (d + 1) [I (nI p)] [] (dmE (some (I (nI (nmk p)))) []) := by
  refine gm okS_placesNearOne rfl ?_
  refine grn 4 rfl ?_
  exact l_S_placesNearOne hp 24 0 rfl _ _
/-- places near some of X -/
def npx (X : Nat) : Nat → Nat
  | 0 => 0
  | q + 1 => if nmk q &&& X = 0 then npx X q else npx X q ||| 2 ^ q
theorem and_lt {a b c : Nat} (h : a < c) : a &&& b < c := Nat.lt_of_le_of_lt Nat.and_le_left h
theorem l_S_placesNear {X : Nat} (hX : X < 16777216) : ∀ (m q : Nat), q + m = 24 → GW0 E mS_placesNear d (4, [R 0, I (nI X), I (nI (npx X q)), I (nI q)], [], WS nd ir kn rt wr mi ac sa fe F n t wt hy sd) (dmE (some (I (nI (npx X 24)))) (WS nd ir kn rt wr mi ac sa fe F n t wt hy sd)) := by
  intro m
  induction m with
  | zero =>
    intro q hq
    have hq24 : q = 24 := by omega
    subst hq24
    refine gr rfl ?_
    refine gl 24 24 rfl (by decide) (by decide) (fun h => absurd h (Nat.lt_irrefl 24)) (fun _ => ?_)
    refine gr rfl ?_
    exact gret rfl rfl ⟨rfl, rfl⟩
  | succ m ih =>
    intro q hq
    refine gr rfl ?_
    refine gl q 24 rfl (by omega) (by decide) (fun _ => ?_) (fun h => absurd h (by omega))
    refine gr rfl ?_
    refine gld q rfl rfl rfl (by omega) ?_
    refine gr rfl ?_
    rw [nb_and]
    have := nmk_lt q
    have hb : nmk q &&& X < 16777216 := and_lt this
    refine ge (nmk q &&& X) 0 rfl (by omega) (by decide) (fun h => ?_) (fun h => ?_)
    · refine gr rfl ?_
      rw [nI_1]
      have h9 := ih (q + 1) (by omega)
      rw [show npx X (q + 1) = npx X q by simp [npx, h]] at h9
      exact h9
    · refine gr rfl ?_
      rw [nb_one (by omega), nb_or, nI_1]
      have h9 := ih (q + 1) (by omega)
      rw [show npx X (q + 1) = npx X q ||| 2 ^ q by simp [npx, h]] at h9
      exact h9
theorem c_S_placesNear {X : Nat} (hX : X < 16777216) : GM0 E mS_placesNear (d + 1) [R 0, I (nI X)] (WS nd ir kn rt wr mi ac sa fe F n t wt hy sd) (dmE (some (I (nI (npx X 24)))) (WS nd ir kn rt wr mi ac sa fe F n t wt hy sd)) := by
  refine gm okS_placesNear rfl ?_
  refine grn 4 rfl ?_
  exact l_S_placesNear hX 24 0 rfl
abbrev sIs : List Nat := [3, 4, 5, 6, 7, 8, 9, 10]
theorem l_S_begin {k p : Nat} (hk : k < t) (hp : p < 6) (hok : okF F n t) : ∀ (m v : Nat), v + m = n → GW0 E mS_begin (d + 4) (11, [R 0, R 3, I (nI k), I (nI p), I (nI v)], [], WS (ndf nd F k v) (bst (irg F k p) v) (bst (kng F k) v) rt wr mi ac sa fe F n t wt hy sd) (dmE none (WS (ndf nd F k n) (bst (irg F k p) n) (bst (kng F k) n) 0 0 0 0 false false F n t wt hy sd)) := by
  obtain ⟨hn, ht, hF, h6⟩ := hok
  intro m
  induction m with
  | zero =>
    intro v hv
    have hvn : v = n := by omega
    subst hvn
    refine gr rfl ?_
    refine gl v v rfl (by omega) (by omega) (fun h => absurd h (Nat.lt_irrefl v)) (fun _ => ?_)
    refine gr rfl ?_
    exact gretv rfl rfl ⟨rfl, rfl⟩
  | succ m ih =>
    intro v hv
    obtain ⟨f0, f1, f2, f3, f4, f5⟩ := hF v (by omega)
    refine gr rfl ?_
    refine gl v n rfl (by omega) (by omega) (fun _ => ?_) (fun h => absurd h (by omega))
    refine gr rfl ?_
    refine cV sIs U1 U1 rfl rfl rfl (c_C_needOf (F := F) (n := n) (t := t) (wt := wt) (hy := hy) (sd := sd) (v := v) (k := k) (by omega) (by omega) (by omega) f3 f0) rfl rfl rfl rfl rfl rfl rfl rfl ?_
    refine gst v (need F v k) rfl rfl rfl rfl (by omega) rfl ?_
    refine gr rfl ?_
    refine cV sIs U1 U1 rfl rfl rfl (c_C_isInReach (F := F) (n := n) (t := t) (wt := wt) (hy := hy) (sd := sd) (v := v) (k := k) (p := p) (by omega) (by omega) hp (h6 k hk) f4) rfl rfl rfl rfl rfl rfl rfl rfl ?_
    have pow : 1 * 2 ^ v < 4294967296 := by
      have : 2 ^ v ≤ 2 ^ 13 := Nat.pow_le_pow_right (by decide) (by omega)
      omega
    have step2 : ∀ b : Bool, b = irg F k p v → GW0 E mS_begin (d + 4) (38, [R 0, R 3, I (nI k), I (nI p), I (nI v)], [I (bI b), I (nI (bst (irg F k p) v)), R 0], WS (ndf nd F k (v + 1)) (bst (irg F k p) v) (bst (kng F k) v) rt wr mi ac sa fe F n t wt hy sd) (dmE none (WS (ndf nd F k n) (bst (irg F k p) n) (bst (kng F k) n) 0 0 0 0 false false F n t wt hy sd)) := by
      intro b hb
      refine gr rfl ?_
      rw [show (bI b) <<< (nI v &&& 31) = nI (b.toNat * 2 ^ v) by
        cases b with
        | false => rw [show bI false = nI 0 from rfl, nb_shl (by omega) (by omega)]; rfl
        | true => rw [show bI true = nI 1 from rfl, nb_shl pow (by omega)]; rfl, nb_or]
      refine cV sIs U1 U1 rfl rfl rfl (c_C_knowsIt (F := F) (n := n) (t := t) (wt := wt) (hy := hy) (sd := sd) (v := v) (k := k) (by omega) (by omega) (by omega)) rfl rfl rfl rfl rfl rfl rfl rfl ?_
      have step3 : ∀ b2 : Bool, b2 = kng F k v → GW0 E mS_begin (d + 4) (54, [R 0, R 3, I (nI k), I (nI p), I (nI v)], [I (bI b2), I (nI (bst (kng F k) v)), R 0], WS (ndf nd F k (v + 1)) (bst (irg F k p) v ||| b.toNat * 2 ^ v) (bst (kng F k) v) rt wr mi ac sa fe F n t wt hy sd) (dmE none (WS (ndf nd F k n) (bst (irg F k p) n) (bst (kng F k) n) 0 0 0 0 false false F n t wt hy sd)) := by
        intro b2 hb2
        refine gr rfl ?_
        rw [show (bI b2) <<< (nI v &&& 31) = nI (b2.toNat * 2 ^ v) by
          cases b2 with
          | false => rw [show bI false = nI 0 from rfl, nb_shl (by omega) (by omega)]; rfl
          | true => rw [show bI true = nI 1 from rfl, nb_shl pow (by omega)]; rfl, nb_or, nI_1]
        have h9 := ih (v + 1) (by omega)
        simp only [bst, ← hb, ← hb2] at h9
        exact h9
      refine gz rfl (fun h => ?_) (fun h => ?_)
      · refine grn 1 rfl ?_
        exact step3 false h.symm
      · refine grn 2 rfl ?_
        exact step3 true h.symm
    refine gz rfl (fun h => ?_) (fun h => ?_)
    · refine grn 1 rfl ?_
      exact step2 false h.symm
    · refine grn 2 rfl ?_
      exact step2 true h.symm
theorem c_S_begin {k p : Nat} (hk : k < t) (hp : p < 6) (hok : okF F n t) : GM0 E mS_begin (d + 4) [R 0, R 3, I (nI k), I (nI p)] (WSw (.retAddr 5) nd ir kn rt wr mi ac sa fe F n t wt hy sd) (dmE none (WS (ndf nd F k n) (bst (irg F k p) n) (bst (kng F k) n) 0 0 0 0 false false F n t wt hy sd)) := by
  refine gm okS_begin rfl ?_
  refine grn 11 rfl ?_
  exact l_S_begin hk hp hok n 0 (by omega)
end SI
end
section
/-! SINGING: one verse, on bits of places -/
/-- who joins in -/
def jnB (nd : Nat → Nat) (ir rt wr mi ac : Nat) (F : Nat → Nat → Nat) (v : Nat) : Bool :=
  ir.testBit v && decide (nd v ≤ pcn 32 (nmk (F 2 v) &&& (rt ||| wr ||| mi))) && (!decide (F 0 v = 6) || decide (nd v ≤ pcn 32 (nmk (F 2 v) &&& ac)))
/-- those around are more of them wrong -/
def ldB (rt wr : Nat) (F : Nat → Nat → Nat) (v : Nat) : Bool := decide (pcn 32 (nmk (F 2 v) &&& rt) < pcn 32 (nmk (F 2 v) &&& wr))
def rgB (kn rt wr : Nat) (F : Nat → Nat → Nat) (v : Nat) : Bool := match F 0 v with
  | 3 => kn.testBit v
  | 4 => !ldB rt wr F v
  | 6 => !ldB rt wr F v
  | _ => kn.testBit v || !ldB rt wr F v
/-- 0 silent, 1 right, 2 wrong, 3 mimes -/
def vsB (nd : Nat → Nat) (ir kn rt wr mi ac : Nat) (F : Nat → Nat → Nat) (v : Nat) : Nat :=
  if jnB nd ir rt wr mi ac F v then (if F 0 v = 5 then 3 else if rgB kn rt wr F v then 1 else 2) else 0
/-- the places of those for whom g is c -/
def pbs (F : Nat → Nat → Nat) (g : Nat → Nat) (c : Nat) : Nat → Nat
  | 0 => 0
  | k + 1 => if g k = c then pbs F g c k ||| 2 ^ F 2 k else pbs F g c k
theorem pbs_lt {F : Nat → Nat → Nat} {g : Nat → Nat} {c n : Nat} (hp : ∀ v, v < n → F 2 v < 24) : ∀ k, k ≤ n → pbs F g c k < 16777216
  | 0, _ => by show 0 < 16777216; decide
  | k + 1, h => by
    have h1 := pbs_lt (F := F) (g := g) (c := c) hp k (by omega)
    simp only [pbs]
    split
    · have h2 : 2 ^ F 2 k < 2 ^ 24 := Nat.pow_lt_pow_right (by decide) (hp k (by omega))
      exact or_lt (k := 24) h1 h2
    · exact h1
section SJ
variable {E : dmX} {d : Nat} {F : Nat → Nat → Nat} {n t wt : Nat} {hy sd : Int32} {nd : Nat → Nat} {ir kn rt wr mi ac : Nat} {sa fe : Bool}
theorem c_S_leaveOut {v : Nat} (hv : v < 14) : GM0 E mS_leaveOut (d + 1) [R 0, I (nI v)] (WS nd ir kn rt wr mi ac sa fe F n t wt hy sd) (dmE none (WS nd (clr ir v) kn rt wr mi ac sa fe F n t wt hy sd)) := by
  refine gm okS_leaveOut rfl ?_
  refine gr rfl ?_
  rw [nb_one (by omega), nb_clr _ (by omega)]
  exact gretv rfl rfl ⟨rfl, rfl⟩
theorem or3_lt {a b c : Nat} (ha : a < 16777216) (hb : b < 16777216) (hc : c < 16777216) : a ||| b ||| c < 16777216 := or_lt (k := 24) (or_lt (k := 24) ha hb) hc
theorem c_S_joinsIn {v : Nat} (hok : okF F n t) (hv : v < n) (hir : ir < 16384) (hrt : rt < 16777216) (hwr : wr < 16777216) (hmi : mi < 16777216) (hac : ac < 16777216) (hnd : nd v < 1000) : GM0 E mS_joinsIn (d + 2) [R 0, I (nI v)] (WS nd ir kn rt wr mi ac sa fe F n t wt hy sd) (dmE (some (I (bI (jnB nd ir rt wr mi ac F v)))) (WS nd ir kn rt wr mi ac sa fe F n t wt hy sd)) := by
  obtain ⟨hn, ht, hF, h6⟩ := hok
  obtain ⟨f0, f1, f2, f3, f4, f5⟩ := hF v hv
  refine gm okS_joinsIn rfl ?_
  refine gr rfl ?_
  rw [nb_shr (by omega) (by omega), nb_and1 (Nat.lt_of_le_of_lt (Nat.div_le_self _ _) (by omega)), bit_div]
  cases hb : ir.testBit v with
  | false =>
    refine gt rfl rfl ?_
    refine gr rfl ?_
    exact gretz false rfl rfl rfl ⟨by simp [jnB, hb], rfl⟩
  | true =>
    refine gf rfl (by decide) ?_
    refine gr rfl ?_
    refine gld v rfl rfl rfl (by omega) ?_
    refine gld (F 2 v) rfl rfl rfl f2 ?_
    refine gr rfl ?_
    rw [nb_or, nb_or, nb_and]
    have hm := nmk_lt (F 2 v)
    have hx : nmk (F 2 v) &&& (rt ||| wr ||| mi) < 16777216 := and_lt hm
    refine cs rfl rfl rfl (c_J_bitCount (by omega)) rfl ?_
    refine gr rfl ?_
    refine gld v rfl rfl rfl (by omega) ?_
    have hpc := pcn_le 32 (nmk (F 2 v) &&& (rt ||| wr ||| mi))
    refine gl (pcn 32 (nmk (F 2 v) &&& (rt ||| wr ||| mi))) (nd v) rfl (by omega) (by omega) (fun h => ?_) (fun h => ?_)
    · refine gr rfl ?_
      exact gretz false rfl rfl rfl ⟨by simp [jnB, hb, Nat.not_le.mpr h], rfl⟩
    · refine gr rfl ?_
      refine gld v rfl rfl rfl (by omega) ?_
      refine gr rfl ?_
      refine ge (F 0 v) 6 rfl (by omega) (by decide) (fun h2 => ?_) (fun h2 => ?_)
      · refine gr rfl ?_
        rw [nb_and]
        have hx2 : nmk (F 2 v) &&& ac < 16777216 := and_lt hm
        refine cs rfl rfl rfl (c_J_bitCount (by omega)) rfl ?_
        refine gr rfl ?_
        refine gld v rfl rfl rfl (by omega) ?_
        have hpc2 := pcn_le 32 (nmk (F 2 v) &&& ac)
        refine gl (pcn 32 (nmk (F 2 v) &&& ac)) (nd v) rfl (by omega) (by omega) (fun h3 => ?_) (fun h3 => ?_)
        · refine gr rfl ?_
          exact gretz false rfl rfl rfl ⟨by simp [jnB, hb, h2, Nat.not_le.mpr h3], rfl⟩
        · refine gr rfl ?_
          exact gretz true rfl rfl rfl ⟨by simp [jnB, hb, h, h2, h3], rfl⟩
      · refine gr rfl ?_
        exact gretz true rfl rfl rfl ⟨by simp [jnB, hb, h, h2], rfl⟩
theorem c_S_singsRight {v : Nat} (hok : okF F n t) (hv : v < n) (hkn : kn < 16384) (hrt : rt < 16777216) (hwr : wr < 16777216) : GM0 E mS_singsRight (d + 2) [R 0, I (nI v)] (WS nd ir kn rt wr mi ac sa fe F n t wt hy sd) (dmE (some (I (bI (rgB kn rt wr F v)))) (WS nd ir kn rt wr mi ac sa fe F n t wt hy sd)) := by
  obtain ⟨hn, ht, hF, h6⟩ := hok
  obtain ⟨f0, f1, f2, f3, f4, f5⟩ := hF v hv
  refine gm okS_singsRight rfl ?_
  refine gr rfl ?_
  refine gld v rfl rfl rfl (by omega) ?_
  refine gld (F 2 v) rfl rfl rfl f2 ?_
  refine gr rfl ?_
  have hm := nmk_lt (F 2 v)
  have hx : nmk (F 2 v) &&& wr < 16777216 := and_lt hm
  have hx2 : nmk (F 2 v) &&& rt < 16777216 := and_lt hm
  rw [nb_and]
  refine cs rfl rfl rfl (c_J_bitCount (by omega)) rfl ?_
  refine gr rfl ?_
  rw [nb_and]
  refine cs rfl rfl rfl (c_J_bitCount (by omega)) rfl ?_
  have hpc := pcn_le 32 (nmk (F 2 v) &&& wr)
  have hpc2 := pcn_le 32 (nmk (F 2 v) &&& rt)
  -- behind both flags
  have tail : ∀ b k : Bool, b = ldB rt wr F v → k = kn.testBit v → GW0 E mS_singsRight (d + 2) (35, [R 0, I (nI v), I (nI (nmk (F 2 v))), I (bI b), I (bI k)], [], WS nd ir kn rt wr mi ac sa fe F n t wt hy sd) (dmE (some (I (bI (rgB kn rt wr F v)))) (WS nd ir kn rt wr mi ac sa fe F n t wt hy sd)) := by
    intro b k hb hk
    refine gr rfl ?_
    refine gld v rfl rfl rfl (by omega) ?_
    have t41 : (F 0 v = 4 ∨ F 0 v = 6) → GW0 E mS_singsRight (d + 2) (41, [R 0, I (nI v), I (nI (nmk (F 2 v))), I (bI b), I (bI k)], [], WS nd ir kn rt wr mi ac sa fe F n t wt hy sd) (dmE (some (I (bI (rgB kn rt wr F v)))) (WS nd ir kn rt wr mi ac sa fe F n t wt hy sd)) := by
      intro h
      have e : rgB kn rt wr F v = !b := by rcases h with h | h <;> simp [rgB, h, hb]
      rw [e]
      refine gr rfl ?_
      refine gz rfl (fun h => ?_) (fun h => ?_)
      · subst h
        refine gr rfl ?_
        exact gretz true rfl rfl rfl ⟨rfl, rfl⟩
      · subst h
        refine gr rfl ?_
        exact gretz false rfl rfl rfl ⟨rfl, rfl⟩
    have t49 : (F 0 v = 0 ∨ F 0 v = 1 ∨ F 0 v = 2 ∨ F 0 v = 5) → GW0 E mS_singsRight (d + 2) (49, [R 0, I (nI v), I (nI (nmk (F 2 v))), I (bI b), I (bI k)], [], WS nd ir kn rt wr mi ac sa fe F n t wt hy sd) (dmE (some (I (bI (rgB kn rt wr F v)))) (WS nd ir kn rt wr mi ac sa fe F n t wt hy sd)) := by
      intro h
      have e : rgB kn rt wr F v = (k || !b) := by rcases h with h | h | h | h <;> simp [rgB, h, hb, hk]
      rw [e]
      refine gr rfl ?_
      refine gz rfl (fun h => ?_) (fun h => ?_)
      · subst h
        refine gr rfl ?_
        refine gz rfl (fun h => ?_) (fun h => ?_)
        · subst h
          refine gr rfl ?_
          exact gretz true rfl rfl rfl ⟨rfl, rfl⟩
        · subst h
          refine gr rfl ?_
          exact gretz false rfl rfl rfl ⟨rfl, rfl⟩
      · subst h
        refine gr rfl ?_
        exact gretz true rfl rfl rfl ⟨rfl, rfl⟩
    have hcase : F 0 v = 0 ∨ F 0 v = 1 ∨ F 0 v = 2 ∨ F 0 v = 3 ∨ F 0 v = 4 ∨ F 0 v = 5 ∨ F 0 v = 6 := by omega
    rcases hcase with h | h | h | h | h | h | h <;> rw [h]
    · exact G_tswOut rfl (Or.inl (by decide)) (t49 (Or.inl h))
    · exact G_tswOut rfl (Or.inl (by decide)) (t49 (Or.inr (Or.inl h)))
    · exact G_tswOut rfl (Or.inl (by decide)) (t49 (Or.inr (Or.inr (Or.inl h))))
    · refine G_tsw 0 rfl (by decide) (by decide) rfl ?_
      refine gr rfl ?_
      exact gretz k rfl rfl rfl ⟨by simp [rgB, h, hk], rfl⟩
    · exact G_tsw 1 rfl (by decide) (by decide) rfl (t41 (Or.inl h))
    · exact G_tsw 2 rfl (by decide) (by decide) rfl (t49 (Or.inr (Or.inr (Or.inr h))))
    · exact G_tsw 3 rfl (by decide) (by decide) rfl (t41 (Or.inr h))
  have mid : ∀ b : Bool, b = ldB rt wr F v → GW0 E mS_singsRight (d + 2) (24, [R 0, I (nI v), I (nI (nmk (F 2 v))), I (bI b), U0], [], WS nd ir kn rt wr mi ac sa fe F n t wt hy sd) (dmE (some (I (bI (rgB kn rt wr F v)))) (WS nd ir kn rt wr mi ac sa fe F n t wt hy sd)) := by
    intro b hb
    refine gr rfl ?_
    rw [nb_shr (by omega) (by omega), nb_and1 (Nat.lt_of_le_of_lt (Nat.div_le_self _ _) (by omega)), bit_div]
    cases hk : kn.testBit v with
    | false =>
      refine gt rfl rfl ?_
      refine grn 2 rfl ?_
      exact tail b false hb hk.symm
    | true =>
      refine gf rfl (by decide) ?_
      refine grn 3 rfl ?_
      exact tail b true hb hk.symm
  refine gl (pcn 32 (nmk (F 2 v) &&& rt)) (pcn 32 (nmk (F 2 v) &&& wr)) rfl (by omega) (by omega) (fun h => ?_) (fun h => ?_)
  · refine grn 3 rfl ?_
    exact mid true (by simp [ldB, h])
  · refine grn 2 rfl ?_
    exact mid false (by simp [ldB, Nat.not_lt.mpr h])
/-- the state behind a verse -/
abbrev nxW (nd : Nat → Nat) (ir kn rt wr mi ac : Nat) (F : Nat → Nat → Nat) (n c : Nat) : Nat := pbs F (vsB nd ir kn rt wr mi ac F) c n
def sameB (nd : Nat → Nat) (ir kn rt wr mi ac : Nat) (F : Nat → Nat → Nat) (n : Nat) : Bool := decide (nxW nd ir kn rt wr mi ac F n 1 = rt) && decide (nxW nd ir kn rt wr mi ac F n 2 = wr) && decide (nxW nd ir kn rt wr mi ac F n 3 = mi)
def everB (nd : Nat → Nat) (ir kn rt wr mi ac : Nat) (F : Nat → Nat → Nat) (n : Nat) : Bool := sameB nd ir kn rt wr mi ac F n && decide ((rt ||| wr ||| mi) = ac)
theorem e_S_nextVerse (hok : okF F n t) (hrt : rt < 16777216) (hwr : wr < 16777216) (hmi : mi < 16777216) (hac : ac < 16777216) (x4 x5 : Value) : GW0 E mS_nextVerse (d + 3) (53, [R 0, I (nI (nxW nd ir kn rt wr mi ac F n 1)), I (nI (nxW nd ir kn rt wr mi ac F n 2)), I (nI (nxW nd ir kn rt wr mi ac F n 3)), x4, x5], [], WS nd ir kn rt wr mi ac sa fe F n t wt hy sd)
    (dmE none (WS nd ir kn (nxW nd ir kn rt wr mi ac F n 1) (nxW nd ir kn rt wr mi ac F n 2) (nxW nd ir kn rt wr mi ac F n 3) (rt ||| wr ||| mi) (sameB nd ir kn rt wr mi ac F n) (everB nd ir kn rt wr mi ac F n) F n t wt hy sd)) := by
  obtain ⟨hn, ht, hF, h6⟩ := hok
  have hp : ∀ v, v < n → F 2 v < 24 := fun v hv => (hF v hv).2.2.1
  have l1 := pbs_lt (F := F) (g := vsB nd ir kn rt wr mi ac F) (c := 1) hp n (Nat.le_refl n)
  have l2 := pbs_lt (F := F) (g := vsB nd ir kn rt wr mi ac F) (c := 2) hp n (Nat.le_refl n)
  have l3 := pbs_lt (F := F) (g := vsB nd ir kn rt wr mi ac F) (c := 3) hp n (Nat.le_refl n)
  have l4 := or3_lt hrt hwr hmi
  have tail : ∀ b : Bool, b = sameB nd ir kn rt wr mi ac F n → GW0 E mS_nextVerse (d + 3) (78, [R 0, I (nI (nxW nd ir kn rt wr mi ac F n 1)), I (nI (nxW nd ir kn rt wr mi ac F n 2)), I (nI (nxW nd ir kn rt wr mi ac F n 3)), I (nI (rt ||| wr ||| mi)), x5], [I (bI b), R 0], WS nd ir kn rt wr mi ac sa fe F n t wt hy sd)
    (dmE none (WS nd ir kn (nxW nd ir kn rt wr mi ac F n 1) (nxW nd ir kn rt wr mi ac F n 2) (nxW nd ir kn rt wr mi ac F n 3) (rt ||| wr ||| mi) (sameB nd ir kn rt wr mi ac F n) (everB nd ir kn rt wr mi ac F n) F n t wt hy sd)) := by
    intro b hb
    cases b with
    | false =>
      refine gr rfl ?_
      refine gt rfl rfl ?_
      refine gr rfl ?_
      refine gretv rfl rfl ⟨rfl, ?_⟩
      unfold everB
      rw [← hb]
      rfl
    | true =>
      refine gr rfl ?_
      refine gf rfl (by decide) ?_
      refine gr rfl ?_
      refine ge (rt ||| wr ||| mi) ac rfl (by omega) (by omega) (fun h => ?_) (fun h => ?_)
      · refine gr rfl ?_
        refine gretv rfl rfl ⟨rfl, ?_⟩
        unfold everB
        rw [← hb, decide_eq_true h]
        rfl
      · refine gr rfl ?_
        refine gretv rfl rfl ⟨rfl, ?_⟩
        unfold everB
        rw [← hb, decide_eq_false h]
        rfl
  refine gr rfl ?_
  rw [nb_or, nb_or]
  refine ge _ _ rfl (Nat.lt_trans l1 (by decide)) (by omega) (fun h => ?_) (fun h => ?_)
  · refine gr rfl ?_
    refine ge _ _ rfl (Nat.lt_trans l2 (by decide)) (by omega) (fun h2 => ?_) (fun h2 => ?_)
    · refine gr rfl ?_
      refine ge _ _ rfl (Nat.lt_trans l3 (by decide)) (by omega) (fun h3 => ?_) (fun h3 => ?_)
      · refine grn 2 rfl ?_
        exact tail true (by simp [sameB, h, h2, h3])
      · refine grn 1 rfl ?_
        exact tail false (by simp [sameB, h3])
    · refine grn 1 rfl ?_
      exact tail false (by simp [sameB, h2])
  · refine grn 1 rfl ?_
    exact tail false (by simp [sameB, h])
theorem l_S_nextVerse (hok : okF F n t) (hir : ir < 16384) (hkn : kn < 16384) (hrt : rt < 16777216) (hwr : wr < 16777216) (hmi : mi < 16777216) (hac : ac < 16777216) (hnd : ∀ v, v < n → nd v < 1000) : ∀ (m v : Nat) (x5 : Value), v + m = n → GW0 E mS_nextVerse (d + 3) (8, [R 0, I (nI (nxW nd ir kn rt wr mi ac F v 1)), I (nI (nxW nd ir kn rt wr mi ac F v 2)), I (nI (nxW nd ir kn rt wr mi ac F v 3)), I (nI v), x5], [], WS nd ir kn rt wr mi ac sa fe F n t wt hy sd) (dmE none (WS nd ir kn (nxW nd ir kn rt wr mi ac F n 1) (nxW nd ir kn rt wr mi ac F n 2) (nxW nd ir kn rt wr mi ac F n 3) (rt ||| wr ||| mi) (sameB nd ir kn rt wr mi ac F n) (everB nd ir kn rt wr mi ac F n) F n t wt hy sd)) := by
  have hok0 := hok
  obtain ⟨hn, ht, hF, h6⟩ := hok
  intro m
  induction m with
  | zero =>
    intro v x5 hv
    have hvn : v = n := by omega
    subst hvn
    refine gr rfl ?_
    refine gl v v rfl (by omega) (by omega) (fun h => absurd h (Nat.lt_irrefl v)) (fun _ => ?_)
    exact e_S_nextVerse hok0 hrt hwr hmi hac _ _
  | succ m ih =>
    intro v x5 hv
    obtain ⟨f0, f1, f2, f3, f4, f5⟩ := hF v (by omega)
    refine gr rfl ?_
    refine gl v n rfl (by omega) (by omega) (fun hvn => ?_) (fun h => absurd h (by omega))
    refine gr rfl ?_
    refine gld v rfl rfl rfl (by omega) ?_
    refine gr rfl ?_
    rw [nb_one (by omega)]
    refine cV0 rfl rfl rfl (c_S_joinsIn hok0 hvn hir hrt hwr hmi hac (hnd v hvn)) rfl rfl rfl ?_
    have key := fun c : Nat => (show nxW nd ir kn rt wr mi ac F (v + 1) c = if vsB nd ir kn rt wr mi ac F v = c then nxW nd ir kn rt wr mi ac F v c ||| 2 ^ F 2 v else nxW nd ir kn rt wr mi ac F v c from rfl)
    have h9 := fun x => ih (v + 1) x (by omega)
    rw [key 1, key 2, key 3] at h9
    refine gz rfl (fun hj => ?_) (fun hj => ?_)
    · refine gr rfl ?_
      rw [nI_1]
      rw [show vsB nd ir kn rt wr mi ac F v = 0 by simp [vsB, hj]] at h9
      exact h9 _
    · refine gr rfl ?_
      refine gld v rfl rfl rfl (by omega) ?_
      refine gr rfl ?_
      refine ge (F 0 v) 5 rfl (by omega) (by decide) (fun h5 => ?_) (fun h5 => ?_)
      · refine gr rfl ?_
        rw [nI_1, nb_or]
        rw [show vsB nd ir kn rt wr mi ac F v = 3 by simp [vsB, hj, h5]] at h9
        exact h9 _
      · refine gr rfl ?_
        refine cV0 rfl rfl rfl (c_S_singsRight hok0 hvn hkn hrt hwr) rfl rfl rfl ?_
        refine gz rfl (fun hr => ?_) (fun hr => ?_)
        · refine gr rfl ?_
          rw [nI_1, nb_or]
          rw [show vsB nd ir kn rt wr mi ac F v = 2 by simp [vsB, hj, h5, hr]] at h9
          exact h9 _
        · refine gr rfl ?_
          rw [nI_1, nb_or]
          rw [show vsB nd ir kn rt wr mi ac F v = 1 by simp [vsB, hj, h5, hr]] at h9
          exact h9 _
theorem c_S_nextVerse (hok : okF F n t) (hir : ir < 16384) (hkn : kn < 16384) (hrt : rt < 16777216) (hwr : wr < 16777216) (hmi : mi < 16777216) (hac : ac < 16777216) (hnd : ∀ v, v < n → nd v < 1000) : GM0 E mS_nextVerse (d + 3) [R 0] (WS nd ir kn rt wr mi ac sa fe F n t wt hy sd) (dmE none (WS nd ir kn (nxW nd ir kn rt wr mi ac F n 1) (nxW nd ir kn rt wr mi ac F n 2) (nxW nd ir kn rt wr mi ac F n 3) (rt ||| wr ||| mi) (sameB nd ir kn rt wr mi ac F n) (everB nd ir kn rt wr mi ac F n) F n t wt hy sd)) := by
  refine gm okS_nextVerse rfl ?_
  refine grn 8 rfl ?_
  exact l_S_nextVerse hok hir hkn hrt hwr hmi hac hnd n 0 _ (by omega)
end SJ
end
section
/-! WHAT A HYMN IS: by voices -/
def cntN (F : Nat → Nat → Nat) (n : Nat) (S : Nat → Bool) (p : Nat) : Nat := sumN n (fun w => (S w && nrb p (F 2 w)).toNat)
def crd (n : Nat) (S : Nat → Bool) : Nat := sumN n (fun w => (S w).toNat)
/-- places of those of whom S holds -/
def pbS (F : Nat → Nat → Nat) (S : Nat → Bool) : Nat → Nat
  | 0 => 0
  | k + 1 => if S k then pbS F S k ||| 2 ^ F 2 k else pbS F S k
def dis (F : Nat → Nat → Nat) (n : Nat) : Prop := ∀ u v, u < n → v < n → F 2 u = F 2 v → u = v
theorem pbs_S (F : Nat → Nat → Nat) (g : Nat → Nat) (c : Nat) : ∀ n, pbs F g c n = pbS F (fun v => decide (g v = c)) n
  | 0 => rfl
  | k + 1 => by
    simp only [pbs, pbS, pbs_S F g c k]
    by_cases h : g k = c <;> simp [h]
theorem pbS_bit (F : Nat → Nat → Nat) (S : Nat → Bool) : ∀ (n q : Nat), (pbS F S n).testBit q = anyN n (fun v => S v && decide (F 2 v = q))
  | 0, q => by simp [pbS, anyN]
  | k + 1, q => by
    simp only [pbS, anyN]
    cases h : S k with
    | false => simp [h, pbS_bit F S k q]
    | true =>
      simp only [if_true, Nat.testBit_or, pbS_bit F S k q, Nat.testBit_two_pow, Bool.true_and]
theorem anyN_eq {P Q : Nat → Bool} : ∀ {n : Nat}, (∀ v, v < n → P v = Q v) → anyN n P = anyN n Q
  | 0, _ => rfl
  | n + 1, h => by
    simp only [anyN]
    rw [anyN_eq (fun v hv => h v (by omega)), h n (by omega)]
theorem sumN_eq {P Q : Nat → Nat} : ∀ {n : Nat}, (∀ v, v < n → P v = Q v) → sumN n P = sumN n Q
  | 0, _ => rfl
  | n + 1, h => by
    simp only [sumN]
    rw [sumN_eq (fun v hv => h v (by omega)), h n (by omega)]
theorem pbS_eq {F : Nat → Nat → Nat} {P Q : Nat → Bool} : ∀ {n : Nat}, (∀ v, v < n → P v = Q v) → pbS F P n = pbS F Q n
  | 0, _ => rfl
  | n + 1, h => by
    simp only [pbS]
    rw [pbS_eq (fun v hv => h v (by omega)), h n (by omega)]
/-- the bit of a voice's own place -/
theorem pbS_own {F : Nat → Nat → Nat} {S : Nat → Bool} {n v : Nat} (hd : dis F n) (hv : v < n) : (pbS F S n).testBit (F 2 v) = S v := by
  rw [pbS_bit]
  cases h : S v with
  | true => exact anyN_of hv (by simp [h])
  | false =>
    cases h2 : anyN n (fun u => S u && decide (F 2 u = F 2 v)) with
    | false => rfl
    | true =>
      obtain ⟨u, hu, h3⟩ := anyN_ex h2
      rw [Bool.and_eq_true, decide_eq_true_eq] at h3
      have := hd u v hu hv h3.2
      subst this
      rw [h] at h3
      exact absurd h3.1 (by decide)
theorem pbS_lt {F : Nat → Nat → Nat} {S : Nat → Bool} {n : Nat} (hp : ∀ v, v < n → F 2 v < 24) : ∀ k, k ≤ n → pbS F S k < 16777216
  | 0, _ => by show 0 < 16777216; decide
  | k + 1, h => by
    have h1 := pbS_lt (F := F) (S := S) hp k (by omega)
    simp only [pbS]
    split
    · have h2 : 2 ^ F 2 k < 2 ^ 24 := Nat.pow_lt_pow_right (by decide) (hp k (by omega))
      exact or_lt (k := 24) h1 h2
    · exact h1
/-! counting bits -/
theorem pcn_or2 : ∀ (k x q : Nat), x.testBit q = false → q < k → pcn k (x ||| 2 ^ q) = pcn k x + 1 := by
  have base : ∀ (k x q : Nat), k ≤ q → pcn k (x ||| 2 ^ q) = pcn k x := by
    intro k
    induction k with
    | zero => intro x q _; rfl
    | succ k ih =>
      intro x q h
      simp only [pcn]
      rw [ih x q (by omega), Nat.testBit_or, Nat.testBit_two_pow]
      simp [show ¬ q = k by omega]
  intro k
  induction k with
  | zero => intro x q _ h; omega
  | succ k ih =>
    intro x q hx hq
    simp only [pcn]
    by_cases h : q = k
    · subst h
      rw [base q x q (Nat.le_refl q), Nat.testBit_or, Nat.testBit_two_pow, hx]
      simp
    · rw [ih x q hx (by omega), Nat.testBit_or, Nat.testBit_two_pow]
      simp [h]
      omega
theorem npl_bit (p : Nat) : ∀ (m q : Nat), (npl p m).testBit q = (decide (q < m) && nrb p q)
  | 0, q => by simp [npl]
  | m + 1, q => by
    simp only [npl]
    by_cases hm : nrb p m = true
    · rw [if_pos hm, Nat.testBit_or, Nat.testBit_two_pow, npl_bit p m q]
      by_cases h : q < m
      · simp [h, Nat.lt_succ_of_lt h, show ¬ m = q by omega]
      · by_cases h2 : q = m
        · subst h2; simp [hm]
        · simp [h, show ¬ q < m + 1 by omega, show ¬ m = q by omega]
    · rw [if_neg hm, npl_bit p m q]
      by_cases h : q < m
      · simp [h, Nat.lt_succ_of_lt h]
      · by_cases h2 : q = m
        · subst h2; simp [hm]
        · simp [h, show ¬ q < m + 1 by omega]
theorem nmk_bit {p q : Nat} (hq : q < 24) : (nmk p).testBit q = nrb p q := by
  unfold nmk
  rw [npl_bit]
  simp [hq]
theorem and_or2 (m x q : Nat) : m &&& (x ||| 2 ^ q) = if m.testBit q then (m &&& x) ||| 2 ^ q else m &&& x := by
  apply Nat.eq_of_testBit_eq
  intro i
  rw [Nat.testBit_and, Nat.testBit_or, Nat.testBit_two_pow]
  split
  · rename_i h
    rw [Nat.testBit_or, Nat.testBit_and, Nat.testBit_two_pow]
    by_cases hi : q = i
    · subst hi; simp [h]
    · simp [hi]
  · rename_i h
    rw [Nat.testBit_and]
    by_cases hi : q = i
    · subst hi; simp [h]
    · simp [hi]
theorem dis_le {F : Nat → Nat → Nat} {n m : Nat} (h : dis F n) (hm : m ≤ n) : dis F m := fun u v hu hv e => h u v (by omega) (by omega) e
/-- how many of S are near p, by bits -/
theorem pcn_near {F : Nat → Nat → Nat} {S : Nat → Bool} {p : Nat} : ∀ {n : Nat}, dis F n → (∀ v, v < n → F 2 v < 24) → pcn 32 (nmk p &&& pbS F S n) = cntN F n S p
  | 0, _, _ => by
    show pcn 32 (nmk p &&& 0) = 0
    rw [Nat.and_zero]
    rfl
  | n + 1, hd, hp => by
    have ih := pcn_near (F := F) (S := S) (p := p) (n := n) (dis_le hd (by omega)) (fun v hv => hp v (by omega))
    have hq := hp n (by omega)
    show pcn 32 (nmk p &&& (if S n = true then pbS F S n ||| 2 ^ F 2 n else pbS F S n)) = cntN F n S p + (S n && nrb p (F 2 n)).toNat
    cases hs : S n with
    | false => simp [ih]
    | true =>
      simp only [if_true, Bool.true_and]
      rw [and_or2, nmk_bit hq]
      cases hn : nrb p (F 2 n) with
      | false => simp [ih]
      | true =>
        simp only [if_true, Bool.toNat_true]
        rw [pcn_or2 32 _ _ ?_ (by omega), ih]
        rw [Nat.testBit_and, pbS_bit]
        have : anyN n (fun v => S v && decide (F 2 v = F 2 n)) = false := by
          cases h : anyN n (fun v => S v && decide (F 2 v = F 2 n)) with
          | false => rfl
          | true =>
            obtain ⟨u, hu, h3⟩ := anyN_ex h
            rw [Bool.and_eq_true, decide_eq_true_eq] at h3
            have := hd u n (by omega) (by omega) h3.2
            omega
        rw [this]
        simp
theorem pcn_all {F : Nat → Nat → Nat} {S : Nat → Bool} : ∀ {n : Nat}, dis F n → (∀ v, v < n → F 2 v < 24) → pcn 32 (pbS F S n) = crd n S
  | 0, _, _ => by
    show pcn 32 0 = 0
    decide
  | n + 1, hd, hp => by
    have ih := pcn_all (F := F) (S := S) (n := n) (dis_le hd (by omega)) (fun v hv => hp v (by omega))
    have hq := hp n (by omega)
    show pcn 32 (if S n = true then pbS F S n ||| 2 ^ F 2 n else pbS F S n) = crd n S + (S n).toNat
    cases hs : S n with
    | false => simp [ih]
    | true =>
      simp only [if_true, Bool.toNat_true]
      rw [pcn_or2 32 _ _ ?_ (by omega), ih]
      rw [pbS_bit]
      cases h : anyN n (fun v => S v && decide (F 2 v = F 2 n)) with
      | false => rfl
      | true =>
        obtain ⟨u, hu, h3⟩ := anyN_ex h
        rw [Bool.and_eq_true, decide_eq_true_eq] at h3
        have := hd u n (by omega) (by omega) h3.2
        omega
/-! the hymn itself: a tune k, a pitch p, ms: one who isn't there -/
def hyI (F : Nat → Nat → Nat) (k p ms v : Nat) : Bool := decide (F 6 k + p ≤ F 4 v) && !decide (v = ms)
def hyS (F : Nat → Nat → Nat) (n k p ms : Nat) (p1 p2 : Nat → Nat) (v : Nat) : Nat :=
  if hyI F k p ms v && decide (need F v k ≤ cntN F n (fun w => !decide (p1 w = 0)) (F 2 v)) && (!decide (F 0 v = 6) || decide (need F v k ≤ cntN F n (fun w => !decide (p2 w = 0)) (F 2 v))) then
    (if F 0 v = 5 then 3 else
      if (match F 0 v with
        | 3 => (F 5 v).testBit k
        | 4 => !decide (cntN F n (fun w => decide (p1 w = 1)) (F 2 v) < cntN F n (fun w => decide (p1 w = 2)) (F 2 v))
        | 6 => !decide (cntN F n (fun w => decide (p1 w = 1)) (F 2 v) < cntN F n (fun w => decide (p1 w = 2)) (F 2 v))
        | _ => (F 5 v).testBit k || !decide (cntN F n (fun w => decide (p1 w = 1)) (F 2 v) < cntN F n (fun w => decide (p1 w = 2)) (F 2 v))) then 1 else 2)
  else 0
/-- the verses sung so far: the last, and the one ahead of it -/
def hyP (F : Nat → Nat → Nat) (n k p ms : Nat) : Nat → (Nat → Nat) × (Nat → Nat)
  | 0 => (fun _ => 0, fun _ => 0)
  | v + 1 => (hyS F n k p ms (hyP F n k p ms v).1 (hyP F n k p ms v).2, (hyP F n k p ms v).1)
/-- what each does at a verse: 0 silent, 1 right, 2 wrong, 3 mimes -/
def hyV (F : Nat → Nat → Nat) (n k p ms verse : Nat) : Nat → Nat := (hyP F n k p ms (verse + 1)).1
def eqN (n : Nat) (f g : Nat → Nat) : Prop := ∀ v, v < n → f v = g v
theorem cntN_eq {F : Nat → Nat → Nat} {n : Nat} {S T : Nat → Bool} {p : Nat} (h : ∀ v, v < n → S v = T v) : cntN F n S p = cntN F n T p := sumN_eq (fun v hv => by rw [h v hv])
theorem hyS_eq {F : Nat → Nat → Nat} {n k p ms : Nat} {p1 p2 q1 q2 : Nat → Nat} (h1 : eqN n p1 q1) (h2 : ∀ v, v < n → (p2 v = 0 ↔ q2 v = 0)) (v : Nat) : hyS F n k p ms p1 p2 v = hyS F n k p ms q1 q2 v := by
  unfold hyS
  rw [cntN_eq (S := fun w => !decide (p1 w = 0)) (T := fun w => !decide (q1 w = 0)) (fun v hv => by rw [h1 v hv]),
    cntN_eq (S := fun w => !decide (p2 w = 0)) (T := fun w => !decide (q2 w = 0)) (fun v hv => by rw [decide_eq_decide.mpr (h2 v hv)]),
    cntN_eq (S := fun w => decide (p1 w = 1)) (T := fun w => decide (q1 w = 1)) (fun v hv => by rw [h1 v hv]),
    cntN_eq (S := fun w => decide (p1 w = 2)) (T := fun w => decide (q1 w = 2)) (fun v hv => by rw [h1 v hv])]
theorem hyS_le (F : Nat → Nat → Nat) (n k p ms : Nat) (p1 p2 : Nat → Nat) (v : Nat) : hyS F n k p ms p1 p2 v ≤ 3 := by
  unfold hyS
  (repeat' split) <;> omega
theorem hyP_le (F : Nat → Nat → Nat) (n k p ms : Nat) : ∀ (j v : Nat), (hyP F n k p ms j).1 v ≤ 3 ∧ (hyP F n k p ms j).2 v ≤ 3
  | 0, v => ⟨Nat.zero_le _, Nat.zero_le _⟩
  | j + 1, v => ⟨hyS_le _ _ _ _ _ _ _ v, (hyP_le F n k p ms j v).1⟩
/-- once it goes round, it goes round for ever -/
theorem hyP_ever {F : Nat → Nat → Nat} {n k p ms j : Nat} (h1 : eqN n (hyP F n k p ms (j + 1)).1 (hyP F n k p ms j).1) (h2 : ∀ v, v < n → ((hyP F n k p ms j).1 v = 0 ↔ (hyP F n k p ms j).2 v = 0)) : ∀ i, eqN n (hyP F n k p ms (j + 1 + i)).1 (hyP F n k p ms (j + 1)).1 ∧ (∀ v, v < n → ((hyP F n k p ms (j + 1 + i)).1 v = 0 ↔ (hyP F n k p ms (j + 1 + i)).2 v = 0))
  | 0 => by
    refine ⟨fun v _ => rfl, fun v hv => ?_⟩
    show (hyP F n k p ms (j + 1)).1 v = 0 ↔ (hyP F n k p ms j).1 v = 0
    rw [h1 v hv]
  | i + 1 => by
    obtain ⟨a, b⟩ := hyP_ever h1 h2 i
    have step : eqN n (hyP F n k p ms (j + 1 + i + 1)).1 (hyP F n k p ms (j + 1)).1 := by
      intro v hv
      show hyS F n k p ms (hyP F n k p ms (j + 1 + i)).1 (hyP F n k p ms (j + 1 + i)).2 v = hyS F n k p ms (hyP F n k p ms j).1 (hyP F n k p ms j).2 v
      refine hyS_eq (fun u hu => (a u hu).trans (h1 u hu)) (fun u hu => ?_) v
      rw [← h2 u hu, ← h1 u hu, ← a u hu]
      exact (b u hu).symm
    refine ⟨step, fun v hv => ?_⟩
    show (hyP F n k p ms (j + 1 + i + 1)).1 v = 0 ↔ (hyP F n k p ms (j + 1 + i)).1 v = 0
    rw [step v hv, a v hv]
end
section
/-! SINGING: the verses one after another -/
/-- what stands behind begin -/
def sgP (nd : Nat → Nat) (ir kn : Nat) (F : Nat → Nat → Nat) (n t k p ms : Nat) : Prop := okF F n t ∧ dis F n ∧ k < t ∧ p < 6 ∧ ir < 16384 ∧ kn < 16384 ∧ (∀ v, v < n → nd v = need F v k) ∧ (∀ v, v < n → ir.testBit v = hyI F k p ms v) ∧ (∀ v, v < n → kn.testBit v = (F 5 v).testBit k)
/-- places at the j-th state of those for whom it is c -/
abbrev plc (F : Nat → Nat → Nat) (n k p ms j c : Nat) : Nat := pbs F (hyP F n k p ms j).1 c n
/-- places of those who were heard or mimed ahead -/
abbrev pla (F : Nat → Nat → Nat) (n k p ms j : Nat) : Nat := pbS F (fun v => !decide ((hyP F n k p ms j).2 v = 0)) n
theorem need_lt {F : Nat → Nat → Nat} {n t v k : Nat} (hok : okF F n t) (hv : v < n) : need F v k < 1000 := by
  obtain ⟨f0, f1, f2, f3, f4, f5⟩ := hok.2.2.1 v hv
  unfold need needB
  (repeat' split) <;> omega
theorem pbs_or3 {F : Nat → Nat → Nat} {g : Nat → Nat} (hg : ∀ v, g v ≤ 3) : ∀ n, pbs F g 1 n ||| pbs F g 2 n ||| pbs F g 3 n = pbS F (fun v => !decide (g v = 0)) n
  | 0 => by
    show 0 ||| 0 ||| 0 = 0
    decide
  | n + 1 => by
    have ih := pbs_or3 (F := F) hg n
    have h3 := hg n
    simp only [pbs, pbS]
    have hc : g n = 0 ∨ g n = 1 ∨ g n = 2 ∨ g n = 3 := by omega
    rcases hc with h | h | h | h
    · simp [h, ih]
    · simp only [h, if_true]
      rw [if_neg (by decide), if_neg (by decide), if_pos (by decide), ← ih]
      apply Nat.eq_of_testBit_eq
      intro i
      simp only [Nat.testBit_or]
      cases (pbs F g 1 n).testBit i <;> cases (pbs F g 2 n).testBit i <;> cases (pbs F g 3 n).testBit i <;> cases (2 ^ F 2 n).testBit i <;> rfl
    · simp only [h, if_true]
      rw [if_neg (by decide), if_neg (by decide), if_pos (by decide), ← ih]
      apply Nat.eq_of_testBit_eq
      intro i
      simp only [Nat.testBit_or]
      cases (pbs F g 1 n).testBit i <;> cases (pbs F g 2 n).testBit i <;> cases (pbs F g 3 n).testBit i <;> cases (2 ^ F 2 n).testBit i <;> rfl
    · simp only [h, if_true]
      rw [if_neg (by decide), if_neg (by decide), if_pos (by decide), ← ih]
      apply Nat.eq_of_testBit_eq
      intro i
      simp only [Nat.testBit_or]
      cases (pbs F g 1 n).testBit i <;> cases (pbs F g 2 n).testBit i <;> cases (pbs F g 3 n).testBit i <;> cases (2 ^ F 2 n).testBit i <;> rfl
section SK
variable {E : dmX} {d : Nat} {F : Nat → Nat → Nat} {n t wt : Nat} {hy sd : Int32} {nd : Nat → Nat} {ir kn k p ms : Nat} {sa fe : Bool}
/-- the verse by places is the verse by voices -/
theorem vsB_hyS (h : sgP nd ir kn F n t k p ms) (j v : Nat) (hv : v < n) : vsB nd ir kn (plc F n k p ms j 1) (plc F n k p ms j 2) (plc F n k p ms j 3) (pla F n k p ms j) F v = (hyP F n k p ms (j + 1)).1 v := by
  obtain ⟨hok, hd, hk, hp, hir, hkn, h1, h2, h3⟩ := h
  have hpl : ∀ v, v < n → F 2 v < 24 := fun v hv => (hok.2.2.1 v hv).2.2.1
  show _ = hyS F n k p ms (hyP F n k p ms j).1 (hyP F n k p ms j).2 v
  unfold vsB hyS jnB rgB ldB plc pla
  rw [pbs_or3 (fun v => (hyP_le F n k p ms j v).1), pbs_S, pbs_S, pcn_near hd hpl, pcn_near hd hpl, pcn_near hd hpl, pcn_near hd hpl, h1 v hv, h2 v hv, h3 v hv]
  rfl
theorem pbs_eqN {f g : Nat → Nat} {c : Nat} : ∀ {n : Nat}, eqN n f g → pbs F f c n = pbs F g c n
  | 0, _ => rfl
  | n + 1, h => by
    simp only [pbs]
    rw [pbs_eqN (fun v hv => h v (by omega)), h n (by omega)]
theorem nx_plc (h : sgP nd ir kn F n t k p ms) (j c : Nat) : nxW nd ir kn (plc F n k p ms j 1) (plc F n k p ms j 2) (plc F n k p ms j 3) (pla F n k p ms j) F n c = plc F n k p ms (j + 1) c := by
  exact pbs_eqN (fun v hv => vsB_hyS h j v hv)
theorem ac_pla (j : Nat) : plc F n k p ms j 1 ||| plc F n k p ms j 2 ||| plc F n k p ms j 3 = pla F n k p ms (j + 1) := pbs_or3 (fun v => (hyP_le F n k p ms j v).1) n
theorem plc_lt (hok : okF F n t) (j c : Nat) : plc F n k p ms j c < 16777216 := pbs_lt (fun v hv => (hok.2.2.1 v hv).2.2.1) n (Nat.le_refl n)
theorem pla_lt (hok : okF F n t) (j : Nat) : pla F n k p ms j < 16777216 := pbS_lt (fun v hv => (hok.2.2.1 v hv).2.2.1) n (Nat.le_refl n)
/-- nobody moves any more -/
def evr (F : Nat → Nat → Nat) (n k p ms j : Nat) : Prop := eqN n (hyP F n k p ms (j + 1)).1 (hyP F n k p ms j).1 ∧ ∀ v, v < n → ((hyP F n k p ms j).1 v = 0 ↔ (hyP F n k p ms j).2 v = 0)
theorem pbs_inj (hd : dis F n) {f g : Nat → Nat} (hf : ∀ v, f v ≤ 3) (hg : ∀ v, g v ≤ 3) (h : ∀ c, 1 ≤ c → c ≤ 3 → pbs F f c n = pbs F g c n) : eqN n f g := by
  intro v hv
  have own : ∀ c, 1 ≤ c → c ≤ 3 → (f v = c ↔ g v = c) := by
    intro c h1 h2
    have e := h c h1 h2
    rw [pbs_S, pbs_S] at e
    have e2 := congrArg (fun x => x.testBit (F 2 v)) e
    simp only [pbS_own hd hv] at e2
    exact decide_eq_decide.mp e2
  have a1 := own 1 (by omega) (by omega)
  have a2 := own 2 (by omega) (by omega)
  have a3 := own 3 (by omega) (by omega)
  have := hf v
  have := hg v
  omega
theorem ever_evr (h : sgP nd ir kn F n t k p ms) {j : Nat} (he : everB nd ir kn (plc F n k p ms j 1) (plc F n k p ms j 2) (plc F n k p ms j 3) (pla F n k p ms j) F n = true) : evr F n k p ms j := by
  unfold everB sameB at he
  simp only [Bool.and_eq_true, decide_eq_true_eq] at he
  obtain ⟨⟨⟨e1, e2⟩, e3⟩, e4⟩ := he
  rw [nx_plc h] at e1 e2 e3
  rw [ac_pla] at e4
  have hd := h.2.1
  refine ⟨pbs_inj hd (fun v => (hyP_le F n k p ms (j + 1) v).1) (fun v => (hyP_le F n k p ms j v).1) (fun c h1 h2 => ?_), fun v hv => ?_⟩
  · have hc : c = 1 ∨ c = 2 ∨ c = 3 := by omega
    rcases hc with rfl | rfl | rfl
    · exact e1
    · exact e2
    · exact e3
  · have e5 := congrArg (fun x => x.testBit (F 2 v)) e4
    simp only [pbS_own hd hv] at e5
    have e6 : decide ((hyP F n k p ms j).1 v = 0) = decide ((hyP F n k p ms j).2 v = 0) := by
      have : (!decide ((hyP F n k p ms j).1 v = 0)) = (!decide ((hyP F n k p ms j).2 v = 0)) := e5
      simpa using this
    exact decide_eq_decide.mp e6
/-- the singing world at its j-th state -/
abbrev WSj (nd : Nat → Nat) (ir kn : Nat) (F : Nat → Nat → Nat) (n t wt : Nat) (hy sd : Int32) (k p ms j : Nat) (sa fe : Bool) : dmW := WS nd ir kn (plc F n k p ms j 1) (plc F n k p ms j 2) (plc F n k p ms j 3) (pla F n k p ms j) sa fe F n t wt hy sd
theorem c_S_nextVerseJ (h : sgP nd ir kn F n t k p ms) (j : Nat) : GM0 E mS_nextVerse (d + 3) [R 0] (WSj nd ir kn F n t wt hy sd k p ms j sa fe) (dmE none (WSj nd ir kn F n t wt hy sd k p ms (j + 1) (sameB nd ir kn (plc F n k p ms j 1) (plc F n k p ms j 2) (plc F n k p ms j 3) (pla F n k p ms j) F n) (everB nd ir kn (plc F n k p ms j 1) (plc F n k p ms j 2) (plc F n k p ms j 3) (pla F n k p ms j) F n))) := by
  have hok := h.1
  have c := c_S_nextVerse (E := E) (d := d) (wt := wt) (hy := hy) (sd := sd) (sa := sa) (fe := fe) hok h.2.2.2.2.1 h.2.2.2.2.2.1 (plc_lt (k := k) (p := p) (ms := ms) hok j 1) (plc_lt (k := k) (p := p) (ms := ms) hok j 2) (plc_lt (k := k) (p := p) (ms := ms) hok j 3) (pla_lt (k := k) (p := p) (ms := ms) hok j) (nd := nd) (fun v hv => by rw [h.2.2.2.2.2.2.1 v hv]; exact need_lt hok hv)
  rw [nx_plc h, nx_plc h, nx_plc h, ac_pla] at c
  exact c
theorem plc_ever {j i c : Nat} (h : evr F n k p ms j) (hi : j + 1 ≤ i) : plc F n k p ms i c = plc F n k p ms (j + 1) c := by
  refine pbs_eqN (fun v hv => ?_)
  have := (hyP_ever h.1 h.2 (i - (j + 1))).1 v hv
  rw [show j + 1 + (i - (j + 1)) = i by omega] at this
  exact this
/-- what the flag tells of a state -/
def flg (F : Nat → Nat → Nat) (n k p ms j : Nat) (fe : Bool) : Prop := fe = true → ∃ i, j = i + 1 ∧ evr F n k p ms i
theorem l_S_singTo (h : sgP nd ir kn F n t k p ms) {l : Nat} (hl : l ≤ 43) : ∀ (m v : Nat) (sa fe : Bool), v + m = l + 1 → flg F n k p ms v fe → GW0 E mS_singTo (d + 4) (2, [R 0, I (nI l), I (nI v)], [], WSj nd ir kn F n t wt hy sd k p ms v sa fe) (fun r w => r = some (I (nI (plc F n k p ms (l + 1) 1))) ∧ ∃ ac sa fe, w = WS nd ir kn (plc F n k p ms (l + 1) 1) (plc F n k p ms (l + 1) 2) (plc F n k p ms (l + 1) 3) ac sa fe F n t wt hy sd) := by
  intro m
  induction m with
  | zero =>
    intro v sa fe hv hf
    have hvl : v = l + 1 := by omega
    subst hvl
    refine gr rfl ?_
    refine gl l (l + 1) rfl (by omega) (by omega) (fun _ => ?_) (fun h => absurd h (by omega))
    refine gr rfl ?_
    exact gret rfl rfl ⟨rfl, pla F n k p ms (l + 1), sa, fe, rfl⟩
  | succ m ih =>
    intro v sa fe hv hf
    refine gr rfl ?_
    refine gl l v rfl (by omega) (by omega) (fun h => absurd h (by omega)) (fun _ => ?_)
    refine gr rfl ?_
    refine gz rfl (fun hfe => ?_) (fun hfe => ?_)
    · refine gr rfl ?_
      refine cV0 rfl rfl rfl (c_S_nextVerseJ h v) rfl rfl rfl ?_
      refine gr rfl ?_
      rw [nI_1]
      exact ih (v + 1) _ _ (by omega) (fun he => ⟨v, rfl, ever_evr h he⟩)
    · obtain ⟨i, hi, hev⟩ := hf hfe
      subst hi
      refine gr rfl ?_
      refine gret rfl rfl ⟨?_, pla F n k p ms (i + 1), sa, fe, ?_⟩
      · rw [plc_ever hev (i := l + 1) (by omega)]
      · rw [plc_ever hev (i := l + 1) (by omega), plc_ever hev (i := l + 1) (by omega), plc_ever hev (i := l + 1) (by omega)]
theorem plc_0 (c : Nat) (hc : 1 ≤ c) : plc F n k p ms 0 c = 0 := by
  have : ∀ m, pbs F (fun _ => 0) c m = 0 := by
    intro m
    induction m with
    | zero => rfl
    | succ m ih =>
      simp only [pbs]
      rw [if_neg (by omega), ih]
  exact this n
theorem pla_0 : pla F n k p ms 0 = 0 := by
  have : ∀ m, pbS F (fun _ => false) m = 0 := by
    intro m
    induction m with
    | zero => rfl
    | succ m ih => simp only [pbS, ih]; rfl
  exact this n
theorem WSj_0 : WSj nd ir kn F n t wt hy sd k p ms 0 sa fe = WS nd ir kn 0 0 0 0 sa fe F n t wt hy sd := by
  unfold WSj
  rw [plc_0 1 (by decide), plc_0 2 (by decide), plc_0 3 (by decide), pla_0]
theorem c_S_singTo (h : sgP nd ir kn F n t k p ms) {l : Nat} (hl : l ≤ 43) : GM0 E mS_singTo (d + 4) [R 0, I (nI l)] (WS nd ir kn 0 0 0 0 sa false F n t wt hy sd) (fun r w => r = some (I (nI (plc F n k p ms (l + 1) 1))) ∧ ∃ ac sa fe, w = WS nd ir kn (plc F n k p ms (l + 1) 1) (plc F n k p ms (l + 1) 2) (plc F n k p ms (l + 1) 3) ac sa fe F n t wt hy sd) := by
  refine gm okS_singTo rfl ?_
  refine grn 2 rfl ?_
  have h9 := l_S_singTo (E := E) (d := d) (wt := wt) (hy := hy) (sd := sd) h hl (l + 1) 0 sa false (by omega) (fun e => by cases e)
  rw [WSj_0] at h9
  exact h9
end SK
end
section
/-! SINGING: catching, settling, being heard -/
def oI : Option Nat → Int32
  | none => -1
  | some x => nI x
/-- the first from v on, among m -/
def ffst (P : Nat → Bool) : Nat → Nat → Option Nat
  | 0, _ => none
  | m + 1, v => if P v then some v else ffst P m (v + 1)
def allN : Nat → (Nat → Bool) → Bool
  | 0, _ => true
  | k + 1, P => allN k P && P k
theorem allN_iff {P : Nat → Bool} : ∀ {n : Nat}, allN n P = true ↔ ∀ v, v < n → P v = true
  | 0 => by simp [allN]
  | n + 1 => by
    simp only [allN, Bool.and_eq_true, allN_iff (n := n)]
    constructor
    · rintro ⟨h1, h2⟩ v hv
      by_cases e : v = n
      · rw [e]; exact h2
      · exact h1 v (by omega)
    · intro h
      exact ⟨fun v hv => h v (by omega), h n (by omega)⟩
theorem ffst_none {P : Nat → Bool} : ∀ {m v : Nat}, (∀ u, v ≤ u → u < v + m → P u = false) → ffst P m v = none
  | 0, v, _ => rfl
  | m + 1, v, h => by
    simp only [ffst]
    rw [h v (Nat.le_refl v) (by omega), if_neg (by decide)]
    exact ffst_none (fun u h1 h2 => h u (by omega) (by omega))
theorem ffst_some {P : Nat → Bool} : ∀ {m v u : Nat}, v ≤ u → u < v + m → P u = true → (∀ x, v ≤ x → x < u → P x = false) → ffst P m v = some u
  | 0, v, u, h1, h2, _, _ => by omega
  | m + 1, v, u, h1, h2, hp, hx => by
    simp only [ffst]
    by_cases e : v = u
    · subst e
      rw [if_pos hp]
    · rw [hx v (Nat.le_refl v) (by omega), if_neg (by decide)]
      exact ffst_some (by omega) (by omega) hp (fun x h3 h4 => hx x (by omega) h4)
/-- how many sing right at a verse -/
def rgN (F : Nat → Nat → Nat) (n k p ms verse : Nat) : Nat := crd n (fun u => decide (hyV F n k p ms verse u = 1))
/-- how many are heard at a verse -/
def hdN (F : Nat → Nat → Nat) (n k p ms verse : Nat) : Nat := crd n (fun u => decide (hyV F n k p ms verse u = 1) || decide (hyV F n k p ms verse u = 2))
def ctc (F : Nat → Nat → Nat) (n k p ms : Nat) : Option Nat := ffst (fun v => decide (n ≤ 2 * rgN F n k p ms v)) 41 0
def sameV (F : Nat → Nat → Nat) (n k p ms u v : Nat) : Bool := allN n (fun w => decide (hyV F n k p ms u w = hyV F n k p ms v w))
def setl (F : Nat → Nat → Nat) (n k p ms v : Nat) : Bool := sameV F n k p ms v (v + 1) && sameV F n k p ms v (v + 2) && sameV F n k p ms v (v + 3)
def stl (F : Nat → Nat → Nat) (n k p ms : Nat) : Option Nat := ffst (setl F n k p ms) 41 0
theorem crd_le (n : Nat) (S : Nat → Bool) : crd n S ≤ n := by
  unfold crd
  induction n with
  | zero => exact Nat.le_refl 0
  | succ n ih =>
    simp only [sumN]
    have : (S n).toNat ≤ 1 := by cases S n <;> decide
    omega
theorem pbs_or2 {F : Nat → Nat → Nat} (g : Nat → Nat) : ∀ n, pbs F g 1 n ||| pbs F g 2 n = pbS F (fun v => decide (g v = 1) || decide (g v = 2)) n
  | 0 => by
    show 0 ||| 0 = 0
    decide
  | n + 1 => by
    have ih := pbs_or2 (F := F) g n
    simp only [pbs, pbS]
    by_cases h1 : g n = 1
    · rw [if_pos h1, if_neg (by omega), if_pos (by simp [h1]), ← ih]
      apply Nat.eq_of_testBit_eq
      intro i
      simp only [Nat.testBit_or]
      cases (pbs F g 1 n).testBit i <;> cases (pbs F g 2 n).testBit i <;> cases (2 ^ F 2 n).testBit i <;> rfl
    · by_cases h2 : g n = 2
      · rw [if_neg h1, if_pos h2, if_pos (by simp [h2]), ← ih]
        apply Nat.eq_of_testBit_eq
        intro i
        simp only [Nat.testBit_or]
        cases (pbs F g 1 n).testBit i <;> cases (pbs F g 2 n).testBit i <;> cases (2 ^ F 2 n).testBit i <;> rfl
      · rw [if_neg h1, if_neg h2, if_neg (by simp [h1, h2]), ih]
section SL
variable {E : dmX} {d : Nat} {F : Nat → Nat → Nat} {n t wt : Nat} {hy sd : Int32} {nd : Nat → Nat} {ir kn k p ms : Nat} {sa fe : Bool}
/-- the singing world, whatever has been sung -/
def anyS (nd : Nat → Nat) (ir kn : Nat) (F : Nat → Nat → Nat) (n t wt : Nat) (hy sd : Int32) (w : dmW) : Prop := ∃ rt wr mi ac sa fe, w = WS nd ir kn rt wr mi ac sa fe F n t wt hy sd
theorem plc_pcn (hok : okF F n t) (hd : dis F n) (j : Nat) : pcn 32 (plc F n k p ms (j + 1) 1) = rgN F n k p ms j := by
  unfold plc rgN
  rw [pbs_S, pcn_all hd (fun v hv => (hok.2.2.1 v hv).2.2.1)]
  rfl
theorem plc_hd (hok : okF F n t) (hd : dis F n) (j : Nat) : pcn 32 (plc F n k p ms (j + 1) 1 ||| plc F n k p ms (j + 1) 2) = hdN F n k p ms j := by
  unfold plc hdN
  rw [pbs_or2, pcn_all hd (fun v hv => (hok.2.2.1 v hv).2.2.1)]
  rfl
theorem rgN_ever {j i : Nat} (h : evr F n k p ms j) (hi : j ≤ i) : rgN F n k p ms i = rgN F n k p ms j := by
  unfold rgN crd
  refine sumN_eq (fun v hv => ?_)
  have := (hyP_ever h.1 h.2 (i - j)).1 v hv
  rw [show j + 1 + (i - j) = i + 1 by omega] at this
  unfold hyV
  show (decide ((hyP F n k p ms (i + 1)).1 v = 1)).toNat = (decide ((hyP F n k p ms (j + 1)).1 v = 1)).toNat
  rw [this]
theorem l_S_catchesAt (h : sgP nd ir kn F n t k p ms) : ∀ (m v : Nat) (sa fe : Bool), v + m = 41 → flg F n k p ms v fe → (∀ u, u < v → ¬ n ≤ 2 * rgN F n k p ms u) → GW0 E mS_catchesAt (d + 4) (2, [R 0, I (nI v)], [], WSj nd ir kn F n t wt hy sd k p ms v sa fe) (fun r w => r = some (I (oI (ctc F n k p ms))) ∧ anyS nd ir kn F n t wt hy sd w) := by
  have hok := h.1
  have hn := hok.1
  intro m
  induction m with
  | zero =>
    intro v sa fe hv hf hno
    have hvl : v = 41 := by omega
    subst hvl
    refine gr rfl ?_
    refine gl 40 41 rfl (by decide) (by decide) (fun _ => ?_) (fun h => absurd h (by decide))
    refine gr rfl ?_
    refine gret rfl rfl ⟨?_, _, _, _, _, _, _, rfl⟩
    unfold ctc
    rw [ffst_none (fun u _ hu => decide_eq_false (hno u (by omega)))]
    rfl
  | succ m ih =>
    intro v sa fe hv hf hno
    refine gr rfl ?_
    refine gl 40 v rfl (by decide) (by omega) (fun h => absurd h (by omega)) (fun _ => ?_)
    refine gr rfl ?_
    refine gz rfl (fun hfe => ?_) (fun hfe => ?_)
    · refine gr rfl ?_
      refine cV0 rfl rfl rfl (c_S_nextVerseJ h v) rfl rfl rfl ?_
      refine gr rfl ?_
      have hl := plc_lt (k := k) (p := p) (ms := ms) hok (v + 1) 1
      refine cs rfl rfl rfl (c_J_bitCount (by omega)) rfl ?_
      rw [plc_pcn hok h.2.1]
      have hc := crd_le n (fun u => decide (hyV F n k p ms v u = 1))
      have hc : rgN F n k p ms v ≤ n := hc
      refine gr rfl ?_
      rw [show (2 : Int32) = nI 2 from rfl, pk_mul]
      refine gl (2 * rgN F n k p ms v) n rfl (by omega) (by omega) (fun h2 => ?_) (fun h2 => ?_)
      · refine gr rfl ?_
        rw [nI_1]
        refine ih (v + 1) _ _ (by omega) (fun he => ⟨v, rfl, ever_evr h he⟩) (fun u hu => ?_)
        by_cases e : u = v
        · subst e; omega
        · exact hno u (by omega)
      · refine gr rfl ?_
        refine gret rfl rfl ⟨?_, _, _, _, _, _, _, rfl⟩
        unfold ctc
        rw [ffst_some (Nat.zero_le v) (by omega) (decide_eq_true h2) (fun x _ hx => decide_eq_false (hno x hx))]
        rfl
    · obtain ⟨i, hi, hev⟩ := hf hfe
      subst hi
      refine gr rfl ?_
      refine gret rfl rfl ⟨?_, _, _, _, _, _, _, rfl⟩
      unfold ctc
      rw [ffst_none (fun u _ hu => decide_eq_false ?_)]
      · rfl
      · by_cases e : u < i + 1
        · exact hno u e
        · rw [rgN_ever hev (by omega)]
          exact hno i (by omega)
theorem c_S_catchesAt (h : sgP nd ir kn F n t k p ms) : GM0 E mS_catchesAt (d + 4) [R 0] (WS nd ir kn 0 0 0 0 sa false F n t wt hy sd) (fun r w => r = some (I (oI (ctc F n k p ms))) ∧ anyS nd ir kn F n t wt hy sd w) := by
  refine gm okS_catchesAt rfl ?_
  refine grn 2 rfl ?_
  have h9 := l_S_catchesAt (E := E) (d := d) (wt := wt) (hy := hy) (sd := sd) h 41 0 sa false (by omega) (fun e => by cases e) (fun u hu => by omega)
  rw [WSj_0] at h9
  exact h9
theorem same_eqN (h : sgP nd ir kn F n t k p ms) (j : Nat) : sameB nd ir kn (plc F n k p ms j 1) (plc F n k p ms j 2) (plc F n k p ms j 3) (pla F n k p ms j) F n = true ↔ eqN n (hyP F n k p ms (j + 1)).1 (hyP F n k p ms j).1 := by
  unfold sameB
  simp only [Bool.and_eq_true, decide_eq_true_eq]
  rw [nx_plc h, nx_plc h, nx_plc h]
  constructor
  · rintro ⟨⟨e1, e2⟩, e3⟩
    refine pbs_inj h.2.1 (fun v => (hyP_le F n k p ms (j + 1) v).1) (fun v => (hyP_le F n k p ms j v).1) (fun c h1 h2 => ?_)
    have hc : c = 1 ∨ c = 2 ∨ c = 3 := by omega
    rcases hc with rfl | rfl | rfl
    · exact e1
    · exact e2
    · exact e3
  · intro he
    exact ⟨⟨pbs_eqN he, pbs_eqN he⟩, pbs_eqN he⟩
theorem sameV_iff (u v : Nat) : sameV F n k p ms u v = true ↔ eqN n (hyV F n k p ms u) (hyV F n k p ms v) := by
  unfold sameV
  rw [allN_iff]
  constructor
  · intro h w hw
    exact of_decide_eq_true (h w hw)
  · intro h w hw
    exact decide_eq_true (h w hw)
theorem l_S_settlesAt (h : sgP nd ir kn F n t k p ms) : ∀ (m v s : Nat) (sa fe : Bool), v + m = 44 → (v = 0 ∧ s = 0 ∨ s < v) → v ≤ s + 3 → (∀ i, s ≤ i → i < v → eqN n (hyV F n k p ms i) (hyV F n k p ms s)) → (∀ u, u < s → setl F n k p ms u = false) → GW0 E mS_settlesAt (d + 4) (4, [R 0, I (nI s), I (nI v)], [], WSj nd ir kn F n t wt hy sd k p ms v sa fe) (fun r w => r = some (I (oI (stl F n k p ms))) ∧ anyS nd ir kn F n t wt hy sd w) := by
  have hok := h.1
  have hn := hok.1
  intro m
  induction m with
  | zero =>
    intro v s sa fe hv hs h3 heq hno
    have hvl : v = 44 := by omega
    subst hvl
    refine gr rfl ?_
    refine gl 43 44 rfl (by decide) (by decide) (fun _ => ?_) (fun h => absurd h (by decide))
    refine gr rfl ?_
    refine gret rfl rfl ⟨?_, _, _, _, _, _, _, rfl⟩
    unfold stl
    rw [ffst_none (fun u _ hu => hno u (by omega))]
    rfl
  | succ m ih =>
    intro v s sa fe hv hs h3 heq hno
    refine gr rfl ?_
    refine gl 43 v rfl (by decide) (by omega) (fun h => absurd h (by omega)) (fun _ => ?_)
    refine gr rfl ?_
    refine cV0 rfl rfl rfl (c_S_nextVerseJ h v) rfl rfl rfl ?_
    refine gr rfl ?_
    refine gz rfl (fun hsm => ?_) (fun hsm => ?_)
    · -- not the same: since = v
      refine gr rfl ?_
      rw [pk_sub (Nat.le_refl v), Nat.sub_self]
      refine gf rfl (by decide) ?_
      refine gr rfl ?_
      rw [nI_1]
      refine ih (v + 1) v _ _ (by omega) (Or.inr (by omega)) (by omega) (fun i h1 h2 => ?_) (fun u hu => ?_)
      · have : i = v := by omega
        subst this
        exact fun w _ => rfl
      · by_cases hus : u < s
        · exact hno u hus
        · have hv0 : 0 < v := by omega
          cases hst : setl F n k p ms u with
          | false => rfl
          | true =>
            exfalso
            have hne : ¬ eqN n (hyP F n k p ms (v + 1)).1 (hyP F n k p ms v).1 := fun he => by
              have := (same_eqN h v).mpr he
              rw [this] at hsm
              cases hsm
            unfold setl at hst
            simp only [Bool.and_eq_true, sameV_iff] at hst
            obtain ⟨⟨b1, b2⟩, b3⟩ := hst
            have huv : eqN n (hyV F n k p ms u) (hyV F n k p ms v) := by
              have : v = u + 1 ∨ v = u + 2 ∨ v = u + 3 := by omega
              rcases this with rfl | rfl | rfl
              · exact b1
              · exact b2
              · exact b3
            have hu1 : eqN n (hyV F n k p ms (v - 1)) (hyV F n k p ms s) := heq (v - 1) (by omega) (by omega)
            have hu2 : eqN n (hyV F n k p ms u) (hyV F n k p ms s) := heq u (by omega) (by omega)
            apply hne
            intro w hw
            have e1 := huv w hw
            have e2 := hu1 w hw
            have e3 := hu2 w hw
            show hyV F n k p ms v w = (hyP F n k p ms v).1 w
            have e4 : hyV F n k p ms (v - 1) w = (hyP F n k p ms v).1 w := by
              unfold hyV
              rw [show v - 1 + 1 = v by omega]
            omega
    · -- the same as ahead
      have he := (same_eqN h v).mp hsm
      have heq' : ∀ i, s ≤ i → i < v + 1 → eqN n (hyV F n k p ms i) (hyV F n k p ms s) := by
        intro i h1 h2 w hw
        by_cases hiv : i < v
        · exact heq i h1 hiv w hw
        · have : i = v := by omega
          subst this
          rcases hs with ⟨rfl, rfl⟩ | hs
          · rfl
          · have e1 := heq (i - 1) (by omega) (by omega) w hw
            have e2 := he w hw
            have e4 : hyV F n k p ms (i - 1) w = (hyP F n k p ms i).1 w := by
              unfold hyV
              rw [show i - 1 + 1 = i by omega]
            show (hyP F n k p ms (i + 1)).1 w = _
            omega
      refine gr rfl ?_
      rw [pk_sub (show s ≤ v by omega)]
      refine ge (v - s) 3 rfl (by omega) (by decide) (fun h9 => ?_) (fun h9 => ?_)
      · refine gr rfl ?_
        refine gret rfl rfl ⟨?_, _, _, _, _, _, _, rfl⟩
        unfold stl
        rw [ffst_some (u := s) (Nat.zero_le s) (by omega) ?_ (fun x _ hx => hno x hx)]
        · rfl
        · unfold setl
          simp only [Bool.and_eq_true, sameV_iff]
          exact ⟨⟨fun w hw => (heq' (s + 1) (by omega) (by omega) w hw).symm, fun w hw => (heq' (s + 2) (by omega) (by omega) w hw).symm⟩, fun w hw => (heq' (s + 3) (by omega) (by omega) w hw).symm⟩
      · refine gr rfl ?_
        rw [nI_1]
        exact ih (v + 1) s _ _ (by omega) (Or.inr (by omega)) (by omega) heq' hno
theorem c_S_settlesAt (h : sgP nd ir kn F n t k p ms) : GM0 E mS_settlesAt (d + 4) [R 0] (WS nd ir kn 0 0 0 0 sa false F n t wt hy sd) (fun r w => r = some (I (oI (stl F n k p ms))) ∧ anyS nd ir kn F n t wt hy sd w) := by
  refine gm okS_settlesAt rfl ?_
  refine grn 4 rfl ?_
  have h9 := l_S_settlesAt (E := E) (d := d) (wt := wt) (hy := hy) (sd := sd) h 44 0 0 sa false (by omega) (Or.inl ⟨rfl, rfl⟩) (by omega) (fun i _ hi => by omega) (fun u hu => by omega)
  rw [WSj_0] at h9
  exact h9
/-- the row f, read as ints, tells of those heard at the first c verses -/
def hrd (F : Nat → Nat → Nat) (n k p ms : Nat) (f : Nat → Int64) (c : Nat) : Bool := allN c (fun v => decide (nI (hdN F n k p ms v) = (f v).toInt32))
theorem l_S_isHeardAs (h : sgP nd ir kn F n t k p ms) {f : Nat → Int64} {c : Nat} (hc : c ≤ 160) : ∀ (m v : Nat) (sa fe : Bool), v + m = c → hrd F n k p ms f v = true → GW0 E mS_isHeardAs (d + 4) (2, [R 0, R 11, I (nI c), I (nI v)], [], WSj nd ir kn F n t wt hy sd k p ms v sa fe ++ [.inl (1, 160, .inr (.inl f))]) (fun r w => r = some (I (bI (hrd F n k p ms f c))) ∧ ∃ w0, anyS nd ir kn F n t wt hy sd w0 ∧ w = w0 ++ [.inl (1, 160, .inr (.inl f))]) := by
  have hok := h.1
  have hn := hok.1
  intro m
  induction m with
  | zero =>
    intro v sa fe hv hh
    have hvl : v = c := by omega
    subst hvl
    refine gr rfl ?_
    refine gl v v rfl (by omega) (by omega) (fun h => absurd h (Nat.lt_irrefl v)) (fun _ => ?_)
    refine gr rfl ?_
    refine gretz true rfl rfl rfl ⟨by rw [hh], _, ⟨_, _, _, _, _, _, rfl⟩, rfl⟩
  | succ m ih =>
    intro v sa fe hv hh
    refine gr rfl ?_
    refine gl v c rfl (by omega) (by omega) (fun hvc => ?_) (fun h => absurd h (by omega))
    refine gr rfl ?_
    refine gl v 160 rfl (by omega) (by decide) (fun _ => ?_) (fun h => absurd h (by omega))
    refine gr rfl ?_
    refine cV [0, 1, 2, 3, 4, 5, 6, 7, 8, 9, 10] U1 U1 rfl rfl rfl (c_S_nextVerseJ h v) rfl rfl rfl rfl rfl rfl rfl rfl ?_
    refine gr rfl ?_
    rw [nb_or]
    have hl := plc_lt (k := k) (p := p) (ms := ms) hok (v + 1) 1
    have hl2 := plc_lt (k := k) (p := p) (ms := ms) hok (v + 1) 2
    have hl3 : plc F n k p ms (v + 1) 1 ||| plc F n k p ms (v + 1) 2 < 16777216 := or_lt (k := 24) hl hl2
    refine cs rfl rfl rfl (c_J_bitCount (by omega)) rfl ?_
    rw [plc_hd hok h.2.1]
    refine gr rfl ?_
    refine G_lald v rfl rfl rfl (show v < 160 by omega) (by decide) ?_
    refine gr rfl ?_
    refine gi rfl (fun he => ?_) (fun he => ?_)
    · refine gr rfl ?_
      rw [nI_1]
      refine ih (v + 1) _ _ (by omega) ?_
      show (hrd F n k p ms f v && decide (nI (hdN F n k p ms v) = (f v).toInt32)) = true
      rw [hh, Bool.true_and]
      exact decide_eq_true he
    · refine gr rfl ?_
      have hfalse : hrd F n k p ms f c = false := by
        cases hq : hrd F n k p ms f c with
        | false => rfl
        | true =>
          have := allN_iff.mp hq v hvc
          exact absurd (of_decide_eq_true this) he
      refine gretz false rfl rfl rfl ⟨by rw [hfalse], _, ⟨_, _, _, _, _, _, rfl⟩, rfl⟩
theorem c_S_isHeardAs (h : sgP nd ir kn F n t k p ms) {f : Nat → Int64} {c : Nat} (hc : c ≤ 160) : GM0 E mS_isHeardAs (d + 4) [R 0, R 11, I (nI c)] (WS nd ir kn 0 0 0 0 sa false F n t wt hy sd ++ [.inl (1, 160, .inr (.inl f))]) (fun r w => r = some (I (bI (hrd F n k p ms f c))) ∧ ∃ w0, anyS nd ir kn F n t wt hy sd w0 ∧ w = w0 ++ [.inl (1, 160, .inr (.inl f))]) := by
  refine gm okS_isHeardAs rfl ?_
  refine grn 2 rfl ?_
  have h9 := l_S_isHeardAs (E := E) (d := d) (wt := wt) (hy := hy) (sd := sd) h (f := f) hc c 0 sa false (by omega) rfl
  rw [WSj_0] at h9
  exact h9
end SL
end
section
/-! THE SHELVES -/
def oA (f : Nat → Option Nat) : Nat → Int32 := fun k => oI (f k)
theorem oA_up (f : Nat → Option Nat) (k : Nat) (x : Option Nat) : upd (oA f) k (oI x) = oA (va_up f k x) := by
  funext j
  unfold upd oA va_up
  by_cases h : j = k
  · rw [if_pos h, if_pos h]
  · rw [if_neg h, if_neg h]
def WH (RW : Nat → Nat → Int64) (sz : Nat → Nat) (hd : Nat → Option Nat) : dmW := [.inr (2, [R 1, R 10, R 11]), .inr (100, [R 2, R 3, R 4, R 5, R 6, R 7, R 8, R 9]), .inl (1, 160, .inr (.inl (RW 0))), .inl (1, 160, .inr (.inl (RW 1))), .inl (1, 160, .inr (.inl (RW 2))), .inl (1, 160, .inr (.inl (RW 3))), .inl (1, 160, .inr (.inl (RW 4))), .inl (1, 160, .inr (.inl (RW 5))), .inl (1, 160, .inr (.inl (RW 6))), .inl (1, 160, .inr (.inl (RW 7))), .inl (0, 8, .inl (nA sz)), .inl (0, 8, .inl (oA hd))]
theorem wh_fs {k : Nat} (h : k < 8) : dmGet [R 2, R 3, R 4, R 5, R 6, R 7, R 8, R 9] k = some (.ref (k + 2)) := by
  match k, h with
  | 0, _ => rfl
  | 1, _ => rfl
  | 2, _ => rfl
  | 3, _ => rfl
  | 4, _ => rfl
  | 5, _ => rfl
  | 6, _ => rfl
  | 7, _ => rfl
theorem wh_row {RW : Nat → Nat → Int64} {sz : Nat → Nat} {hd : Nat → Option Nat} {k : Nat} (h : k < 8) : dmGet (WH RW sz hd) (k + 2) = some (.inl (1, 160, .inr (.inl (RW k)))) := by
  match k, h with
  | 0, _ => rfl
  | 1, _ => rfl
  | 2, _ => rfl
  | 3, _ => rfl
  | 4, _ => rfl
  | 5, _ => rfl
  | 6, _ => rfl
  | 7, _ => rfl
theorem wh_set {RW : Nat → Nat → Int64} {sz : Nat → Nat} {hd : Nat → Option Nat} {k : Nat} (g : Nat → Int64) (h : k < 8) : dmSet (WH RW sz hd) (k + 2) (.inl (1, 160, .inr (.inl g))) = some (WH (va_up RW k g) sz hd) := by
  match k, h with
  | 0, _ => rfl
  | 1, _ => rfl
  | 2, _ => rfl
  | 3, _ => rfl
  | 4, _ => rfl
  | 5, _ => rfl
  | 6, _ => rfl
  | 7, _ => rfl
/-- a shelf that holds a row -/
def r100 : Option Nat → Bool
  | some x => decide (100 ≤ x)
  | none => false
def rwB (hd : Nat → Option Nat) (k : Nat) : Bool := r100 (hd k)
def ix (s : Int32) : Nat := s.toNatClampNeg
theorem ix_nI {k : Nat} (h : k < 2147483648) : ix (nI k) = k := nI_clamp h
theorem inN_ix {s : Int32} {n : Nat} (h : inN s n = true) (hn : n < 2147483648) : ix s < n ∧ s = nI (ix s) := by
  obtain ⟨k, hk, rfl⟩ := inN_of h hn
  rw [ix_nI (by omega)]
  exact ⟨hk, rfl⟩
/-- what the shelves may hold -/
def okH (sz : Nat → Nat) (hd : Nat → Option Nat) : Prop := ∀ k, k < 8 → sz k ≤ 160 ∧ ∀ x, hd k = some x → x < 12 ∨ (100 ≤ x ∧ x < 104)
def hRow (hd : Nat → Option Nat) (s : Int32) : Bool := inN s 8 && rwB hd (ix s)
def hEl (sz : Nat → Nat) (hd : Nat → Option Nat) (s i : Int32) : Bool := hRow hd s && inN i (sz (ix s))
def hPart (sz : Nat → Nat) (hd : Nat → Option Nat) (s i n : Int32) : Bool := hRow hd s && (inN i (sz (ix s) + 1) && inN n (sz (ix s) - ix i + 1))
def lowb (q : Nat) (v : Int64) : Int64 := match q with
  | 0 => v.toInt32.toInt8.toInt32.toInt64
  | 1 => v.toInt32.toInt16.toInt32.toInt64
  | 2 => v.toInt32.toInt64
  | _ => v
theorem oI_100 {x : Option Nat} (h : ∀ y, x = some y → y < 12 ∨ (100 ≤ y ∧ y < 104)) : (oI x < 100) ↔ r100 x = false := by
  cases x with
  | none => simp [oI, r100]
  | some y =>
    have := h y rfl
    simp only [oI, r100]
    rw [show (100 : Int32) = nI 100 from rfl, nI_ltI (by omega) (by decide)]
    simp
theorem tI_succ {i : Int32} {n : Nat} (h : n < 2147483647) : ¬ i < 0 → (nI n < i ↔ inN i (n + 1) = false) := by
  intro h0
  unfold inN
  rw [decide_eq_true h0, Bool.true_and, decide_eq_false_iff_not, Int32.not_lt, Int32.le_iff_toInt_le, Int32.lt_iff_toInt_lt, nI_toInt (by omega), nI_toInt (by omega)]
  omega
section SHV
variable {E : dmX} {d : Nat} {RW : Nat → Nat → Int64} {sz : Nat → Nat} {hd : Nat → Option Nat}
theorem c_H_has (s : Int32) : GM0 E mH_has (d + 1) [R 0, I s] (WH RW sz hd) (dmE (some (I (bI (inN s 8)))) (WH RW sz hd)) := by
  refine gm okH_has rfl ?_
  refine gr rfl ?_
  refine gi rfl (fun h => ?_) (fun h => ?_)
  · refine gr rfl ?_
    exact gretz (inN s 8) rfl rfl (by simp [inN, h, bI]) ⟨rfl, rfl⟩
  · refine gr rfl ?_
    refine gi rfl (fun h2 => ?_) (fun h2 => ?_)
    · refine gr rfl ?_
      exact gretz (inN s 8) rfl rfl (by simp [inN, h, show s < nI 8 from h2, bI]) ⟨rfl, rfl⟩
    · refine gr rfl ?_
      exact gretz (inN s 8) rfl rfl (by simp [inN, show ¬ s < nI 8 from h2, bI]) ⟨rfl, rfl⟩
theorem c_H_holdsRow (s : Int32) (hok : okH sz hd) : GM0 E mH_holdsRow (d + 2) [R 0, I s] (WH RW sz hd) (dmE (some (I (bI (hRow hd s)))) (WH RW sz hd)) := by
  refine gm okH_holdsRow rfl ?_
  refine gr rfl ?_
  refine cV0 rfl rfl rfl (c_H_has s) rfl rfl rfl ?_
  refine gz rfl (fun h => ?_) (fun h => ?_)
  · refine gr rfl ?_
    exact gretz false rfl rfl rfl ⟨by simp [hRow, h], rfl⟩
  · obtain ⟨h1, h2⟩ := inN_ix h (by decide)
    refine gr rfl ?_
    refine gldi (ix s) rfl rfl h2 h1 ?_
    refine gr rfl ?_
    have h100 := oI_100 (hok (ix s) h1).2
    refine gi rfl (fun h3 => ?_) (fun h3 => ?_)
    · refine gr rfl ?_
      exact gretz false rfl rfl rfl ⟨by rw [hRow, h, Bool.true_and, show rwB hd (ix s) = false from h100.mp h3], rfl⟩
    · refine gr rfl ?_
      have h4 : rwB hd (ix s) = true := by
        cases hq : rwB hd (ix s) with
        | true => rfl
        | false => exact absurd (h100.mpr hq) h3
      exact gretz true rfl rfl rfl ⟨by rw [hRow, h, Bool.true_and, h4], rfl⟩
theorem hRow_in {s : Int32} (h : hRow hd s = true) : ix s < 8 ∧ s = nI (ix s) ∧ rwB hd (ix s) = true := by
  unfold hRow at h
  rw [Bool.and_eq_true] at h
  obtain ⟨h1, h2⟩ := inN_ix h.1 (by decide)
  exact ⟨h1, h2, h.2⟩
theorem c_H_hasElement (s i : Int32) (hok : okH sz hd) : GM0 E mH_hasElement (d + 3) [R 0, I s, I i] (WH RW sz hd) (dmE (some (I (bI (hEl sz hd s i)))) (WH RW sz hd)) := by
  refine gm okH_hasElement rfl ?_
  refine gr rfl ?_
  refine cV0 rfl rfl rfl (c_H_holdsRow s hok) rfl rfl rfl ?_
  refine gz rfl (fun h => ?_) (fun h => ?_)
  · refine gr rfl ?_
    exact gretz false rfl rfl rfl ⟨by simp [hEl, h], rfl⟩
  · obtain ⟨h1, h2, -⟩ := hRow_in h
    refine gr rfl ?_
    refine gi rfl (fun h3 => ?_) (fun h3 => ?_)
    · refine gr rfl ?_
      exact gretz false rfl rfl rfl ⟨by simp [hEl, inN, h3], rfl⟩
    · refine gr rfl ?_
      refine gld (ix s) rfl rfl h2 h1 ?_
      refine gi rfl (fun h4 => ?_) (fun h4 => ?_)
      · refine gr rfl ?_
        exact gretz true rfl rfl rfl ⟨by simp [hEl, h, inN, h3, h4], rfl⟩
      · refine gr rfl ?_
        exact gretz false rfl rfl rfl ⟨by simp [hEl, inN, h4], rfl⟩
theorem c_H_hasPart (s i n : Int32) (hok : okH sz hd) : GM0 E mH_hasPart (d + 3) [R 0, I s, I i, I n] (WH RW sz hd) (dmE (some (I (bI (hPart sz hd s i n)))) (WH RW sz hd)) := by
  refine gm okH_hasPart rfl ?_
  refine gr rfl ?_
  refine cV0 rfl rfl rfl (c_H_holdsRow s hok) rfl rfl rfl ?_
  refine gz rfl (fun h => ?_) (fun h => ?_)
  · refine gr rfl ?_
    exact gretz false rfl rfl rfl ⟨by simp [hPart, h], rfl⟩
  · obtain ⟨h1, h2, -⟩ := hRow_in h
    have hsz := (hok (ix s) h1).1
    refine gr rfl ?_
    refine gi rfl (fun h3 => ?_) (fun h3 => ?_)
    · refine gr rfl ?_
      exact gretz false rfl rfl rfl ⟨by simp [hPart, inN, h3], rfl⟩
    · refine gr rfl ?_
      refine gld (ix s) rfl rfl h2 h1 ?_
      refine gi rfl (fun h4 => ?_) (fun h4 => ?_)
      · refine gr rfl ?_
        have := (tI_succ (by omega) h3).mp h4
        exact gretz false rfl rfl rfl ⟨by simp [hPart, this], rfl⟩
      · have h5 : inN i (sz (ix s) + 1) = true := by
          cases hq : inN i (sz (ix s) + 1) with
          | true => rfl
          | false => exact absurd ((tI_succ (by omega) h3).mpr hq) h4
        obtain ⟨h6, h7⟩ := inN_ix h5 (by omega)
        refine gr rfl ?_
        refine gi rfl (fun h8 => ?_) (fun h8 => ?_)
        · refine gr rfl ?_
          exact gretz false rfl rfl rfl ⟨by simp [hPart, h5, inN, h8], rfl⟩
        · refine gr rfl ?_
          refine gld (ix s) rfl rfl h2 h1 ?_
          refine gr rfl ?_
          rw [show nI (sz (ix s)) - i = nI (sz (ix s) - ix i) by (conv => lhs; rw [h7]); exact pk_sub (by omega)]
          refine gi rfl (fun h9 => ?_) (fun h9 => ?_)
          · refine gr rfl ?_
            have := (tI_succ (by omega) h8).mp h9
            exact gretz false rfl rfl rfl ⟨by simp [hPart, this], rfl⟩
          · refine gr rfl ?_
            have h10 : inN n (sz (ix s) - ix i + 1) = true := by
              cases hq : inN n (sz (ix s) - ix i + 1) with
              | true => rfl
              | false => exact absurd ((tI_succ (by omega) h8).mpr hq) h9
            exact gretz true rfl rfl rfl ⟨by simp [hPart, h, h5, h10], rfl⟩
theorem c_H_lowestBits {q : Nat} (hq : q < 4) (v : Int64) : GM0 E mH_lowestBits (d + 1) [I (nI q), J v] [] (dmE (some (J (lowb q v))) []) := by
  refine gm okH_lowestBits rfl ?_
  refine gr rfl ?_
  have hc : q = 0 ∨ q = 1 ∨ q = 2 ∨ q = 3 := by omega
  rcases hc with rfl | rfl | rfl | rfl
  · refine G_tsw 0 rfl (by decide) (by decide) rfl ?_
    refine gr rfl ?_
    exact gretl rfl rfl ⟨rfl, rfl⟩
  · refine G_tsw 1 rfl (by decide) (by decide) rfl ?_
    refine gr rfl ?_
    exact gretl rfl rfl ⟨rfl, rfl⟩
  · refine G_tsw 2 rfl (by decide) (by decide) rfl ?_
    refine gr rfl ?_
    exact gretl rfl rfl ⟨rfl, rfl⟩
  · refine G_tswOut rfl (Or.inr (by decide)) ?_
    refine gr rfl ?_
    exact gretl rfl rfl ⟨rfl, rfl⟩
theorem c_H_put {k j q : Nat} (hk : k < 8) (hj : j < 160) (hq : q < 4) (hh : hd k = some (100 + q)) (v : Int64) : GM0 E mH_put (d + 2) [R 0, I (nI k), I (nI j), J v] (WH RW sz hd) (dmE none (WH (va_up RW k (vp_updL (RW k) j (lowb q v))) sz hd)) := by
  refine gm okH_put rfl ?_
  refine gr rfl ?_
  refine G_aald k rfl rfl (wh_fs hk) rfl (by decide) ?_
  refine gr rfl ?_
  refine gldi k rfl rfl rfl hk ?_
  refine gr rfl ?_
  rw [show oA hd k - 100 = nI q by
    show oI (hd k) - 100 = nI q
    rw [hh]
    show nI (100 + q) - nI 100 = nI q
    rw [pk_sub (by omega), Nat.add_sub_cancel_left]]
  refine cS [] U1 U1 rfl rfl rfl (c_H_lowestBits hq v) rfl rfl rfl rfl rfl rfl ?_
  refine G_last j rfl (wh_row hk) (wh_set _ hk) rfl hj (by decide) ?_
  refine gr rfl ?_
  exact gretv rfl rfl ⟨rfl, rfl⟩
theorem c_H_told (s i : Int32) (hok : okH sz hd) : GM0 E mH_told (d + 4) [R 0, I s, I i] (WH RW sz hd) (dmE (some (I (if hEl sz hd s i then (RW (ix s) (ix i)).toInt32 else 0))) (WH RW sz hd)) := by
  refine gm okH_told rfl ?_
  refine gr rfl ?_
  refine cV0 rfl rfl rfl (c_H_hasElement s i hok) rfl rfl rfl ?_
  refine gz rfl (fun h => ?_) (fun h => ?_)
  · refine gr rfl ?_
    exact gret rfl rfl ⟨by simp [h], rfl⟩
  · have h0 := h
    unfold hEl at h0
    rw [Bool.and_eq_true] at h0
    obtain ⟨h1, h2, -⟩ := hRow_in h0.1
    have hsz := (hok (ix s) h1).1
    obtain ⟨h3, h4⟩ := inN_ix h0.2 (by omega)
    refine gr rfl ?_
    refine G_aald (ix s) rfl rfl (wh_fs h1) h2 (by decide) ?_
    refine gr rfl ?_
    refine G_lald (ix i) rfl (wh_row h1) h4 (by omega) (by decide) ?_
    refine gr rfl ?_
    exact gret rfl rfl ⟨by simp [h], rfl⟩
def z0 (f : Nat → Int64) (v : Nat) : Nat → Int64 := fun j => if j < v then 0 else f j
theorem z0_up (f : Nat → Int64) (v : Nat) : vp_updL (z0 f v) v 0 = z0 f (v + 1) := by
  funext j
  unfold vp_updL z0
  by_cases h : j = v
  · subst h
    rw [if_pos rfl, if_pos (by omega)]
  · rw [if_neg h]
    by_cases h2 : j < v
    · rw [if_pos h2, if_pos (by omega)]
    · rw [if_neg h2, if_neg (by omega)]
theorem va_up2 {α : Type} (f : Nat → α) (k : Nat) (x y : α) : va_up (va_up f k x) k y = va_up f k y := by
  funext j
  unfold va_up
  by_cases h : j = k <;> simp [h]
theorem va_upk {α : Type} (f : Nat → α) (k : Nat) (x : α) : va_up f k x k = x := if_pos rfl
theorem l_H_holdRow {k : Nat} (hk : k < 8) (x2 x3 : Int32) : ∀ (m v : Nat), v + m = 160 → GW0 E mH_holdRow d (14, [R 0, I (nI k), I x2, I x3, I (nI v)], [], WH (va_up RW k (z0 (RW k) v)) sz hd) (dmE none (WH (va_up RW k (fun _ => 0)) sz hd)) := by
  intro m
  induction m with
  | zero =>
    intro v hv
    have hvl : v = 160 := by omega
    subst hvl
    refine gr rfl ?_
    refine gl 160 160 rfl (by decide) (by decide) (fun h => absurd h (by decide)) (fun _ => ?_)
    refine G_nrmL (h := k + 2) (n := 160) (f := z0 (RW k) 160) (g := fun _ => 0) (w' := WH (va_up RW k (fun _ => 0)) sz hd) ?_ (fun j hj => by unfold z0; rw [if_pos hj]) ?_ ?_
    · rw [wh_row hk, va_upk]
    · rw [wh_set _ hk, va_up2]
    · refine gr rfl ?_
      exact gretv rfl rfl ⟨rfl, rfl⟩
  | succ m ih =>
    intro v hv
    refine gr rfl ?_
    refine gl v 160 rfl (by omega) (by decide) (fun _ => ?_) (fun h => absurd h (by omega))
    refine gr rfl ?_
    refine G_aald k rfl rfl (wh_fs hk) rfl (by decide) ?_
    refine gr rfl ?_
    refine G_last (f := z0 (RW k) v) v rfl (by rw [wh_row hk, va_upk]) (by rw [z0_up, wh_set _ hk, va_up2]) rfl (by omega) (by decide) ?_
    refine gr rfl ?_
    rw [nI_1]
    exact ih (v + 1) (by omega)
theorem c_H_holdRow {k q m : Nat} (hk : k < 8) (hq : q < 4) (hm : m ≤ 160) : GM0 E mH_holdRow (d + 1) [R 0, I (nI k), I (nI q), I (nI m)] (WH RW sz hd) (dmE none (WH (va_up RW k (fun _ => 0)) (va_up sz k m) (va_up hd k (some (100 + q))))) := by
  refine gm okH_holdRow rfl ?_
  refine gr rfl ?_
  refine gsti (w' := WH RW sz (va_up hd k (some (100 + q)))) k rfl rfl rfl hk ?_ ?_
  · rw [show (100 : Int32) + nI q = oI (some (100 + q)) from nI_add 100 q, oA_up]
    rfl
  refine gr rfl ?_
  refine gst (w' := WH RW (va_up sz k m) (va_up hd k (some (100 + q)))) k m rfl rfl rfl rfl hk rfl ?_
  refine grn 2 rfl ?_
  have h9 := l_H_holdRow (E := E) (d := d + 1) (RW := RW) (sz := va_up sz k m) (hd := va_up hd k (some (100 + q))) hk (nI q) (nI m) 160 0 rfl
  have e : va_up RW k (z0 (RW k) 0) = RW := by
    funext j
    unfold va_up
    by_cases h : j = k
    · subst h
      rw [if_pos rfl]
      funext i
      unfold z0
      rw [if_neg (by omega)]
    · rw [if_neg h]
  rw [e] at h9
  exact h9
/-- voices from number n on are taken away -/
def drpO (n : Nat) (x : Option Nat) : Option Nat := match x with
  | some y => if n ≤ y ∧ y < 100 then none else some y
  | none => none
def drp (hd : Nat → Option Nat) (n m : Nat) : Nat → Option Nat := fun j => if j < m then drpO n (hd j) else hd j
theorem l_H_drop {n : Nat} (hn : n < 1000) (hok : okH sz hd) : ∀ (m v : Nat), v + m = 8 → GW0 E mH_dropVoicesFrom d (2, [R 0, I (nI n), I (nI v)], [], WH RW sz (drp hd n v)) (dmE none (WH RW sz (drp hd n 8))) := by
  intro m
  induction m with
  | zero =>
    intro v hv
    have hvl : v = 8 := by omega
    subst hvl
    refine gr rfl ?_
    refine gl 8 8 rfl (by decide) (by decide) (fun h => absurd h (by decide)) (fun _ => ?_)
    refine gr rfl ?_
    exact gretv rfl rfl ⟨rfl, rfl⟩
  | succ m ih =>
    intro v hv
    have hv8 : v < 8 := by omega
    have hnow : drp hd n v v = hd v := if_neg (by omega)
    have same : drpO n (hd v) = hd v → drp hd n (v + 1) = drp hd n v := by
      intro h
      funext j
      unfold drp
      by_cases h1 : j < v
      · rw [if_pos h1, if_pos (by omega)]
      · by_cases h2 : j = v
        · subst h2
          rw [if_pos (by omega), if_neg h1, h]
        · rw [if_neg (by omega), if_neg h1]
    refine gr rfl ?_
    refine gl v 8 rfl (by omega) (by decide) (fun _ => ?_) (fun h => absurd h (by omega))
    refine gr rfl ?_
    refine gldi v rfl rfl rfl hv8 ?_
    rw [show oA (drp hd n v) v = oI (hd v) by unfold oA; rw [hnow]]
    refine gr rfl ?_
    cases hx : hd v with
    | none =>
      refine gt rfl (by
        show (-1 : Int32) < nI n
        rw [Int32.lt_iff_toInt_lt, nI_toInt (by omega)]
        show (-1 : Int) < n
        omega) ?_
      refine gr rfl ?_
      rw [nI_1]
      have h9 := ih (v + 1) (by omega)
      rw [same (by rw [hx]; rfl)] at h9
      exact h9
    | some y =>
      have hy := (hok v hv8).2 y hx
      refine gl y n rfl (by omega) (by omega) (fun h1 => ?_) (fun h1 => ?_)
      · refine gr rfl ?_
        rw [nI_1]
        have h9 := ih (v + 1) (by omega)
        rw [same (by rw [hx]; simp [drpO]; omega)] at h9
        exact h9
      · refine gr rfl ?_
        refine gldi v rfl rfl rfl hv8 ?_
        rw [show oA (drp hd n v) v = oI (hd v) by unfold oA; rw [hnow], hx]
        refine gr rfl ?_
        refine gl y 100 rfl (by omega) (by decide) (fun h2 => ?_) (fun h2 => ?_)
        · refine gr rfl ?_
          refine gsti (w' := WH RW sz (drp hd n (v + 1))) v rfl rfl rfl hv8 ?_ ?_
          · rw [show (-1 : Int32) = oI none from rfl, oA_up]
            have e : va_up (drp hd n v) v none = drp hd n (v + 1) := by
              funext j
              unfold va_up drp
              by_cases h3 : j = v
              · subst h3
                rw [if_pos rfl, if_pos (by omega), hx]
                simp [drpO, h1, h2]
              · rw [if_neg h3]
                by_cases h4 : j < v
                · rw [if_pos h4, if_pos (by omega)]
                · rw [if_neg h4, if_neg (by omega)]
            rw [e]
            rfl
          refine gr rfl ?_
          rw [nI_1]
          exact ih (v + 1) (by omega)
        · refine gr rfl ?_
          rw [nI_1]
          have h9 := ih (v + 1) (by omega)
          rw [same (by rw [hx]; simp [drpO]; omega)] at h9
          exact h9
theorem c_H_dropVoicesFrom {n : Nat} (hn : n < 1000) (hok : okH sz hd) : GM0 E mH_dropVoicesFrom (d + 1) [R 0, I (nI n)] (WH RW sz hd) (dmE none (WH RW sz (drp hd n 8))) := by
  refine gm okH_dropVoicesFrom rfl ?_
  refine grn 2 rfl ?_
  have h9 := l_H_drop (E := E) (d := d + 1) (RW := RW) (sz := sz) (hd := hd) hn hok 8 0 rfl
  have e : drp hd n 0 = hd := by
    funext j
    unfold drp
    rw [if_neg (by omega)]
  rw [e] at h9
  exact h9
end SHV
end
section
/-! MOVES -/
def WV (B : Nat → Nat) (rn kd : Nat) (m k : Int32) : dmW := [.inr (1, [R 1, I (nI rn), I (nI kd), I m, I k]), .inl (0, 20, .inl (nA B))]
def ntB (B : Nat → Nat) (rn b : Nat) : Nat → Nat := if rn < 20 then va_up B rn b else B
def ntL (B : Nat → Nat) (rn : Nat) : List Nat → Nat → Nat
  | [] => B
  | b :: T => ntL (ntB B rn b) (rn + 1) T
theorem ntL_app (T2 : List Nat) : ∀ (T1 : List Nat) (B : Nat → Nat) (rn : Nat), ntL (ntL B rn T1) (rn + T1.length) T2 = ntL B rn (T1 ++ T2)
  | [], B, rn => rfl
  | b :: T1, B, rn => by
    show ntL (ntL (ntB B rn b) (rn + 1) T1) (rn + (T1.length + 1)) T2 = ntL (ntB B rn b) (rn + 1) (T1 ++ T2)
    rw [show rn + (T1.length + 1) = rn + 1 + T1.length by omega]
    exact ntL_app T2 T1 _ _
/-- what one of a kind does, and which bodies run -/
def brV (K : Nat) (m k x : Int32) : Int32 := match K with
  | 1 => x + m + k
  | 3 => x + m + k
  | 4 => x + m - m
  | 6 => (x + m - m) * 2
  | _ => x + m
def brT (K : Nat) : List Nat := match K with
  | 1 => [20, 10]
  | 3 => [20, 10]
  | 4 => [51, 10]
  | 6 => [70, 51, 10]
  | _ => [10]
/-- sings, by the bodies from kind K on, of one of kind kd -/
def sgV (kd K : Nat) (m k x : Int32) : Int32 := match K with
  | 2 => brV kd m k x * 2 * 3
  | 3 => brV kd m k (x + 1) * 2
  | 5 => brV kd m k x * 2 * 3
  | 6 => brV kd m k (x - k) * 2
  | _ => brV kd m k x * 2
def sgT (kd K : Nat) : List Nat := match K with
  | 2 => 30 :: 11 :: brT kd
  | 3 => 40 :: 11 :: brT kd
  | 5 => 30 :: 11 :: brT kd
  | 6 => 71 :: 11 :: brT kd
  | _ => 11 :: brT kd
def st0 (kd : Nat) (m k x : Int32) : Int32 := sgV kd kd m k x ^^^ brV kd m k (x - k)
def stV (kd K : Nat) (m k x : Int32) : Int32 := match K with
  | 4 => -st0 kd m k x
  | 5 => st0 kd m k x ^^^ 5
  | 6 => -st0 kd m k x
  | _ => st0 kd m k x
def stT0 (kd : Nat) : List Nat := 12 :: (sgT kd kd ++ brT kd)
def stT (kd K : Nat) : List Nat := match K with
  | 4 => 50 :: stT0 kd
  | 5 => 60 :: stT0 kd
  | 6 => 50 :: stT0 kd
  | _ => stT0 kd
section MV
variable {E : dmX} {d : Nat} {B : Nat → Nat} {rn kd dp : Nat} {m k x : Int32}
theorem c_V_forget : GM0 E mV_forget (d + 1) [R 0] (WV B rn kd m k) (dmE none (WV B 0 kd m k)) := by
  refine gm okV_forget rfl ?_
  refine gr rfl ?_
  exact gretv rfl rfl ⟨rfl, rfl⟩
def trB (B : Nat → Nat) (rn : Nat) (i : Int32) : Int32 := if inN i 20 && decide (ix i < rn) then nI (B (ix i)) else -1
theorem c_V_bodyAt (i : Int32) (hrn : rn < 1000) : GM0 E mV_bodyAt (d + 1) [R 0, I i] (WV B rn kd m k) (dmE (some (I (trB B rn i))) (WV B rn kd m k)) := by
  refine gm okV_bodyAt rfl ?_
  refine gr rfl ?_
  refine gi rfl (fun h => ?_) (fun h => ?_)
  · refine gr rfl ?_
    exact gret rfl rfl ⟨by simp [trB, inN, h], rfl⟩
  · refine gr rfl ?_
    refine gi rfl (fun h2 => ?_) (fun h2 => ?_)
    · have h3 : inN i 20 = true := by
        unfold inN
        rw [decide_eq_true h, decide_eq_true (show i < nI 20 from h2)]
        rfl
      obtain ⟨q, hq, rfl⟩ := inN_of h3 (by decide)
      have hix : ix (nI q) = q := ix_nI (by omega)
      refine gr rfl ?_
      refine gl q rn rfl (by omega) (by omega) (fun h6 => ?_) (fun h6 => ?_)
      · refine gr rfl ?_
        refine gld q rfl rfl rfl hq ?_
        refine gr rfl ?_
        exact gret rfl rfl ⟨by simp [trB, h3, hix, h6], rfl⟩
      · refine gr rfl ?_
        exact gret rfl rfl ⟨by simp [trB, hix, Nat.not_lt.mpr h6], rfl⟩
    · refine gr rfl ?_
      exact gret rfl rfl ⟨by simp [trB, inN, show ¬ i < nI 20 from h2], rfl⟩
theorem c_V_note {b : Nat} (hrn : rn < 1000) : GM0 E mV_note (d + 1) [R 0, I (nI b)] (WV B rn kd m k) (dmE none (WV (ntB B rn b) (rn + 1) kd m k)) := by
  refine gm okV_note rfl ?_
  refine gr rfl ?_
  refine gl rn 20 rfl (by omega) (by decide) (fun h => ?_) (fun h => ?_)
  · refine gr rfl ?_
    refine gst rn b rfl rfl rfl rfl h rfl ?_
    refine gr rfl ?_
    rw [nI_1]
    refine gretv rfl rfl ⟨rfl, ?_⟩
    unfold ntB
    rw [if_pos h]
    rfl
  · refine gr rfl ?_
    rw [nI_1]
    refine gretv rfl rfl ⟨rfl, ?_⟩
    unfold ntB
    rw [if_neg (by omega)]
    rfl
/-- runFrom, by the body that it picks -/
theorem V_from {K mv b : Nat} {r : Option Value} {w' : dmW} {y : Int32} (hy : r = some (.int y)) (hK : K < 7) (hmv : mv < 3) (hdp : dp ≤ 40) (hrn : rn < 1000) (hbd : (dmTab 2).getD (3 * K + mv) 0 = nI b) (hl : w'.length = 2) (hB : GM0 E mV_runBody (d + 2) [R 0, I (nI b), I (nI mv), I x, I (nI (dp + 1))] (WV (ntB B rn b) (rn + 1) kd m k) (dmE r w')) : GM0 E mV_runFrom (d + 3) [R 0, I (nI K), I (nI mv), I x, I (nI dp)] (WV B rn kd m k) (dmE r w') := by
  subst hy
  refine gm okV_runFrom rfl ?_
  refine gr rfl ?_
  refine gl 40 dp rfl (by decide) (by omega) (fun h => absurd h (by omega)) (fun _ => ?_)
  refine gr rfl ?_
  refine cn rfl rfl rfl (c_O_isKind (nI K)) rfl ?_
  rw [inN_nI (by omega) (by decide), decide_eq_true hK]
  refine gf rfl (by decide) ?_
  refine gr rfl ?_
  refine cn rfl rfl rfl (c_O_within (nI mv) 0 2) rfl ?_
  rw [show (2 : Int32) = nI 2 from rfl, wi_in (by decide), inN_nI (by omega) (by decide), decide_eq_true (show mv < 2 + 1 by omega)]
  refine gf rfl (by decide) ?_
  refine gr rfl ?_
  rw [show (3 : Int32) = nI 3 from rfl, pk_mul, nI_add]
  refine G_tald 2 (3 * K + mv) rfl (by decide) rfl (by show 3 * K + mv < 21; omega) ?_
  rw [hbd]
  refine gr rfl ?_
  refine cV0 rfl rfl rfl (c_V_note hrn) rfl rfl rfl ?_
  refine gr rfl ?_
  rw [nI_1]
  refine cV0 rfl rfl rfl hB rfl rfl hl ?_
  exact gret rfl rfl ⟨rfl, rfl⟩

theorem V_b10 (mv : Nat) : GM0 E mV_runBody (d + 1) [R 0, I (nI 10), I (nI mv), I x, I (nI dp)] (WV B rn kd m k) (dmE (some (I (x + m))) (WV B rn kd m k)) := by
  refine gm okV_runBody rfl ?_
  refine gr rfl ?_
  refine G_div rfl (by decide) ?_
  refine gr rfl ?_
  refine G_tald 0 0 rfl (by decide) (by decide) (by decide) ?_
  refine gr rfl ?_
  refine G_lsw (tgt := 10) rfl (by rfl) rfl (by decide) ?_
  refine gr rfl ?_
  exact gret rfl rfl ⟨rfl, rfl⟩

theorem V_b11 {v : Int32} {w' : dmW} (hl : w'.length = 2) (hF : GM0 E mV_runFrom d [R 0, I (nI kd), I (nI 0), I (x), I (nI dp)] (WV B rn kd m k) (dmE (some (I v)) w')) (mv : Nat) : GM0 E mV_runBody (d + 1) [R 0, I (nI 11), I (nI mv), I x, I (nI dp)] (WV B rn kd m k) (dmE (some (I (v * 2))) w') := by
  skip
  refine gm okV_runBody rfl ?_
  refine gr rfl ?_
  refine G_div rfl (by decide) ?_
  refine gr rfl ?_
  refine G_tald 0 0 rfl (by decide) (by decide) (by decide) ?_
  refine gr rfl ?_
  refine G_lsw (tgt := 15) rfl (by rfl) rfl (by decide) ?_
  refine gr rfl ?_
  refine cV0 rfl rfl rfl hF rfl rfl hl ?_
  refine gr rfl ?_
  exact gret rfl rfl ⟨rfl, rfl⟩

theorem V_b30 {v : Int32} {w' : dmW} (hl : w'.length = 2) (hF : GM0 E mV_runFrom d [R 0, I (nI 0), I (nI 1), I (x), I (nI dp)] (WV B rn kd m k) (dmE (some (I v)) w')) (mv : Nat) : mv = 1 → GM0 E mV_runBody (d + 1) [R 0, I (nI 30), I (nI mv), I x, I (nI dp)] (WV B rn kd m k) (dmE (some (I (v * 3))) w') := by
  rintro rfl
  refine gm okV_runBody rfl ?_
  refine gr rfl ?_
  refine G_div rfl (by decide) ?_
  refine gr rfl ?_
  refine G_tald 0 2 rfl (by decide) (by decide) (by decide) ?_
  refine gr rfl ?_
  refine G_lsw (tgt := 54) rfl (by rfl) rfl (by decide) ?_
  refine gr rfl ?_
  refine cV0 rfl rfl rfl hF rfl rfl hl ?_
  refine gr rfl ?_
  exact gret rfl rfl ⟨rfl, rfl⟩

theorem V_b40 {v : Int32} {w' : dmW} (hl : w'.length = 2) (hF : GM0 E mV_runFrom d [R 0, I (nI 1), I (nI 1), I (x + 1), I (nI dp)] (WV B rn kd m k) (dmE (some (I v)) w')) (mv : Nat) : mv = 1 → GM0 E mV_runBody (d + 1) [R 0, I (nI 40), I (nI mv), I x, I (nI dp)] (WV B rn kd m k) (dmE (some (I (v))) w') := by
  rintro rfl
  refine gm okV_runBody rfl ?_
  refine gr rfl ?_
  refine G_div rfl (by decide) ?_
  refine gr rfl ?_
  refine G_tald 0 3 rfl (by decide) (by decide) (by decide) ?_
  refine gr rfl ?_
  refine G_lsw (tgt := 63) rfl (by rfl) rfl (by decide) ?_
  refine gr rfl ?_
  refine cV0 rfl rfl rfl hF rfl rfl hl ?_
  exact gret rfl rfl ⟨rfl, rfl⟩

theorem V_b50 {v : Int32} {w' : dmW} (hl : w'.length = 2) (hF : GM0 E mV_runFrom d [R 0, I (nI 0), I (nI 2), I (x), I (nI dp)] (WV B rn kd m k) (dmE (some (I v)) w')) (mv : Nat) : mv = 2 → GM0 E mV_runBody (d + 1) [R 0, I (nI 50), I (nI mv), I x, I (nI dp)] (WV B rn kd m k) (dmE (some (I (-v))) w') := by
  rintro rfl
  refine gm okV_runBody rfl ?_
  refine gr rfl ?_
  refine G_div rfl (by decide) ?_
  refine gr rfl ?_
  refine G_tald 0 4 rfl (by decide) (by decide) (by decide) ?_
  refine gr rfl ?_
  refine G_lsw (tgt := 72) rfl (by rfl) rfl (by decide) ?_
  refine gr rfl ?_
  refine cV0 rfl rfl rfl hF rfl rfl hl ?_
  refine gr rfl ?_
  exact gret rfl rfl ⟨rfl, rfl⟩

theorem V_b60 {v : Int32} {w' : dmW} (hl : w'.length = 2) (hF : GM0 E mV_runFrom d [R 0, I (nI 2), I (nI 2), I (x), I (nI dp)] (WV B rn kd m k) (dmE (some (I v)) w')) (mv : Nat) : mv = 2 → GM0 E mV_runBody (d + 1) [R 0, I (nI 60), I (nI mv), I x, I (nI dp)] (WV B rn kd m k) (dmE (some (I (v ^^^ 5))) w') := by
  rintro rfl
  refine gm okV_runBody rfl ?_
  refine gr rfl ?_
  refine G_div rfl (by decide) ?_
  refine gr rfl ?_
  refine G_tald 0 5 rfl (by decide) (by decide) (by decide) ?_
  refine gr rfl ?_
  refine G_lsw (tgt := 90) rfl (by rfl) rfl (by decide) ?_
  refine gr rfl ?_
  refine cV0 rfl rfl rfl hF rfl rfl hl ?_
  refine gr rfl ?_
  exact gret rfl rfl ⟨rfl, rfl⟩

theorem V_b70 {v : Int32} {w' : dmW} (hl : w'.length = 2) (hF : GM0 E mV_runFrom d [R 0, I (nI 4), I (nI 0), I (x), I (nI dp)] (WV B rn kd m k) (dmE (some (I v)) w')) (mv : Nat) : mv = 0 → GM0 E mV_runBody (d + 1) [R 0, I (nI 70), I (nI mv), I x, I (nI dp)] (WV B rn kd m k) (dmE (some (I (v * 2))) w') := by
  rintro rfl
  refine gm okV_runBody rfl ?_
  refine gr rfl ?_
  refine G_div rfl (by decide) ?_
  refine gr rfl ?_
  refine G_tald 0 6 rfl (by decide) (by decide) (by decide) ?_
  refine gr rfl ?_
  refine G_lsw (tgt := 99) rfl (by rfl) rfl (by decide) ?_
  refine gr rfl ?_
  refine cV0 rfl rfl rfl hF rfl rfl hl ?_
  refine gr rfl ?_
  exact gret rfl rfl ⟨rfl, rfl⟩

theorem V_b71 {v : Int32} {w' : dmW} (hl : w'.length = 2) (hF : GM0 E mV_runFrom d [R 0, I (nI 4), I (nI 1), I (x - k), I (nI dp)] (WV B rn kd m k) (dmE (some (I v)) w')) (mv : Nat) : mv = 1 → GM0 E mV_runBody (d + 1) [R 0, I (nI 71), I (nI mv), I x, I (nI dp)] (WV B rn kd m k) (dmE (some (I (v))) w') := by
  rintro rfl
  refine gm okV_runBody rfl ?_
  refine gr rfl ?_
  refine G_div rfl (by decide) ?_
  refine gr rfl ?_
  refine G_tald 0 6 rfl (by decide) (by decide) (by decide) ?_
  refine gr rfl ?_
  refine G_lsw (tgt := 108) rfl (by rfl) rfl (by decide) ?_
  refine gr rfl ?_
  refine cV0 rfl rfl rfl hF rfl rfl hl ?_
  exact gret rfl rfl ⟨rfl, rfl⟩

theorem V_b20 {v : Int32} {B2 : Nat → Nat} {rn2 : Nat} (hF : GM0 E mV_runFrom d [R 0, I (nI 0), I (nI 0), I x, I (nI dp)] (WV B rn kd m k) (dmE (some (I v)) (WV B2 rn2 kd m k))) : GM0 E mV_runBody (d + 1) [R 0, I (nI 20), I (nI 0), I x, I (nI dp)] (WV B rn kd m k) (dmE (some (I (v + k))) (WV B2 rn2 kd m k)) := by
  refine gm okV_runBody rfl ?_
  refine gr rfl ?_
  refine G_div rfl (by decide) ?_
  refine gr rfl ?_
  refine G_tald 0 1 rfl (by decide) (by decide) (by decide) ?_
  refine gr rfl ?_
  refine G_lsw (tgt := 44) rfl (by rfl) rfl (by decide) ?_
  refine gr rfl ?_
  refine cV0 rfl rfl rfl hF rfl rfl rfl ?_
  refine gr rfl ?_
  exact gret rfl rfl ⟨rfl, rfl⟩

theorem V_b51 {v : Int32} {B2 : Nat → Nat} {rn2 : Nat} (hF : GM0 E mV_runFrom d [R 0, I (nI 0), I (nI 0), I x, I (nI dp)] (WV B rn kd m k) (dmE (some (I v)) (WV B2 rn2 kd m k))) : GM0 E mV_runBody (d + 1) [R 0, I (nI 51), I (nI 0), I x, I (nI dp)] (WV B rn kd m k) (dmE (some (I (v - m))) (WV B2 rn2 kd m k)) := by
  refine gm okV_runBody rfl ?_
  refine gr rfl ?_
  refine G_div rfl (by decide) ?_
  refine gr rfl ?_
  refine G_tald 0 4 rfl (by decide) (by decide) (by decide) ?_
  refine gr rfl ?_
  refine G_lsw (tgt := 80) rfl (by rfl) rfl (by decide) ?_
  refine gr rfl ?_
  refine cV0 rfl rfl rfl hF rfl rfl rfl ?_
  refine gr rfl ?_
  exact gret rfl rfl ⟨rfl, rfl⟩

theorem V_b12 {v1 v2 : Int32} {B2 B3 : Nat → Nat} {rn2 rn3 : Nat} (mv : Nat) (hF : GM0 E mV_runFrom d [R 0, I (nI kd), I (nI 1), I x, I (nI dp)] (WV B rn kd m k) (dmE (some (I v1)) (WV B2 rn2 kd m k))) (hF2 : GM0 E mV_runFrom d [R 0, I (nI kd), I (nI 0), I (x - k), I (nI dp)] (WV B2 rn2 kd m k) (dmE (some (I v2)) (WV B3 rn3 kd m k))) : GM0 E mV_runBody (d + 1) [R 0, I (nI 12), I (nI mv), I x, I (nI dp)] (WV B rn kd m k) (dmE (some (I (v1 ^^^ v2))) (WV B3 rn3 kd m k)) := by
  refine gm okV_runBody rfl ?_
  refine gr rfl ?_
  refine G_div rfl (by decide) ?_
  refine gr rfl ?_
  refine G_tald 0 0 rfl (by decide) (by decide) (by decide) ?_
  refine gr rfl ?_
  refine G_lsw (tgt := 25) rfl (by rfl) rfl (by decide) ?_
  refine gr rfl ?_
  refine cV0 rfl rfl rfl hF rfl rfl rfl ?_
  refine gr rfl ?_
  refine cV0 rfl rfl rfl hF2 rfl rfl rfl ?_
  refine gr rfl ?_
  exact gret rfl rfl ⟨rfl, rfl⟩

/-- breathes, from kind K on -/
theorem V_br {K : Nat} (hK : K < 7) (hdp : dp + 5 ≤ 40) (hrn : rn < 900) : GM0 E mV_runFrom (d + 9) [R 0, I (nI K), I (nI 0), I x, I (nI dp)] (WV B rn kd m k) (dmE (some (I (brV K m k x))) (WV (ntL B rn (brT K)) (rn + (brT K).length) kd m k)) := by
  have v0 : ∀ {d dp rn : Nat} {B : Nat → Nat} {x : Int32} (K : Nat), K = 0 ∨ K = 2 ∨ K = 5 → dp ≤ 40 → rn < 1000 → GM0 E mV_runFrom (d + 3) [R 0, I (nI K), I (nI 0), I x, I (nI dp)] (WV B rn kd m k) (dmE (some (I (x + m))) (WV (ntB B rn 10) (rn + 1) kd m k)) := by
    intro d dp rn B x K hK hdp hrn
    refine V_from (b := 10) rfl (by omega) (by decide) hdp hrn ?_ rfl (V_b10 0)
    rcases hK with rfl | rfl | rfl <;> rfl
  have v4 : ∀ {d dp rn : Nat} {B : Nat → Nat} {x : Int32}, dp + 1 ≤ 40 → rn < 950 → GM0 E mV_runFrom (d + 5) [R 0, I (nI 4), I (nI 0), I x, I (nI dp)] (WV B rn kd m k) (dmE (some (I (x + m - m))) (WV (ntL B rn [51, 10]) (rn + 1 + 1) kd m k)) := by
    intro d dp rn B x hdp hrn
    exact V_from (b := 51) rfl (by decide) (by decide) (by omega) (by omega) rfl rfl (V_b51 (v0 0 (Or.inl rfl) (by omega) (by omega)))
  have hc : K = 0 ∨ K = 1 ∨ K = 2 ∨ K = 3 ∨ K = 4 ∨ K = 5 ∨ K = 6 := by omega
  rcases hc with rfl | rfl | rfl | rfl | rfl | rfl | rfl
  · exact v0 0 (Or.inl rfl) (by omega) (by omega)
  · exact V_from (b := 20) rfl (by decide) (by decide) (by omega) (by omega) rfl rfl (V_b20 (v0 0 (Or.inl rfl) (by omega) (by omega)))
  · exact v0 2 (Or.inr (Or.inl rfl)) (by omega) (by omega)
  · exact V_from (b := 20) rfl (by decide) (by decide) (by omega) (by omega) rfl rfl (V_b20 (v0 0 (Or.inl rfl) (by omega) (by omega)))
  · exact v4 (by omega) (by omega)
  · exact v0 5 (Or.inr (Or.inr rfl)) (by omega) (by omega)
  · exact V_from (b := 70) rfl (by decide) (by decide) (by omega) (by omega) rfl rfl (V_b70 rfl (v4 (by omega) (by omega)) 0 rfl)
theorem brT_le (K : Nat) : (brT K).length ≤ 3 := by
  unfold brT
  split <;> decide
theorem V_sg {K : Nat} (hK : K < 7) (hkd : kd < 7) (hdp : dp + 10 ≤ 40) (hrn : rn < 800) : GM0 E mV_runFrom (d + 13) [R 0, I (nI K), I (nI 1), I x, I (nI dp)] (WV B rn kd m k) (dmE (some (I (sgV kd K m k x))) (WV (ntL B rn (sgT kd K)) (rn + (sgT kd K).length) kd m k)) := by
  have hbl := brT_le kd
  have s0 : ∀ {d dp rn : Nat} {B : Nat → Nat} {x : Int32} (K : Nat), K = 0 ∨ K = 1 ∨ K = 4 → dp + 6 ≤ 40 → rn < 850 → GM0 E mV_runFrom (d + 11) [R 0, I (nI K), I (nI 1), I x, I (nI dp)] (WV B rn kd m k) (dmE (some (I (brV kd m k x * 2))) (WV (ntL B rn (11 :: brT kd)) (rn + (11 :: brT kd).length) kd m k)) := by
    intro d dp rn B x K hK hdp hrn
    have h9 := V_br (E := E) (d := d) (B := ntB B rn 11) (rn := rn + 1) (kd := kd) (dp := dp + 1) (m := m) (k := k) (x := x) hkd (by omega) (by omega)
    rw [show rn + 1 + (brT kd).length = rn + (11 :: brT kd).length by simp; omega] at h9
    refine V_from (b := 11) rfl (by omega) (by decide) (by omega) (by omega) ?_ rfl (V_b11 rfl h9 1)
    rcases hK with rfl | rfl | rfl <;> rfl
  have up : ∀ {d dp rn : Nat} {B : Nat → Nat} {x : Int32} (b : Nat), rn < 800 → rn + 1 + (11 :: brT kd).length = rn + (b :: 11 :: brT kd).length := by
    intro d dp rn B x b hrn
    simp
    omega
  have hc : K = 0 ∨ K = 1 ∨ K = 2 ∨ K = 3 ∨ K = 4 ∨ K = 5 ∨ K = 6 := by omega
  rcases hc with rfl | rfl | rfl | rfl | rfl | rfl | rfl
  · exact s0 0 (Or.inl rfl) (by omega) (by omega)
  · exact s0 1 (Or.inr (Or.inl rfl)) (by omega) (by omega)
  · have h9 := s0 (d := d) (dp := dp + 1) (rn := rn + 1) (B := ntB B rn 30) (x := x) 0 (Or.inl rfl) (by omega) (by omega)
    rw [up (d := d) (dp := dp) (B := B) (x := x) 30 hrn] at h9
    exact V_from (b := 30) rfl (by decide) (by decide) (by omega) (by omega) rfl rfl (V_b30 rfl h9 1 rfl)
  · have h9 := s0 (d := d) (dp := dp + 1) (rn := rn + 1) (B := ntB B rn 40) (x := x + 1) 1 (Or.inr (Or.inl rfl)) (by omega) (by omega)
    rw [up (d := d) (dp := dp) (B := B) (x := x) 40 hrn] at h9
    exact V_from (b := 40) rfl (by decide) (by decide) (by omega) (by omega) rfl rfl (V_b40 rfl h9 1 rfl)
  · exact s0 4 (Or.inr (Or.inr rfl)) (by omega) (by omega)
  · have h9 := s0 (d := d) (dp := dp + 1) (rn := rn + 1) (B := ntB B rn 30) (x := x) 0 (Or.inl rfl) (by omega) (by omega)
    rw [up (d := d) (dp := dp) (B := B) (x := x) 30 hrn] at h9
    exact V_from (b := 30) rfl (by decide) (by decide) (by omega) (by omega) rfl rfl (V_b30 rfl h9 1 rfl)
  · have h9 := s0 (d := d) (dp := dp + 1) (rn := rn + 1) (B := ntB B rn 71) (x := x - k) 4 (Or.inr (Or.inr rfl)) (by omega) (by omega)
    rw [up (d := d) (dp := dp) (B := B) (x := x) 71 hrn] at h9
    exact V_from (b := 71) rfl (by decide) (by decide) (by omega) (by omega) rfl rfl (V_b71 rfl h9 1 rfl)
theorem sgT_le (kd K : Nat) : (sgT kd K).length ≤ 5 := by
  have := brT_le kd
  unfold sgT
  split <;> simp <;> omega
theorem V_st {K : Nat} (hK : K < 7) (hkd : kd < 7) (hdp : dp + 15 ≤ 40) (hrn : rn < 700) : GM0 E mV_runFrom (d + 17) [R 0, I (nI K), I (nI 2), I x, I (nI dp)] (WV B rn kd m k) (dmE (some (I (stV kd K m k x))) (WV (ntL B rn (stT kd K)) (rn + (stT kd K).length) kd m k)) := by
  have hbl := brT_le kd
  have hsl := sgT_le kd kd
  have s0 : ∀ {d dp rn : Nat} {B : Nat → Nat} {x : Int32} (K : Nat), K < 4 → dp + 12 ≤ 40 → rn < 750 → GM0 E mV_runFrom (d + 15) [R 0, I (nI K), I (nI 2), I x, I (nI dp)] (WV B rn kd m k) (dmE (some (I (st0 kd m k x))) (WV (ntL B rn (stT0 kd)) (rn + (stT0 kd).length) kd m k)) := by
    intro d dp rn B x K hK hdp hrn
    have h8 := V_sg (E := E) (d := d) (B := ntB B rn 12) (rn := rn + 1) (kd := kd) (dp := dp + 1) (m := m) (k := k) (x := x) hkd hkd (by omega) (by omega)
    have h9 := V_br (E := E) (d := d + 4) (B := ntL (ntB B rn 12) (rn + 1) (sgT kd kd)) (rn := rn + 1 + (sgT kd kd).length) (kd := kd) (dp := dp + 1) (m := m) (k := k) (x := x - k) hkd (by omega) (by omega)
    rw [ntL_app, show rn + 1 + (sgT kd kd).length + (brT kd).length = rn + (stT0 kd).length by simp [stT0]; omega] at h9
    refine V_from (b := 12) rfl (by omega) (by decide) (by omega) (by omega) ?_ rfl (V_b12 2 h8 h9)
    have hc : K = 0 ∨ K = 1 ∨ K = 2 ∨ K = 3 := by omega
    rcases hc with rfl | rfl | rfl | rfl <;> rfl
  have up : ∀ b : Nat, rn + 1 + (stT0 kd).length = rn + (b :: stT0 kd).length := by
    intro b
    simp
    omega
  have hc : K < 4 ∨ K = 4 ∨ K = 5 ∨ K = 6 := by omega
  rcases hc with h4 | rfl | rfl | rfl
  · have e : stV kd K m k x = st0 kd m k x ∧ stT kd K = stT0 kd := by
      have hc : K = 0 ∨ K = 1 ∨ K = 2 ∨ K = 3 := by omega
      rcases hc with rfl | rfl | rfl | rfl <;> exact ⟨rfl, rfl⟩
    rw [e.1, e.2]
    exact s0 K h4 (by omega) (by omega)
  · have h9 := s0 (d := d) (dp := dp + 1) (rn := rn + 1) (B := ntB B rn 50) (x := x) 0 (by decide) (by omega) (by omega)
    rw [up 50] at h9
    exact V_from (b := 50) rfl (by decide) (by decide) (by omega) (by omega) rfl rfl (V_b50 rfl h9 2 rfl)
  · have h9 := s0 (d := d) (dp := dp + 1) (rn := rn + 1) (B := ntB B rn 60) (x := x) 2 (by decide) (by omega) (by omega)
    rw [up 60] at h9
    exact V_from (b := 60) rfl (by decide) (by decide) (by omega) (by omega) rfl rfl (V_b60 rfl h9 2 rfl)
  · have h9 := s0 (d := d) (dp := dp + 1) (rn := rn + 1) (B := ntB B rn 50) (x := x) 0 (by decide) (by omega) (by omega)
    rw [up 50] at h9
    exact V_from (b := 50) rfl (by decide) (by decide) (by omega) (by omega) rfl rfl (V_b50 rfl h9 2 rfl)
def mvV (kd mv : Nat) (m k x : Int32) : Int32 := match mv with
  | 0 => brV kd m k x
  | 1 => sgV kd kd m k x
  | _ => stV kd kd m k x
def mvT (kd mv : Nat) : List Nat := match mv with
  | 0 => brT kd
  | 1 => sgT kd kd
  | _ => stT kd kd
theorem c_V_start {K mv kd0 : Nat} {m0 k0 : Int32} (hK : K < 7) (hmv : mv < 3) (hrn : rn < 700) : GM0 E mV_start (d + 18) [R 0, I (nI K), I m, I k, I (nI mv), I x] (WV B rn kd0 m0 k0) (dmE (some (I (mvV K mv m k x))) (WV (ntL B rn (mvT K mv)) (rn + (mvT K mv).length) K m k)) := by
  refine gm okV_start rfl ?_
  refine gr rfl ?_
  have hc : mv = 0 ∨ mv = 1 ∨ mv = 2 := by omega
  rcases hc with rfl | rfl | rfl
  · refine cV0 rfl rfl rfl (V_br (d := d + 8) (B := B) (rn := rn) (kd := K) (m := m) (k := k) (x := x) (dp := 0) hK (by decide) (by omega)) rfl rfl rfl ?_
    exact gret rfl rfl ⟨rfl, rfl⟩
  · refine cV0 rfl rfl rfl (V_sg (d := d + 4) (B := B) (rn := rn) (kd := K) (m := m) (k := k) (x := x) (dp := 0) hK hK (by decide) (by omega)) rfl rfl rfl ?_
    exact gret rfl rfl ⟨rfl, rfl⟩
  · refine cV0 rfl rfl rfl (V_st (d := d) (B := B) (rn := rn) (kd := K) (m := m) (k := k) (x := x) (dp := 0) hK hK (by decide) (by omega)) rfl rfl rfl ?_
    exact gret rfl rfl ⟨rfl, rfl⟩
end MV
end
section
/-! TEXT CONSTANTS: length and charAt -/
section ST
variable {E : dmX} {d : Nat}
theorem c_JS_coder {k : Nat} (hk : k < 10) : GM0 E mJS_coder (d + 1) [.retAddr (k + 11)] [] (dmE (some (I 0)) []) := by
  refine gm okJS_coder rfl ?_
  refine gr rfl ?_
  refine gf rfl (by decide) ?_
  refine gr rfl ?_
  refine G_sgetc k rfl hk ?_
  refine gr rfl ?_
  exact G_ret rfl rfl rfl (Nat.le_refl 0) (Nat.le_refl 0) ⟨rfl, rfl⟩
theorem c_JS_isLatin1 {k : Nat} (hk : k < 10) : GM0 E mJS_isLatin1 (d + 1) [.retAddr (k + 11)] [] (dmE (some (I (bI true))) []) := by
  refine gm okJS_isLatin1 rfl ?_
  refine gr rfl ?_
  refine gf rfl (by decide) ?_
  refine gr rfl ?_
  refine G_sgetc k rfl hk ?_
  refine gt rfl rfl ?_
  refine gr rfl ?_
  exact gretz true rfl rfl rfl ⟨rfl, rfl⟩
theorem c_JS_length {k : Nat} (hk : k < 10) : GM0 E mJS_length (d + 2) [.retAddr (k + 11)] [] (dmE (some (I (nI (dmLen k)))) []) := by
  refine gm okJS_length rfl ?_
  refine gr rfl ?_
  refine G_sgetv k rfl hk ?_
  refine G_blen k rfl hk ?_
  refine gr rfl ?_
  refine G_callT k rfl rfl hk rfl rfl rfl (c_JS_coder hk) (Nat.le_of_ble_eq_true rfl) (Nat.le_refl 0) (Nat.le_refl 0) (fun r w1 hq => ?_)
  obtain ⟨rfl, rfl⟩ := hq
  refine ⟨rfl, ⟨_, rfl⟩, ?_⟩
  refine gr rfl ?_
  have hl : ∀ k, k < 10 → dmLen k < 2147483648 := by decide
  rw [show (0 : Int32) = nI 0 from rfl, nb_shr (hl k hk) (by decide)]
  exact gret rfl rfl ⟨by rw [Nat.pow_zero, Nat.div_one], rfl⟩
theorem c_JP_checkIndex {j len : Nat} (hj : j < len) (hl : len < 2147483648) (o : Value) (ho : o = .null ∨ o = .retAddr 51) : GM0 E mJP_checkIndex (d + 1) [I (nI j), I (nI len), o] [] (dmE (some (I (nI j))) []) := by
  rcases ho with rfl | rfl
  · refine gm okJP_checkIndex rfl ?_
    refine gr rfl ?_
    refine gf rfl (nI_pos (by omega)) ?_
    refine gr rfl ?_
    refine gl j len rfl (by omega) hl (fun _ => ?_) (fun h => absurd h (by omega))
    refine gr rfl ?_
    exact gret rfl rfl ⟨rfl, rfl⟩
  · refine gm okJP_checkIndex rfl ?_
    refine gr rfl ?_
    refine gf rfl (nI_pos (by omega)) ?_
    refine gr rfl ?_
    refine gl j len rfl (by omega) hl (fun _ => ?_) (fun h => absurd h (by omega))
    refine gr rfl ?_
    exact gret rfl rfl ⟨rfl, rfl⟩
theorem c_JS_checkIndex {j len : Nat} (hj : j < len) (hl : len < 2147483648) : GM0 E mJS_checkIndex (d + 2) [I (nI j), I (nI len)] [] (dmE none []) := by
  refine gm okJS_checkIndex rfl ?_
  refine gr rfl ?_
  refine G_fmt rfl ?_ ?_
  · refine cS [] U1 U1 rfl rfl rfl (c_JP_checkIndex hj hl .null (Or.inl rfl)) rfl rfl rfl rfl rfl rfl ?_
    refine gr rfl ?_
    exact gretv rfl rfl ⟨rfl, rfl⟩
  · refine cS [] U1 U1 rfl rfl rfl (c_JP_checkIndex hj hl (.retAddr 51) (Or.inr rfl)) rfl rfl rfl rfl rfl rfl ?_
    refine gr rfl ?_
    exact gretv rfl rfl ⟨rfl, rfl⟩
/-- the j-th letter of text k -/
def chr (k j : Nat) : Nat := ((dmStr.map (fun y => y.2.2.toList.map (fun c => c.toNat))).getD k []).getD j 0
theorem chr_ok : ∀ k, k < 10 → ∀ j, j < dmLen k → ((dmByt k j &&& 255).toUInt32 % 65536).toInt32 = nI (chr k j) ∧ narrow .char (.int (nI (chr k j))) = .int (nI (chr k j)) := by decide +kernel
theorem c_JL_charAt {k j : Nat} (hk : k < 10) (hj : j < dmLen k) : GM0 E mJL_charAt (d + 3) [.retAddr (k + 31), I (nI j)] [] (dmE (some (I (nI (chr k j)))) []) := by
  have hl : ∀ k, k < 10 → dmLen k < 2147483648 := by decide
  refine gm okJL_charAt rfl ?_
  refine gr rfl ?_
  refine G_blen k rfl hk ?_
  refine cS [] U1 U1 rfl rfl rfl (c_JS_checkIndex hj (hl k hk)) rfl rfl rfl rfl rfl rfl ?_
  refine gr rfl ?_
  refine G_bald k j rfl hk rfl hj (hl k hk) ?_
  refine gr rfl ?_
  obtain ⟨h1, h2⟩ := chr_ok k hk j hj
  rw [h1]
  exact G_ret rfl rfl h2 (Nat.le_refl 0) (Nat.le_refl 0) ⟨rfl, rfl⟩
theorem c_JS_charAt {k j : Nat} (hk : k < 10) (hj : j < dmLen k) : GM0 E mJS_charAt (d + 4) [.retAddr (k + 11), I (nI j)] [] (dmE (some (I (nI (chr k j)))) []) := by
  refine gm okJS_charAt rfl ?_
  refine gr rfl ?_
  refine G_callT k rfl rfl hk rfl rfl rfl (c_JS_isLatin1 hk) (Nat.le_of_ble_eq_true rfl) (Nat.le_refl 0) (Nat.le_refl 0) (fun r w1 hq => ?_)
  obtain ⟨rfl, rfl⟩ := hq
  refine ⟨rfl, ⟨_, rfl⟩, ?_⟩
  refine gf rfl (by decide) ?_
  refine gr rfl ?_
  refine G_sgetv k rfl hk ?_
  refine gr rfl ?_
  refine cS [] U1 U1 rfl rfl rfl (c_JL_charAt hk hj) rfl rfl rfl rfl rfl rfl ?_
  exact G_ret rfl rfl (chr_ok k hk j hj).2 (Nat.le_refl 0) (Nat.le_refl 0) ⟨rfl, rfl⟩
end ST
end
section
/-! TEXTS: what is read, and the class that reads it -/
def Lf (z : Nat) (f : Nat → Int64) (a : Nat) : Int32 := if a < z then (f a).toInt32 else -1
def wcd (i : Nat) : List Nat := (dmStr.map (fun y => y.2.2.toList.map (fun c => c.toNat))).getD i []
def tw (L : Nat → Int32) : List Nat → Nat → Bool × Nat
  | [], a => (true, a)
  | c :: cs, a => if L a = nI c then tw L cs (a + 1) else (false, a)
def dg (x : Int32) : Bool := wi x 48 57
def dv (x : Int32) : Nat := ix x - 48
/-- digits from a on: how many, what they say -/
def nmb (L : Nat → Int32) (a : Nat) : Nat × Nat := if dg (L a) then (if dg (L (a + 1)) then (2, 10 * dv (L a) + dv (L (a + 1))) else (1, dv (L a))) else (0, 0)
/-- a blank, a number: done, where (or the fault), what it says -/
def num (L : Nat → Int32) (ok : Nat → Bool) (a : Nat) : Bool × Nat × Nat :=
  if L a = 32 then (if (nmb L (a + 1)).1 = 0 ∨ ok (nmb L (a + 1)).2 = false then (false, a + 1, 0) else (true, a + 1 + (nmb L (a + 1)).1, (nmb L (a + 1)).2)) else (false, a, 0)
/-- the j-th number of an item i may be v -/
def okv (F : Nat → Nat → Nat) (n t : Nat) (i j v : Nat) : Bool := match i with
  | 0 => decide (v ≤ 11)
  | 1 => match j with
    | 0 => decide (v < 7)
    | 1 => decide (v ≤ 9)
    | 2 => frP F n (nI v)
    | 3 => decide (v ≤ 5)
    | _ => decide (v ≤ 11)
  | 2 => match j with
    | 0 => decide (v < n)
    | _ => decide (v < t)
  | 3 => match j with
    | 0 => decide (v < n)
    | _ => frP F n (nI v)
  | _ => decide (v ≤ 9)
def nns (i : Nat) : Nat := [1, 5, 2, 2, 1].getD i 0
def nsq (L : Nat → Int32) (ok : Nat → Nat → Bool) : Nat → Nat → Nat → (Nat → Nat) → Bool × Nat × (Nat → Nat)
  | 0, _, a, nu => (true, a, nu)
  | m + 1, j, a, nu => if (num L (ok j) a).1 then nsq L ok m (j + 1) (num L (ok j) a).2.1 (va_up nu j (num L (ok j) a).2.2) else (false, (num L (ok j) a).2.1, nu)
def rmB (n t i : Nat) : Bool := match i with
  | 0 => decide (t < 6)
  | 1 => decide (n < 12)
  | _ => true
def itf (L : Nat → Int32) (a : Nat) : Option Nat := ffst (fun i => decide (L a = nI (chr i 0))) 5 0
abbrev CHU : Type := (Nat → Nat → Nat) × Nat × Nat × Nat
def tel (c : CHU) (nu : Nat → Nat) (i : Nat) : CHU := match i with
  | 0 => (adT c.1 c.2.2.1 (nu 0), c.2.1, c.2.2.1 + 1, c.2.2.2)
  | 1 => (adV c.1 c.2.1 (nu 0) (nu 1) (nu 2) (nu 3) (nu 4), c.2.1 + 1, c.2.2.1, c.2.2.2)
  | 2 => (setK c.1 (nu 0) (c.1 5 (nu 0) ||| 2 ^ nu 1), c.2.1, c.2.2.1, c.2.2.2)
  | 3 => (va_up c.1 2 (va_up (c.1 2) (nu 0) (nu 1)), c.2.1, c.2.2.1, c.2.2.2)
  | _ => (c.1, c.2.1, c.2.2.1, nu 0)
/-- behind a number's words: all stands, or the fault -/
def itn (L : Nat → Int32) (c : CHU) (nu : Nat → Nat) (i a : Nat) : Bool × Nat × (Nat → Nat) :=
  if (tw L (wcd i) a).1 then (if rmB c.2.1 c.2.2.1 i then nsq L (okv c.1 c.2.1 c.2.2.1 i) (nns i) 0 (tw L (wcd i) a).2 nu else (false, a, nu)) else (false, (tw L (wcd i) a).2, nu)
def WC2 (F : Nat → Nat → Nat) (n t wt : Nat) (hy sd : Int32) : dmW := [.inr (0, [R 3, R 4, R 5, R 6, R 7, R 8, R 9, I (nI n), I (nI t), I (nI wt), I hy, I sd]), .inl (0, 14, .inl (nA (F 0))), .inl (0, 14, .inl (nA (F 1))), .inl (0, 14, .inl (nA (F 2))), .inl (0, 14, .inl (nA (F 3))), .inl (0, 14, .inl (nA (F 4))), .inl (0, 14, .inl (nA (F 5))), .inl (0, 6, .inl (nA (F 6)))]
def WTw (lt : Value) (nu : Nat → Nat) (z a : Nat) (ft : Int32) (F : Nat → Nat → Nat) (n t wt : Nat) (hy sd : Int32) (f : Nat → Int64) : dmW := .inr (4, [R 2, R 1, lt, I (nI z), I (nI a), I ft]) :: .inl (0, 5, .inl (nA nu)) :: (WC2 F n t wt hy sd ++ [.inl (1, 160, .inr (.inl f))])
abbrev WT := WTw (R 10)
abbrev tIs : List Nat := [2, 3, 4, 5, 6, 7, 8, 9]
section TX
variable {E : dmX} {d : Nat} {nu : Nat → Nat} {z a : Nat} {ft : Int32} {F : Nat → Nat → Nat} {n t wt : Nat} {hy sd : Int32} {f : Nat → Int64}
theorem c_T_faultAt (p : Int32) : GM0 E mT_faultAt (d + 1) [R 0, I p] (WT nu z a ft F n t wt hy sd f) (dmE (some (I (bI false))) (WT nu z a p F n t wt hy sd f)) := by
  refine gm okT_faultAt rfl ?_
  refine gr rfl ?_
  exact gretz false rfl rfl rfl ⟨rfl, rfl⟩
theorem c_T_letter (hz : z ≤ 160) (ha : a ≤ z) : GM0 E mT_letter (d + 1) [R 0] (WT nu z a ft F n t wt hy sd f) (dmE (some (I (Lf z f a))) (WT nu z a ft F n t wt hy sd f)) := by
  refine gm okT_letter rfl ?_
  refine gr rfl ?_
  refine gf rfl (nI_pos (by omega)) ?_
  refine gr rfl ?_
  refine gl a z rfl (by omega) (by omega) (fun h => ?_) (fun h => ?_)
  · refine gr rfl ?_
    refine G_lald a rfl rfl rfl (by omega) (by decide) ?_
    refine gr rfl ?_
    exact gret rfl rfl ⟨by simp [Lf, h], rfl⟩
  · refine gr rfl ?_
    exact gret rfl rfl ⟨by simp [Lf, Nat.not_lt.mpr h], rfl⟩
theorem c_T_wordOf {i : Nat} (hi : i < 5) : GM0 E mT_wordOf (d + 1) [I (nI i)] [] (dmE (some (.retAddr (i + 11))) []) := by
  refine gm okT_wordOf rfl ?_
  refine gr rfl ?_
  have hc : i = 0 ∨ i = 1 ∨ i = 2 ∨ i = 3 ∨ i = 4 := by omega
  rcases hc with rfl | rfl | rfl | rfl | rfl
  · refine G_tsw 0 rfl (by decide) (by decide) rfl ?_
    refine gr rfl ?_
    exact G_reta rfl rfl (Nat.le_refl 0) (Nat.le_refl 0) ⟨rfl, rfl⟩
  · refine G_tsw 1 rfl (by decide) (by decide) rfl ?_
    refine gr rfl ?_
    exact G_reta rfl rfl (Nat.le_refl 0) (Nat.le_refl 0) ⟨rfl, rfl⟩
  · refine G_tsw 2 rfl (by decide) (by decide) rfl ?_
    refine gr rfl ?_
    exact G_reta rfl rfl (Nat.le_refl 0) (Nat.le_refl 0) ⟨rfl, rfl⟩
  · refine G_tsw 3 rfl (by decide) (by decide) rfl ?_
    refine gr rfl ?_
    exact G_reta rfl rfl (Nat.le_refl 0) (Nat.le_refl 0) ⟨rfl, rfl⟩
  · refine G_tswOut rfl (Or.inr (by decide)) ?_
    refine gr rfl ?_
    exact G_reta rfl rfl (Nat.le_refl 0) (Nat.le_refl 0) ⟨rfl, rfl⟩
/-- a letter that isn't -1 stands within -/
theorem Lf_lt {c : Nat} (h : Lf z f a = nI c) (hc : c < 65536) : a < z := by
  unfold Lf at h
  by_cases h1 : a < z
  · exact h1
  · rw [if_neg h1] at h
    have h2 := congrArg Int32.toInt h
    rw [nI_toInt (by omega)] at h2
    have h3 : (-1 : Int32).toInt = -1 := by decide
    omega
theorem c_T_takeLetter (hz : z ≤ 160) (ha : a ≤ z) (c : Int32) : GM0 E mT_takeLetter (d + 2) [R 0, I c] (WT nu z a ft F n t wt hy sd f) (dmE (some (I (bI (decide (Lf z f a = c))))) (if Lf z f a = c then WT nu z (a + 1) ft F n t wt hy sd f else WT nu z a (nI a) F n t wt hy sd f)) := by
  refine gm okT_takeLetter rfl ?_
  refine gr rfl ?_
  refine cV0 rfl rfl rfl (c_T_letter hz ha) rfl rfl rfl ?_
  refine gr rfl ?_
  refine gi rfl (fun h => ?_) (fun h => ?_)
  · refine gr rfl ?_
    rw [nI_1]
    refine gretz true rfl rfl rfl ⟨by rw [decide_eq_true h], ?_⟩
    rw [if_pos h]
    rfl
  · refine gr rfl ?_
    refine cV0 rfl rfl rfl (c_T_faultAt (nI a)) rfl rfl rfl ?_
    refine gretz false rfl rfl rfl ⟨by rw [decide_eq_false h], ?_⟩
    rw [if_neg h]
/-- the text's world behind an attempt: on at q, or the fault at q -/
def WTo (b : Bool) (q : Nat) (nu : Nat → Nat) (z a : Nat) (ft : Int32) (F : Nat → Nat → Nat) (n t wt : Nat) (hy sd : Int32) (f : Nat → Int64) (w : dmW) : Prop := match b with
  | true => w = WT nu z q ft F n t wt hy sd f
  | false => ∃ a', w = WT nu z a' (nI q) F n t wt hy sd f
theorem chr_wcd : ∀ i, i < 10 → (wcd i).length = dmLen i ∧ ∀ j, j < dmLen i → (wcd i)[j]? = some (chr i j) ∧ chr i j < 128 := by decide
theorem wcd_drop {i j : Nat} (hi : i < 10) (hj : j < dmLen i) : (wcd i).drop j = chr i j :: (wcd i).drop (j + 1) := by
  obtain ⟨h1, h2⟩ := chr_wcd i hi
  have h3 := (h2 j hj).1
  rw [List.drop_eq_getElem_cons (by omega)]
  congr 1
  rw [List.getElem?_eq_getElem (by omega)] at h3
  exact Option.some.inj h3
theorem dmLen_le : ∀ i, i < 10 → dmLen i ≤ 5 ∧ 4 ≤ dmLen i := by decide
theorem l_T_takeWord {i : Nat} (hi : i < 5) (hz : z ≤ 160) : ∀ (m j a : Nat), j + m = dmLen i → a ≤ z → GW0 E mT_takeWord (d + 5) (2, [R 0, .retAddr (i + 11), I (nI j)], [], WT nu z a ft F n t wt hy sd f) (fun r w => r = some (I (bI (tw (Lf z f) ((wcd i).drop j) a).1)) ∧ WTo (tw (Lf z f) ((wcd i).drop j) a).1 (tw (Lf z f) ((wcd i).drop j) a).2 nu z a ft F n t wt hy sd f w) := by
  have hl := dmLen_le i (by omega)
  intro m
  induction m with
  | zero =>
    intro j a hj ha
    have hd0 : (wcd i).drop j = [] := by
      rw [List.drop_eq_nil_iff, (chr_wcd i (by omega)).1]
      omega
    rw [hd0]
    refine gr rfl ?_
    refine G_callT i rfl rfl (by omega) rfl rfl rfl (c_JS_length (by omega)) (Nat.le_of_ble_eq_true rfl) (Nat.le_refl 0) (Nat.le_refl 0) (fun r w1 hq => ?_)
    obtain ⟨rfl, rfl⟩ := hq
    refine ⟨rfl, ⟨_, rfl⟩, ?_⟩
    refine gl j (dmLen i) rfl (by omega) (by omega) (fun h => absurd h (by omega)) (fun _ => ?_)
    refine gr rfl ?_
    exact gretz true rfl rfl rfl ⟨rfl, rfl⟩
  | succ m ih =>
    intro j a hj ha
    rw [wcd_drop (by omega) (show j < dmLen i by omega)]
    have hc := (chr_wcd i (by omega)).2 j (by omega)
    refine gr rfl ?_
    refine G_callT i rfl rfl (by omega) rfl rfl rfl (c_JS_length (by omega)) (Nat.le_of_ble_eq_true rfl) (Nat.le_refl 0) (Nat.le_refl 0) (fun r w1 hq => ?_)
    obtain ⟨rfl, rfl⟩ := hq
    refine ⟨rfl, ⟨_, rfl⟩, ?_⟩
    refine gl j (dmLen i) rfl (by omega) (by omega) (fun _ => ?_) (fun h => absurd h (by omega))
    refine gr rfl ?_
    refine G_callT i rfl rfl (by omega) rfl rfl rfl (c_JS_charAt (k := i) (j := j) (by omega) (by omega)) (Nat.le_of_ble_eq_true rfl) (Nat.le_refl 0) (Nat.le_refl 0) (fun r w1 hq => ?_)
    obtain ⟨rfl, rfl⟩ := hq
    refine ⟨rfl, ⟨_, rfl⟩, ?_⟩
    have hT := c_T_takeLetter (E := E) (d := d + 2) (nu := nu) (z := z) (a := a) (ft := ft) (F := F) (n := n) (t := t) (wt := wt) (hy := hy) (sd := sd) (f := f) hz ha (nI (chr i j))
    by_cases h : Lf z f a = nI (chr i j)
    · rw [decide_eq_true h, if_pos h] at hT
      refine cV0 rfl rfl rfl hT rfl rfl rfl ?_
      refine gf rfl (by decide) ?_
      refine gr rfl ?_
      rw [nI_1]
      have h9 := ih (j + 1) (a + 1) (by omega) (Lf_lt h (by omega))
      simp only [tw, if_pos h]
      exact h9
    · rw [decide_eq_false h, if_neg h] at hT
      refine cV0 rfl rfl rfl hT rfl rfl rfl ?_
      refine gt rfl rfl ?_
      refine gr rfl ?_
      refine gretz false rfl rfl rfl ?_
      have e : tw (Lf z f) (chr i j :: (wcd i).drop (j + 1)) a = (false, a) := by simp only [tw, if_neg h]
      rw [e]
      exact ⟨rfl, a, rfl⟩
theorem c_T_takeWord {i : Nat} (hi : i < 5) (hz : z ≤ 160) (ha : a ≤ z) : GM0 E mT_takeWord (d + 5) [R 0, .retAddr (i + 11)] (WT nu z a ft F n t wt hy sd f) (fun r w => r = some (I (bI (tw (Lf z f) (wcd i) a).1)) ∧ WTo (tw (Lf z f) (wcd i) a).1 (tw (Lf z f) (wcd i) a).2 nu z a ft F n t wt hy sd f w) := by
  refine gm okT_takeWord rfl ?_
  refine grn 2 rfl ?_
  have h9 := l_T_takeWord (E := E) (d := d) (nu := nu) (ft := ft) (F := F) (n := n) (t := t) (wt := wt) (hy := hy) (sd := sd) (f := f) hi hz (dmLen i) 0 a (by omega) ha
  rw [List.drop_zero] at h9
  exact h9
theorem l_T_itemAt (hz : z ≤ 160) (ha : a ≤ z) : ∀ (m i : Nat), i + m = 5 → GW0 E mT_itemAt (d + 5) (2, [R 0, I (nI i)], [], WT nu z a ft F n t wt hy sd f) (dmE (some (I (oI (ffst (fun i => decide (Lf z f a = nI (chr i 0))) m i)))) (WT nu z a ft F n t wt hy sd f)) := by
  intro m
  induction m with
  | zero =>
    intro i hi
    have h5 : i = 5 := by omega
    subst h5
    refine gr rfl ?_
    refine gl 5 5 rfl (by decide) (by decide) (fun h => absurd h (by decide)) (fun _ => ?_)
    refine gr rfl ?_
    exact gret rfl rfl ⟨rfl, rfl⟩
  | succ m ih =>
    intro i hi
    have hl := dmLen_le i (by omega)
    refine gr rfl ?_
    refine gl i 5 rfl (by omega) (by decide) (fun _ => ?_) (fun h => absurd h (by omega))
    refine gr rfl ?_
    refine cV0 rfl rfl rfl (c_T_letter hz ha) rfl rfl rfl ?_
    refine gr rfl ?_
    refine cS [] U1 U1 rfl rfl rfl (c_T_wordOf (i := i) (by omega)) rfl rfl rfl rfl rfl rfl ?_
    refine gr rfl ?_
    refine G_callT i rfl rfl (by omega) rfl rfl rfl (c_JS_charAt (k := i) (j := 0) (by omega) (by omega)) (Nat.le_of_ble_eq_true rfl) (Nat.le_refl 0) (Nat.le_refl 0) (fun r w1 hq => ?_)
    obtain ⟨rfl, rfl⟩ := hq
    refine ⟨rfl, ⟨_, rfl⟩, ?_⟩
    refine gi rfl (fun h => ?_) (fun h => ?_)
    · refine gr rfl ?_
      refine gret rfl rfl ⟨?_, rfl⟩
      simp only [ffst]
      rw [if_pos (decide_eq_true h)]
      rfl
    · refine gr rfl ?_
      rw [nI_1]
      have h9 := ih (i + 1) (by omega)
      simp only [ffst]
      rw [if_neg (by rw [decide_eq_false h]; decide)]
      exact h9
theorem c_T_itemAt (hz : z ≤ 160) (ha : a ≤ z) : GM0 E mT_itemAt (d + 5) [R 0] (WT nu z a ft F n t wt hy sd f) (dmE (some (I (oI (itf (Lf z f) a)))) (WT nu z a ft F n t wt hy sd f)) := by
  refine gm okT_itemAt rfl ?_
  refine grn 2 rfl ?_
  exact l_T_itemAt hz ha 5 0 rfl
end TX
end
section
/-! TEXTS: numbers, items, the whole -/
theorem dg_dv {x : Int32} (h : dg x = true) : dv x < 10 ∧ x = nI (dv x + 48) := by
  unfold dg wi at h
  rw [Bool.and_eq_true, decide_eq_true_eq, decide_eq_true_eq] at h
  have h0 : ¬ x < 0 := by
    intro h1
    have := h.1
    rw [Int32.lt_iff_toInt_lt] at this h1
    have e1 : (48 : Int32).toInt = 48 := by decide
    have e2 : (0 : Int32).toInt = 0 := by decide
    omega
  obtain ⟨k, hk, rfl⟩ := nI_of h0
  have h1 : 48 ≤ k := Nat.le_of_not_lt fun z => h.1 ((nI_ltI hk (by decide)).mpr z)
  have h2 : k ≤ 57 := Nat.le_of_not_lt fun z => h.2 ((nI_ltI (by decide) hk).mpr z)
  unfold dv
  rw [ix_nI hk]
  refine ⟨by omega, ?_⟩
  rw [Nat.sub_add_cancel h1]
theorem nmb_le (L : Nat → Int32) (a : Nat) : (nmb L a).1 ≤ 2 ∧ (nmb L a).2 < 100 := by
  unfold nmb
  split
  · rename_i h
    have := (dg_dv h).1
    split
    · rename_i h2
      have := (dg_dv h2).1
      exact ⟨Nat.le_refl 2, by show 10 * dv (L a) + dv (L (a + 1)) < 100; omega⟩
    · exact ⟨by show 1 ≤ 2; decide, by show dv (L a) < 100; omega⟩
  · exact ⟨by decide, by decide⟩
section TY
variable {E : dmX} {d : Nat} {nu : Nat → Nat} {z a : Nat} {ft : Int32} {F : Nat → Nat → Nat} {n t wt : Nat} {hy sd : Int32} {f : Nat → Int64}
theorem c_T_hasRoomFor {i : Nat} (hi : i < 5) (hn : n ≤ 14) (ht : t ≤ 6) : GM0 E mT_hasRoomFor (d + 2) [R 0, I (nI i)] (WT nu z a ft F n t wt hy sd f) (dmE (some (I (bI (rmB n t i)))) (WT nu z a ft F n t wt hy sd f)) := by
  refine gm okT_hasRoomFor rfl ?_
  refine gr rfl ?_
  have hc : i = 0 ∨ i = 1 ∨ i = 2 ∨ i = 3 ∨ i = 4 := by omega
  rcases hc with rfl | rfl | rfl | rfl | rfl
  · refine G_lsw (tgt := 2) rfl (by rfl) rfl (by decide) ?_
    refine gr rfl ?_
    refine cV tIs U1 U1 rfl rfl rfl (c_C_hasRoomForTune (F := F) (n := n) (t := t) (wt := wt) (hy := hy) (sd := sd) (by omega)) rfl rfl rfl rfl rfl rfl rfl rfl ?_
    exact gretz (decide (t < 6)) rfl rfl rfl ⟨rfl, rfl⟩
  · refine G_lsw (tgt := 6) rfl (by rfl) rfl (by decide) ?_
    refine gr rfl ?_
    refine cV tIs U1 U1 rfl rfl rfl (c_C_hasRoomForVoice (F := F) (n := n) (t := t) (wt := wt) (hy := hy) (sd := sd) (by omega)) rfl rfl rfl rfl rfl rfl rfl rfl ?_
    exact gretz (decide (n < 12)) rfl rfl rfl ⟨rfl, rfl⟩
  · refine G_lsw (tgt := 10) rfl (by rfl) rfl (by decide) ?_
    refine gr rfl ?_
    exact gretz true rfl rfl rfl ⟨rfl, rfl⟩
  · refine G_lsw (tgt := 10) rfl (by rfl) rfl (by decide) ?_
    refine gr rfl ?_
    exact gretz true rfl rfl rfl ⟨rfl, rfl⟩
  · refine G_lsw (tgt := 10) rfl (by rfl) rfl (by decide) ?_
    refine gr rfl ?_
    exact gretz true rfl rfl rfl ⟨rfl, rfl⟩
theorem c_T_mayBeOfVoice {j v : Nat} (hj : j < 5) (hv : v < 100) (hn : n ≤ 14) : GM0 E mT_mayBeOfVoice (d + 2) [R 0, I (nI j), I (nI v)] (WT nu z a ft F n t wt hy sd f) (dmE (some (I (bI (okv F n t 1 j v)))) (WT nu z a ft F n t wt hy sd f)) := by
  refine gm okT_mayBeOfVoice rfl ?_
  refine gr rfl ?_
  have hc : j = 0 ∨ j = 1 ∨ j = 2 ∨ j = 3 ∨ j = 4 := by omega
  rcases hc with rfl | rfl | rfl | rfl | rfl
  · refine G_tsw 0 rfl (by decide) (by decide) rfl ?_
    refine gr rfl ?_
    refine cn rfl rfl rfl (c_O_isKind (nI v)) rfl ?_
    rw [inN_nI (by omega) (by decide)]
    exact gretz (decide (v < 7)) rfl rfl rfl ⟨rfl, rfl⟩
  · refine G_tsw 1 rfl (by decide) (by decide) rfl ?_
    refine gr rfl ?_
    refine gl 9 v rfl (by decide) (by omega) (fun h => ?_) (fun h => ?_)
    · refine gr rfl ?_
      exact gretz false rfl rfl rfl ⟨by simp [okv, Nat.not_le.mpr h], rfl⟩
    · refine gr rfl ?_
      exact gretz true rfl rfl rfl ⟨by simp [okv, h], rfl⟩
  · refine G_tsw 2 rfl (by decide) (by decide) rfl ?_
    refine gr rfl ?_
    refine cV tIs U1 U1 rfl rfl rfl (c_C_isFree (F := F) (n := n) (t := t) (wt := wt) (hy := hy) (sd := sd) (nI v) hn) rfl rfl rfl rfl rfl rfl rfl rfl ?_
    exact gretz (frP F n (nI v)) rfl rfl rfl ⟨rfl, rfl⟩
  · refine G_tsw 3 rfl (by decide) (by decide) rfl ?_
    refine gr rfl ?_
    refine gl 5 v rfl (by decide) (by omega) (fun h => ?_) (fun h => ?_)
    · refine gr rfl ?_
      exact gretz false rfl rfl rfl ⟨by simp [okv, Nat.not_le.mpr h], rfl⟩
    · refine gr rfl ?_
      exact gretz true rfl rfl rfl ⟨by simp [okv, h], rfl⟩
  · refine G_tswOut rfl (Or.inr (by decide)) ?_
    refine gr rfl ?_
    refine gl 11 v rfl (by decide) (by omega) (fun h => ?_) (fun h => ?_)
    · refine gr rfl ?_
      exact gretz false rfl rfl rfl ⟨by simp [okv, Nat.not_le.mpr h], rfl⟩
    · refine gr rfl ?_
      exact gretz true rfl rfl rfl ⟨by simp [okv, h], rfl⟩
theorem c_T_mayBe {i j v : Nat} (hi : i < 5) (hj : j < nns i) (hv : v < 100) (hn : n ≤ 14) (ht : t ≤ 6) : GM0 E mT_mayBe (d + 3) [R 0, I (nI i), I (nI j), I (nI v)] (WT nu z a ft F n t wt hy sd f) (dmE (some (I (bI (okv F n t i j v)))) (WT nu z a ft F n t wt hy sd f)) := by
  refine gm okT_mayBe rfl ?_
  refine gr rfl ?_
  have hc : i = 0 ∨ i = 1 ∨ i = 2 ∨ i = 3 ∨ i = 4 := by omega
  rcases hc with rfl | rfl | rfl | rfl | rfl
  · refine G_tsw 0 rfl (by decide) (by decide) rfl ?_
    refine gr rfl ?_
    refine gl 11 v rfl (by decide) (by omega) (fun h => ?_) (fun h => ?_)
    · refine gr rfl ?_
      exact gretz false rfl rfl rfl ⟨by simp [okv, Nat.not_le.mpr h], rfl⟩
    · refine gr rfl ?_
      exact gretz true rfl rfl rfl ⟨by simp [okv, h], rfl⟩
  · have hj5 : j < 5 := hj
    refine G_tsw 1 rfl (by decide) (by decide) rfl ?_
    refine gr rfl ?_
    refine cV0 rfl rfl rfl (c_T_mayBeOfVoice hj5 hv hn) rfl rfl rfl ?_
    exact gretz (okv F n t 1 j v) rfl rfl rfl ⟨rfl, rfl⟩
  · have hj2 : j < 2 := hj
    have hjc : j = 0 ∨ j = 1 := by omega
    refine G_tsw 2 rfl (by decide) (by decide) rfl ?_
    rcases hjc with rfl | rfl
    · refine gr rfl ?_
      refine gt rfl rfl ?_
      refine gr rfl ?_
      refine cV tIs U1 U1 rfl rfl rfl (c_C_hasVoice (F := F) (n := n) (t := t) (wt := wt) (hy := hy) (sd := sd) (nI v)) rfl rfl rfl rfl rfl rfl rfl rfl ?_
      rw [inN_nI (by omega) (by omega)]
      refine gr rfl ?_
      exact gretz (decide (v < n)) rfl rfl rfl ⟨rfl, rfl⟩
    · refine gr rfl ?_
      refine gf rfl (by decide) ?_
      refine gr rfl ?_
      refine cV tIs U1 U1 rfl rfl rfl (c_C_hasTune (F := F) (n := n) (t := t) (wt := wt) (hy := hy) (sd := sd) (nI v)) rfl rfl rfl rfl rfl rfl rfl rfl ?_
      rw [inN_nI (by omega) (by omega)]
      refine gr rfl ?_
      exact gretz (decide (v < t)) rfl rfl rfl ⟨rfl, rfl⟩
  · have hj2 : j < 2 := hj
    have hjc : j = 0 ∨ j = 1 := by omega
    refine G_tsw 3 rfl (by decide) (by decide) rfl ?_
    rcases hjc with rfl | rfl
    · refine gr rfl ?_
      refine gt rfl rfl ?_
      refine gr rfl ?_
      refine cV tIs U1 U1 rfl rfl rfl (c_C_hasVoice (F := F) (n := n) (t := t) (wt := wt) (hy := hy) (sd := sd) (nI v)) rfl rfl rfl rfl rfl rfl rfl rfl ?_
      rw [inN_nI (by omega) (by omega)]
      refine gr rfl ?_
      exact gretz (decide (v < n)) rfl rfl rfl ⟨rfl, rfl⟩
    · refine gr rfl ?_
      refine gf rfl (by decide) ?_
      refine gr rfl ?_
      refine cV tIs U1 U1 rfl rfl rfl (c_C_isFree (F := F) (n := n) (t := t) (wt := wt) (hy := hy) (sd := sd) (nI v) hn) rfl rfl rfl rfl rfl rfl rfl rfl ?_
      refine gr rfl ?_
      exact gretz (frP F n (nI v)) rfl rfl rfl ⟨rfl, rfl⟩
  · refine G_tswOut rfl (Or.inr (by decide)) ?_
    refine gr rfl ?_
    refine gl 9 v rfl (by decide) (by omega) (fun h => ?_) (fun h => ?_)
    · refine gr rfl ?_
      exact gretz false rfl rfl rfl ⟨by simp [okv, Nat.not_le.mpr h], rfl⟩
    · refine gr rfl ?_
      exact gretz true rfl rfl rfl ⟨by simp [okv, h], rfl⟩
/-- takeNumber behind the digits -/
theorem e_T_takeNumber {i j c v s : Nat} (x5 : Value) (hi : i < 5) (hj : j < nns i) (hv : v < 100) (hn : n ≤ 14) (ht : t ≤ 6) (hs : s ≤ 160) (ha : a = s + c) (hc : c ≤ 2) : GW0 E mT_takeNumber (d + 4) (33, [R 0, I (nI i), I (nI j), I (nI s), I (nI v), x5], [], WT nu z a ft F n t wt hy sd f) (fun r w => if c = 0 ∨ okv F n t i j v = false then (r = some (I (bI false)) ∧ ∃ a', w = WT nu z a' (nI s) F n t wt hy sd f) else (r = some (I (bI true)) ∧ w = WT (va_up nu j v) z a ft F n t wt hy sd f)) := by
  have hj5 : j < 5 := by
    have : ∀ i, i < 5 → nns i ≤ 5 := by decide
    have := this i hi
    omega
  refine gr rfl ?_
  refine ge a s rfl (by omega) (by omega) (fun h => ?_) (fun h => ?_)
  · refine gr rfl ?_
    refine cV0 rfl rfl rfl (c_T_faultAt (nI s)) rfl rfl rfl ?_
    refine gretz false rfl rfl rfl ?_
    rw [if_pos (Or.inl (by omega))]
    exact ⟨rfl, a, rfl⟩
  · refine gr rfl ?_
    refine cV0 rfl rfl rfl (c_T_mayBe hi hj hv hn ht) rfl rfl rfl ?_
    refine gz rfl (fun hb => ?_) (fun hb => ?_)
    · refine gr rfl ?_
      refine cV0 rfl rfl rfl (c_T_faultAt (nI s)) rfl rfl rfl ?_
      refine gretz false rfl rfl rfl ?_
      rw [if_pos (Or.inr hb)]
      exact ⟨rfl, a, rfl⟩
    · refine gr rfl ?_
      refine gst j v rfl rfl rfl rfl hj5 rfl ?_
      refine gr rfl ?_
      refine gretz true rfl rfl rfl ?_
      rw [if_neg (by rw [hb]; simp; omega)]
      exact ⟨rfl, rfl⟩
theorem o_T_takeNumber {Q : Option Value → dmW → Prop} {x1 x2 x3 : Int32} {q v : Nat} (hq : q < 2) (hv : v < 10) (hz : z ≤ 160) (ha : a ≤ z) (K0 : dg (Lf z f a) = false → GW0 E mT_takeNumber (d + 4) (33, [R 0, I x1, I x2, I x3, I (nI v), I (nI q)], [], WT nu z a ft F n t wt hy sd f) Q)
    (K1 : dg (Lf z f a) = true → a < z → GW0 E mT_takeNumber (d + 4) (7, [R 0, I x1, I x2, I x3, I (nI (10 * v + dv (Lf z f a))), I (nI (q + 1))], [], WT nu z (a + 1) ft F n t wt hy sd f) Q) : GW0 E mT_takeNumber (d + 4) (7, [R 0, I x1, I x2, I x3, I (nI v), I (nI q)], [], WT nu z a ft F n t wt hy sd f) Q := by
  refine gr rfl ?_
  refine gl q 2 rfl (by omega) (by decide) (fun _ => ?_) (fun h => absurd h (by omega))
  refine gr rfl ?_
  refine cV0 rfl rfl rfl (c_T_letter hz ha) rfl rfl rfl ?_
  refine gr rfl ?_
  refine cn rfl rfl rfl (c_O_within (Lf z f a) 48 57) rfl ?_
  refine gz rfl (fun h => K0 h) (fun h => ?_)
  have h : dg (Lf z f a) = true := h
  obtain ⟨h1, h2⟩ := dg_dv h
  have hlt : a < z := Lf_lt h2 (by omega)
  refine gr rfl ?_
  refine cV0 rfl rfl rfl (c_T_letter hz ha) rfl rfl rfl ?_
  refine gr rfl ?_
  rw [show (10 : Int32) * nI v + Lf z f a - 48 = nI (10 * v + dv (Lf z f a)) by
    conv => lhs; rw [h2]
    rw [show (10 : Int32) = nI 10 from rfl, show (48 : Int32) = nI 48 from rfl, pk_mul, nI_add, pk_sub (by omega)]
    congr 1, nI_1, nI_1]
  exact K1 h hlt
theorem c_T_takeNumber {i j : Nat} (hi : i < 5) (hj : j < nns i) (hz : z ≤ 160) (ha : a ≤ z) (hn : n ≤ 14) (ht : t ≤ 6) : GM0 E mT_takeNumber (d + 4) [R 0, I (nI i), I (nI j)] (WT nu z a ft F n t wt hy sd f) (fun r w => if (nmb (Lf z f) a).1 = 0 ∨ okv F n t i j (nmb (Lf z f) a).2 = false then (r = some (I (bI false)) ∧ ∃ a', w = WT nu z a' (nI a) F n t wt hy sd f) else (r = some (I (bI true)) ∧ w = WT (va_up nu j (nmb (Lf z f) a).2) z (a + (nmb (Lf z f) a).1) ft F n t wt hy sd f)) := by
  refine gm okT_takeNumber rfl ?_
  refine grn 7 rfl ?_
  refine o_T_takeNumber (q := 0) (v := 0) (by decide) (by decide) hz ha (fun h => ?_) (fun h hlt => ?_)
  · have e : nmb (Lf z f) a = (0, 0) := by simp [nmb, h]
    rw [e]
    exact e_T_takeNumber (c := 0) _ hi hj (by decide) hn ht (by omega) rfl (by decide)
  · have h1 := (dg_dv h).1
    rw [Nat.mul_zero, Nat.zero_add]
    refine o_T_takeNumber (q := 1) (by decide) h1 hz (by omega) (fun h2 => ?_) (fun h2 hlt2 => ?_)
    · have e : nmb (Lf z f) a = (1, dv (Lf z f a)) := by simp [nmb, h, h2]
      rw [e]
      exact e_T_takeNumber (c := 1) _ hi hj (by omega) hn ht (by omega) rfl (by decide)
    · have h3 := (dg_dv h2).1
      have e : nmb (Lf z f) a = (2, 10 * dv (Lf z f a) + dv (Lf z f (a + 1))) := by simp [nmb, h, h2]
      rw [e]
      refine gr rfl ?_
      refine gl 2 2 rfl (by decide) (by decide) (fun h => absurd h (by decide)) (fun _ => ?_)
      exact e_T_takeNumber (c := 2) _ hi hj (by omega) hn ht (by omega) rfl (by decide)
/-- the text's world over a church that is told -/
abbrev WTc (nu : Nat → Nat) (z a : Nat) (ft : Int32) (c : CHU) (hy sd : Int32) (f : Nat → Int64) : dmW := WT nu z a ft c.1 c.2.1 c.2.2.1 c.2.2.2 hy sd f
/-- the numbers that an item needs are such as may be -/
def nuO (F : Nat → Nat → Nat) (n t i : Nat) (nu : Nat → Nat) : Prop := ∀ j, j < nns i → okv F n t i j (nu j) = true
theorem c_T_tell {i : Nat} (hi : i < 5) (hn : n ≤ 12) (ht : t ≤ 6) (hrm : rmB n t i = true) (hnu : nuO F n t i nu) : GM0 E mT_tell (d + 2) [R 0, I (nI i)] (WTc nu z a ft (F, n, t, wt) hy sd f) (dmE none (WTc nu z a ft (tel (F, n, t, wt) nu i) hy sd f)) := by
  refine gm okT_tell rfl ?_
  refine gr rfl ?_
  have hc : i = 0 ∨ i = 1 ∨ i = 2 ∨ i = 3 ∨ i = 4 := by omega
  rcases hc with rfl | rfl | rfl | rfl | rfl
  · have ht6 : t < 6 := of_decide_eq_true hrm
    refine G_tsw 0 rfl (by decide) (by decide) rfl ?_
    refine gr rfl ?_
    refine gld 0 rfl rfl rfl (by decide) ?_
    refine cV tIs U1 U1 rfl rfl rfl (c_C_addTune (F := F) (n := n) (t := t) (wt := wt) (hy := hy) (sd := sd) (h := nu 0) ht6) rfl rfl rfl rfl rfl rfl rfl rfl ?_
    refine gr rfl ?_
    exact gretv rfl rfl ⟨rfl, rfl⟩
  · have hn12 : n < 12 := of_decide_eq_true hrm
    refine G_tsw 1 rfl (by decide) (by decide) rfl ?_
    refine gr rfl ?_
    refine gld 0 rfl rfl rfl (by decide) ?_
    refine gr rfl ?_
    refine gld 1 rfl rfl rfl (by decide) ?_
    refine gr rfl ?_
    refine gld 2 rfl rfl rfl (by decide) ?_
    refine gr rfl ?_
    refine gld 3 rfl rfl rfl (by decide) ?_
    refine gr rfl ?_
    refine gld 4 rfl rfl rfl (by decide) ?_
    refine cV tIs U1 U1 rfl rfl rfl (c_C_addVoice (F := F) (n := n) (t := t) (wt := wt) (hy := hy) (sd := sd) (k := nu 0) (a := nu 1) (p := nu 2) (b := nu 3) (tp := nu 4) (by omega)) rfl rfl rfl rfl rfl rfl rfl rfl ?_
    refine gr rfl ?_
    exact gretv rfl rfl ⟨rfl, rfl⟩
  · have h0 : nu 0 < n := of_decide_eq_true (hnu 0 (by decide))
    have h1 : nu 1 < t := of_decide_eq_true (hnu 1 (by decide))
    refine G_tsw 2 rfl (by decide) (by decide) rfl ?_
    refine gr rfl ?_
    refine gld 0 rfl rfl rfl (by decide) ?_
    refine gr rfl ?_
    refine gld 1 rfl rfl rfl (by decide) ?_
    refine gr rfl ?_
    refine cV tIs U1 U1 rfl rfl rfl (c_C_learn (F := F) (n := n) (t := t) (wt := wt) (hy := hy) (sd := sd) (v := nu 0) (k := nu 1) (by omega) (by omega) true) rfl rfl rfl rfl rfl rfl rfl rfl ?_
    refine gr rfl ?_
    exact gretv rfl rfl ⟨rfl, rfl⟩
  · have h0 : nu 0 < n := of_decide_eq_true (hnu 0 (by decide))
    refine G_tsw 3 rfl (by decide) (by decide) rfl ?_
    refine gr rfl ?_
    refine gld 0 rfl rfl rfl (by decide) ?_
    refine gr rfl ?_
    refine gld 1 rfl rfl rfl (by decide) ?_
    refine gst (nu 0) (nu 1) rfl rfl rfl rfl (by omega) rfl ?_
    refine gr rfl ?_
    exact gretv rfl rfl ⟨rfl, rfl⟩
  · refine G_tswOut rfl (Or.inr (by decide)) ?_
    refine gr rfl ?_
    refine gld 0 rfl rfl rfl (by decide) ?_
    refine gr rfl ?_
    exact gretv rfl rfl ⟨rfl, rfl⟩
end TY
end
section
/-! TEXTS: an item, all items -/
theorem nmb_pos {z : Nat} {f : Nat → Int64} {a : Nat} (ha : a ≤ z) : a + (nmb (Lf z f) a).1 ≤ z := by
  have key : ∀ a, dg (Lf z f a) = true → a < z := fun a h => by
    obtain ⟨h1, h2⟩ := dg_dv h
    exact Lf_lt h2 (by omega)
  unfold nmb
  split
  · rename_i h
    have h1 := key a h
    split
    · rename_i h2
      have h3 := key (a + 1) h2
      show a + 2 ≤ z
      omega
    · show a + 1 ≤ z
      omega
  · exact ha
theorem num_le {z : Nat} {f : Nat → Int64} {ok : Nat → Bool} {a : Nat} (h : (num (Lf z f) ok a).1 = true) : a < z ∧ a < (num (Lf z f) ok a).2.1 ∧ (num (Lf z f) ok a).2.1 ≤ z := by
  unfold num at h ⊢
  by_cases h1 : Lf z f a = 32
  · have hz : a < z := Lf_lt (c := 32) h1 (by decide)
    rw [if_pos h1] at h ⊢
    split at h
    · cases h
    · rename_i h2
      rw [if_neg h2]
      refine ⟨hz, ?_, nmb_pos (by omega)⟩
      show a < a + 1 + _
      omega
  · rw [if_neg h1] at h
    cases h
theorem nsq_pos {z : Nat} {f : Nat → Int64} {ok : Nat → Nat → Bool} : ∀ (m j a : Nat) (nu : Nat → Nat), a ≤ z → (nsq (Lf z f) ok m j a nu).1 = true → a ≤ (nsq (Lf z f) ok m j a nu).2.1 ∧ (nsq (Lf z f) ok m j a nu).2.1 ≤ z
  | 0, j, a, nu, ha, _ => ⟨Nat.le_refl a, ha⟩
  | m + 1, j, a, nu, ha, h => by
    simp only [nsq] at h ⊢
    by_cases h1 : (num (Lf z f) (ok j) a).1 = true
    · rw [if_pos h1] at h ⊢
      obtain ⟨h2, h3, h4⟩ := num_le h1
      have := nsq_pos m (j + 1) _ _ h4 h
      omega
    · rw [if_neg h1] at h
      cases h
theorem tw_pos {z : Nat} {f : Nat → Int64} : ∀ (cs : List Nat) (a : Nat), (∀ c ∈ cs, c < 128) → a ≤ z → (tw (Lf z f) cs a).1 = true → (tw (Lf z f) cs a).2 = a + cs.length ∧ (tw (Lf z f) cs a).2 ≤ z
  | [], a, _, ha, _ => ⟨rfl, ha⟩
  | c :: cs, a, hc, ha, h => by
    simp only [tw] at h ⊢
    by_cases h1 : Lf z f a = nI c
    · rw [if_pos h1] at h ⊢
      have h2 := Lf_lt h1 (by have := hc c List.mem_cons_self; omega)
      obtain ⟨h3, h4⟩ := tw_pos cs (a + 1) (fun x hx => hc x (List.mem_cons_of_mem _ hx)) (by omega) h
      refine ⟨?_, h4⟩
      rw [h3, List.length_cons]
      omega
    · rw [if_neg h1] at h
      cases h
theorem wcd_small : ∀ i, i < 10 → ∀ c ∈ wcd i, c < 128 := by decide
/-- what was there before in 'numbers' doesn't matter -/
theorem nsq_nu {L : Nat → Int32} {ok : Nat → Nat → Bool} : ∀ (m j a : Nat) (nu nu' : Nat → Nat), (nsq L ok m j a nu).1 = (nsq L ok m j a nu').1 ∧ (nsq L ok m j a nu).2.1 = (nsq L ok m j a nu').2.1
  | 0, j, a, nu, nu' => ⟨rfl, rfl⟩
  | m + 1, j, a, nu, nu' => by
    simp only [nsq]
    by_cases h1 : (num L (ok j) a).1 = true
    · rw [if_pos h1, if_pos h1]
      exact nsq_nu m (j + 1) _ _ _
    · rw [if_neg h1, if_neg h1]
      exact ⟨rfl, rfl⟩
theorem nsq_at {L : Nat → Int32} {ok : Nat → Nat → Bool} : ∀ (m j a : Nat) (nu nu' : Nat → Nat) (x : Nat), (nsq L ok m j a nu).1 = true → (j ≤ x ∧ x < j + m ∨ nu x = nu' x) → (nsq L ok m j a nu).2.2 x = (nsq L ok m j a nu').2.2 x
  | 0, j, a, nu, nu', x, _, h => by
    rcases h with h | h
    · omega
    · exact h
  | m + 1, j, a, nu, nu', x, h0, h => by
    simp only [nsq] at h0 ⊢
    by_cases h1 : (num L (ok j) a).1 = true
    · rw [if_pos h1] at h0 ⊢
      rw [if_pos h1]
      refine nsq_at m (j + 1) _ _ _ x h0 ?_
      by_cases hx : x = j
      · subst hx
        right
        unfold va_up
        rw [if_pos rfl, if_pos rfl]
      · rcases h with h | h
        · left; omega
        · right
          unfold va_up
          rw [if_neg hx, if_neg hx, h]
    · rw [if_neg h1] at h0
      cases h0
theorem num_ok {L : Nat → Int32} {ok : Nat → Bool} {a : Nat} (h : (num L ok a).1 = true) : ok (num L ok a).2.2 = true := by
  unfold num at h ⊢
  by_cases h1 : L a = 32
  · rw [if_pos h1] at h ⊢
    split at h
    · cases h
    · rename_i h2
      rw [if_neg h2]
      cases hk : ok (nmb L (a + 1)).2 with
      | true => rfl
      | false => exact absurd (Or.inr hk) h2
  · rw [if_neg h1] at h
    cases h
theorem nsq_ok {L : Nat → Int32} {ok : Nat → Nat → Bool} : ∀ (m j a : Nat) (nu : Nat → Nat), (nsq L ok m j a nu).1 = true → (∀ x, x < j → ok x (nu x) = true) → ∀ x, x < j + m → ok x ((nsq L ok m j a nu).2.2 x) = true
  | 0, j, a, nu, _, h, x, hx => h x (by omega)
  | m + 1, j, a, nu, h0, h, x, hx => by
    simp only [nsq] at h0 ⊢
    by_cases h1 : (num L (ok j) a).1 = true
    · rw [if_pos h1] at h0 ⊢
      refine nsq_ok m (j + 1) _ _ h0 (fun y hy => ?_) x (by omega)
      unfold va_up
      by_cases e : y = j
      · subst e
        rw [if_pos rfl]
        exact num_ok h1
      · rw [if_neg e]
        exact h y (by omega)
    · rw [if_neg h1] at h0
      cases h0
theorem tel_nu (c : CHU) {nu nu' : Nat → Nat} {i : Nat} (h : ∀ x, x < nns i → nu x = nu' x) (hi : i < 5) : tel c nu i = tel c nu' i := by
  have hc : i = 0 ∨ i = 1 ∨ i = 2 ∨ i = 3 ∨ i = 4 := by omega
  rcases hc with rfl | rfl | rfl | rfl | rfl
  · simp only [tel, h 0 (by decide)]
  · simp only [tel, h 0 (by decide), h 1 (by decide), h 2 (by decide), h 3 (by decide), h 4 (by decide)]
  · simp only [tel, h 0 (by decide), h 1 (by decide)]
  · simp only [tel, h 0 (by decide), h 1 (by decide)]
  · simp only [tel, h 0 (by decide)]
/-- an item from a on: done, where it ends (or the fault), what stands then -/
def itm (L : Nat → Int32) (c : CHU) (a : Nat) : Bool × Nat × CHU := match itf L a with
  | none => (false, a, c)
  | some i => if (itn L c (fun _ => 0) i a).1 then (true, (itn L c (fun _ => 0) i a).2.1, tel c (itn L c (fun _ => 0) i a).2.2 i) else (false, (itn L c (fun _ => 0) i a).2.1, c)
def okC (c : CHU) : Prop := c.2.1 ≤ 12 ∧ c.2.2.1 ≤ 6
theorem itf_lt {L : Nat → Int32} {a i : Nat} (h : itf L a = some i) : i < 5 := by
  have key : ∀ (m v : Nat), ∀ u, ffst (fun i => decide (L a = nI (chr i 0))) m v = some u → u < v + m := by
    intro m
    induction m with
    | zero => intro v u h; cases h
    | succ m ih =>
      intro v u h
      simp only [ffst] at h
      split at h
      · cases h; omega
      · have := ih (v + 1) u h
        omega
  exact key 5 0 i h
section TZ
variable {E : dmX} {d : Nat} {nu : Nat → Nat} {z a : Nat} {ft : Int32} {c : CHU} {hy sd : Int32} {f : Nat → Int64}
def rIQ (z : Nat) (ft : Int32) (c c' : CHU) (hy sd : Int32) (f : Nat → Int64) (ok : Bool) (q : Nat) : Option Value → dmW → Prop := fun r w => r = some (I (bI ok)) ∧ (ok = true → ∃ nu', w = WTc nu' z q ft c' hy sd f) ∧ (ok = false → ∃ nu' a', w = WTc nu' z a' (nI q) c hy sd f)
theorem rIQ_f {c' : CHU} {q : Nat} (nu : Nat → Nat) (a' : Nat) : rIQ z ft c c' hy sd f false q (some (I (bI false))) (WTc nu z a' (nI q) c hy sd f) := ⟨rfl, fun h => (by cases h), fun _ => ⟨nu, a', rfl⟩⟩
theorem nsq_f {L : Nat → Int32} {ok : Nat → Nat → Bool} {m j a q : Nat} {nu : Nat → Nat} (e : num L (ok j) a = (false, q, 0)) : nsq L ok (m + 1) j a nu = (false, q, nu) := by
  simp only [nsq]
  rw [e]
  exact if_neg Bool.false_ne_true
theorem nsq_t {L : Nat → Int32} {ok : Nat → Nat → Bool} {m j a q v : Nat} {nu : Nat → Nat} (e : num L (ok j) a = (true, q, v)) : nsq L ok (m + 1) j a nu = nsq L ok m (j + 1) q (va_up nu j v) := by
  simp only [nsq]
  rw [e]
  exact if_pos rfl
theorem l_T_readItem {i s : Nat} (hi : i < 5) (hz : z ≤ 160) (hc : okC c) (hrm : rmB c.2.1 c.2.2.1 i = true) : ∀ (m j a : Nat) (nu : Nat → Nat), j + m = nns i → a ≤ z → (∀ x, x < j → okv c.1 c.2.1 c.2.2.1 i x (nu x) = true) →
    GW0 E mT_readItem (d + 6) (31, [R 0, I (nI s), I (nI i), I (nI j)], [], WTc nu z a ft c hy sd f) (rIQ z ft c (tel c (nsq (Lf z f) (okv c.1 c.2.1 c.2.2.1 i) m j a nu).2.2 i) hy sd f (nsq (Lf z f) (okv c.1 c.2.1 c.2.2.1 i) m j a nu).1 (nsq (Lf z f) (okv c.1 c.2.1 c.2.2.1 i) m j a nu).2.1) := by
  have htab : ∀ i, i < 5 → (dmTab 1).getD i 0 = nI (nns i) ∧ nns i ≤ 5 := by decide
  obtain ⟨ht1, ht2⟩ := htab i hi
  intro m
  induction m with
  | zero =>
    intro j a nu hj ha hnu
    have hjn : j = nns i := by omega
    refine gr rfl ?_
    refine G_tald 1 i rfl (by decide) rfl hi ?_
    rw [ht1]
    refine gl j (nns i) rfl (by omega) (by omega) (fun h => absurd h (by omega)) (fun _ => ?_)
    refine gr rfl ?_
    refine cV0 rfl rfl rfl (c_T_tell (F := c.1) (n := c.2.1) (t := c.2.2.1) (wt := c.2.2.2) hi hc.1 hc.2 hrm (fun x hx => hnu x (by omega))) rfl rfl rfl ?_
    refine gr rfl ?_
    exact gretz true rfl rfl rfl ⟨rfl, fun _ => ⟨nu, rfl⟩, fun h => (by cases h)⟩
  | succ m ih =>
    intro j a nu hj ha hnu
    refine gr rfl ?_
    refine G_tald 1 i rfl (by decide) rfl hi ?_
    rw [ht1]
    refine gl j (nns i) rfl (by omega) (by omega) (fun hjl => ?_) (fun h => absurd h (by omega))
    refine gr rfl ?_
    have hT := c_T_takeLetter (E := E) (d := d + 3) (nu := nu) (z := z) (a := a) (ft := ft) (F := c.1) (n := c.2.1) (t := c.2.2.1) (wt := c.2.2.2) (hy := hy) (sd := sd) (f := f) hz ha 32
    by_cases h : Lf z f a = 32
    · have haz : a < z := Lf_lt (c := 32) h (by decide)
      rw [decide_eq_true h, if_pos h] at hT
      refine cV0 rfl rfl rfl hT rfl rfl rfl ?_
      refine gf rfl (by decide) ?_
      refine gr rfl ?_
      refine G_callV0 rfl rfl rfl rfl rfl (c_T_takeNumber (E := E) (d := d + 1) (nu := nu) (z := z) (a := a + 1) (ft := ft) (F := c.1) (n := c.2.1) (t := c.2.2.1) (wt := c.2.2.2) (hy := hy) (sd := sd) (f := f) hi hjl hz (by omega) (by have := hc.1; omega) hc.2) (Nat.le_of_ble_eq_true rfl) (Nat.le_refl 0) (Nat.le_refl 0) (fun r w1 hq => ?_)
      by_cases hn : (nmb (Lf z f) (a + 1)).1 = 0 ∨ okv c.1 c.2.1 c.2.2.1 i j (nmb (Lf z f) (a + 1)).2 = false
      · rw [if_pos hn] at hq
        obtain ⟨rfl, a', rfl⟩ := hq
        have e : num (Lf z f) (okv c.1 c.2.1 c.2.2.1 i j) a = (false, a + 1, 0) := by
          unfold num
          rw [if_pos h, if_pos hn]
        refine ⟨rfl, ?_⟩
        refine gt rfl rfl ?_
        refine gr rfl ?_
        rw [nsq_f e]
        exact gretz false rfl rfl rfl (rIQ_f nu a')
      · rw [if_neg hn] at hq
        obtain ⟨rfl, rfl⟩ := hq
        have e : num (Lf z f) (okv c.1 c.2.1 c.2.2.1 i j) a = (true, a + 1 + (nmb (Lf z f) (a + 1)).1, (nmb (Lf z f) (a + 1)).2) := by
          unfold num
          rw [if_pos h, if_neg hn]
        refine ⟨rfl, ?_⟩
        refine gf rfl (by decide) ?_
        refine gr rfl ?_
        rw [nI_1]
        have h9 := ih (j + 1) (a + 1 + (nmb (Lf z f) (a + 1)).1) (va_up nu j (nmb (Lf z f) (a + 1)).2) (by omega) (nmb_pos (by omega)) (fun x hx => by
          unfold va_up
          by_cases ex : x = j
          · subst ex
            rw [if_pos rfl]
            cases hk : okv c.1 c.2.1 c.2.2.1 i x (nmb (Lf z f) (a + 1)).2 with
            | true => rfl
            | false => exact absurd (Or.inr hk) hn
          · rw [if_neg ex]
            exact hnu x (by omega))
        rw [nsq_t e]
        exact h9
    · rw [decide_eq_false h, if_neg h] at hT
      have e : num (Lf z f) (okv c.1 c.2.1 c.2.2.1 i j) a = (false, a, 0) := by
        unfold num
        rw [if_neg h]
      refine cV0 rfl rfl rfl hT rfl rfl rfl ?_
      refine gt rfl rfl ?_
      refine gr rfl ?_
      rw [nsq_f e]
      exact gretz false rfl rfl rfl (rIQ_f nu a)
theorem c_T_readItem (hz : z ≤ 160) (ha : a ≤ z) (hc : okC c) : GM0 E mT_readItem (d + 6) [R 0] (WTc nu z a ft c hy sd f) (rIQ z ft c (itm (Lf z f) c a).2.2 hy sd f (itm (Lf z f) c a).1 (itm (Lf z f) c a).2.1) := by
  refine gm okT_readItem rfl ?_
  refine gr rfl ?_
  refine cV0 rfl rfl rfl (c_T_itemAt hz ha) rfl rfl rfl ?_
  refine gr rfl ?_
  cases hi : itf (Lf z f) a with
  | none =>
    refine gt rfl rfl ?_
    refine gr rfl ?_
    refine cV0 rfl rfl rfl (c_T_faultAt (nI a)) rfl rfl rfl ?_
    have e : itm (Lf z f) c a = (false, a, c) := by simp only [itm, hi]
    rw [e]
    exact gretz false rfl rfl rfl (rIQ_f nu a)
  | some i =>
    have hi5 := itf_lt hi
    refine gf rfl (by
      show ¬ nI i = -1
      intro h
      have h2 := congrArg Int32.toInt h
      rw [nI_toInt (by omega)] at h2
      have h3 : (-1 : Int32).toInt = -1 := by decide
      omega) ?_
    refine gr rfl ?_
    refine cS [] U1 U1 rfl rfl rfl (c_T_wordOf hi5) rfl rfl rfl rfl rfl rfl ?_
    refine G_callV0 rfl rfl rfl rfl rfl (c_T_takeWord (E := E) (d := d) (nu := nu) (z := z) (a := a) (ft := ft) (F := c.1) (n := c.2.1) (t := c.2.2.1) (wt := c.2.2.2) (hy := hy) (sd := sd) (f := f) hi5 hz ha) (Nat.le_of_ble_eq_true rfl) (Nat.le_refl 0) (Nat.le_refl 0) (fun r w1 hq => ?_)
    obtain ⟨rfl, hw⟩ := hq
    have em : itm (Lf z f) c a = (if (itn (Lf z f) c (fun _ => 0) i a).1 then (true, (itn (Lf z f) c (fun _ => 0) i a).2.1, tel c (itn (Lf z f) c (fun _ => 0) i a).2.2 i) else (false, (itn (Lf z f) c (fun _ => 0) i a).2.1, c)) := by simp only [itm, hi]
    cases htw : (tw (Lf z f) (wcd i) a).1 with
    | false =>
      rw [htw] at hw
      obtain ⟨a', rfl⟩ := hw
      refine ⟨rfl, ?_⟩
      refine gt rfl rfl ?_
      refine gr rfl ?_
      have e : itn (Lf z f) c (fun _ => 0) i a = (false, (tw (Lf z f) (wcd i) a).2, fun _ => 0) := by
        unfold itn
        rw [if_neg (by rw [htw]; decide)]
      rw [em, e]
      exact gretz false rfl rfl rfl (rIQ_f nu a')
    | true =>
      rw [htw] at hw
      have hw : w1 = WTc nu z (tw (Lf z f) (wcd i) a).2 ft c hy sd f := hw
      subst hw
      have hpos := (tw_pos (wcd i) a (wcd_small i (by omega)) ha htw).2
      refine ⟨rfl, ?_⟩
      refine gf rfl (by decide) ?_
      refine gr rfl ?_
      refine cV0 rfl rfl rfl (c_T_hasRoomFor hi5 (by have := hc.1; omega) hc.2) rfl rfl rfl ?_
      cases hrm : rmB c.2.1 c.2.2.1 i with
      | false =>
        refine gt rfl rfl ?_
        refine gr rfl ?_
        refine cV0 rfl rfl rfl (c_T_faultAt (nI a)) rfl rfl rfl ?_
        have e : itn (Lf z f) c (fun _ => 0) i a = (false, a, fun _ => 0) := by
          unfold itn
          rw [if_pos htw, if_neg (by rw [hrm]; decide)]
        rw [em, e]
        exact gretz false rfl rfl rfl (rIQ_f nu _)
      | true =>
        refine gf rfl (by decide) ?_
        refine grn 2 rfl ?_
        have h9 := l_T_readItem (E := E) (d := d) (z := z) (ft := ft) (c := c) (hy := hy) (sd := sd) (f := f) (s := a) hi5 hz hc hrm (nns i) 0 (tw (Lf z f) (wcd i) a).2 nu (by omega) hpos (fun x hx => by omega)
        have e : itn (Lf z f) c (fun _ => 0) i a = nsq (Lf z f) (okv c.1 c.2.1 c.2.2.1 i) (nns i) 0 (tw (Lf z f) (wcd i) a).2 (fun _ => 0) := by
          unfold itn
          rw [if_pos htw, if_pos hrm]
        obtain ⟨n1, n2⟩ := nsq_nu (L := Lf z f) (ok := okv c.1 c.2.1 c.2.2.1 i) (nns i) 0 (tw (Lf z f) (wcd i) a).2 nu (fun _ => 0)
        rw [em, e, ← n1, ← n2]
        cases hk : (nsq (Lf z f) (okv c.1 c.2.1 c.2.2.1 i) (nns i) 0 (tw (Lf z f) (wcd i) a).2 nu).1 with
        | false =>
          rw [hk] at h9
          rw [if_neg (by decide)]
          refine GW_mono ?_ h9
          rintro r w ⟨q1, q2, q3⟩
          exact ⟨q1, fun h => (by cases h), q3⟩
        | true =>
          rw [hk] at h9
          rw [if_pos rfl]
          have et : tel c (nsq (Lf z f) (okv c.1 c.2.1 c.2.2.1 i) (nns i) 0 (tw (Lf z f) (wcd i) a).2 nu).2.2 i = tel c (nsq (Lf z f) (okv c.1 c.2.1 c.2.2.1 i) (nns i) 0 (tw (Lf z f) (wcd i) a).2 (fun _ => 0)).2.2 i := tel_nu c (fun x hx => nsq_at _ _ _ _ _ x hk (Or.inl ⟨Nat.zero_le x, by omega⟩)) hi5
          rw [et] at h9
          exact h9
end TZ
end
section
/-! TEXTS: all items -/
theorem itm_ok {z : Nat} {f : Nat → Int64} {c : CHU} {a : Nat} (ha : a ≤ z) (hc : okC c) (h : (itm (Lf z f) c a).1 = true) : (itm (Lf z f) c a).2.1 ≤ z ∧ okC (itm (Lf z f) c a).2.2 := by
  unfold itm at h ⊢
  cases hi : itf (Lf z f) a with
  | none => rw [hi] at h; cases h
  | some i =>
    rw [hi] at h
    have hi5 := itf_lt hi
    simp only at h ⊢
    by_cases h1 : (itn (Lf z f) c (fun _ => 0) i a).1 = true
    · rw [if_pos h1]
      unfold itn at h1 ⊢
      by_cases h2 : (tw (Lf z f) (wcd i) a).1 = true
      · rw [if_pos h2] at h1 ⊢
        by_cases h3 : rmB c.2.1 c.2.2.1 i = true
        · rw [if_pos h3] at h1 ⊢
          have h4 := (tw_pos (wcd i) a (wcd_small i (by omega)) ha h2).2
          refine ⟨(nsq_pos _ _ _ _ h4 h1).2, ?_⟩
          have hcs : i = 0 ∨ i = 1 ∨ i = 2 ∨ i = 3 ∨ i = 4 := by omega
          obtain ⟨hc1, hc2⟩ := hc
          rcases hcs with rfl | rfl | rfl | rfl | rfl
          · have := of_decide_eq_true h3
            exact ⟨hc1, by show c.2.2.1 + 1 ≤ 6; omega⟩
          · have := of_decide_eq_true h3
            exact ⟨by show c.2.1 + 1 ≤ 12; omega, hc2⟩
          · exact ⟨hc1, hc2⟩
          · exact ⟨hc1, hc2⟩
          · exact ⟨hc1, hc2⟩
        · rw [if_neg h3] at h1
          cases h1
      · rw [if_neg h2] at h1
        cases h1
    · rw [if_neg h1] at h
      cases h
/-- items from a on: how many were begun, the fault, what stands then -/
def prs (L : Nat → Int32) (z : Nat) : Nat → Nat → CHU → Nat × Int32 × CHU
  | 0, _, c => (0, -1, c)
  | m + 1, a, c =>
    if (itm L c a).1 then
      (if (itm L c a).2.1 < z then
        (if L (itm L c a).2.1 = 59 then ((prs L z m ((itm L c a).2.1 + 1) (itm L c a).2.2).1 + 1, (prs L z m ((itm L c a).2.1 + 1) (itm L c a).2.2).2)
          else (1, nI (itm L c a).2.1, (itm L c a).2.2))
        else (1, -1, (itm L c a).2.2))
      else (1, nI (itm L c a).2.1, c)
section TW
variable {E : dmX} {d : Nat} {nu : Nat → Nat} {z a : Nat} {ft : Int32} {c : CHU} {hy sd : Int32} {f : Nat → Int64}
def pQ (z : Nat) (hy sd : Int32) (f : Nat → Int64) (k : Nat) (ft : Int32) (c : CHU) : Option Value → dmW → Prop := fun r w => r = some (I (nI k)) ∧ ∃ nu' a', w = WTc nu' z a' ft c hy sd f
theorem e_T_readItems {k : Nat} {x5 : Int32} (x3 : Int32) : GW0 E mT_readItems (d + 8) (21, [R 0, R 10, I x3, I (nI k), I 0, I x5], [], WTc nu z a ft c hy sd f) (pQ z hy sd f k ft c) := by
  refine gr rfl ?_
  by_cases hx : nI z < x5
  · refine gt rfl hx ?_
    refine gr rfl ?_
    exact gret rfl rfl ⟨rfl, nu, a, rfl⟩
  · refine gf rfl hx ?_
    refine gr rfl ?_
    refine gt rfl rfl ?_
    refine gr rfl ?_
    exact gret rfl rfl ⟨rfl, nu, a, rfl⟩
theorem l_T_readItems (x3 : Int32) (hz : z ≤ 160) : ∀ (m i k a : Nat) (c : CHU) (nu : Nat → Nat), i + m = z + 1 → a ≤ z → okC c → k ≤ i →
    GW0 E mT_readItems (d + 8) (21, [R 0, R 10, I x3, I (nI k), I 1, I (nI i)], [], WTc nu z a (-1) c hy sd f) (pQ z hy sd f (k + (prs (Lf z f) z m a c).1) (prs (Lf z f) z m a c).2.1 (prs (Lf z f) z m a c).2.2) := by
  intro m
  induction m with
  | zero =>
    intro i k a c nu hi ha hc hk
    refine gr rfl ?_
    refine gl z i rfl (by omega) (by omega) (fun _ => ?_) (fun h => absurd h (by omega))
    refine gr rfl ?_
    exact gret rfl rfl ⟨rfl, nu, a, rfl⟩
  | succ m ih =>
    intro i k a c nu hi ha hc hk
    refine gr rfl ?_
    refine gl z i rfl (by omega) (by omega) (fun h => absurd h (by omega)) (fun _ => ?_)
    refine gr rfl ?_
    refine gf rfl (by decide) ?_
    refine gr rfl ?_
    refine G_callV0 rfl rfl rfl rfl rfl (c_T_readItem (E := E) (d := d + 1) (nu := nu) (z := z) (a := a) (ft := -1) (c := c) (hy := hy) (sd := sd) (f := f) hz ha hc) (Nat.le_of_ble_eq_true rfl) (Nat.le_refl 0) (Nat.le_refl 0) (fun r w1 hq => ?_)
    obtain ⟨rfl, h1, h2⟩ := hq
    simp only [prs]
    cases hr : (itm (Lf z f) c a).1 with
    | false =>
      obtain ⟨nu', a', rfl⟩ := h2 hr
      refine ⟨rfl, ?_⟩
      refine gt rfl rfl ?_
      refine gr rfl ?_
      rw [nI_1, nI_1, if_neg Bool.false_ne_true]
      exact e_T_readItems x3
    | true =>
      obtain ⟨nu', rfl⟩ := h1 hr
      obtain ⟨h3, h4⟩ := itm_ok ha hc hr
      refine ⟨rfl, ?_⟩
      refine gf rfl (by decide) ?_
      refine gr rfl ?_
      rw [if_pos rfl]
      refine gl (itm (Lf z f) c a).2.1 z rfl (by omega) (by omega) (fun hq => ?_) (fun hq => ?_)
      · rw [if_pos hq]
        refine gr rfl ?_
        have hT := c_T_takeLetter (E := E) (d := d + 5) (nu := nu') (z := z) (a := (itm (Lf z f) c a).2.1) (ft := -1) (F := (itm (Lf z f) c a).2.2.1) (n := (itm (Lf z f) c a).2.2.2.1) (t := (itm (Lf z f) c a).2.2.2.2.1) (wt := (itm (Lf z f) c a).2.2.2.2.2) (hy := hy) (sd := sd) (f := f) hz h3 59
        by_cases h : Lf z f (itm (Lf z f) c a).2.1 = 59
        · rw [decide_eq_true h, if_pos h] at hT
          rw [if_pos h]
          refine cV0 rfl rfl rfl hT rfl rfl rfl ?_
          refine gf rfl (by decide) ?_
          refine gr rfl ?_
          rw [nI_1, nI_1]
          have h9 := ih (i + 1) (k + 1) ((itm (Lf z f) c a).2.1 + 1) (itm (Lf z f) c a).2.2 nu' (by omega) (by omega) h4 (by omega)
          rw [Nat.add_assoc k 1, Nat.add_comm 1] at h9
          exact h9
        · rw [decide_eq_false h, if_neg h] at hT
          rw [if_neg h]
          refine cV0 rfl rfl rfl hT rfl rfl rfl ?_
          refine gt rfl rfl ?_
          refine gr rfl ?_
          rw [nI_1, nI_1]
          exact e_T_readItems x3
      · rw [if_neg (Nat.not_lt.mpr hq)]
        refine gr rfl ?_
        rw [nI_1, nI_1]
        exact e_T_readItems x3
theorem c_T_readItems {lt : Value} {z0 a0 zz : Nat} {ft0 : Int32} (hz : zz < 2147483648) (hc : okC c) : GM0 E mT_readItems (d + 8) [R 0, R 10, I (nI zz)] (WTw lt nu z0 a0 ft0 c.1 c.2.1 c.2.2.1 c.2.2.2 hy sd f) (pQ (min zz 160) hy sd f (prs (Lf (min zz 160) f) (min zz 160) (min zz 160 + 1) 0 c).1 (prs (Lf (min zz 160) f) (min zz 160) (min zz 160 + 1) 0 c).2.1 (prs (Lf (min zz 160) f) (min zz 160) (min zz 160 + 1) 0 c).2.2) := by
  refine gm okT_readItems rfl ?_
  refine gr rfl ?_
  refine G_min rfl (Nat.le_of_ble_eq_true rfl) (Nat.le_refl 0) (Nat.le_refl 0) ?_
  have e : (if Int32.ofNat 160 < nI zz then Int32.ofNat 160 else nI zz) = nI (min zz 160) := by
    by_cases h : 160 < zz
    · have h2 : Int32.ofNat 160 < nI zz := (nI_ltI (by decide) hz).mpr h
      rw [if_pos h2, Nat.min_eq_right (by omega)]
      rfl
    · have h2 : ¬ Int32.ofNat 160 < nI zz := fun q => h ((nI_ltI (by decide) hz).mp q)
      rw [if_neg h2, Nat.min_eq_left (by omega)]
  refine grn 13 rfl ?_
  have h9 := l_T_readItems (E := E) (d := d) (hy := hy) (sd := sd) (f := f) (nI zz) (Nat.min_le_right zz 160) (min zz 160 + 1) 0 0 0 c nu (by omega) (Nat.zero_le _) hc (Nat.le_refl 0)
  rw [Nat.zero_add] at h9
  rw [e]
  exact h9
end TW
end
section
/-! THE CONSTRUCTORS -/
section IN
variable {E : dmX} {M : dmM} {d mc ms kc ks i pc idx nx b x4 : Nat} {x3 : Int32} {x5 : List Nat} {ls st : List Value} {w : dmW} {Q : Option Value → dmW → Prop} {S t : dmS}
theorem ga (h : dmGo M 400 S = some t) (k : GW E M d mc ms kc ks t Q) : GW E M d mc ms kc ks S Q := GW_go 400 h k
theorem gob {h a : Nat} (hA : dmAt M.2.2.2.2.1 i = some (pc, .invokespecial idx, nx, a, b, x3, x4, [8])) (k : GW E M (d + 1) mc ms kc ks (nx, ls, st, w) Q) (hcat : (st.map Value.category).sum ≤ 8 := by exact Nat.le_of_ble_eq_true rfl) : GW E M (d + 1) mc ms kc ks (i, ls, .ref h :: st, w) Q := G_obj hA hcat k
theorem gni (n : Nat) {n' : Int32} {h : Nat} {w' : dmW} (hA : dmAt M.2.2.2.2.1 i = some (pc, .newarray .int, nx, idx, b, x3, x4, x5)) (hn' : n' = nI n) (hh : w.length = h) (hw : dmApp w [.inl (0, n, .inl (fun _ => 0))] = some w') (hwf : dmWf h w (ls ++ st) = true)
    (k : GW E M d mc ms (kc + 1) (ks + n) (nx, ls, .ref h :: st, w') Q) (hnb : n ≤ 1000 := by exact Nat.le_of_ble_eq_true rfl) (hkc : kc + 1 ≤ mc := by exact Nat.le_of_ble_eq_true rfl) (hks : ks + n ≤ ms := by exact Nat.le_of_ble_eq_true rfl) : GW E M d mc ms kc ks (i, ls, .int n' :: st, w) Q := G_newi n hA hn' hnb hh hw hwf hkc hks k
theorem gnl (n : Nat) {n' : Int32} {h : Nat} {w' : dmW} (hA : dmAt M.2.2.2.2.1 i = some (pc, .newarray .long, nx, idx, b, x3, x4, x5)) (hn' : n' = nI n) (hh : w.length = h) (hw : dmApp w [.inl (1, n, .inr (.inl (fun _ => 0)))] = some w') (hwf : dmWf h w (ls ++ st) = true)
    (k : GW E M d mc ms (kc + 1) (ks + n) (nx, ls, .ref h :: st, w') Q) (hnb : n ≤ 2000 := by exact Nat.le_of_ble_eq_true rfl) (hkc : kc + 1 ≤ mc := by exact Nat.le_of_ble_eq_true rfl) (hks : ks + n ≤ ms := by exact Nat.le_of_ble_eq_true rfl) : GW E M d mc ms kc ks (i, ls, .int n' :: st, w) Q := G_newl n hA hn' hnb hh hw hwf hkc hks k
theorem gsta (k : Nat) {h n x1 x2 : Nat} {j : Int32} {g : Nat → Int32} {w' : dmW} {y : Int32} (hA : dmAt M.2.2.2.2.1 i = some (pc, .iastore, nx, x1, x2, x3, x4, x5)) (hw : dmGet w h = some (.inl (0, n, .inl g))) (hj : j = nI k) (hk : k < n) (hs : dmSet w h (.inl (0, n, .inl (upd g k y))) = some w') (K : GW E M d mc ms kc ks (nx, ls, st, w') Q) (hn : n < 2147483648 := by decide) : GW E M d mc ms kc ks (i, ls, .int y :: .int j :: .ref h :: st, w) Q := G_iast k hA hw hs hj hk hn K
/-- a static method over no world, in a method that makes objects -/
theorem csa {M' : dmM} {a : Nat} {as st' : List Value} {v : Int32} (hA : dmAt M.2.2.2.2.1 i = some (pc, .invokestatic idx, nx, a, b, x3, x4, [1])) (hT : dmAt dmT a = some M') (hpop : dmPop b st [] = some (as, st')) (hm : GM0 E M' d as [] (dmE (some (.int v)) [])) (hint : as.all dmIsInt = true) (k : GW E M (d + 1) mc ms kc ks (nx, ls, .int v :: st', w) Q) (hcat : (st'.map Value.category).sum ≤ 8 := by exact Nat.le_of_ble_eq_true rfl) (hkc : kc ≤ mc := by exact Nat.le_of_ble_eq_true rfl) (hks : ks ≤ ms := by exact Nat.le_of_ble_eq_true rfl) : GW E M (d + 1) mc ms kc ks (i, ls, st, w) Q := by
  have ha : ∀ as : List Value, as.all dmIsInt = true → dmRnL [] (.retAddr 1) (.retAddr 1) as = some as := by
    intro as
    induction as with
    | nil => intro _; rfl
    | cons v vs ih =>
      intro h
      rw [List.all_cons, Bool.and_eq_true] at h
      cases v <;> simp_all [dmIsInt, dmRnL, dmRnV]
  exact G_callS [] (.retAddr 1) (.retAddr 1) hA hT hpop hm (ha _ hint) rfl rfl rfl rfl rfl hcat hkc hks (fun r2 w2 hq => by
    obtain ⟨q1, q2⟩ := hq
    subst q1; subst q2
    exact ⟨_, _, _, rfl, rfl, rfl, k⟩)
theorem c_C_init : GM E mC_init (d + 1) 7 90 [R 0] [.inr (0, [.null, .null, .null, .null, .null, .null, .null, I 0, I 0, I 0, I 0, I 0])] (dmE none (WC (fun _ _ => 0) 0 0 2 0 1)) := by
  refine GM_of okC_init (by decide) rfl rfl ?_
  refine ga rfl ?_
  refine gob rfl ?_
  refine ga rfl ?_
  refine gni 14 rfl rfl rfl rfl rfl ?_
  refine ga rfl ?_
  refine gni 14 rfl rfl rfl rfl rfl ?_
  refine ga rfl ?_
  refine gni 14 rfl rfl rfl rfl rfl ?_
  refine ga rfl ?_
  refine gni 14 rfl rfl rfl rfl rfl ?_
  refine ga rfl ?_
  refine gni 14 rfl rfl rfl rfl rfl ?_
  refine ga rfl ?_
  refine gni 14 rfl rfl rfl rfl rfl ?_
  refine ga rfl ?_
  refine gni 6 rfl rfl rfl rfl rfl ?_
  refine ga rfl ?_
  exact G_retv rfl rfl (Nat.le_refl _) (Nat.le_refl _) ⟨rfl, rfl⟩
theorem c_V_init : GM E mV_init (d + 1) 1 20 [R 0] [.inr (1, [.null, I 0, I 0, I 0, I 0])] (dmE none (WV (fun _ => 0) 0 0 0 0)) := by
  refine GM_of okV_init (by decide) rfl rfl ?_
  refine ga rfl ?_
  refine gob rfl ?_
  refine ga rfl ?_
  refine gni 20 rfl rfl rfl rfl rfl ?_
  refine ga rfl ?_
  exact G_retv rfl rfl (Nat.le_refl _) (Nat.le_refl _) ⟨rfl, rfl⟩
theorem c_T_init : GM E mT_init (d + 1) 2 5 [R 0, .retAddr 5] [.inr (4, [.null, .null, .null, I 0, I 0, I 0])] (dmE none [.inr (4, [.retAddr 5, R 1, R 2, I 0, I 0, I (-1)]), .inl (0, 5, .inl (nA (fun _ => 0))), .inl (1, 0, .inr (.inl (fun _ => 0)))]) := by
  refine GM_of okT_init (by decide) rfl rfl ?_
  refine ga rfl ?_
  refine gob rfl ?_
  refine ga rfl ?_
  refine gni 5 rfl rfl rfl rfl rfl ?_
  refine ga rfl ?_
  refine gnl 0 rfl rfl rfl rfl rfl ?_
  refine ga rfl ?_
  exact G_retv rfl rfl (Nat.le_refl _) (Nat.le_refl _) ⟨rfl, rfl⟩
theorem c_H_init : GM E mH_init (d + 1) 11 1304 [R 0] [.inr (2, [.null, .null, .null])] (dmE none (WH (fun _ _ => 0) (fun _ => 0) (fun _ => none))) := by
  refine GM_of okH_init (by decide) rfl rfl ?_
  refine ga rfl ?_
  refine gob rfl ?_
  refine ga rfl ?_
  refine G_mna rfl rfl rfl rfl rfl (Nat.le_of_ble_eq_true rfl) (Nat.le_of_ble_eq_true rfl) ?_
  refine ga rfl ?_
  refine gni 8 rfl rfl rfl rfl rfl ?_
  refine ga rfl ?_
  refine gni 8 rfl rfl rfl rfl rfl ?_
  refine ga rfl ?_
  refine gsta 0 rfl rfl rfl (by decide) rfl ?_
  refine ga rfl ?_
  refine gsta 1 rfl rfl rfl (by decide) rfl ?_
  refine ga rfl ?_
  refine gsta 2 rfl rfl rfl (by decide) rfl ?_
  refine ga rfl ?_
  refine gsta 3 rfl rfl rfl (by decide) rfl ?_
  refine ga rfl ?_
  refine gsta 4 rfl rfl rfl (by decide) rfl ?_
  refine ga rfl ?_
  refine gsta 5 rfl rfl rfl (by decide) rfl ?_
  refine ga rfl ?_
  refine gsta 6 rfl rfl rfl (by decide) rfl ?_
  refine ga rfl ?_
  refine gsta 7 rfl rfl rfl (by decide) rfl ?_
  refine ga rfl ?_
  refine G_nrmI (h := 11) (g := oA (fun _ => none)) rfl (fun k hk => ?_) rfl ?_
  · have hc : k = 0 ∨ k = 1 ∨ k = 2 ∨ k = 3 ∨ k = 4 ∨ k = 5 ∨ k = 6 ∨ k = 7 := by omega
    rcases hc with rfl | rfl | rfl | rfl | rfl | rfl | rfl | rfl <;> rfl
  · exact G_retv rfl rfl (Nat.le_refl _) (Nat.le_refl _) ⟨rfl, rfl⟩
/-- the near places up to k are known -/
def nmu (k : Nat) : Nat → Int32 := fun j => if j < k then nI (nmk j) else 0
theorem nmu_up (k : Nat) : upd (nmu k) k (nI (nmk k)) = nmu (k + 1) := by
  funext j
  unfold upd nmu
  by_cases h : j = k
  · subst h
    rw [if_pos rfl, if_pos (by omega)]
  · rw [if_neg h]
    by_cases h2 : j < k
    · rw [if_pos h2, if_pos (by omega)]
    · rw [if_neg h2, if_neg (by omega)]
def WS0 (g : Nat → Int32) : dmW := [.inr (3, [R 1, R 2, .retAddr 5, I 0, I 0, I 0, I 0, I 0, I 0, I 0, I 0]), .inl (0, 24, .inl g), .inl (0, 14, .inl (nA (fun _ => 0)))]
theorem l_S_init : ∀ (m k : Nat), k + m = 24 → GW E mS_init (d + 3) 2 38 2 38 (39, [R 0, .retAddr 5, I (nI k)], [], WS0 (nmu k)) (dmE none (WS0 (nA nmk))) := by
  intro m
  induction m with
  | zero =>
    intro k hk
    have hk24 : k = 24 := by omega
    subst hk24
    refine ga rfl ?_
    refine G_if rfl (fun h => absurd h (by decide)) (fun _ => ?_)
    refine ga rfl ?_
    refine G_nrmI (h := 1) (g := nA nmk) rfl (fun k hk => if_pos hk) rfl ?_
    exact G_retv rfl rfl (Nat.le_refl _) (Nat.le_refl _) ⟨rfl, rfl⟩
  | succ m ih =>
    intro k hk
    have hk24 : k < 24 := by omega
    refine ga rfl ?_
    refine G_if rfl (fun _ => ?_) (fun h => absurd ((nI_ltI (a := k) (b := 24) (by omega) (by decide)).mpr hk24) h)
    · refine ga rfl ?_
      refine csa rfl rfl rfl (c_S_placesNearOne hk24) rfl ?_
      refine gsta k rfl rfl rfl (by omega) rfl ?_
      refine ga rfl ?_
      rw [nmu_up, nI_1]
      exact ih (k + 1) (by omega)
theorem c_S_init : GM E mS_init (d + 3) 2 38 [R 0, .retAddr 5] [.inr (3, [.null, .null, .null, I 0, I 0, I 0, I 0, I 0, I 0, I 0, I 0])] (dmE none (WS0 (nA nmk))) := by
  refine GM_of okS_init (by decide) rfl rfl ?_
  refine ga rfl ?_
  refine gob rfl ?_
  refine ga rfl ?_
  refine gni 24 rfl rfl rfl rfl rfl ?_
  refine ga rfl ?_
  refine gni 14 rfl rfl rfl rfl rfl ?_
  refine GW_go 30 rfl ?_
  refine G_nrmI (h := 1) (g := nmu 0) rfl (fun k _ => (if_neg (Nat.not_lt_zero k)).symm) rfl ?_
  exact l_S_init 24 0 (by omega)
end IN
end
section
/-! THE CLASS ITSELF: its world -/
/-- a church: kind..high, voices, tunes, wait, hymns, seed -/
abbrev CHS : Type := (Nat → Nat → Nat) × Nat × Nat × Nat × Int32 × Int32
/-- shelves: rows, sizes, who is held -/
abbrev HU : Type := (Nat → Nat → Int64) × (Nat → Nat) × (Nat → Option Nat)
/-- singing: whose church, need, inReach, knowing, right, wrong, miming, activeAhead, sameAsAhead, forEver -/
abbrev SU : Type := Nat × (Nat → Nat) × Nat × Nat × Nat × Nat × Nat × Nat × Bool × Bool
/-- text: numbers, letters, size, at, fault -/
abbrev TU : Type := (Nat → Nat) × Nat × Nat × Nat × Int32
/-- moves: bodies, ran, kind, m, k -/
abbrev VU : Type := (Nat → Nat) × Nat × Nat × Int32 × Int32
/-- refusals, hasImage, latestFault -/
abbrev RU : Type := (Nat → Int32) × Bool × Int32
def WO (A K D : CHS) (h : HU) (s : SU) (t : TU) (v : VU) (r : RU) : dmW := [.inr (5, [R 1, R 9, R 17, R 25, R 37, R 40, R 43, R 45, I (bI r.2.1), I r.2.2]),
  .inr (0, [R 2, R 3, R 4, R 5, R 6, R 7, R 8, I (nI A.2.1), I (nI A.2.2.1), I (nI A.2.2.2.1), I A.2.2.2.2.1, I A.2.2.2.2.2]),
  .inl (0, 14, .inl (nA (A.1 0))),
  .inl (0, 14, .inl (nA (A.1 1))),
  .inl (0, 14, .inl (nA (A.1 2))),
  .inl (0, 14, .inl (nA (A.1 3))),
  .inl (0, 14, .inl (nA (A.1 4))),
  .inl (0, 14, .inl (nA (A.1 5))),
  .inl (0, 6, .inl (nA (A.1 6))),
  .inr (0, [R 10, R 11, R 12, R 13, R 14, R 15, R 16, I (nI K.2.1), I (nI K.2.2.1), I (nI K.2.2.2.1), I K.2.2.2.2.1, I K.2.2.2.2.2]),
  .inl (0, 14, .inl (nA (K.1 0))),
  .inl (0, 14, .inl (nA (K.1 1))),
  .inl (0, 14, .inl (nA (K.1 2))),
  .inl (0, 14, .inl (nA (K.1 3))),
  .inl (0, 14, .inl (nA (K.1 4))),
  .inl (0, 14, .inl (nA (K.1 5))),
  .inl (0, 6, .inl (nA (K.1 6))),
  .inr (0, [R 18, R 19, R 20, R 21, R 22, R 23, R 24, I (nI D.2.1), I (nI D.2.2.1), I (nI D.2.2.2.1), I D.2.2.2.2.1, I D.2.2.2.2.2]),
  .inl (0, 14, .inl (nA (D.1 0))),
  .inl (0, 14, .inl (nA (D.1 1))),
  .inl (0, 14, .inl (nA (D.1 2))),
  .inl (0, 14, .inl (nA (D.1 3))),
  .inl (0, 14, .inl (nA (D.1 4))),
  .inl (0, 14, .inl (nA (D.1 5))),
  .inl (0, 6, .inl (nA (D.1 6))),
  .inr (2, [R 26, R 35, R 36]),
  .inr (100, [R 27, R 28, R 29, R 30, R 31, R 32, R 33, R 34]),
  .inl (1, 160, .inr (.inl (h.1 0))),
  .inl (1, 160, .inr (.inl (h.1 1))),
  .inl (1, 160, .inr (.inl (h.1 2))),
  .inl (1, 160, .inr (.inl (h.1 3))),
  .inl (1, 160, .inr (.inl (h.1 4))),
  .inl (1, 160, .inr (.inl (h.1 5))),
  .inl (1, 160, .inr (.inl (h.1 6))),
  .inl (1, 160, .inr (.inl (h.1 7))),
  .inl (0, 8, .inl (nA h.2.1)),
  .inl (0, 8, .inl (oA h.2.2)),
  .inr (3, [R 38, R 39, R s.1, I (nI s.2.2.1), I (nI s.2.2.2.1), I (nI s.2.2.2.2.1), I (nI s.2.2.2.2.2.1), I (nI s.2.2.2.2.2.2.1), I (nI s.2.2.2.2.2.2.2.1), I (bI s.2.2.2.2.2.2.2.2.1), I (bI s.2.2.2.2.2.2.2.2.2)]),
  .inl (0, 24, .inl (nA nmk)),
  .inl (0, 14, .inl (nA s.2.1)),
  .inr (4, [R 17, R 41, R t.2.1, I (nI t.2.2.1), I (nI t.2.2.2.1), I t.2.2.2.2]),
  .inl (0, 5, .inl (nA t.1)),
  .inl (1, 0, .inr (.inl (fun _ => 0))),
  .inr (1, [R 44, I (nI v.2.1), I (nI v.2.2.1), I v.2.2.2.1, I v.2.2.2.2]),
  .inl (0, 20, .inl (nA v.1)),
  .inl (0, 8, .inl r.1)]
def CH0 : CHS := (fun _ _ => 0, 0, 0, 2, 0, 1)
def HU0 : HU := (fun _ _ => 0, fun _ => 0, fun _ => none)
def SU0 : SU := (1, fun _ => 0, 0, 0, 0, 0, 0, 0, false, false)
def TU0 : TU := (fun _ => 0, 42, 0, 0, -1)
def VU0 : VU := (fun _ => 0, 0, 0, 0, 0)
def RU0 : RU := (fun _ => 0, false, -1)
abbrev iA : List Nat := [1, 2, 3, 4, 5, 6, 7, 8]
abbrev iK : List Nat := [9, 10, 11, 12, 13, 14, 15, 16]
abbrev iD : List Nat := [17, 18, 19, 20, 21, 22, 23, 24]
abbrev iH : List Nat := [25, 26, 27, 28, 29, 30, 31, 32, 33, 34, 35, 36]
abbrev iV : List Nat := [43, 44]
def rfU (r : RU) (k : Nat) : RU := (upd r.1 k (r.1 k + 1), r.2)
section OA
variable {E : dmX} {d : Nat} {A K D : CHS} {h : HU} {s : SU} {t : TU} {v : VU} {r : RU}
theorem c_O_refuse (k : Nat) (h1 : 1 ≤ k) (h7 : k ≤ 7) (x : Int32) (hx : -x = nI k) : GM0 E mO_refuse (d + 2) [R 0, I x] (WO A K D h s t v r) (dmE (some (I x)) (WO A K D h s t v (rfU r k))) := by
  refine gm okO_refuse rfl ?_
  refine gr rfl ?_
  refine cs rfl rfl rfl (c_O_within _ 1 7) rfl ?_
  refine gz rfl (fun q => ?_) (fun _ => ?_)
  · have e : wi (-x) 1 7 = true := by
      unfold wi
      rw [hx, Bool.and_eq_true, decide_eq_true_eq, decide_eq_true_eq]
      exact ⟨fun z => absurd ((nI_ltI (a := k) (b := 1) (by omega) (by decide)).mp z) (by omega), fun z => absurd ((nI_ltI (a := 7) (b := k) (by decide) (by omega)).mp z) (by omega)⟩
    rw [e] at q
    cases q
  · refine gr rfl ?_
    refine gldi k rfl rfl hx (by omega) ?_
    refine gr rfl ?_
    refine gsti k rfl rfl hx (by omega) rfl ?_
    refine gr rfl ?_
    exact gret rfl rfl ⟨rfl, rfl⟩
/-- why a shelf is no row: 0 if it is one -/
def noR (h : HU) (x : Int32) : Int32 := if inN x 8 then (if h.2.2 (ix x) = none then -3 else if rwB h.2.2 (ix x) then 0 else -2) else -1
theorem c_O_noRow (x : Int32) (hok : okH h.2.1 h.2.2) : GM0 E mO_noRow (d + 3) [R 0, I x] (WO A K D h s t v r) (dmE (some (I (noR h x))) (WO A K D h s t v r)) := by
  refine gm okO_noRow rfl ?_
  refine gr rfl ?_
  refine cV iH U1 U1 rfl rfl rfl (c_H_has (RW := h.1) (sz := h.2.1) (hd := h.2.2) x) rfl rfl rfl rfl rfl rfl rfl rfl ?_
  refine gz rfl (fun q => ?_) (fun q => ?_)
  · refine gr rfl ?_
    exact gret rfl rfl ⟨by rw [noR, q]; rfl, rfl⟩
  · obtain ⟨h1, h2⟩ := inN_ix q (by decide)
    refine gr rfl ?_
    refine gldi (ix x) rfl rfl h2 h1 ?_
    refine gr rfl ?_
    have e : ∀ y : Option Nat, (∀ z, y = some z → z < 2147483648) → (oI y = -1 ↔ y = none) := by
      intro y hy
      cases y with
      | none => exact ⟨fun _ => rfl, fun _ => rfl⟩
      | some z => exact ⟨fun w => absurd w (by
          show ¬ nI z = -1
          intro w
          have h2 := congrArg Int32.toInt w
          rw [nI_toInt (by have := hy z rfl; omega)] at h2
          have h3 : (-1 : Int32).toInt = -1 := by decide
          omega), fun w => by cases w⟩
    have e1 := e (h.2.2 (ix x)) (fun z hz => by have := (hok (ix x) h1).2 z hz; omega)
    refine gi rfl (fun q2 => ?_) (fun q2 => ?_)
    · refine gr rfl ?_
      exact gret rfl rfl ⟨by rw [noR, if_pos q, if_pos (e1.mp q2)], rfl⟩
    · refine gr rfl ?_
      refine cV iH U1 U1 rfl rfl rfl (c_H_holdsRow (RW := h.1) (sz := h.2.1) (hd := h.2.2) x hok) rfl rfl rfl rfl rfl rfl rfl rfl ?_
      have e2 : hRow h.2.2 x = rwB h.2.2 (ix x) := by rw [hRow, q, Bool.true_and]
      rw [e2]
      refine gz rfl (fun q3 => ?_) (fun q3 => ?_)
      · refine gr rfl ?_
        exact gret rfl rfl ⟨by rw [noR, if_pos q, if_neg (fun z => q2 (e1.mpr z)), q3]; rfl, rfl⟩
      · refine gr rfl ?_
        exact gret rfl rfl ⟨by rw [noR, if_pos q, if_neg (fun z => q2 (e1.mpr z)), q3]; rfl, rfl⟩
theorem c_O_fault : GM0 E mO_fault (d + 1) [R 0] (WO A K D h s t v r) (dmE (some (I r.2.2)) (WO A K D h s t v r)) := by
  refine gm okO_fault rfl ?_
  refine gr rfl ?_
  exact gret rfl rfl ⟨rfl, rfl⟩
theorem c_O_holds (x : Int32) : GM0 E mO_holds (d + 2) [R 0, I x] (WO A K D h s t v r) (dmE (some (I (if inN x 8 then oI (h.2.2 (ix x)) else -1))) (WO A K D h s t v r)) := by
  refine gm okO_holds rfl ?_
  refine gr rfl ?_
  refine cV iH U1 U1 rfl rfl rfl (c_H_has (RW := h.1) (sz := h.2.1) (hd := h.2.2) x) rfl rfl rfl rfl rfl rfl rfl rfl ?_
  refine gz rfl (fun q => ?_) (fun q => ?_)
  · refine gr rfl ?_
    exact gret rfl rfl ⟨by rw [q]; rfl, rfl⟩
  · obtain ⟨h1, h2⟩ := inN_ix q (by decide)
    refine gr rfl ?_
    refine gldi (ix x) rfl rfl h2 h1 ?_
    refine gr rfl ?_
    exact gret rfl rfl ⟨by rw [q]; rfl, rfl⟩
theorem c_O_tune (x : Int32) (ht : A.2.2.1 ≤ 6) : GM0 E mO_tune (d + 3) [R 0, I x] (WO A K D h s t v r) (if inN x 12 = false then dmE (some (I (-6))) (WO A K D h s t v (rfU r 6)) else if A.2.2.1 < 6 then dmE (some (I (nI A.2.2.1))) (WO (adT A.1 A.2.2.1 (ix x), A.2.1, A.2.2.1 + 1, A.2.2.2) K D h s t v r) else dmE (some (I (-7))) (WO A K D h s t v (rfU r 7))) := by
  refine gm okO_tune rfl ?_
  refine gr rfl ?_
  refine cs rfl rfl rfl (c_O_within x 0 11) rfl ?_
  rw [show wi x 0 11 = inN x 12 from wi_in (k := 11) (by decide)]
  refine gz rfl (fun q => ?_) (fun q => ?_)
  · refine gr rfl ?_
    refine cV0 rfl rfl rfl (c_O_refuse 6 (by decide) (by decide) (-6) (by decide)) rfl rfl rfl ?_
    rw [if_pos q]
    exact gret rfl rfl ⟨rfl, rfl⟩
  · obtain ⟨h1, h2⟩ := inN_ix q (by decide)
    rw [if_neg (by rw [q]; decide)]
    refine gr rfl ?_
    refine cV iA U1 U1 rfl rfl rfl (c_C_hasRoomForTune (F := A.1) (n := A.2.1) (t := A.2.2.1) (wt := A.2.2.2.1) (hy := A.2.2.2.2.1) (sd := A.2.2.2.2.2) (by omega)) rfl rfl rfl rfl rfl rfl rfl rfl ?_
    by_cases q2 : A.2.2.1 < 6
    · rw [if_pos q2, decide_eq_true q2]
      refine gf rfl (by decide) ?_
      refine gr rfl ?_
      rw [h2, ix_nI (by omega)]
      refine cV iA U1 U1 rfl rfl rfl (c_C_addTune (F := A.1) (n := A.2.1) (t := A.2.2.1) (wt := A.2.2.2.1) (hy := A.2.2.2.2.1) (sd := A.2.2.2.2.2) q2) rfl rfl rfl rfl rfl rfl rfl rfl ?_
      refine gr rfl ?_
      exact gret rfl rfl ⟨rfl, rfl⟩
    · rw [if_neg q2, decide_eq_false q2]
      refine gt rfl rfl ?_
      refine gr rfl ?_
      refine cV0 rfl rfl rfl (c_O_refuse 7 (by decide) (by decide) (-7) (by decide)) rfl rfl rfl ?_
      refine gr rfl ?_
      exact gret rfl rfl ⟨rfl, rfl⟩
end OA
end
section
/-! THE CLASS ITSELF: what a call answers and what then stands -/
/-- what counts: now, kept, the shelves, the trace, the refusals -/
abbrev UU : Type := CHS × CHS × HU × ((Nat → Nat) × Nat) × RU
def oQ (y : Int32 × UU) : Option Value → dmW → Prop := fun rr w => rr = some (I y.1) ∧ ∃ (D : CHS) (s : SU) (t : TU) (kd : Nat) (m k : Int32), (s.1 = 1 ∨ s.1 = 17) ∧ w = WO y.2.1 y.2.2.1 D y.2.2.2.1 s t (y.2.2.2.2.1.1, y.2.2.2.2.1.2, kd, m, k) y.2.2.2.2.2
def okU (u : UU) : Prop := okF u.1.1 u.1.2.1 u.1.2.2.1 ∧ u.1.2.1 ≤ 12 ∧ u.1.2.2.2.1 < 10 ∧ okH u.2.2.1.2.1 u.2.2.1.2.2 ∧ u.2.2.2.1.2 < 600
/-- refused for the reason k -/
def rfs (u : UU) (k : Nat) : UU := (u.1, u.2.1, u.2.2.1, u.2.2.2.1, rfU u.2.2.2.2 k)
def opNo (u : UU) (k : Nat) : Int32 × UU := (-(nI k), rfs u k)
/-- the number of a reason -/
def rsn (x : Int32) : Nat := ix (-x)
def opRow (u : UU) (x sort n : Int32) : Int32 × UU :=
  if inN x 8 = false then opNo u 1 else if n < 0 then opNo u 4 else if inN sort 4 = false then opNo u 6 else if nI 160 < n then opNo u 7
  else (1, u.1, u.2.1, (va_up u.2.2.1.1 (ix x) (fun _ => 0), va_up u.2.2.1.2.1 (ix x) (ix n), va_up u.2.2.1.2.2 (ix x) (some (100 + ix sort))), u.2.2.2)
def opSet (u : UU) (x i : Int32) (y : Int64) : Int32 × UU :=
  if noR u.2.2.1 x = 0 then (if hEl u.2.2.1.2.1 u.2.2.1.2.2 x i then (1, u.1, u.2.1, (va_up u.2.2.1.1 (ix x) (vp_updL (u.2.2.1.1 (ix x)) (ix i) (lowb ((u.2.2.1.2.2 (ix x)).getD 0 - 100) y)), u.2.2.1.2), u.2.2.2) else opNo u 5) else opNo u (rsn (noR u.2.2.1 x))
def opShow (u : UU) (x y : Int32) : Int32 × UU :=
  if inN x 8 = false then opNo u 1 else if y = -1 then (0, u.1, u.2.1, (u.2.2.1.1, u.2.2.1.2.1, va_up u.2.2.1.2.2 (ix x) none), u.2.2.2) else if inN y u.1.2.1 then (1, u.1, u.2.1, (u.2.2.1.1, u.2.2.1.2.1, va_up u.2.2.1.2.2 (ix x) (some (ix y))), u.2.2.2) else opNo u 1
def opTune (u : UU) (x : Int32) : Int32 × UU :=
  if inN x 12 = false then opNo u 6 else if u.1.2.2.1 < 6 then (nI u.1.2.2.1, (adT u.1.1 u.1.2.2.1 (ix x), u.1.2.1, u.1.2.2.1 + 1, u.1.2.2.2), u.2) else opNo u 7
def opVoice (u : UU) (kd a p b tp : Int32) : Int32 × UU :=
  if inN kd 7 = false then opNo u 1 else if inN a 10 && (frP u.1.1 u.1.2.1 p && (inN b 6 && inN tp 12)) then (if u.1.2.1 < 12 then (nI u.1.2.1, (adV u.1.1 u.1.2.1 (ix kd) (ix a) (ix p) (ix b) (ix tp), u.1.2.1 + 1, u.1.2.2), u.2) else opNo u 7) else opNo u 6
def opKnows (u : UU) (x y : Int32) (b : Bool) : Int32 × UU :=
  if inN x u.1.2.1 && inN y u.1.2.2.1 then (bI ((u.1.1 5 (ix x)).testBit (ix y)), (setK u.1.1 (ix x) (lrn (u.1.1 5 (ix x)) (ix y) b), u.1.2), u.2) else opNo u 1
def opMove (u : UU) (x p : Int32) : Int32 × UU :=
  if inN x u.1.2.1 = false then opNo u 1 else if frP u.1.1 u.1.2.1 p then (nI (u.1.1 2 (ix x)), (va_up u.1.1 2 (va_up (u.1.1 2) (ix x) (ix p)), u.1.2), u.2) else opNo u 6
def opAsk (u : UU) (x : Int32) : Int32 × UU :=
  if inN x 10 = false then opNo u 6 else (nI u.1.2.2.2.1, (u.1.1, u.1.2.1, u.1.2.2.1, ix x, u.1.2.2.2.2), u.2)
def opVoiceOf (u : UU) (x y : Int32) : Int32 × UU :=
  if inN x u.1.2.1 && inN y 6 then (nI (u.1.1 (ix y) (ix x)), u) else opNo u 5
def opHighOf (u : UU) (x : Int32) : Int32 × UU :=
  if inN x u.1.2.2.1 then (nI (u.1.1 6 (ix x)), u) else opNo u 5
section OB
variable {E : dmX} {d : Nat} {A K D : CHS} {h : HU} {s : SU} {t : TU} {v : VU} {r : RU}
theorem oQ_mk {x : Int32} (hs : s.1 = 1 ∨ s.1 = 17) : oQ (x, A, K, h, (v.1, v.2.1), r) (some (I x)) (WO A K D h s t v r) := ⟨rfl, D, s, t, v.2.2.1, v.2.2.2.1, v.2.2.2.2, hs, rfl⟩
/-- refused, and back -/
theorem oNo {M : dmM} (k : Nat) {x : Int32} {Q : Option Value → dmW → Prop} {i pc idx nx a b x4 : Nat} {x3 : Int32} {x5 : List Nat} {ls st : List Value} (hA : dmAt M.2.2.2.2.1 i = some (pc, .invokevirtual idx, nx, a, b, x3, x4, x5)) (hT : dmAt dmT a = some mO_refuse) (hb : b = 1) (hx : x = -(nI k))
    (K' : GW0 E M (d + 2 + 1) (nx, ls, I x :: st, WO A K D h s t v (rfU r k)) Q) (h1 : 1 ≤ k := by decide) (h7 : k ≤ 7 := by decide) (hcat : (st.map Value.category).sum ≤ 8 := by exact Nat.le_of_ble_eq_true rfl) : GW0 E M (d + 2 + 1) (i, ls, I x :: R 0 :: st, WO A K D h s t v r) Q := by
  subst hb
  refine cV0 hA hT rfl (c_O_refuse k h1 h7 x ?_) rfl rfl rfl K' hcat
  rw [hx]
  exact Int32.neg_neg
theorem c_O_tune2 (x : Int32) (hs : s.1 = 1 ∨ s.1 = 17) (hk : okU (A, K, h, (v.1, v.2.1), r)) : GM0 E mO_tune (d + 3) [R 0, I x] (WO A K D h s t v r) (oQ (opTune (A, K, h, (v.1, v.2.1), r) x)) := by
  refine gm okO_tune rfl ?_
  refine gr rfl ?_
  refine cs rfl rfl rfl (c_O_within x 0 11) rfl ?_
  rw [show wi x 0 11 = inN x 12 from wi_in (k := 11) (by decide)]
  unfold opTune
  refine gz rfl (fun q => ?_) (fun q => ?_)
  · refine gr rfl ?_
    refine oNo 6 rfl rfl rfl (by decide) ?_
    rw [if_pos q]
    exact gret rfl rfl (oQ_mk hs)
  · obtain ⟨h1, h2⟩ := inN_ix q (by decide)
    rw [if_neg (by rw [q]; decide)]
    refine gr rfl ?_
    have ht : A.2.2.1 ≤ 6 := hk.1.2.1
    refine cV iA U1 U1 rfl rfl rfl (c_C_hasRoomForTune (F := A.1) (n := A.2.1) (t := A.2.2.1) (wt := A.2.2.2.1) (hy := A.2.2.2.2.1) (sd := A.2.2.2.2.2) (by omega)) rfl rfl rfl rfl rfl rfl rfl rfl ?_
    refine gz rfl (fun q2 => ?_) (fun q2 => ?_)
    · rw [if_neg (of_decide_eq_false q2)]
      refine gr rfl ?_
      refine oNo 7 rfl rfl rfl (by decide) ?_
      refine gr rfl ?_
      exact gret rfl rfl (oQ_mk hs)
    · have q2 := of_decide_eq_true q2
      rw [if_pos q2]
      refine gr rfl ?_
      have e := ix_nI (k := ix x) (by omega)
      generalize ix x = y at *
      subst h2
      refine cV iA U1 U1 rfl rfl rfl (c_C_addTune (F := A.1) (n := A.2.1) (t := A.2.2.1) (wt := A.2.2.2.1) (hy := A.2.2.2.2.1) (sd := A.2.2.2.2.2) q2) rfl rfl rfl rfl rfl rfl rfl rfl ?_
      refine gr rfl ?_
      exact gret rfl rfl (oQ_mk (A := (adT A.1 A.2.2.1 y, A.2.1, A.2.2.1 + 1, A.2.2.2)) hs)
theorem c_O_ask (x : Int32) (hs : s.1 = 1 ∨ s.1 = 17) (hk : okU (A, K, h, (v.1, v.2.1), r)) : GM0 E mO_ask (d + 3) [R 0, I x] (WO A K D h s t v r) (oQ (opAsk (A, K, h, (v.1, v.2.1), r) x)) := by
  refine gm okO_ask rfl ?_
  refine gr rfl ?_
  refine cs rfl rfl rfl (c_O_within x 0 9) rfl ?_
  rw [show wi x 0 9 = inN x 10 from wi_in (k := 9) (by decide)]
  unfold opAsk
  refine gz rfl (fun q => ?_) (fun q => ?_)
  · rw [if_pos q]
    refine gr rfl ?_
    refine oNo 6 rfl rfl rfl (by decide) ?_
    exact gret rfl rfl (oQ_mk hs)
  · obtain ⟨h1, h2⟩ := inN_ix q (by decide)
    rw [if_neg (by rw [q]; decide)]
    generalize ix x = y at *
    subst h2
    refine gr rfl ?_
    exact gret rfl rfl (oQ_mk (A := (A.1, A.2.1, A.2.2.1, y, A.2.2.2.2)) hs)
theorem c_O_highOf (x : Int32) (hs : s.1 = 1 ∨ s.1 = 17) (hk : okU (A, K, h, (v.1, v.2.1), r)) : GM0 E mO_highOf (d + 3) [R 0, I x] (WO A K D h s t v r) (oQ (opHighOf (A, K, h, (v.1, v.2.1), r) x)) := by
  refine gm okO_highOf rfl ?_
  refine gr rfl ?_
  refine cV iA U1 U1 rfl rfl rfl (c_C_hasTune (F := A.1) (n := A.2.1) (t := A.2.2.1) (wt := A.2.2.2.1) (hy := A.2.2.2.2.1) (sd := A.2.2.2.2.2) x) rfl rfl rfl rfl rfl rfl rfl rfl ?_
  unfold opHighOf
  refine gz rfl (fun q => ?_) (fun q => ?_)
  · rw [if_neg (by rw [q]; decide)]
    refine gr rfl ?_
    refine oNo 5 rfl rfl rfl (by decide) ?_
    refine gr rfl ?_
    exact gret rfl rfl (oQ_mk hs)
  · rw [if_pos q]
    have ht : A.2.2.1 ≤ 6 := hk.1.2.1
    obtain ⟨h1, h2⟩ := inN_ix q (by omega)
    refine gr rfl ?_
    refine gld (ix x) rfl rfl h2 (by omega) ?_
    refine gr rfl ?_
    exact gret rfl rfl (oQ_mk hs)
theorem c_O_knows (x y : Int32) (b : Bool) (hs : s.1 = 1 ∨ s.1 = 17) (hk : okU (A, K, h, (v.1, v.2.1), r)) : GM0 E mO_knows (d + 3) [R 0, I x, I y, I (bI b)] (WO A K D h s t v r) (oQ (opKnows (A, K, h, (v.1, v.2.1), r) x y b)) := by
  refine gm okO_knows rfl ?_
  refine gr rfl ?_
  refine cV iA U1 U1 rfl rfl rfl (c_C_hasVoice (F := A.1) (n := A.2.1) (t := A.2.2.1) (wt := A.2.2.2.1) (hy := A.2.2.2.2.1) (sd := A.2.2.2.2.2) x) rfl rfl rfl rfl rfl rfl rfl rfl ?_
  unfold opKnows
  refine gz rfl (fun q => ?_) (fun q => ?_)
  · rw [if_neg (by show ¬ (inN x A.2.1 && _) = true; rw [q]; exact Bool.false_ne_true)]
    refine gr rfl ?_
    refine oNo 1 rfl rfl rfl (by decide) ?_
    exact gret rfl rfl (oQ_mk hs)
  · refine gr rfl ?_
    refine cV iA U1 U1 rfl rfl rfl (c_C_hasTune (F := A.1) (n := A.2.1) (t := A.2.2.1) (wt := A.2.2.2.1) (hy := A.2.2.2.2.1) (sd := A.2.2.2.2.2) y) rfl rfl rfl rfl rfl rfl rfl rfl ?_
    refine gz rfl (fun q2 => ?_) (fun q2 => ?_)
    · rw [if_neg (by show ¬ (inN x A.2.1 && inN y A.2.2.1) = true; rw [q, q2]; exact Bool.false_ne_true)]
      refine gr rfl ?_
      refine oNo 1 rfl rfl rfl (by decide) ?_
      exact gret rfl rfl (oQ_mk hs)
    · rw [if_pos (by show (inN x A.2.1 && inN y A.2.2.1) = true; rw [q, q2]; rfl)]
      have ht : A.2.2.1 ≤ 6 := hk.1.2.1
      have hn : A.2.1 ≤ 12 := hk.2.1
      obtain ⟨h1, h2⟩ := inN_ix q (by omega)
      obtain ⟨h3, h4⟩ := inN_ix q2 (by omega)
      have h5 := (hk.1.2.2.1 (ix x) h1).2.2.2.2.2
      generalize ix x = x' at *
      generalize ix y = y' at *
      subst h2
      subst h4
      refine gr rfl ?_
      refine cV iA U1 U1 rfl rfl rfl (c_C_knowsIt (F := A.1) (n := A.2.1) (t := A.2.2.1) (wt := A.2.2.2.1) (hy := A.2.2.2.2.1) (sd := A.2.2.2.2.2) (v := x') (k := y') (by omega) (by omega) (by show A.1 5 x' < _; have : A.1 5 x' < 64 := h5; omega)) rfl rfl rfl rfl rfl rfl rfl rfl ?_
      refine gr rfl ?_
      refine cV iA U1 U1 rfl rfl rfl (c_C_learn (F := A.1) (n := A.2.1) (t := A.2.2.1) (wt := A.2.2.2.1) (hy := A.2.2.2.2.1) (sd := A.2.2.2.2.2) (v := x') (k := y') (by omega) (by omega) b) rfl rfl rfl rfl rfl rfl rfl rfl ?_
      refine gr rfl ?_
      refine gz rfl (fun q3 => ?_) (fun q3 => ?_)
      · refine gr rfl ?_
        exact gret rfl rfl ⟨by show some (I 0) = some (I (bI ((A.1 5 x').testBit y'))); rw [q3]; rfl, (oQ_mk (A := (setK A.1 x' (lrn (A.1 5 x') y' b), A.2)) (x := 0) hs).2⟩
      · refine gr rfl ?_
        exact gret rfl rfl ⟨by show some (I 1) = some (I (bI ((A.1 5 x').testBit y'))); rw [q3]; rfl, (oQ_mk (A := (setK A.1 x' (lrn (A.1 5 x') y' b), A.2)) (x := 0) hs).2⟩
theorem c_O_move (x p : Int32) (hs : s.1 = 1 ∨ s.1 = 17) (hk : okU (A, K, h, (v.1, v.2.1), r)) : GM0 E mO_move (d + 3) [R 0, I x, I p] (WO A K D h s t v r) (oQ (opMove (A, K, h, (v.1, v.2.1), r) x p)) := by
  refine gm okO_move rfl ?_
  refine gr rfl ?_
  refine cV iA U1 U1 rfl rfl rfl (c_C_hasVoice (F := A.1) (n := A.2.1) (t := A.2.2.1) (wt := A.2.2.2.1) (hy := A.2.2.2.2.1) (sd := A.2.2.2.2.2) x) rfl rfl rfl rfl rfl rfl rfl rfl ?_
  unfold opMove
  have hn : A.2.1 ≤ 12 := hk.2.1
  refine gz rfl (fun q => ?_) (fun q => ?_)
  · rw [if_pos q]
    refine gr rfl ?_
    refine oNo 1 rfl rfl rfl (by decide) ?_
    exact gret rfl rfl (oQ_mk hs)
  · rw [if_neg (by show ¬ inN x A.2.1 = false; rw [q]; decide)]
    refine gr rfl ?_
    refine cV iA U1 U1 rfl rfl rfl (c_C_isFree (F := A.1) (n := A.2.1) (t := A.2.2.1) (wt := A.2.2.2.1) (hy := A.2.2.2.2.1) (sd := A.2.2.2.2.2) p (by omega)) rfl rfl rfl rfl rfl rfl rfl rfl ?_
    refine gz rfl (fun q2 => ?_) (fun q2 => ?_)
    · rw [if_neg (by show ¬ frP A.1 A.2.1 p = true; rw [q2]; decide)]
      refine gr rfl ?_
      refine oNo 6 rfl rfl rfl (by decide) ?_
      exact gret rfl rfl (oQ_mk hs)
    · rw [if_pos q2]
      have q4 := q2
      unfold frP at q4
      rw [Bool.and_eq_true] at q4
      obtain ⟨h1, h2⟩ := inN_ix q (by omega)
      obtain ⟨h3, h4⟩ := inN_ix q4.1 (by decide)
      generalize ix x = x' at *
      generalize ix p = p' at *
      subst h2
      subst h4
      refine gr rfl ?_
      refine gld x' rfl rfl rfl (by omega) ?_
      refine gr rfl ?_
      refine gst x' p' rfl rfl rfl rfl (by omega) rfl ?_
      refine gr rfl ?_
      exact gret rfl rfl (oQ_mk (A := (va_up A.1 2 (va_up (A.1 2) x' p'), A.2)) hs)
end OB
end
section
/-! THE CLASS ITSELF: shelves, voices -/
theorem noR_0 {h : HU} {x : Int32} (q : noR h x = 0) : ix x < 8 ∧ x = nI (ix x) ∧ rwB h.2.2 (ix x) = true := by
  unfold noR at q
  split at q
  · rename_i q1
    obtain ⟨h1, h2⟩ := inN_ix q1 (by decide)
    split at q
    · cases q
    · split at q
      · rename_i q3
        exact ⟨h1, h2, q3⟩
      · cases q
  · cases q
theorem noR_n (h : HU) (x : Int32) : noR h x = 0 ∨ ∃ k, (k = 1 ∨ k = 2 ∨ k = 3) ∧ noR h x = -(nI k) ∧ rsn (noR h x) = k := by
  unfold noR
  split
  · split
    · exact Or.inr ⟨3, Or.inr (Or.inr rfl), by decide, by decide⟩
    · split
      · exact Or.inl rfl
      · exact Or.inr ⟨2, Or.inr (Or.inl rfl), by decide, by decide⟩
  · exact Or.inr ⟨1, Or.inl rfl, by decide, by decide⟩
theorem rwB_of {sz : Nat → Nat} {hd : Nat → Option Nat} {k : Nat} (hok : okH sz hd) (hk : k < 8) (hr : rwB hd k = true) : ∃ q, q < 4 ∧ hd k = some (100 + q) := by
  unfold rwB at hr
  cases hq : hd k with
  | none => rw [hq] at hr; cases hr
  | some x =>
    rw [hq] at hr
    have h1 : 100 ≤ x := of_decide_eq_true hr
    have := (hok k hk).2 x hq
    exact ⟨x - 100, by omega, by congr 1; omega⟩
theorem wo_fs {k : Nat} (h : k < 8) : dmGet [R 27, R 28, R 29, R 30, R 31, R 32, R 33, R 34] k = some (.ref (k + 27)) := by
  match k, h with
  | 0, _ => rfl
  | 1, _ => rfl
  | 2, _ => rfl
  | 3, _ => rfl
  | 4, _ => rfl
  | 5, _ => rfl
  | 6, _ => rfl
  | 7, _ => rfl
theorem wo_row {A K D : CHS} {h : HU} {s : SU} {t : TU} {v : VU} {r : RU} {k : Nat} (q : k < 8) : dmGet (WO A K D h s t v r) (k + 27) = some (.inl (1, 160, .inr (.inl (h.1 k)))) := by
  match k, q with
  | 0, _ => rfl
  | 1, _ => rfl
  | 2, _ => rfl
  | 3, _ => rfl
  | 4, _ => rfl
  | 5, _ => rfl
  | 6, _ => rfl
  | 7, _ => rfl
section OC
variable {E : dmX} {d : Nat} {A K D : CHS} {h : HU} {s : SU} {t : TU} {v : VU} {r : RU}
theorem c_O_row (x so n : Int32) (hs : s.1 = 1 ∨ s.1 = 17) (hk : okU (A, K, h, (v.1, v.2.1), r)) : GM0 E mO_row (d + 3) [R 0, I x, I so, I n] (WO A K D h s t v r) (oQ (opRow (A, K, h, (v.1, v.2.1), r) x so n)) := by
  refine gm okO_row rfl ?_
  refine gr rfl ?_
  refine cV iH U1 U1 rfl rfl rfl (c_H_has (RW := h.1) (sz := h.2.1) (hd := h.2.2) x) rfl rfl rfl rfl rfl rfl rfl rfl ?_
  unfold opRow
  refine gz rfl (fun q => ?_) (fun q => ?_)
  · rw [if_pos q]
    refine gr rfl ?_
    refine oNo 1 rfl rfl rfl (by decide) ?_
    exact gret rfl rfl (oQ_mk hs)
  · rw [if_neg (by rw [q]; decide)]
    refine gr rfl ?_
    refine gi rfl (fun q2 => ?_) (fun q2 => ?_)
    · rw [if_pos q2]
      refine gr rfl ?_
      refine oNo 4 rfl rfl rfl (by decide) ?_
      exact gret rfl rfl (oQ_mk hs)
    · rw [if_neg q2]
      refine gr rfl ?_
      refine cs rfl rfl rfl (c_O_within so 0 3) rfl ?_
      rw [show wi so 0 3 = inN so 4 from wi_in (k := 3) (by decide)]
      refine gz rfl (fun q3 => ?_) (fun q3 => ?_)
      · rw [if_pos q3]
        refine gr rfl ?_
        refine oNo 6 rfl rfl rfl (by decide) ?_
        exact gret rfl rfl (oQ_mk hs)
      · rw [if_neg (by rw [q3]; decide)]
        refine gr rfl ?_
        refine gi rfl (fun q4 => ?_) (fun q4 => ?_)
        · have q4 : nI 160 < n := q4
          rw [if_pos q4]
          refine gr rfl ?_
          refine oNo 7 rfl rfl rfl (by decide) ?_
          exact gret rfl rfl (oQ_mk hs)
        · have q4 : ¬ nI 160 < n := q4
          rw [if_neg q4]
          obtain ⟨h1, h2⟩ := inN_ix q (by decide)
          obtain ⟨h3, h4⟩ := inN_ix q3 (by decide)
          obtain ⟨k, hk1, rfl⟩ := nI_of q2
          have h5 : ix (nI k) = k := ix_nI hk1
          rw [h5]
          have h6 : k ≤ 160 := Nat.le_of_not_lt fun z => q4 ((nI_ltI (a := 160) (b := k) (by decide) hk1).mpr z)
          generalize ix x = x' at *
          generalize ix so = so' at *
          subst h2
          subst h4
          refine gr rfl ?_
          refine cV iH U1 U1 rfl rfl rfl (c_H_holdRow (RW := h.1) (sz := h.2.1) (hd := h.2.2) h1 h3 h6) rfl rfl rfl rfl rfl rfl rfl rfl ?_
          refine gr rfl ?_
          exact gret rfl rfl (oQ_mk (h := (va_up h.1 x' (fun _ => 0), va_up h.2.1 x' k, va_up h.2.2 x' (some (100 + so')))) hs)
theorem c_O_show (x y : Int32) (hs : s.1 = 1 ∨ s.1 = 17) (hk : okU (A, K, h, (v.1, v.2.1), r)) : GM0 E mO_show (d + 3) [R 0, I x, I y] (WO A K D h s t v r) (oQ (opShow (A, K, h, (v.1, v.2.1), r) x y)) := by
  refine gm okO_show rfl ?_
  refine gr rfl ?_
  refine cV iH U1 U1 rfl rfl rfl (c_H_has (RW := h.1) (sz := h.2.1) (hd := h.2.2) x) rfl rfl rfl rfl rfl rfl rfl rfl ?_
  unfold opShow
  have hn : A.2.1 ≤ 12 := hk.2.1
  refine gz rfl (fun q => ?_) (fun q => ?_)
  · rw [if_pos q]
    refine gr rfl ?_
    refine oNo 1 rfl rfl rfl (by decide) ?_
    exact gret rfl rfl (oQ_mk hs)
  · rw [if_neg (by rw [q]; decide)]
    obtain ⟨h1, h2⟩ := inN_ix q (by decide)
    generalize ix x = x' at *
    subst h2
    refine gr rfl ?_
    refine gi rfl (fun q2 => ?_) (fun q2 => ?_)
    · rw [if_pos q2]
      subst q2
      refine gr rfl ?_
      refine gsti x' rfl rfl rfl (by omega) rfl ?_
      rw [show upd (oA h.2.2) x' (-1) = oA (va_up h.2.2 x' none) from oA_up h.2.2 x' none]
      refine gr rfl ?_
      refine gt rfl rfl ?_
      refine gr rfl ?_
      exact gret rfl rfl (oQ_mk (h := (h.1, h.2.1, va_up h.2.2 x' none)) hs)
    · rw [if_neg q2]
      refine gr rfl ?_
      refine cV iA U1 U1 rfl rfl rfl (c_C_hasVoice (F := A.1) (n := A.2.1) (t := A.2.2.1) (wt := A.2.2.2.1) (hy := A.2.2.2.2.1) (sd := A.2.2.2.2.2) y) rfl rfl rfl rfl rfl rfl rfl rfl ?_
      refine gz rfl (fun q3 => ?_) (fun q3 => ?_)
      · rw [if_neg (by show ¬ inN y A.2.1 = true; rw [q3]; decide)]
        refine gr rfl ?_
        refine oNo 1 rfl rfl rfl (by decide) ?_
        exact gret rfl rfl (oQ_mk hs)
      · rw [if_pos q3]
        obtain ⟨h3, h4⟩ := inN_ix q3 (by omega)
        generalize ix y = y' at *
        subst h4
        refine gr rfl ?_
        refine gsti x' rfl rfl rfl (by omega) rfl ?_
        rw [show upd (oA h.2.2) x' (nI y') = oA (va_up h.2.2 x' (some y')) from oA_up h.2.2 x' (some y')]
        refine gr rfl ?_
        refine gf rfl q2 ?_
        refine gr rfl ?_
        exact gret rfl rfl (oQ_mk (h := (h.1, h.2.1, va_up h.2.2 x' (some y'))) hs)
theorem c_O_set (x i : Int32) (y : Int64) (hs : s.1 = 1 ∨ s.1 = 17) (hk : okU (A, K, h, (v.1, v.2.1), r)) : GM0 E mO_set (d + 4) [R 0, I x, I i, J y] (WO A K D h s t v r) (oQ (opSet (A, K, h, (v.1, v.2.1), r) x i y)) := by
  have hok : okH h.2.1 h.2.2 := hk.2.2.2.1
  refine gm okO_set rfl ?_
  refine gr rfl ?_
  refine cV0 rfl rfl rfl (c_O_noRow x hok) rfl rfl rfl ?_
  refine gr rfl ?_
  unfold opSet
  rcases noR_n h x with q | ⟨k, hc, q, q'⟩
  · rw [if_pos q, q]
    refine gt rfl rfl ?_
    refine gr rfl ?_
    refine cV iH U1 U1 rfl rfl rfl (c_H_hasElement (RW := h.1) (sz := h.2.1) (hd := h.2.2) x i hok) rfl rfl rfl rfl rfl rfl rfl rfl ?_
    refine gz rfl (fun q2 => ?_) (fun q2 => ?_)
    · rw [if_neg (by show ¬ hEl h.2.1 h.2.2 x i = true; rw [q2]; decide)]
      refine gr rfl ?_
      refine gf rfl (by decide) ?_
      refine gr rfl ?_
      refine oNo 5 rfl rfl rfl (by decide) ?_
      exact gret rfl rfl (oQ_mk hs)
    · rw [if_pos q2]
      refine gr rfl ?_
      refine gt rfl rfl ?_
      refine gr rfl ?_
      have q3 := q2
      unfold hEl at q3
      rw [Bool.and_eq_true] at q3
      obtain ⟨h1, h2, h3⟩ := hRow_in q3.1
      have h160 := (hok (ix x) h1).1
      obtain ⟨h4, h5⟩ := inN_ix q3.2 (by omega)
      obtain ⟨w, hw, hw2⟩ := rwB_of hok h1 h3
      have e : (h.2.2 (ix x)).getD 0 - 100 = w := by rw [hw2]; show 100 + w - 100 = w; omega
      have hj : ix i < 160 := by omega
      have h9 := c_H_put (E := E) (d := d + 1) (RW := h.1) (sz := h.2.1) (hd := h.2.2) (k := ix x) (j := ix i) (q := w) h1 hj hw hw2 y
      rw [← h2, ← h5] at h9
      refine cV iH U1 U1 rfl rfl rfl h9 rfl rfl rfl rfl rfl rfl rfl rfl ?_
      refine gr rfl ?_
      refine gret rfl rfl ⟨rfl, D, s, t, v.2.2.1, v.2.2.2.1, v.2.2.2.2, hs, ?_⟩
      rw [← e]
      rfl
  · have hne : ¬ noR h x = 0 := by
      rw [q]
      rcases hc with rfl | rfl | rfl <;> decide
    rw [if_neg hne]
    have q4 : rsn (noR h x) = k := q'
    show GW0 _ _ _ _ (oQ (opNo (A, K, h, (v.1, v.2.1), r) (rsn (noR h x))))
    rw [q4]
    refine gf rfl hne ?_
    refine gr rfl ?_
    refine gf rfl hne ?_
    refine gr rfl ?_
    rw [q]
    refine oNo k rfl rfl rfl rfl ?_ (by omega) (by omega)
    exact gret rfl rfl (oQ_mk hs)
theorem c_O_element (x i : Int32) (hok : okH h.2.1 h.2.2) : GM0 E mO_element (d + 4) [R 0, I x, I i] (WO A K D h s t v r) (dmE (some (J (if hEl h.2.1 h.2.2 x i then h.1 (ix x) (ix i) else 0))) (WO A K D h s t v r)) := by
  refine gm okO_element rfl ?_
  refine gr rfl ?_
  refine cV iH U1 U1 rfl rfl rfl (c_H_hasElement (RW := h.1) (sz := h.2.1) (hd := h.2.2) x i hok) rfl rfl rfl rfl rfl rfl rfl rfl ?_
  refine gz rfl (fun q => ?_) (fun q => ?_)
  · refine gr rfl ?_
    exact gretl rfl rfl ⟨by rw [q]; rfl, rfl⟩
  · have q3 := q
    unfold hEl at q3
    rw [Bool.and_eq_true] at q3
    obtain ⟨h1, h2, h3⟩ := hRow_in q3.1
    have h160 := (hok (ix x) h1).1
    obtain ⟨h4, h5⟩ := inN_ix q3.2 (by omega)
    have hj : ix i < 160 := by omega
    refine gr rfl ?_
    refine G_aald (ix x) rfl rfl (wo_fs h1) h2 (by decide) ?_
    refine gr rfl ?_
    refine G_lald (ix i) rfl (wo_row h1) h5 hj (by decide) ?_
    refine gr rfl ?_
    exact gretl rfl rfl ⟨by rw [q]; rfl, rfl⟩
end OC
end
section
/-! THE CLASS ITSELF: what a voice says -/
def abv (k : Nat) : Option Nat := [none, some 0, some 0, some 1, some 0, some 2, some 4].getD k none
/-- k is j or lies under it -/
def und : Nat → Nat → Nat → Bool
  | 0, _, _ => false
  | f + 1, k, j => if k = j then true else match abv k with
    | none => false
    | some k' => und f k' j
def says1 (F : Nat → Nat → Nat) (z j : Nat) : Nat := match j with
  | 1 => F 4 z
  | 3 => F 4 z
  | 2 => F 1 z
  | 5 => F 1 z
  | 4 => pcn 32 (F 5 z)
  | 6 => pcn 32 (F 5 z)
  | _ => F 2 z
def opSays (u : UU) (x y : Int32) : Int32 × UU :=
  if inN x 8 && inN y 7 then (match u.2.2.1.2.2 (ix x) with
    | none => opNo u 3
    | some z => if z < u.1.2.1 ∧ und 7 (u.1.1 0 z) (ix y) = true then (nI (says1 u.1.1 z (ix y)), u) else opNo u 2) else opNo u 1
section OD
variable {E : dmX} {d : Nat} {A K D : CHS} {h : HU} {s : SU} {t : TU} {v : VU} {r : RU}
theorem nI_neg1 {z : Nat} (h : z < 2147483648) : ¬ nI z = -1 := by
  intro w
  have h2 := congrArg Int32.toInt w
  rw [nI_toInt h] at h2
  have h3 : (-1 : Int32).toInt = -1 := by decide
  omega
theorem abv_T : ∀ k, k < 7 → (dmTab 0).getD k 0 = oI (abv k) ∧ ∀ z, abv k = some z → z < 7 := by decide
theorem l_O_isOrIsUnder {j : Nat} {x0 : Value} (hj : j < 7) : ∀ (f i k : Nat), i + f = 7 → k < 7 → GW0 E mO_isOrIsUnder (d + 2) (4, [x0, I (nI j), I (nI k), I (nI i)], [], []) (dmE (some (I (bI (und f k j)))) []) := by
  intro f
  induction f with
  | zero =>
    intro i k hi hk
    have : i = 7 := by omega
    subst this
    refine gr rfl ?_
    refine G_tlen 0 rfl (by decide) ?_
    refine gf rfl (by decide) ?_
    refine gr rfl ?_
    exact gretz false rfl rfl rfl ⟨rfl, rfl⟩
  | succ f ih =>
    intro i k hi hk
    refine gr rfl ?_
    refine G_tlen 0 rfl (by decide) ?_
    refine gt rfl ((nI_ltI (a := i) (b := 7) (by omega) (by decide)).mpr (by omega)) ?_
    refine gr rfl ?_
    refine cs rfl rfl rfl (c_O_isKind (nI k)) rfl ?_
    rw [inN_nI (by omega) (by decide), decide_eq_true hk]
    refine gf rfl (by decide) ?_
    refine gr rfl ?_
    simp only [und]
    refine ge k j rfl (by omega) (by omega) (fun q => ?_) (fun q => ?_)
    · rw [if_pos q]
      refine gr rfl ?_
      exact gretz true rfl rfl rfl ⟨rfl, rfl⟩
    · rw [if_neg q]
      refine gr rfl ?_
      refine G_tald 0 k rfl (by decide) rfl hk ?_
      obtain ⟨e1, e2⟩ := abv_T k hk
      rw [e1]
      cases hq : abv k with
      | some k' =>
        refine gr rfl ?_
        rw [nI_1]
        exact ih (i + 1) k' (by omega) (e2 k' hq)
      | none =>
        refine gr rfl ?_
        rw [nI_1]
        refine gr rfl ?_
        refine G_tlen 0 rfl (by decide) ?_
        by_cases q7 : i + 1 < 7
        · refine gt rfl ((nI_ltI (a := i + 1) (b := 7) (by omega) (by decide)).mpr q7) ?_
          refine gr rfl ?_
          refine cs rfl rfl rfl (c_O_isKind (-1)) rfl ?_
          refine gt rfl rfl ?_
          refine gr rfl ?_
          exact gretz false rfl rfl rfl ⟨rfl, rfl⟩
        · refine gf rfl (fun z => q7 ((nI_ltI (a := i + 1) (b := 7) (by omega) (by decide)).mp z)) ?_
          refine gr rfl ?_
          exact gretz false rfl rfl rfl ⟨rfl, rfl⟩
theorem c_O_isOrIsUnder {k j : Nat} (hk : k < 7) (hj : j < 7) : GM0 E mO_isOrIsUnder (d + 2) [I (nI k), I (nI j)] [] (dmE (some (I (bI (und 7 k j)))) []) := by
  refine gm okO_isOrIsUnder rfl ?_
  refine grn 4 rfl ?_
  exact l_O_isOrIsUnder hj 7 0 k rfl hk
theorem c_O_says (x y : Int32) (hs : s.1 = 1 ∨ s.1 = 17) (hk : okU (A, K, h, (v.1, v.2.1), r)) : GM0 E mO_says (d + 4) [R 0, I x, I y] (WO A K D h s t v r) (oQ (opSays (A, K, h, (v.1, v.2.1), r) x y)) := by
  refine gm okO_says rfl ?_
  refine gr rfl ?_
  refine cV iH U1 U1 rfl rfl rfl (c_H_has (RW := h.1) (sz := h.2.1) (hd := h.2.2) x) rfl rfl rfl rfl rfl rfl rfl rfl ?_
  unfold opSays
  have hn : A.2.1 ≤ 12 := hk.2.1
  refine gz rfl (fun q => ?_) (fun q => ?_)
  · rw [if_neg (by rw [q]; exact Bool.false_ne_true)]
    refine gr rfl ?_
    refine oNo 1 rfl rfl rfl (by decide) ?_
    exact gret rfl rfl (oQ_mk hs)
  · refine gr rfl ?_
    refine cs rfl rfl rfl (c_O_isKind y) rfl ?_
    refine gz rfl (fun q2 => ?_) (fun q2 => ?_)
    · rw [if_neg (by rw [q, q2]; exact Bool.false_ne_true)]
      refine gr rfl ?_
      refine oNo 1 rfl rfl rfl (by decide) ?_
      exact gret rfl rfl (oQ_mk hs)
    · rw [if_pos (by rw [q, q2]; rfl)]
      obtain ⟨h1, h2⟩ := inN_ix q (by decide)
      obtain ⟨h3, h4⟩ := inN_ix q2 (by decide)
      have hok := (hk.2.2.2.1 (ix x) h1).2
      generalize ix x = x' at *
      generalize ix y = y' at *
      subst h2
      subst h4
      refine gr rfl ?_
      refine gldi x' rfl rfl rfl h1 ?_
      cases hz : h.2.2 x' with
      | none =>
        rw [show oA h.2.2 x' = -1 by show oI (h.2.2 x') = -1; rw [hz]; rfl]
        refine gr rfl ?_
        refine gt rfl rfl ?_
        refine gr rfl ?_
        refine oNo 3 rfl rfl rfl (by decide) ?_
        exact gret rfl rfl (oQ_mk hs)
      | some z =>
        have hz2 := hok z hz
        rw [show oA h.2.2 x' = nI z by show oI (h.2.2 x') = nI z; rw [hz]; rfl]
        show GW0 _ _ _ _ (oQ (if z < A.2.1 ∧ und 7 (A.1 0 z) y' = true then (nI (says1 A.1 z y'), (A, K, h, (v.1, v.2.1), r)) else opNo (A, K, h, (v.1, v.2.1), r) 2))
        refine gr rfl ?_
        refine gf rfl (nI_neg1 (by omega)) ?_
        refine gr rfl ?_
        refine cV iA U1 U1 rfl rfl rfl (c_C_hasVoice (F := A.1) (n := A.2.1) (t := A.2.2.1) (wt := A.2.2.2.1) (hy := A.2.2.2.2.1) (sd := A.2.2.2.2.2) (nI z)) rfl rfl rfl rfl rfl rfl rfl rfl ?_
        rw [inN_nI (by omega) (by omega)]
        refine gz rfl (fun q5 => ?_) (fun q5 => ?_)
        · rw [if_neg (fun w => of_decide_eq_false q5 w.1)]
          refine gr rfl ?_
          refine oNo 2 rfl rfl rfl (by decide) ?_
          exact gret rfl rfl (oQ_mk hs)
        · have q5 := of_decide_eq_true q5
          obtain ⟨f0, f1, f2, f3, f4, f5⟩ := hk.1.2.2.1 z q5
          have f0 : A.1 0 z < 7 := f0
          have f5 : A.1 5 z < 64 := f5
          refine gr rfl ?_
          refine gld z rfl rfl rfl (by omega) ?_
          refine gr rfl ?_
          refine cs rfl rfl rfl (c_O_isOrIsUnder f0 h3) rfl ?_
          refine gz rfl (fun q6 => ?_) (fun q6 => ?_)
          · rw [if_neg (fun w => by rw [q6] at w; exact Bool.false_ne_true w.2)]
            refine gr rfl ?_
            refine oNo 2 rfl rfl rfl (by decide) ?_
            exact gret rfl rfl (oQ_mk hs)
          · rw [if_pos ⟨q5, q6⟩]
            refine gr rfl ?_
            have hc : y' = 0 ∨ y' = 1 ∨ y' = 2 ∨ y' = 3 ∨ y' = 4 ∨ y' = 5 ∨ y' = 6 := by omega
            rcases hc with rfl | rfl | rfl | rfl | rfl | rfl | rfl
            · refine G_tswOut rfl (Or.inl (by decide)) ?_
              refine gr rfl ?_
              refine gld z rfl rfl rfl (by omega) ?_
              refine gr rfl ?_
              exact gret rfl rfl (oQ_mk hs)
            · refine G_tsw 0 rfl (by decide) (by decide) rfl ?_
              refine gr rfl ?_
              refine gld z rfl rfl rfl (by omega) ?_
              refine gr rfl ?_
              exact gret rfl rfl (oQ_mk hs)
            · refine G_tsw 1 rfl (by decide) (by decide) rfl ?_
              refine gr rfl ?_
              refine gld z rfl rfl rfl (by omega) ?_
              refine gr rfl ?_
              exact gret rfl rfl (oQ_mk hs)
            · refine G_tsw 2 rfl (by decide) (by decide) rfl ?_
              refine gr rfl ?_
              refine gld z rfl rfl rfl (by omega) ?_
              refine gr rfl ?_
              exact gret rfl rfl (oQ_mk hs)
            · refine G_tsw 3 rfl (by decide) (by decide) rfl ?_
              refine gr rfl ?_
              refine gld z rfl rfl rfl (by omega) ?_
              refine gr rfl ?_
              refine cs rfl rfl rfl (c_J_bitCount (x := A.1 5 z) (by omega)) rfl ?_
              refine gr rfl ?_
              exact gret rfl rfl (oQ_mk hs)
            · refine G_tsw 4 rfl (by decide) (by decide) rfl ?_
              refine gr rfl ?_
              refine gld z rfl rfl rfl (by omega) ?_
              refine gr rfl ?_
              exact gret rfl rfl (oQ_mk hs)
            · refine G_tsw 5 rfl (by decide) (by decide) rfl ?_
              refine gr rfl ?_
              refine gld z rfl rfl rfl (by omega) ?_
              refine gr rfl ?_
              refine cs rfl rfl rfl (c_J_bitCount (x := A.1 5 z) (by omega)) rfl ?_
              refine gr rfl ?_
              exact gret rfl rfl (oQ_mk hs)

end OD
end
section
/-! THE CLASS ITSELF: voices, pairs of rows, a church from a text -/
def opPair (h : HU) (p q : Int32) : Int32 := if noR h p = -1 ∨ noR h q = -1 then -1 else if noR h p = -2 ∨ noR h q = -2 then -2 else if noR h p = -3 ∨ noR h q = -3 then -3 else if h.2.2 (ix p) = h.2.2 (ix q) then 0 else -2
def opCopy (u : UU) (p q i j n : Int32) : Int32 × UU :=
  if opPair u.2.2.1 p q = 0 then (if n < 0 then opNo u 4 else if hPart u.2.2.1.2.1 u.2.2.1.2.2 p i n && hPart u.2.2.1.2.1 u.2.2.1.2.2 q j n then (1, u.1, u.2.1, (va_up u.2.2.1.1 (ix q) (va_cpy (u.2.2.1.1 (ix p)) (u.2.2.1.1 (ix q)) (ix i) (ix j) (ix n)), u.2.2.1.2), u.2.2.2) else opNo u 5) else opNo u (rsn (opPair u.2.2.1 p q))
/-- what a row's text says of a church -/
def prsU (u : UU) (k : Nat) : Nat × Int32 × CHU := prs (Lf (min (u.2.2.1.2.1 k) 160) (u.2.2.1.1 k)) (min (u.2.2.1.2.1 k) 160) (min (u.2.2.1.2.1 k) 160 + 1) 0 (u.1.1, u.1.2.1, u.1.2.2.1, u.1.2.2.2.1)
def stF (u : UU) (f : Int32) : UU := (u.1, u.2.1, u.2.2.1, u.2.2.2.1, (u.2.2.2.2.1, u.2.2.2.2.2.1, f))
def opChurch (u : UU) (x : Int32) : Int32 × UU :=
  if noR u.2.2.1 x = 0 then (if (prsU u (ix x)).2.1 = -1 then (nI (prsU u (ix x)).1, ((prsU u (ix x)).2.2.1, (prsU u (ix x)).2.2.2.1, (prsU u (ix x)).2.2.2.2.1, (prsU u (ix x)).2.2.2.2.2, u.1.2.2.2.2), (stF u (-1)).2) else opNo (stF u (prsU u (ix x)).2.1) 6) else opNo u (rsn (noR u.2.2.1 x))
theorem inN_out {y : Int32} {n : Nat} (h : inN y n = false) (hn : n < 2147483648) : y.toInt < 0 ∨ (n : Int) ≤ y.toInt := by
  unfold inN at h
  by_cases z : y < 0
  · left
    rw [Int32.lt_iff_toInt_lt] at z
    exact z
  · right
    rw [decide_eq_true z, Bool.true_and] at h
    have h2 := of_decide_eq_false h
    rw [Int32.lt_iff_toInt_lt, nI_toInt hn] at h2
    omega
section OE
variable {E : dmX} {d : Nat} {A K D : CHS} {h : HU} {s : SU} {t : TU} {v : VU} {r : RU}
theorem c_O_voiceOf (x y : Int32) (hs : s.1 = 1 ∨ s.1 = 17) (hk : okU (A, K, h, (v.1, v.2.1), r)) : GM0 E mO_voiceOf (d + 3) [R 0, I x, I y] (WO A K D h s t v r) (oQ (opVoiceOf (A, K, h, (v.1, v.2.1), r) x y)) := by
  refine gm okO_voiceOf rfl ?_
  refine gr rfl ?_
  refine cV iA U1 U1 rfl rfl rfl (c_C_hasVoice (F := A.1) (n := A.2.1) (t := A.2.2.1) (wt := A.2.2.2.1) (hy := A.2.2.2.2.1) (sd := A.2.2.2.2.2) x) rfl rfl rfl rfl rfl rfl rfl rfl ?_
  unfold opVoiceOf
  have hn : A.2.1 ≤ 12 := hk.2.1
  refine gz rfl (fun q => ?_) (fun q => ?_)
  · rw [if_neg (by show ¬ (inN x A.2.1 && _) = true; rw [q]; exact Bool.false_ne_true)]
    refine gr rfl ?_
    refine oNo 5 rfl rfl rfl (by decide) ?_
    exact gret rfl rfl (oQ_mk hs)
  · obtain ⟨h1, h2⟩ := inN_ix q (by omega)
    cases q2 : inN y 6 with
    | false =>
      rw [if_neg (by rw [Bool.and_false]; exact Bool.false_ne_true)]
      refine gr rfl ?_
      have q3 := inN_out q2 (by decide)
      refine G_tswOut rfl (by
        rcases q3 with q3 | q3
        · exact Or.inl q3
        · exact Or.inr (show (5 : Int) < y.toInt by omega)) ?_
      refine gr rfl ?_
      refine oNo 5 rfl rfl rfl (by decide) ?_
      exact gret rfl rfl (oQ_mk hs)
    | true =>
      obtain ⟨h3, h4⟩ := inN_ix q2 (by decide)
      rw [if_pos (by show (inN x A.2.1 && true) = true; rw [q]; rfl)]
      generalize ix x = x' at *
      generalize ix y = y' at *
      subst h2
      subst h4
      refine gr rfl ?_
      have hc : y' = 0 ∨ y' = 1 ∨ y' = 2 ∨ y' = 3 ∨ y' = 4 ∨ y' = 5 := by omega
      rcases hc with rfl | rfl | rfl | rfl | rfl | rfl
      · refine G_tsw 0 rfl (by decide) (by decide) rfl ?_
        refine gr rfl ?_
        refine gld x' rfl rfl rfl (by omega) ?_
        refine gr rfl ?_
        exact gret rfl rfl (oQ_mk hs)
      · refine G_tsw 1 rfl (by decide) (by decide) rfl ?_
        refine gr rfl ?_
        refine gld x' rfl rfl rfl (by omega) ?_
        refine gr rfl ?_
        exact gret rfl rfl (oQ_mk hs)
      · refine G_tsw 2 rfl (by decide) (by decide) rfl ?_
        refine gr rfl ?_
        refine gld x' rfl rfl rfl (by omega) ?_
        refine gr rfl ?_
        exact gret rfl rfl (oQ_mk hs)
      · refine G_tsw 3 rfl (by decide) (by decide) rfl ?_
        refine gr rfl ?_
        refine gld x' rfl rfl rfl (by omega) ?_
        refine gr rfl ?_
        exact gret rfl rfl (oQ_mk hs)
      · refine G_tsw 4 rfl (by decide) (by decide) rfl ?_
        refine gr rfl ?_
        refine gld x' rfl rfl rfl (by omega) ?_
        refine gr rfl ?_
        exact gret rfl rfl (oQ_mk hs)
      · refine G_tsw 5 rfl (by decide) (by decide) rfl ?_
        refine gr rfl ?_
        refine gld x' rfl rfl rfl (by omega) ?_
        refine gr rfl ?_
        exact gret rfl rfl (oQ_mk hs)
theorem c_O_voice (x a p b tp : Int32) (hs : s.1 = 1 ∨ s.1 = 17) (hk : okU (A, K, h, (v.1, v.2.1), r)) : GM0 E mO_voice (d + 4) [R 0, I x, I a, I p, I b, I tp] (WO A K D h s t v r) (oQ (opVoice (A, K, h, (v.1, v.2.1), r) x a p b tp)) := by
  refine gm okO_voice rfl ?_
  refine gr rfl ?_
  refine cs rfl rfl rfl (c_O_isKind x) rfl ?_
  unfold opVoice
  have hn : A.2.1 ≤ 12 := hk.2.1
  refine gz rfl (fun q => ?_) (fun q => ?_)
  · rw [if_pos q]
    refine gr rfl ?_
    refine oNo 1 rfl rfl rfl (by decide) ?_
    exact gret rfl rfl (oQ_mk hs)
  · rw [if_neg (by rw [q]; decide)]
    refine gr rfl ?_
    refine cs rfl rfl rfl (c_O_within a 0 9) rfl ?_
    rw [show wi a 0 9 = inN a 10 from wi_in (k := 9) (by decide)]
    refine gz rfl (fun q2 => ?_) (fun q2 => ?_)
    · rw [if_neg (by rw [q2, Bool.false_and]; exact Bool.false_ne_true)]
      refine gr rfl ?_
      refine oNo 6 rfl rfl rfl (by decide) ?_
      exact gret rfl rfl (oQ_mk hs)
    · refine gr rfl ?_
      refine cV iA U1 U1 rfl rfl rfl (c_C_isFree (F := A.1) (n := A.2.1) (t := A.2.2.1) (wt := A.2.2.2.1) (hy := A.2.2.2.2.1) (sd := A.2.2.2.2.2) p (by omega)) rfl rfl rfl rfl rfl rfl rfl rfl ?_
      refine gz rfl (fun q3 => ?_) (fun q3 => ?_)
      · rw [if_neg (by show ¬ (inN a 10 && (frP A.1 A.2.1 p && _)) = true; rw [q3, Bool.false_and, Bool.and_false]; exact Bool.false_ne_true)]
        refine gr rfl ?_
        refine oNo 6 rfl rfl rfl (by decide) ?_
        exact gret rfl rfl (oQ_mk hs)
      · refine gr rfl ?_
        refine cs rfl rfl rfl (c_O_within b 0 5) rfl ?_
        rw [show wi b 0 5 = inN b 6 from wi_in (k := 5) (by decide)]
        refine gz rfl (fun q4 => ?_) (fun q4 => ?_)
        · rw [if_neg (by rw [q4, Bool.false_and, Bool.and_false, Bool.and_false]; exact Bool.false_ne_true)]
          refine gr rfl ?_
          refine oNo 6 rfl rfl rfl (by decide) ?_
          exact gret rfl rfl (oQ_mk hs)
        · refine gr rfl ?_
          refine cs rfl rfl rfl (c_O_within tp 0 11) rfl ?_
          rw [show wi tp 0 11 = inN tp 12 from wi_in (k := 11) (by decide)]
          refine gz rfl (fun q5 => ?_) (fun q5 => ?_)
          · rw [if_neg (by rw [q5, Bool.and_false, Bool.and_false, Bool.and_false]; exact Bool.false_ne_true)]
            refine gr rfl ?_
            refine oNo 6 rfl rfl rfl (by decide) ?_
            exact gret rfl rfl (oQ_mk hs)
          · rw [if_pos (by show (inN a 10 && (frP A.1 A.2.1 p && (inN b 6 && inN tp 12))) = true; rw [q2, q3, q4, q5]; rfl)]
            have q6 := q3
            unfold frP at q6
            rw [Bool.and_eq_true] at q6
            obtain ⟨x1, x2⟩ := inN_ix q (by decide)
            obtain ⟨a1, a2⟩ := inN_ix q2 (by decide)
            obtain ⟨p1, p2⟩ := inN_ix q6.1 (by decide)
            obtain ⟨b1, b2⟩ := inN_ix q4 (by decide)
            obtain ⟨t1, t2⟩ := inN_ix q5 (by decide)
            generalize ix x = x' at *
            generalize ix a = a' at *
            generalize ix p = p' at *
            generalize ix b = b' at *
            generalize ix tp = t' at *
            subst x2
            subst a2
            subst p2
            subst b2
            subst t2
            refine gr rfl ?_
            refine cV iA U1 U1 rfl rfl rfl (c_C_hasRoomForVoice (F := A.1) (n := A.2.1) (t := A.2.2.1) (wt := A.2.2.2.1) (hy := A.2.2.2.2.1) (sd := A.2.2.2.2.2) (by omega)) rfl rfl rfl rfl rfl rfl rfl rfl ?_
            refine gz rfl (fun q7 => ?_) (fun q7 => ?_)
            · rw [if_neg (of_decide_eq_false q7)]
              refine gr rfl ?_
              refine oNo 7 rfl rfl rfl (by decide) ?_
              refine gr rfl ?_
              exact gret rfl rfl (oQ_mk hs)
            · have q7 := of_decide_eq_true q7
              rw [if_pos q7]
              refine gr rfl ?_
              refine cV iA U1 U1 rfl rfl rfl (c_C_addVoice (F := A.1) (n := A.2.1) (t := A.2.2.1) (wt := A.2.2.2.1) (hy := A.2.2.2.2.1) (sd := A.2.2.2.2.2) (k := x') (a := a') (p := p') (b := b') (tp := t') (by omega)) rfl rfl rfl rfl rfl rfl rfl rfl ?_
              refine gr rfl ?_
              exact gret rfl rfl (oQ_mk (A := (adV A.1 A.2.1 x' a' p' b' t', A.2.1 + 1, A.2.2)) hs)
end OE
end
section
/-! THE CLASS ITSELF: pairs of rows, a church from a text -/
theorem wo_set {A K D : CHS} {h : HU} {s : SU} {t : TU} {v : VU} {r : RU} {k : Nat} (g : Nat → Int64) (q : k < 8) : dmSet (WO A K D h s t v r) (k + 27) (.inl (1, 160, .inr (.inl g))) = some (WO A K D (va_up h.1 k g, h.2) s t v r) := by
  match k, q with
  | 0, _ => rfl
  | 1, _ => rfl
  | 2, _ => rfl
  | 3, _ => rfl
  | 4, _ => rfl
  | 5, _ => rfl
  | 6, _ => rfl
  | 7, _ => rfl
theorem opPair_n (h : HU) (p q : Int32) : opPair h p q = 0 ∨ ∃ k, (k = 1 ∨ k = 2 ∨ k = 3) ∧ opPair h p q = -(nI k) ∧ rsn (opPair h p q) = k := by
  unfold opPair
  split
  · exact Or.inr ⟨1, Or.inl rfl, by decide, by decide⟩
  · split
    · exact Or.inr ⟨2, Or.inr (Or.inl rfl), by decide, by decide⟩
    · split
      · exact Or.inr ⟨3, Or.inr (Or.inr rfl), by decide, by decide⟩
      · split
        · exact Or.inl rfl
        · exact Or.inr ⟨2, Or.inr (Or.inl rfl), by decide, by decide⟩
section OF
variable {E : dmX} {d : Nat} {A K D : CHS} {h : HU} {s : SU} {t : TU} {v : VU} {r : RU}
theorem cVn {M M' : dmM} {i pc nx x4 a b idx : Nat} {x3 : Int32} {x5 : List Nat} {ls st as as' st' : List Value} {w wc es : dmW} {Q Qc : Option Value → dmW → Prop} (is : List Nat) (o4 o5 : Value) {h ci : Nat} {fs : List Value} (hA : dmAt M.2.2.2.2.1 i = some (pc, .invokevirtual idx, nx, a, b, x3, x4, x5)) (hT : dmAt dmT a = some M') (hpop : dmPop (b + 1) st [] = some (.ref h :: as, st')) (hm : GM0 E M' d as' wc Qc) (hrc : dmGet w h = some (.inr (ci, fs))) (hcl : (dmCl[ci]?).map (fun q => q.1) = some M'.1.cls)
    (ha : dmRnL is o4 o5 as' = some (.ref h :: as)) (hpk : dmPick w is = some es) (hrn : dmRnW is o4 o5 wc = some es) (k : ∀ r wc', Qc r wc' → ∃ rr es' w1, dmRnO is o4 o5 r = some rr ∧ dmRnW is o4 o5 wc' = some es' ∧ dmPut is es' w = some w1 ∧ GW0 E M (d + 1) (nx, ls, rr ++ st', w1) Q)
    (h4 : dmIsRef o4 = true := by rfl) (h5 : dmIsRef o5 = true := by rfl) (hnd : va_nd is = true := by decide) (hcat : (st'.map Value.category).sum ≤ 8 := by exact Nat.le_of_ble_eq_true rfl) : GW0 E M (d + 1) (i, ls, st, w) Q :=
  G_callV is o4 o5 hA hT hpop hrc hcl hm ha hpk hrn h4 h5 hnd hcat (Nat.le_refl 0) (Nat.le_refl 0) k
theorem c_O_noPairOfRows (p q : Int32) (hok : okH h.2.1 h.2.2) : GM0 E mO_noPairOfRows (d + 4) [R 0, I p, I q] (WO A K D h s t v r) (dmE (some (I (opPair h p q))) (WO A K D h s t v r)) := by
  refine gm okO_noPairOfRows rfl ?_
  refine gr rfl ?_
  refine cV0 rfl rfl rfl (c_O_noRow p hok) rfl rfl rfl ?_
  refine gr rfl ?_
  refine cV0 rfl rfl rfl (c_O_noRow q hok) rfl rfl rfl ?_
  refine gr rfl ?_
  refine gi rfl (fun (q1 : noR h p = -1) => ?_) (fun (q1 : ¬ noR h p = -1) => ?_)
  · refine gr rfl ?_
    exact gret rfl rfl ⟨by rw [opPair, if_pos (Or.inl q1)], rfl⟩
  refine gr rfl ?_
  refine gi rfl (fun (q2 : noR h q = -1) => ?_) (fun (q2 : ¬ noR h q = -1) => ?_)
  · refine gr rfl ?_
    exact gret rfl rfl ⟨by rw [opPair, if_pos (Or.inr q2)], rfl⟩
  have a1 : ¬ (noR h p = -1 ∨ noR h q = -1) := fun w => w.elim q1 q2
  refine gr rfl ?_
  refine gi rfl (fun (q3 : noR h p = -2) => ?_) (fun (q3 : ¬ noR h p = -2) => ?_)
  · refine gr rfl ?_
    exact gret rfl rfl ⟨by rw [opPair, if_neg a1, if_pos (Or.inl q3)], rfl⟩
  refine gr rfl ?_
  refine gi rfl (fun (q4 : noR h q = -2) => ?_) (fun (q4 : ¬ noR h q = -2) => ?_)
  · refine gr rfl ?_
    exact gret rfl rfl ⟨by rw [opPair, if_neg a1, if_pos (Or.inr q4)], rfl⟩
  have a2 : ¬ (noR h p = -2 ∨ noR h q = -2) := fun w => w.elim q3 q4
  refine gr rfl ?_
  refine gi rfl (fun (q5 : noR h p = -3) => ?_) (fun (q5 : ¬ noR h p = -3) => ?_)
  · refine gr rfl ?_
    exact gret rfl rfl ⟨by rw [opPair, if_neg a1, if_neg a2, if_pos (Or.inl q5)], rfl⟩
  refine gr rfl ?_
  refine gi rfl (fun (q6 : noR h q = -3) => ?_) (fun (q6 : ¬ noR h q = -3) => ?_)
  · refine gr rfl ?_
    exact gret rfl rfl ⟨by rw [opPair, if_neg a1, if_neg a2, if_pos (Or.inr q6)], rfl⟩
  have a3 : ¬ (noR h p = -3 ∨ noR h q = -3) := fun w => w.elim q5 q6
  have z : ∀ x, ¬ noR h x = -1 → ¬ noR h x = -2 → ¬ noR h x = -3 → noR h x = 0 := by
    intro x y1 y2 y3
    rcases noR_n h x with e | ⟨k, hc, e, -⟩
    · exact e
    · rcases hc with rfl | rfl | rfl
      · exact absurd e y1
      · exact absurd e y2
      · exact absurd e y3
  obtain ⟨p1, p2, p3⟩ := noR_0 (z p q1 q3 q5)
  obtain ⟨r1, r2, r3⟩ := noR_0 (z q q2 q4 q6)
  obtain ⟨u1, hu, eu⟩ := rwB_of hok p1 p3
  obtain ⟨u2, hu', eu'⟩ := rwB_of hok r1 r3
  refine gr rfl ?_
  refine gldi (ix p) rfl rfl p2 p1 ?_
  refine gr rfl ?_
  refine gldi (ix q) rfl rfl r2 r1 ?_
  rw [show oA h.2.2 (ix p) = nI (100 + u1) by show oI (h.2.2 (ix p)) = _; rw [eu]; rfl, show oA h.2.2 (ix q) = nI (100 + u2) by show oI (h.2.2 (ix q)) = _; rw [eu']; rfl]
  refine ge (100 + u1) (100 + u2) rfl (by omega) (by omega) (fun y => ?_) (fun y => ?_)
  · refine gr rfl ?_
    exact gret rfl rfl ⟨by rw [opPair, if_neg a1, if_neg a2, if_neg a3, eu, eu', if_pos (congrArg some y)], rfl⟩
  · refine gr rfl ?_
    exact gret rfl rfl ⟨by rw [opPair, if_neg a1, if_neg a2, if_neg a3, eu, eu', if_neg (fun w => y (Option.some.inj w))], rfl⟩
theorem c_O_copy (p q i j n : Int32) (hs : s.1 = 1 ∨ s.1 = 17) (hk : okU (A, K, h, (v.1, v.2.1), r)) : GM0 E mO_copy (d + 5) [R 0, I p, I q, I i, I j, I n] (WO A K D h s t v r) (oQ (opCopy (A, K, h, (v.1, v.2.1), r) p q i j n)) := by
  have hok : okH h.2.1 h.2.2 := hk.2.2.2.1
  refine gm okO_copy rfl ?_
  refine gr rfl ?_
  refine cV0 rfl rfl rfl (c_O_noPairOfRows p q hok) rfl rfl rfl ?_
  refine gr rfl ?_
  unfold opCopy
  rcases opPair_n h p q with e | ⟨k, hc, e, e'⟩
  · rw [if_pos e, e]
    refine gt rfl rfl ?_
    refine gr rfl ?_
    refine gi rfl (fun q2 => ?_) (fun q2 => ?_)
    · rw [if_pos q2]
      refine gr rfl ?_
      refine gf rfl (by decide) ?_
      refine gr rfl ?_
      refine gf rfl (by decide) ?_
      refine gr rfl ?_
      refine oNo 4 rfl rfl rfl (by decide) ?_
      exact gret rfl rfl (oQ_mk hs)
    · rw [if_neg q2]
      refine gr rfl ?_
      refine gt rfl rfl ?_
      refine gr rfl ?_
      refine cV iH U1 U1 rfl rfl rfl (c_H_hasPart (RW := h.1) (sz := h.2.1) (hd := h.2.2) p i n hok) rfl rfl rfl rfl rfl rfl rfl rfl ?_
      refine gz rfl (fun q3 => ?_) (fun q3 => ?_)
      · rw [if_neg (by show ¬ (hPart h.2.1 h.2.2 p i n && _) = true; rw [q3]; exact Bool.false_ne_true)]
        refine gr rfl ?_
        refine gf rfl (by decide) ?_
        refine gr rfl ?_
        refine oNo 5 rfl rfl rfl (by decide) ?_
        exact gret rfl rfl (oQ_mk hs)
      · refine gr rfl ?_
        refine cV iH U1 U1 rfl rfl rfl (c_H_hasPart (RW := h.1) (sz := h.2.1) (hd := h.2.2) q j n hok) rfl rfl rfl rfl rfl rfl rfl rfl ?_
        refine gz rfl (fun q4 => ?_) (fun q4 => ?_)
        · rw [if_neg (by show ¬ (hPart h.2.1 h.2.2 p i n && hPart h.2.1 h.2.2 q j n) = true; rw [q3, q4]; exact Bool.false_ne_true)]
          refine gr rfl ?_
          refine gf rfl (by decide) ?_
          refine gr rfl ?_
          refine oNo 5 rfl rfl rfl (by decide) ?_
          exact gret rfl rfl (oQ_mk hs)
        · rw [if_pos (by show (hPart h.2.1 h.2.2 p i n && hPart h.2.1 h.2.2 q j n) = true; rw [q3, q4]; rfl)]
          refine gr rfl ?_
          refine gt rfl rfl ?_
          refine gr rfl ?_
          unfold hPart at q3 q4
          rw [Bool.and_eq_true, Bool.and_eq_true] at q3 q4
          obtain ⟨x1, x2, -⟩ := hRow_in q3.1
          obtain ⟨y1, y2, -⟩ := hRow_in q4.1
          have b1 := (hok (ix p) x1).1
          have b2 := (hok (ix q) y1).1
          obtain ⟨i1, i2⟩ := inN_ix q3.2.1 (by omega)
          obtain ⟨j1, j2⟩ := inN_ix q4.2.1 (by omega)
          obtain ⟨n1, n2⟩ := inN_ix q3.2.2 (by omega)
          obtain ⟨n3, -⟩ := inN_ix q4.2.2 (by omega)
          refine G_aald (ix p) rfl rfl (wo_fs x1) x2 (by decide) ?_
          refine gr rfl ?_
          refine G_aald (ix q) rfl rfl (wo_fs y1) y2 (by decide) ?_
          refine gr rfl ?_
          refine G_copyl (ix i) (ix j) (ix n) rfl (wo_row x1) (wo_row y1) (wo_set _ y1) i2 j2 n2 (by omega) (by omega) (by decide) (by decide) (Nat.le_of_ble_eq_true rfl) ?_
          refine gr rfl ?_
          exact gret rfl rfl (oQ_mk (h := (va_up h.1 (ix q) (va_cpy (h.1 (ix p)) (h.1 (ix q)) (ix i) (ix j) (ix n)), h.2)) hs)
  · have hne : ¬ opPair h p q = 0 := by
      rw [e]
      rcases hc with rfl | rfl | rfl <;> decide
    rw [if_neg hne]
    show GW0 _ _ _ _ (oQ (opNo (A, K, h, (v.1, v.2.1), r) (rsn (opPair h p q))))
    rw [e']
    refine gf rfl hne ?_
    refine gr rfl ?_
    refine gf rfl hne ?_
    refine gr rfl ?_
    refine gf rfl hne ?_
    refine gr rfl ?_
    rw [e]
    refine oNo k rfl rfl rfl rfl ?_ (by omega) (by omega)
    exact gret rfl rfl (oQ_mk hs)
end OF
end
section
/-! THE CLASS ITSELF: a church from a text -/
section OG
variable {E : dmX} {d : Nat} {A K D : CHS} {h : HU} {s : SU} {t : TU} {v : VU} {r : RU}
theorem e_O_church {x1 x2 : Int32} {k : Nat} (hs : s.1 = 1 ∨ s.1 = 17) : GW0 E mO_church (d + 9) (28, [R 0, I x1, I x2, U0], [I (nI k)], (WO A K D h s t v r)) (oQ (if t.2.2.2.2 = -1 then (nI k, D, (stF (A, K, h, (v.1, v.2.1), r) (-1)).2) else opNo (stF (A, K, h, (v.1, v.2.1), r) t.2.2.2.2) 6)) := by
  refine gr rfl ?_
  refine gi rfl (fun q => ?_) (fun q => ?_)
  · rw [if_pos q, show stF (A, K, h, (v.1, v.2.1), r) (-1) = stF (A, K, h, (v.1, v.2.1), r) t.2.2.2.2 by rw [q]]
    refine gr rfl ?_
    refine cV (iA ++ iD) U1 U1 rfl rfl rfl (c_C_become (F := A.1) (n := A.2.1) (t := A.2.2.1) (wt := A.2.2.2.1) (hy := A.2.2.2.2.1) (sd := A.2.2.2.2.2) (F' := D.1) (n' := D.2.1) (t' := D.2.2.1) (wt' := D.2.2.2.1) (hy' := D.2.2.2.2.1) (sd' := D.2.2.2.2.2)) rfl rfl rfl rfl rfl rfl rfl rfl ?_
    refine gr rfl ?_
    exact gret rfl rfl (oQ_mk (A := D) (r := (r.1, r.2.1, t.2.2.2.2)) hs)
  · rw [if_neg q]
    refine gr rfl ?_
    refine oNo (r := (r.1, r.2.1, t.2.2.2.2)) 6 rfl rfl rfl (by decide) ?_
    exact gret rfl rfl (oQ_mk (r := rfU (r.1, r.2.1, t.2.2.2.2) 6) hs)
theorem c_O_church (x : Int32) (hs : s.1 = 1 ∨ s.1 = 17) (hk : okU (A, K, h, (v.1, v.2.1), r)) (ht : A.2.2.1 ≤ 6) : GM0 E mO_church (d + 9) [R 0, I x] (WO A K D h s t v r) (oQ (opChurch (A, K, h, (v.1, v.2.1), r) x)) := by
  have hok : okH h.2.1 h.2.2 := hk.2.2.2.1
  have hc : okC (A.1, A.2.1, A.2.2.1, A.2.2.2.1) := ⟨hk.2.1, ht⟩
  refine gm okO_church rfl ?_
  refine gr rfl ?_
  refine cV0 rfl rfl rfl (c_O_noRow x hok) rfl rfl rfl ?_
  refine gr rfl ?_
  unfold opChurch
  rcases noR_n h x with q | ⟨k, hc2, q, q'⟩
  · rw [if_pos q]
    obtain ⟨h1, h2, h3⟩ := noR_0 q
    have b1 := (hok (ix x) h1).1
    rw [q]
    refine gt rfl rfl ?_
    refine gr rfl ?_
    refine cV (iD ++ iA) U1 U1 rfl rfl rfl (c_C_become (F := D.1) (n := D.2.1) (t := D.2.2.1) (wt := D.2.2.2.1) (hy := D.2.2.2.2.1) (sd := D.2.2.2.2.2) (F' := A.1) (n' := A.2.1) (t' := A.2.2.1) (wt' := A.2.2.2.1) (hy' := A.2.2.2.2.1) (sd' := A.2.2.2.2.2)) rfl rfl rfl rfl rfl rfl rfl rfl ?_
    refine gr rfl ?_
    refine G_aald (ix x) rfl rfl (wo_fs h1) h2 (by decide) ?_
    refine gr rfl ?_
    refine gld (ix x) rfl rfl h2 h1 ?_
    generalize ix x = x' at *
    subst h2
    have hcs : x' = 0 ∨ x' = 1 ∨ x' = 2 ∨ x' = 3 ∨ x' = 4 ∨ x' = 5 ∨ x' = 6 ∨ x' = 7 := by omega
    rcases hcs with rfl | rfl | rfl | rfl | rfl | rfl | rfl | rfl
    · refine cVn [40, 41, 17, 18, 19, 20, 21, 22, 23, 24, 27] (R t.2.1) U1 rfl rfl rfl (c_T_readItems (E := E) (d := d) (lt := .retAddr 5) (nu := t.1) (z0 := t.2.2.1) (a0 := t.2.2.2.1) (zz := h.2.1 0) (ft0 := t.2.2.2.2) (c := (A.1, A.2.1, A.2.2.1, A.2.2.2.1)) (hy := A.2.2.2.2.1) (sd := A.2.2.2.2.2) (f := h.1 0) (by omega) hc) rfl rfl rfl rfl rfl (fun r2 w2 hq => ?_)
      obtain ⟨rfl, nu', a', rfl⟩ := hq
      refine ⟨_, _, _, rfl, rfl, rfl, ?_⟩
      exact e_O_church (D := ((prsU (A, K, h, (v.1, v.2.1), r) 0).2.2.1, (prsU (A, K, h, (v.1, v.2.1), r) 0).2.2.2.1, (prsU (A, K, h, (v.1, v.2.1), r) 0).2.2.2.2.1, (prsU (A, K, h, (v.1, v.2.1), r) 0).2.2.2.2.2, A.2.2.2.2)) (t := (nu', 27, min (h.2.1 0) 160, a', (prsU (A, K, h, (v.1, v.2.1), r) 0).2.1)) hs
    · refine cVn [40, 41, 17, 18, 19, 20, 21, 22, 23, 24, 28] (R t.2.1) U1 rfl rfl rfl (c_T_readItems (E := E) (d := d) (lt := .retAddr 5) (nu := t.1) (z0 := t.2.2.1) (a0 := t.2.2.2.1) (zz := h.2.1 1) (ft0 := t.2.2.2.2) (c := (A.1, A.2.1, A.2.2.1, A.2.2.2.1)) (hy := A.2.2.2.2.1) (sd := A.2.2.2.2.2) (f := h.1 1) (by omega) hc) rfl rfl rfl rfl rfl (fun r2 w2 hq => ?_)
      obtain ⟨rfl, nu', a', rfl⟩ := hq
      refine ⟨_, _, _, rfl, rfl, rfl, ?_⟩
      exact e_O_church (D := ((prsU (A, K, h, (v.1, v.2.1), r) 1).2.2.1, (prsU (A, K, h, (v.1, v.2.1), r) 1).2.2.2.1, (prsU (A, K, h, (v.1, v.2.1), r) 1).2.2.2.2.1, (prsU (A, K, h, (v.1, v.2.1), r) 1).2.2.2.2.2, A.2.2.2.2)) (t := (nu', 28, min (h.2.1 1) 160, a', (prsU (A, K, h, (v.1, v.2.1), r) 1).2.1)) hs
    · refine cVn [40, 41, 17, 18, 19, 20, 21, 22, 23, 24, 29] (R t.2.1) U1 rfl rfl rfl (c_T_readItems (E := E) (d := d) (lt := .retAddr 5) (nu := t.1) (z0 := t.2.2.1) (a0 := t.2.2.2.1) (zz := h.2.1 2) (ft0 := t.2.2.2.2) (c := (A.1, A.2.1, A.2.2.1, A.2.2.2.1)) (hy := A.2.2.2.2.1) (sd := A.2.2.2.2.2) (f := h.1 2) (by omega) hc) rfl rfl rfl rfl rfl (fun r2 w2 hq => ?_)
      obtain ⟨rfl, nu', a', rfl⟩ := hq
      refine ⟨_, _, _, rfl, rfl, rfl, ?_⟩
      exact e_O_church (D := ((prsU (A, K, h, (v.1, v.2.1), r) 2).2.2.1, (prsU (A, K, h, (v.1, v.2.1), r) 2).2.2.2.1, (prsU (A, K, h, (v.1, v.2.1), r) 2).2.2.2.2.1, (prsU (A, K, h, (v.1, v.2.1), r) 2).2.2.2.2.2, A.2.2.2.2)) (t := (nu', 29, min (h.2.1 2) 160, a', (prsU (A, K, h, (v.1, v.2.1), r) 2).2.1)) hs
    · refine cVn [40, 41, 17, 18, 19, 20, 21, 22, 23, 24, 30] (R t.2.1) U1 rfl rfl rfl (c_T_readItems (E := E) (d := d) (lt := .retAddr 5) (nu := t.1) (z0 := t.2.2.1) (a0 := t.2.2.2.1) (zz := h.2.1 3) (ft0 := t.2.2.2.2) (c := (A.1, A.2.1, A.2.2.1, A.2.2.2.1)) (hy := A.2.2.2.2.1) (sd := A.2.2.2.2.2) (f := h.1 3) (by omega) hc) rfl rfl rfl rfl rfl (fun r2 w2 hq => ?_)
      obtain ⟨rfl, nu', a', rfl⟩ := hq
      refine ⟨_, _, _, rfl, rfl, rfl, ?_⟩
      exact e_O_church (D := ((prsU (A, K, h, (v.1, v.2.1), r) 3).2.2.1, (prsU (A, K, h, (v.1, v.2.1), r) 3).2.2.2.1, (prsU (A, K, h, (v.1, v.2.1), r) 3).2.2.2.2.1, (prsU (A, K, h, (v.1, v.2.1), r) 3).2.2.2.2.2, A.2.2.2.2)) (t := (nu', 30, min (h.2.1 3) 160, a', (prsU (A, K, h, (v.1, v.2.1), r) 3).2.1)) hs
    · refine cVn [40, 41, 17, 18, 19, 20, 21, 22, 23, 24, 31] (R t.2.1) U1 rfl rfl rfl (c_T_readItems (E := E) (d := d) (lt := .retAddr 5) (nu := t.1) (z0 := t.2.2.1) (a0 := t.2.2.2.1) (zz := h.2.1 4) (ft0 := t.2.2.2.2) (c := (A.1, A.2.1, A.2.2.1, A.2.2.2.1)) (hy := A.2.2.2.2.1) (sd := A.2.2.2.2.2) (f := h.1 4) (by omega) hc) rfl rfl rfl rfl rfl (fun r2 w2 hq => ?_)
      obtain ⟨rfl, nu', a', rfl⟩ := hq
      refine ⟨_, _, _, rfl, rfl, rfl, ?_⟩
      exact e_O_church (D := ((prsU (A, K, h, (v.1, v.2.1), r) 4).2.2.1, (prsU (A, K, h, (v.1, v.2.1), r) 4).2.2.2.1, (prsU (A, K, h, (v.1, v.2.1), r) 4).2.2.2.2.1, (prsU (A, K, h, (v.1, v.2.1), r) 4).2.2.2.2.2, A.2.2.2.2)) (t := (nu', 31, min (h.2.1 4) 160, a', (prsU (A, K, h, (v.1, v.2.1), r) 4).2.1)) hs
    · refine cVn [40, 41, 17, 18, 19, 20, 21, 22, 23, 24, 32] (R t.2.1) U1 rfl rfl rfl (c_T_readItems (E := E) (d := d) (lt := .retAddr 5) (nu := t.1) (z0 := t.2.2.1) (a0 := t.2.2.2.1) (zz := h.2.1 5) (ft0 := t.2.2.2.2) (c := (A.1, A.2.1, A.2.2.1, A.2.2.2.1)) (hy := A.2.2.2.2.1) (sd := A.2.2.2.2.2) (f := h.1 5) (by omega) hc) rfl rfl rfl rfl rfl (fun r2 w2 hq => ?_)
      obtain ⟨rfl, nu', a', rfl⟩ := hq
      refine ⟨_, _, _, rfl, rfl, rfl, ?_⟩
      exact e_O_church (D := ((prsU (A, K, h, (v.1, v.2.1), r) 5).2.2.1, (prsU (A, K, h, (v.1, v.2.1), r) 5).2.2.2.1, (prsU (A, K, h, (v.1, v.2.1), r) 5).2.2.2.2.1, (prsU (A, K, h, (v.1, v.2.1), r) 5).2.2.2.2.2, A.2.2.2.2)) (t := (nu', 32, min (h.2.1 5) 160, a', (prsU (A, K, h, (v.1, v.2.1), r) 5).2.1)) hs
    · refine cVn [40, 41, 17, 18, 19, 20, 21, 22, 23, 24, 33] (R t.2.1) U1 rfl rfl rfl (c_T_readItems (E := E) (d := d) (lt := .retAddr 5) (nu := t.1) (z0 := t.2.2.1) (a0 := t.2.2.2.1) (zz := h.2.1 6) (ft0 := t.2.2.2.2) (c := (A.1, A.2.1, A.2.2.1, A.2.2.2.1)) (hy := A.2.2.2.2.1) (sd := A.2.2.2.2.2) (f := h.1 6) (by omega) hc) rfl rfl rfl rfl rfl (fun r2 w2 hq => ?_)
      obtain ⟨rfl, nu', a', rfl⟩ := hq
      refine ⟨_, _, _, rfl, rfl, rfl, ?_⟩
      exact e_O_church (D := ((prsU (A, K, h, (v.1, v.2.1), r) 6).2.2.1, (prsU (A, K, h, (v.1, v.2.1), r) 6).2.2.2.1, (prsU (A, K, h, (v.1, v.2.1), r) 6).2.2.2.2.1, (prsU (A, K, h, (v.1, v.2.1), r) 6).2.2.2.2.2, A.2.2.2.2)) (t := (nu', 33, min (h.2.1 6) 160, a', (prsU (A, K, h, (v.1, v.2.1), r) 6).2.1)) hs
    · refine cVn [40, 41, 17, 18, 19, 20, 21, 22, 23, 24, 34] (R t.2.1) U1 rfl rfl rfl (c_T_readItems (E := E) (d := d) (lt := .retAddr 5) (nu := t.1) (z0 := t.2.2.1) (a0 := t.2.2.2.1) (zz := h.2.1 7) (ft0 := t.2.2.2.2) (c := (A.1, A.2.1, A.2.2.1, A.2.2.2.1)) (hy := A.2.2.2.2.1) (sd := A.2.2.2.2.2) (f := h.1 7) (by omega) hc) rfl rfl rfl rfl rfl (fun r2 w2 hq => ?_)
      obtain ⟨rfl, nu', a', rfl⟩ := hq
      refine ⟨_, _, _, rfl, rfl, rfl, ?_⟩
      exact e_O_church (D := ((prsU (A, K, h, (v.1, v.2.1), r) 7).2.2.1, (prsU (A, K, h, (v.1, v.2.1), r) 7).2.2.2.1, (prsU (A, K, h, (v.1, v.2.1), r) 7).2.2.2.2.1, (prsU (A, K, h, (v.1, v.2.1), r) 7).2.2.2.2.2, A.2.2.2.2)) (t := (nu', 34, min (h.2.1 7) 160, a', (prsU (A, K, h, (v.1, v.2.1), r) 7).2.1)) hs
  · have hne : ¬ noR h x = 0 := by
      rw [q]
      rcases hc2 with rfl | rfl | rfl <;> decide
    rw [if_neg hne]
    show GW0 _ _ _ _ (oQ (opNo (A, K, h, (v.1, v.2.1), r) (rsn (noR h x))))
    rw [q']
    refine gf rfl hne ?_
    refine gr rfl ?_
    rw [q]
    refine oNo k rfl rfl rfl rfl ?_ (by omega) (by omega)
    exact gret rfl rfl (oQ_mk hs)
end OG
end
section
/-! THE CLASS ITSELF: a hymn sung -/
theorem ndf_v (nd : Nat → Nat) (F : Nat → Nat → Nat) (k : Nat) : ∀ m v, v < m → ndf nd F k m v = need F v k
  | 0, v, h => absurd h (Nat.not_lt_zero v)
  | m + 1, v, h => by
    simp only [ndf]
    unfold va_up
    by_cases e : v = m
    · rw [if_pos e, e]
    · rw [if_neg e]
      exact ndf_v nd F k m v (by omega)
/-- what stands when a hymn begins -/
theorem sgP_0 {nd : Nat → Nat} {F : Nat → Nat → Nat} {n t k p : Nat} (hok : okF F n t) (hd : dis F n) (hk : k < t) (hp : p < 6) (hn : n ≤ 14) : sgP (ndf nd F k n) (bst (irg F k p) n) (bst (kng F k) n) F n t k p 99 := by
  have h14 : 2 ^ n ≤ 2 ^ 14 := Nat.pow_le_pow_right (by decide) hn
  have h1 := bst_lt (irg F k p) n
  have h2 := bst_lt (kng F k) n
  refine ⟨hok, hd, hk, hp, by omega, by omega, fun v hv => ndf_v nd F k n v hv, fun v hv => ?_, fun v hv => ?_⟩
  · rw [bst_bit, decide_eq_true hv, Bool.true_and]
    unfold hyI irg
    rw [decide_eq_false (show ¬ v = 99 by omega)]
    simp
  · rw [bst_bit, decide_eq_true hv, Bool.true_and]
    rfl
theorem npx_lt (X : Nat) : ∀ q, q ≤ 24 → npx X q < 16777216
  | 0, _ => by show 0 < 16777216; decide
  | q + 1, h => by
    have h1 := npx_lt X q (by omega)
    have h2 : 2 ^ q < 2 ^ 24 := Nat.pow_lt_pow_right (by decide) (by omega)
    simp only [npx]
    split
    · exact h1
    · exact or_lt (k := 24) h1 h2
def opNeeds (u : UU) (x y : Int32) : Int32 × UU := if inN x u.1.2.1 && inN y u.1.2.2.1 then (nI (need u.1.1 (ix x) (ix y)), u) else opNo u 1
def sungN (F : Nat → Nat → Nat) (n k p l w : Nat) : Nat := match w with
  | 0 => vin F (plc F n k p 99 (l + 1) 1) n
  | 1 => vin F (plc F n k p 99 (l + 1) 2) n
  | 2 => vin F (plc F n k p 99 (l + 1) 3) n
  | _ => vin F (npx (plc F n k p 99 (l + 1) 1) 24) n
def opSung (u : UU) (x p l w : Int32) : Int32 × UU :=
  if inN x u.1.2.2.1 = false then opNo u 1 else if inN w 4 = false then opNo u 5 else if inN p 6 && inN l 41 then (nI (sungN u.1.1 u.1.2.1 (ix x) (ix p) (ix l) (ix w)), u) else opNo u 6
def iS (l : List Nat) : List Nat := 37 :: 38 :: 39 :: l
section OS
variable {E : dmX} {d : Nat} {A K D : CHS} {h : HU} {s : SU} {t : TU} {v : VU} {r : RU}
theorem c_O_needs (x y : Int32) (hs : s.1 = 1 ∨ s.1 = 17) (hk : okU (A, K, h, (v.1, v.2.1), r)) : GM0 E mO_needs (d + 4) [R 0, I x, I y] (WO A K D h s t v r) (oQ (opNeeds (A, K, h, (v.1, v.2.1), r) x y)) := by
  refine gm okO_needs rfl ?_
  refine gr rfl ?_
  refine cV iA U1 U1 rfl rfl rfl (c_C_hasVoice (F := A.1) (n := A.2.1) (t := A.2.2.1) (wt := A.2.2.2.1) (hy := A.2.2.2.2.1) (sd := A.2.2.2.2.2) x) rfl rfl rfl rfl rfl rfl rfl rfl ?_
  unfold opNeeds
  have hn : A.2.1 ≤ 12 := hk.2.1
  have ht : A.2.2.1 ≤ 6 := hk.1.2.1
  refine gz rfl (fun q => ?_) (fun q => ?_)
  · rw [if_neg (by show ¬ (inN x A.2.1 && _) = true; rw [q]; exact Bool.false_ne_true)]
    refine gr rfl ?_
    refine oNo 1 rfl rfl rfl (by decide) ?_
    exact gret rfl rfl (oQ_mk hs)
  · refine gr rfl ?_
    refine cV iA U1 U1 rfl rfl rfl (c_C_hasTune (F := A.1) (n := A.2.1) (t := A.2.2.1) (wt := A.2.2.2.1) (hy := A.2.2.2.2.1) (sd := A.2.2.2.2.2) y) rfl rfl rfl rfl rfl rfl rfl rfl ?_
    refine gz rfl (fun q2 => ?_) (fun q2 => ?_)
    · rw [if_neg (by show ¬ (inN x A.2.1 && inN y A.2.2.1) = true; rw [q, q2]; exact Bool.false_ne_true)]
      refine gr rfl ?_
      refine oNo 1 rfl rfl rfl (by decide) ?_
      exact gret rfl rfl (oQ_mk hs)
    · rw [if_pos (by show (inN x A.2.1 && inN y A.2.2.1) = true; rw [q, q2]; rfl)]
      obtain ⟨h1, h2⟩ := inN_ix q (by omega)
      obtain ⟨h3, h4⟩ := inN_ix q2 (by omega)
      obtain ⟨f0, f1, f2, f3, f4, f5⟩ := hk.1.2.2.1 (ix x) h1
      generalize ix x = x' at *
      generalize ix y = y' at *
      subst h2
      subst h4
      have f5 : A.1 5 x' < 64 := f5
      refine gr rfl ?_
      refine cV iA U1 U1 rfl rfl rfl (c_C_needOf (F := A.1) (n := A.2.1) (t := A.2.2.1) (wt := A.2.2.2.1) (hy := A.2.2.2.2.1) (sd := A.2.2.2.2.2) (v := x') (k := y') (by omega) (by omega) (by omega) f3 f0) rfl rfl rfl rfl rfl rfl rfl rfl ?_
      refine gr rfl ?_
      exact gret rfl rfl (oQ_mk hs)
theorem c_O_sung (x p l w : Int32) (hs : s.1 = 1 ∨ s.1 = 17) (hk : okU (A, K, h, (v.1, v.2.1), r)) (hd : dis A.1 A.2.1) : GM0 E mO_sung (d + 7) [R 0, I x, I p, I l, I w] (WO A K D h s t v r) (oQ (opSung (A, K, h, (v.1, v.2.1), r) x p l w)) := by
  refine gm okO_sung rfl ?_
  refine gr rfl ?_
  refine cV iA U1 U1 rfl rfl rfl (c_C_hasTune (F := A.1) (n := A.2.1) (t := A.2.2.1) (wt := A.2.2.2.1) (hy := A.2.2.2.2.1) (sd := A.2.2.2.2.2) x) rfl rfl rfl rfl rfl rfl rfl rfl ?_
  unfold opSung
  have hn : A.2.1 ≤ 12 := hk.2.1
  have ht : A.2.2.1 ≤ 6 := hk.1.2.1
  have hF := hk.1
  refine gz rfl (fun q => ?_) (fun q => ?_)
  · rw [if_pos q]
    refine gr rfl ?_
    refine oNo 1 rfl rfl rfl (by decide) ?_
    exact gret rfl rfl (oQ_mk hs)
  · rw [if_neg (by show ¬ inN x A.2.2.1 = false; rw [q]; decide)]
    refine gr rfl ?_
    refine cs rfl rfl rfl (c_O_within w 0 3) rfl ?_
    rw [show wi w 0 3 = inN w 4 from wi_in (k := 3) (by decide)]
    refine gz rfl (fun q2 => ?_) (fun q2 => ?_)
    · rw [if_pos q2]
      refine gr rfl ?_
      refine oNo 5 rfl rfl rfl (by decide) ?_
      exact gret rfl rfl (oQ_mk hs)
    · rw [if_neg (by rw [q2]; decide)]
      refine gr rfl ?_
      refine cs rfl rfl rfl (c_O_isPitch p) rfl ?_
      refine gz rfl (fun q3 => ?_) (fun q3 => ?_)
      · rw [if_neg (by rw [q3, Bool.false_and]; exact Bool.false_ne_true)]
        refine gr rfl ?_
        refine oNo 6 rfl rfl rfl (by decide) ?_
        exact gret rfl rfl (oQ_mk hs)
      · refine gr rfl ?_
        refine cs rfl rfl rfl (c_O_isVerse l) rfl ?_
        refine gz rfl (fun q4 => ?_) (fun q4 => ?_)
        · rw [if_neg (by rw [q4, Bool.and_false]; exact Bool.false_ne_true)]
          refine gr rfl ?_
          refine oNo 6 rfl rfl rfl (by decide) ?_
          exact gret rfl rfl (oQ_mk hs)
        · rw [if_pos (by rw [q3, q4]; rfl)]
          obtain ⟨x1, x2⟩ := inN_ix q (by omega)
          obtain ⟨w1, w2⟩ := inN_ix q2 (by decide)
          obtain ⟨p1, p2⟩ := inN_ix q3 (by decide)
          obtain ⟨l1, l2⟩ := inN_ix q4 (by decide)
          generalize ix x = x' at *
          generalize ix w = w' at *
          generalize ix p = p' at *
          generalize ix l = l' at *
          subst x2
          subst w2
          subst p2
          subst l2
          have hp : ∀ v, v < A.2.1 → A.1 2 v < 24 := fun v hv => (hF.2.2.1 v hv).2.2.1
          refine gr rfl ?_
          refine cV (iS iA) (R s.1) U1 rfl rfl rfl (c_S_begin (nd := s.2.1) (ir := s.2.2.1) (kn := s.2.2.2.1) (rt := s.2.2.2.2.1) (wr := s.2.2.2.2.2.1) (mi := s.2.2.2.2.2.2.1) (ac := s.2.2.2.2.2.2.2.1) (sa := s.2.2.2.2.2.2.2.2.1) (fe := s.2.2.2.2.2.2.2.2.2) (F := A.1) (n := A.2.1) (t := A.2.2.1) (wt := A.2.2.2.1) (hy := A.2.2.2.2.1) (sd := A.2.2.2.2.2) x1 p1 hF) rfl rfl rfl rfl rfl rfl rfl rfl ?_
          refine gr rfl ?_
          refine cVn (iS iA) U1 U1 rfl rfl rfl (c_S_singTo (F := A.1) (n := A.2.1) (t := A.2.2.1) (wt := A.2.2.2.1) (hy := A.2.2.2.2.1) (sd := A.2.2.2.2.2) (sgP_0 (nd := s.2.1) hF hd x1 p1 (by omega)) (sa := false) (l := l') (by omega)) rfl rfl rfl rfl rfl (fun r2 w2 hq => ?_)
          obtain ⟨rfl, ac, sa, fe, rfl⟩ := hq
          refine ⟨_, _, _, rfl, rfl, rfl, ?_⟩
          refine gr rfl ?_
          have hL : ∀ c, plc A.1 A.2.1 x' p' 99 (l' + 1) c < 16777216 := fun c => plc_lt hF (l' + 1) c
          have hc : w' = 0 ∨ w' = 1 ∨ w' = 2 ∨ w' = 3 := by omega
          rcases hc with rfl | rfl | rfl | rfl
          · refine G_tsw 0 rfl (by decide) (by decide) rfl ?_
            refine gr rfl ?_
            refine cV iA U1 U1 rfl rfl rfl (c_C_voicesIn (F := A.1) (n := A.2.1) (t := A.2.2.1) (wt := A.2.2.2.1) (hy := A.2.2.2.2.1) (sd := A.2.2.2.2.2) (hL 1) (by omega) hp) rfl rfl rfl rfl rfl rfl rfl rfl ?_
            refine gr rfl ?_
            exact gret rfl rfl (oQ_mk (s := (1, _, _, _, _, _, _, _, _, _)) (Or.inl rfl))
          · refine G_tsw 1 rfl (by decide) (by decide) rfl ?_
            refine gr rfl ?_
            refine cV iA U1 U1 rfl rfl rfl (c_C_voicesIn (F := A.1) (n := A.2.1) (t := A.2.2.1) (wt := A.2.2.2.1) (hy := A.2.2.2.2.1) (sd := A.2.2.2.2.2) (hL 2) (by omega) hp) rfl rfl rfl rfl rfl rfl rfl rfl ?_
            refine gr rfl ?_
            exact gret rfl rfl (oQ_mk (s := (1, _, _, _, _, _, _, _, _, _)) (Or.inl rfl))
          · refine G_tsw 2 rfl (by decide) (by decide) rfl ?_
            refine gr rfl ?_
            refine cV iA U1 U1 rfl rfl rfl (c_C_voicesIn (F := A.1) (n := A.2.1) (t := A.2.2.1) (wt := A.2.2.2.1) (hy := A.2.2.2.2.1) (sd := A.2.2.2.2.2) (hL 3) (by omega) hp) rfl rfl rfl rfl rfl rfl rfl rfl ?_
            refine gr rfl ?_
            exact gret rfl rfl (oQ_mk (s := (1, _, _, _, _, _, _, _, _, _)) (Or.inl rfl))
          · refine G_tswOut rfl (Or.inr (by decide)) ?_
            refine gr rfl ?_
            refine cV (iS iA) U1 U1 rfl rfl rfl (c_S_placesNear (F := A.1) (n := A.2.1) (t := A.2.2.1) (wt := A.2.2.2.1) (hy := A.2.2.2.2.1) (sd := A.2.2.2.2.2) (hL 1)) rfl rfl rfl rfl rfl rfl rfl rfl ?_
            refine gr rfl ?_
            refine cV iA U1 U1 rfl rfl rfl (c_C_voicesIn (F := A.1) (n := A.2.1) (t := A.2.2.1) (wt := A.2.2.2.1) (hy := A.2.2.2.2.1) (sd := A.2.2.2.2.2) (npx_lt _ 24 (Nat.le_refl 24)) (by omega) hp) rfl rfl rfl rfl rfl rfl rfl rfl ?_
            refine gr rfl ?_
            exact gret rfl rfl (oQ_mk (s := (1, _, _, _, _, _, _, _, _, _)) (Or.inl rfl))
end OS
end
section
/-! THE CLASS ITSELF: moves, the image, what stands -/
def opAct (u : UU) (x mv y : Int32) : Int32 × UU :=
  if inN x u.1.2.1 && inN mv 3 then (mvV (u.1.1 0 (ix x)) (ix mv) x (nI (u.1.1 1 (ix x))) y, u.1, u.2.1, u.2.2.1, (ntL u.2.2.2.1.1 0 (mvT (u.1.1 0 (ix x)) (ix mv)), 0 + (mvT (u.1.1 0 (ix x)) (ix mv)).length), u.2.2.2.2) else (0, u.1, u.2.1, u.2.2.1, (u.2.2.2.1.1, 0), u.2.2.2.2)
def opTrace (u : UU) (i : Int32) : Int32 := trB u.2.2.2.1.1 u.2.2.2.1.2 i
def opImage (u : UU) : Int32 × UU := (nI u.1.2.1, u.1, u.1, u.2.2.1, u.2.2.2.1, (u.2.2.2.2.1, true, u.2.2.2.2.2.2))
def opRestore (u : UU) : Int32 × UU := if u.2.2.2.2.2.1 = false then opNo u 6 else (nI u.2.1.2.1, u.2.1, u.2.1, (u.2.2.1.1, u.2.2.1.2.1, drp u.2.2.1.2.2 u.2.1.2.1 8), u.2.2.2)
def opSeed (u : UU) (x : Int32) : Int32 × UU := (u.1.2.2.2.2.2, (u.1.1, u.1.2.1, u.1.2.2.1, u.1.2.2.2.1, u.1.2.2.2.2.1, x), u.2)
section OH
variable {E : dmX} {d : Nat} {A K D : CHS} {h : HU} {s : SU} {t : TU} {v : VU} {r : RU}
theorem c_O_seed (x : Int32) (hs : s.1 = 1 ∨ s.1 = 17) (hk : okU (A, K, h, (v.1, v.2.1), r)) : GM0 E mO_seed (d + 1) [R 0, I x] (WO A K D h s t v r) (oQ (opSeed (A, K, h, (v.1, v.2.1), r) x)) := by
  refine gm okO_seed rfl ?_
  refine gr rfl ?_
  exact gret rfl rfl (oQ_mk (A := (A.1, A.2.1, A.2.2.1, A.2.2.2.1, A.2.2.2.2.1, x)) hs)
theorem c_O_image (hs : s.1 = 1 ∨ s.1 = 17) (hk : okU (A, K, h, (v.1, v.2.1), r)) : GM0 E mO_image (d + 2) [R 0] (WO A K D h s t v r) (oQ (opImage (A, K, h, (v.1, v.2.1), r))) := by
  refine gm okO_image rfl ?_
  refine gr rfl ?_
  refine cV (iK ++ iA) U1 U1 rfl rfl rfl (c_C_become (F := K.1) (n := K.2.1) (t := K.2.2.1) (wt := K.2.2.2.1) (hy := K.2.2.2.2.1) (sd := K.2.2.2.2.2) (F' := A.1) (n' := A.2.1) (t' := A.2.2.1) (wt' := A.2.2.2.1) (hy' := A.2.2.2.2.1) (sd' := A.2.2.2.2.2)) rfl rfl rfl rfl rfl rfl rfl rfl ?_
  refine gr rfl ?_
  exact gret rfl rfl (oQ_mk (K := A) (r := (r.1, true, r.2.2)) hs)
theorem c_O_restore (hs : s.1 = 1 ∨ s.1 = 17) (hk : okU (A, K, h, (v.1, v.2.1), r)) (hK : K.2.1 ≤ 12) : GM0 E mO_restore (d + 3) [R 0] (WO A K D h s t v r) (oQ (opRestore (A, K, h, (v.1, v.2.1), r))) := by
  refine gm okO_restore rfl ?_
  refine gr rfl ?_
  unfold opRestore
  refine gz rfl (fun q => ?_) (fun q => ?_)
  · rw [if_pos q]
    refine gr rfl ?_
    refine oNo 6 rfl rfl rfl (by decide) ?_
    exact gret rfl rfl (oQ_mk hs)
  · rw [if_neg (by show ¬ r.2.1 = false; rw [q]; decide)]
    refine gr rfl ?_
    refine cV (iA ++ iK) U1 U1 rfl rfl rfl (c_C_become (F := A.1) (n := A.2.1) (t := A.2.2.1) (wt := A.2.2.2.1) (hy := A.2.2.2.2.1) (sd := A.2.2.2.2.2) (F' := K.1) (n' := K.2.1) (t' := K.2.2.1) (wt' := K.2.2.2.1) (hy' := K.2.2.2.2.1) (sd' := K.2.2.2.2.2)) rfl rfl rfl rfl rfl rfl rfl rfl ?_
    refine gr rfl ?_
    refine cV iH U1 U1 rfl rfl rfl (c_H_dropVoicesFrom (RW := h.1) (sz := h.2.1) (hd := h.2.2) (n := K.2.1) (by omega) hk.2.2.2.1) rfl rfl rfl rfl rfl rfl rfl rfl ?_
    refine gr rfl ?_
    exact gret rfl rfl (oQ_mk (A := K) (h := (h.1, h.2.1, drp h.2.2 K.2.1 8)) hs)
theorem c_O_trace (i : Int32) (hrn : v.2.1 < 1000) : GM0 E mO_trace (d + 2) [R 0, I i] (WO A K D h s t v r) (dmE (some (I (opTrace (A, K, h, (v.1, v.2.1), r) i))) (WO A K D h s t v r)) := by
  refine gm okO_trace rfl ?_
  refine gr rfl ?_
  refine cV iV U1 U1 rfl rfl rfl (c_V_bodyAt (B := v.1) (rn := v.2.1) (kd := v.2.2.1) (m := v.2.2.2.1) (k := v.2.2.2.2) i hrn) rfl rfl rfl rfl rfl rfl rfl rfl ?_
  refine gr rfl ?_
  exact gret rfl rfl ⟨rfl, rfl⟩
theorem c_O_act (x mv y : Int32) (hs : s.1 = 1 ∨ s.1 = 17) (hk : okU (A, K, h, (v.1, v.2.1), r)) : GM0 E mO_act (d + 19) [R 0, I x, I mv, I y] (WO A K D h s t v r) (oQ (opAct (A, K, h, (v.1, v.2.1), r) x mv y)) := by
  refine gm okO_act rfl ?_
  refine gr rfl ?_
  refine cV iV U1 U1 rfl rfl rfl (c_V_forget (B := v.1) (rn := v.2.1) (kd := v.2.2.1) (m := v.2.2.2.1) (k := v.2.2.2.2)) rfl rfl rfl rfl rfl rfl rfl rfl ?_
  refine gr rfl ?_
  refine cV iA U1 U1 rfl rfl rfl (c_C_hasVoice (F := A.1) (n := A.2.1) (t := A.2.2.1) (wt := A.2.2.2.1) (hy := A.2.2.2.2.1) (sd := A.2.2.2.2.2) x) rfl rfl rfl rfl rfl rfl rfl rfl ?_
  unfold opAct
  have hn : A.2.1 ≤ 12 := hk.2.1
  refine gz rfl (fun q => ?_) (fun q => ?_)
  · rw [if_neg (by show ¬ (inN x A.2.1 && _) = true; rw [q]; exact Bool.false_ne_true)]
    refine gr rfl ?_
    exact gret rfl rfl (oQ_mk (v := (v.1, 0, v.2.2)) hs)
  · refine gr rfl ?_
    refine cs rfl rfl rfl (c_O_within mv 0 2) rfl ?_
    rw [show wi mv 0 2 = inN mv 3 from wi_in (k := 2) (by decide)]
    refine gz rfl (fun q2 => ?_) (fun q2 => ?_)
    · rw [if_neg (by rw [q2, Bool.and_false]; exact Bool.false_ne_true)]
      refine gr rfl ?_
      exact gret rfl rfl (oQ_mk (v := (v.1, 0, v.2.2)) hs)
    · rw [if_pos (by show (inN x A.2.1 && inN mv 3) = true; rw [q, q2]; rfl)]
      obtain ⟨x1, x2⟩ := inN_ix q (by omega)
      obtain ⟨m1, m2⟩ := inN_ix q2 (by decide)
      have f0 := (hk.1.2.2.1 (ix x) x1).1
      refine gr rfl ?_
      refine gld (ix x) rfl rfl x2 (by omega) ?_
      refine gr rfl ?_
      refine gld (ix x) rfl rfl x2 (by omega) ?_
      refine gr rfl ?_
      generalize ix mv = mv' at *
      subst m2
      refine cV iV U1 U1 rfl rfl rfl (c_V_start (B := v.1) (rn := 0) (kd0 := v.2.2.1) (m0 := v.2.2.2.1) (k0 := v.2.2.2.2) (K := A.1 0 (ix x)) (mv := mv') (m := x) (k := nI (A.1 1 (ix x))) (x := y) f0 m1 (by decide)) rfl rfl rfl rfl rfl rfl rfl rfl ?_
      refine gr rfl ?_
      exact gret rfl rfl (oQ_mk (v := (ntL v.1 0 (mvT (A.1 0 (ix x)) mv'), 0 + (mvT (A.1 0 (ix x)) mv').length, A.1 0 (ix x), x, nI (A.1 1 (ix x)))) hs)
end OH
end
