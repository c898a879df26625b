section
-- ===== PART A: goes FIRST, ahead of the names: the tables' words, and 'selects' of the private methods out of them =====
/-- a private method of a class that the tables say can be made, by its rows of tables_1 -/
def lw_okq (q : MethodName × Nat) : Prop := (q.1.cls ≠ "java/lang/invoke/MethodHandle" ∧ q.1.cls ≠ "java/lang/invoke/VarHandle") ∧ Cond.instantiable q.1.cls q.2 ∈ tables_1 ∧ Cond.privateMethod q.1 ∈ tables_1 ∧ Cond.instanceMethod q.1 ∈ tables_1
theorem lw_p0 : lw_okq (⟨"RubberSeals", "found", "(I)I"⟩, 14) := ⟨⟨by decide +kernel, by decide +kernel⟩, List.mem_of_getElem? (i := 12) (by decide +kernel), List.mem_of_getElem? (i := 256) (by decide +kernel), List.mem_of_getElem? (i := 257) (by decide +kernel)⟩
theorem lw_p1 : lw_okq (⟨"RubberSeals$Reader", "here", "()I"⟩, 3) := ⟨⟨by decide +kernel, by decide +kernel⟩, List.mem_of_getElem? (i := 28) (by decide +kernel), List.mem_of_getElem? (i := 321) (by decide +kernel), List.mem_of_getElem? (i := 322) (by decide +kernel)⟩
theorem lw_p2 : lw_okq (⟨"RubberSeals$Reader", "readItem", "(I)Z"⟩, 3) := ⟨⟨by decide +kernel, by decide +kernel⟩, List.mem_of_getElem? (i := 28) (by decide +kernel), List.mem_of_getElem? (i := 326) (by decide +kernel), List.mem_of_getElem? (i := 327) (by decide +kernel)⟩
theorem lw_p3 : lw_okq (⟨"RubberSeals$Reader", "readPair", "()Z"⟩, 3) := ⟨⟨by decide +kernel, by decide +kernel⟩, List.mem_of_getElem? (i := 28) (by decide +kernel), List.mem_of_getElem? (i := 330) (by decide +kernel), List.mem_of_getElem? (i := 331) (by decide +kernel)⟩
theorem lw_p4 : lw_okq (⟨"RubberSeals$Reader", "number", "(I)I"⟩, 3) := ⟨⟨by decide +kernel, by decide +kernel⟩, List.mem_of_getElem? (i := 28) (by decide +kernel), List.mem_of_getElem? (i := 338) (by decide +kernel), List.mem_of_getElem? (i := 339) (by decide +kernel)⟩
theorem lw_p5 : lw_okq (⟨"RubberSeals$Reader", "readCold", "()Z"⟩, 3) := ⟨⟨by decide +kernel, by decide +kernel⟩, List.mem_of_getElem? (i := 28) (by decide +kernel), List.mem_of_getElem? (i := 348) (by decide +kernel), List.mem_of_getElem? (i := 349) (by decide +kernel)⟩
theorem lw_p6 : lw_okq (⟨"RubberSeals$Reader", "readPlain", "(I)Z"⟩, 3) := ⟨⟨by decide +kernel, by decide +kernel⟩, List.mem_of_getElem? (i := 28) (by decide +kernel), List.mem_of_getElem? (i := 352) (by decide +kernel), List.mem_of_getElem? (i := 353) (by decide +kernel)⟩
theorem lw_p7 : lw_okq (⟨"RubberSeals", "tell", "(JJ)V"⟩, 14) := ⟨⟨by decide +kernel, by decide +kernel⟩, List.mem_of_getElem? (i := 12) (by decide +kernel), List.mem_of_getElem? (i := 403) (by decide +kernel), List.mem_of_getElem? (i := 404) (by decide +kernel)⟩
theorem lw_p8 : lw_okq (⟨"RubberSeals", "missed", "(II)I"⟩, 14) := ⟨⟨by decide +kernel, by decide +kernel⟩, List.mem_of_getElem? (i := 12) (by decide +kernel), List.mem_of_getElem? (i := 440) (by decide +kernel), List.mem_of_getElem? (i := 441) (by decide +kernel)⟩
theorem lw_p9 : lw_okq (⟨"RubberSeals", "countOfKind", "(I)I"⟩, 14) := ⟨⟨by decide +kernel, by decide +kernel⟩, List.mem_of_getElem? (i := 12) (by decide +kernel), List.mem_of_getElem? (i := 478) (by decide +kernel), List.mem_of_getElem? (i := 479) (by decide +kernel)⟩
theorem lw_p10 : lw_okq (⟨"RubberSeals", "settleAsIs", "()V"⟩, 14) := ⟨⟨by decide +kernel, by decide +kernel⟩, List.mem_of_getElem? (i := 12) (by decide +kernel), List.mem_of_getElem? (i := 482) (by decide +kernel), List.mem_of_getElem? (i := 483) (by decide +kernel)⟩
theorem lw_p11 : lw_okq (⟨"RubberSeals", "layOut", "()V"⟩, 14) := ⟨⟨by decide +kernel, by decide +kernel⟩, List.mem_of_getElem? (i := 12) (by decide +kernel), List.mem_of_getElem? (i := 486) (by decide +kernel), List.mem_of_getElem? (i := 487) (by decide +kernel)⟩
theorem lw_p12 : lw_okq (⟨"RubberSeals", "stuffOf", "(LRubberSeals$Seal;)LRubberSeals$Stuff;"⟩, 14) := ⟨⟨by decide +kernel, by decide +kernel⟩, List.mem_of_getElem? (i := 12) (by decide +kernel), List.mem_of_getElem? (i := 490) (by decide +kernel), List.mem_of_getElem? (i := 491) (by decide +kernel)⟩
theorem lw_p13 : lw_okq (⟨"RubberSeals$Trial", "floorHeight", "()I"⟩, 12) := ⟨⟨by decide +kernel, by decide +kernel⟩, List.mem_of_getElem? (i := 110) (by decide +kernel), List.mem_of_getElem? (i := 505) (by decide +kernel), List.mem_of_getElem? (i := 506) (by decide +kernel)⟩
theorem lw_p14 : lw_okq (⟨"RubberSeals$Trial", "highestTop", "(I)I"⟩, 12) := ⟨⟨by decide +kernel, by decide +kernel⟩, List.mem_of_getElem? (i := 110) (by decide +kernel), List.mem_of_getElem? (i := 510) (by decide +kernel), List.mem_of_getElem? (i := 511) (by decide +kernel)⟩
theorem lw_p15 : lw_okq (⟨"RubberSeals$Trial", "pushAt", "(I)J"⟩, 12) := ⟨⟨by decide +kernel, by decide +kernel⟩, List.mem_of_getElem? (i := 110) (by decide +kernel), List.mem_of_getElem? (i := 515) (by decide +kernel), List.mem_of_getElem? (i := 516) (by decide +kernel)⟩
def lw_privs_1 : List (MethodName × Nat) := [(⟨"RubberSeals", "found", "(I)I"⟩, 14), (⟨"RubberSeals$Reader", "here", "()I"⟩, 3), (⟨"RubberSeals$Reader", "readItem", "(I)Z"⟩, 3), (⟨"RubberSeals$Reader", "readPair", "()Z"⟩, 3), (⟨"RubberSeals$Reader", "number", "(I)I"⟩, 3), (⟨"RubberSeals$Reader", "readCold", "()Z"⟩, 3), (⟨"RubberSeals$Reader", "readPlain", "(I)Z"⟩, 3), (⟨"RubberSeals", "tell", "(JJ)V"⟩, 14), (⟨"RubberSeals", "missed", "(II)I"⟩, 14), (⟨"RubberSeals", "countOfKind", "(I)I"⟩, 14), (⟨"RubberSeals", "settleAsIs", "()V"⟩, 14), (⟨"RubberSeals", "layOut", "()V"⟩, 14), (⟨"RubberSeals", "stuffOf", "(LRubberSeals$Seal;)LRubberSeals$Stuff;"⟩, 14), (⟨"RubberSeals$Trial", "floorHeight", "()I"⟩, 12), (⟨"RubberSeals$Trial", "highestTop", "(I)I"⟩, 12), (⟨"RubberSeals$Trial", "pushAt", "(I)J"⟩, 12)]
theorem lw_r1 : ∀ q ∈ lw_privs_1, lw_okq q := List.forall_mem_cons.mpr ⟨lw_p0, List.forall_mem_cons.mpr ⟨lw_p1, List.forall_mem_cons.mpr ⟨lw_p2, List.forall_mem_cons.mpr ⟨lw_p3, List.forall_mem_cons.mpr ⟨lw_p4, List.forall_mem_cons.mpr ⟨lw_p5, List.forall_mem_cons.mpr ⟨lw_p6, List.forall_mem_cons.mpr ⟨lw_p7, List.forall_mem_cons.mpr ⟨lw_p8, List.forall_mem_cons.mpr ⟨lw_p9, List.forall_mem_cons.mpr ⟨lw_p10, List.forall_mem_cons.mpr ⟨lw_p11, List.forall_mem_cons.mpr ⟨lw_p12, List.forall_mem_cons.mpr ⟨lw_p13, List.forall_mem_cons.mpr ⟨lw_p14, List.forall_mem_cons.mpr ⟨lw_p15, fun _ h => absurd h List.not_mem_nil⟩⟩⟩⟩⟩⟩⟩⟩⟩⟩⟩⟩⟩⟩⟩⟩
theorem lw_p16 : lw_okq (⟨"RubberSeals$Trial", "stiffness", "(I)J"⟩, 12) := ⟨⟨by decide +kernel, by decide +kernel⟩, List.mem_of_getElem? (i := 110) (by decide +kernel), List.mem_of_getElem? (i := 519) (by decide +kernel), List.mem_of_getElem? (i := 520) (by decide +kernel)⟩
theorem lw_p17 : lw_okq (⟨"RubberSeals$Trial", "restBetween", "(IJJJ)V"⟩, 12) := ⟨⟨by decide +kernel, by decide +kernel⟩, List.mem_of_getElem? (i := 110) (by decide +kernel), List.mem_of_getElem? (i := 525) (by decide +kernel), List.mem_of_getElem? (i := 526) (by decide +kernel)⟩
theorem lw_p18 : lw_okq (⟨"RubberSeals$Trial", "findPress", "(I)V"⟩, 12) := ⟨⟨by decide +kernel, by decide +kernel⟩, List.mem_of_getElem? (i := 110) (by decide +kernel), List.mem_of_getElem? (i := 531) (by decide +kernel), List.mem_of_getElem? (i := 532) (by decide +kernel)⟩
theorem lw_p19 : lw_okq (⟨"RubberSeals", "settleAtEnd", "(III)V"⟩, 14) := ⟨⟨by decide +kernel, by decide +kernel⟩, List.mem_of_getElem? (i := 12) (by decide +kernel), List.mem_of_getElem? (i := 623) (by decide +kernel), List.mem_of_getElem? (i := 624) (by decide +kernel)⟩
theorem lw_p20 : lw_okq (⟨"RubberSeals", "lacksOneOf", "(I)Z"⟩, 14) := ⟨⟨by decide +kernel, by decide +kernel⟩, List.mem_of_getElem? (i := 12) (by decide +kernel), List.mem_of_getElem? (i := 666) (by decide +kernel), List.mem_of_getElem? (i := 667) (by decide +kernel)⟩
theorem lw_p21 : lw_okq (⟨"RubberSeals", "spread", "(II)J"⟩, 14) := ⟨⟨by decide +kernel, by decide +kernel⟩, List.mem_of_getElem? (i := 12) (by decide +kernel), List.mem_of_getElem? (i := 671) (by decide +kernel), List.mem_of_getElem? (i := 672) (by decide +kernel)⟩
theorem lw_p22 : lw_okq (⟨"RubberSeals", "remove", "(I)V"⟩, 14) := ⟨⟨by decide +kernel, by decide +kernel⟩, List.mem_of_getElem? (i := 12) (by decide +kernel), List.mem_of_getElem? (i := 690) (by decide +kernel), List.mem_of_getElem? (i := 691) (by decide +kernel)⟩
theorem lw_p23 : lw_okq (⟨"RubberSeals", "listMembers", "(I)I"⟩, 14) := ⟨⟨by decide +kernel, by decide +kernel⟩, List.mem_of_getElem? (i := 12) (by decide +kernel), List.mem_of_getElem? (i := 701) (by decide +kernel), List.mem_of_getElem? (i := 702) (by decide +kernel)⟩
theorem lw_p24 : lw_okq (⟨"RubberSeals", "cheapest", "(IILRubberSeals$Row;)I"⟩, 14) := ⟨⟨by decide +kernel, by decide +kernel⟩, List.mem_of_getElem? (i := 12) (by decide +kernel), List.mem_of_getElem? (i := 705) (by decide +kernel), List.mem_of_getElem? (i := 706) (by decide +kernel)⟩
theorem lw_p25 : lw_okq (⟨"RubberSeals", "dealOut", "(II)I"⟩, 14) := ⟨⟨by decide +kernel, by decide +kernel⟩, List.mem_of_getElem? (i := 12) (by decide +kernel), List.mem_of_getElem? (i := 709) (by decide +kernel), List.mem_of_getElem? (i := 710) (by decide +kernel)⟩
theorem lw_p26 : lw_okq (⟨"RubberSeals", "priceOf", "(ILRubberSeals$Row;)I"⟩, 14) := ⟨⟨by decide +kernel, by decide +kernel⟩, List.mem_of_getElem? (i := 12) (by decide +kernel), List.mem_of_getElem? (i := 713) (by decide +kernel), List.mem_of_getElem? (i := 714) (by decide +kernel)⟩
theorem lw_p27 : lw_okq (⟨"RubberSeals", "countOfStuffs", "()I"⟩, 14) := ⟨⟨by decide +kernel, by decide +kernel⟩, List.mem_of_getElem? (i := 12) (by decide +kernel), List.mem_of_getElem? (i := 746) (by decide +kernel), List.mem_of_getElem? (i := 747) (by decide +kernel)⟩
theorem lw_p28 : lw_okq (⟨"RubberSealsModel", "meets", "(I)I"⟩, 51) := ⟨⟨by decide +kernel, by decide +kernel⟩, List.mem_of_getElem? (i := 793) (by decide +kernel), List.mem_of_getElem? (i := 984) (by decide +kernel), List.mem_of_getElem? (i := 985) (by decide +kernel)⟩
theorem lw_p29 : lw_okq (⟨"RubberSealsModel", "rowAt", "(II)I"⟩, 51) := ⟨⟨by decide +kernel, by decide +kernel⟩, List.mem_of_getElem? (i := 793) (by decide +kernel), List.mem_of_getElem? (i := 992) (by decide +kernel), List.mem_of_getElem? (i := 993) (by decide +kernel)⟩
theorem lw_p30 : lw_okq (⟨"RubberSealsModel", "tells", "(II)I"⟩, 51) := ⟨⟨by decide +kernel, by decide +kernel⟩, List.mem_of_getElem? (i := 793) (by decide +kernel), List.mem_of_getElem? (i := 996) (by decide +kernel), List.mem_of_getElem? (i := 997) (by decide +kernel)⟩
theorem lw_p31 : lw_okq (⟨"RubberSealsModel", "faultOf", "(I)I"⟩, 51) := ⟨⟨by decide +kernel, by decide +kernel⟩, List.mem_of_getElem? (i := 793) (by decide +kernel), List.mem_of_getElem? (i := 1027) (by decide +kernel), List.mem_of_getElem? (i := 1028) (by decide +kernel)⟩
def lw_privs_2 : List (MethodName × Nat) := [(⟨"RubberSeals$Trial", "stiffness", "(I)J"⟩, 12), (⟨"RubberSeals$Trial", "restBetween", "(IJJJ)V"⟩, 12), (⟨"RubberSeals$Trial", "findPress", "(I)V"⟩, 12), (⟨"RubberSeals", "settleAtEnd", "(III)V"⟩, 14), (⟨"RubberSeals", "lacksOneOf", "(I)Z"⟩, 14), (⟨"RubberSeals", "spread", "(II)J"⟩, 14), (⟨"RubberSeals", "remove", "(I)V"⟩, 14), (⟨"RubberSeals", "listMembers", "(I)I"⟩, 14), (⟨"RubberSeals", "cheapest", "(IILRubberSeals$Row;)I"⟩, 14), (⟨"RubberSeals", "dealOut", "(II)I"⟩, 14), (⟨"RubberSeals", "priceOf", "(ILRubberSeals$Row;)I"⟩, 14), (⟨"RubberSeals", "countOfStuffs", "()I"⟩, 14), (⟨"RubberSealsModel", "meets", "(I)I"⟩, 51), (⟨"RubberSealsModel", "rowAt", "(II)I"⟩, 51), (⟨"RubberSealsModel", "tells", "(II)I"⟩, 51), (⟨"RubberSealsModel", "faultOf", "(I)I"⟩, 51)]
theorem lw_r2 : ∀ q ∈ lw_privs_2, lw_okq q := List.forall_mem_cons.mpr ⟨lw_p16, List.forall_mem_cons.mpr ⟨lw_p17, List.forall_mem_cons.mpr ⟨lw_p18, List.forall_mem_cons.mpr ⟨lw_p19, List.forall_mem_cons.mpr ⟨lw_p20, List.forall_mem_cons.mpr ⟨lw_p21, List.forall_mem_cons.mpr ⟨lw_p22, List.forall_mem_cons.mpr ⟨lw_p23, List.forall_mem_cons.mpr ⟨lw_p24, List.forall_mem_cons.mpr ⟨lw_p25, List.forall_mem_cons.mpr ⟨lw_p26, List.forall_mem_cons.mpr ⟨lw_p27, List.forall_mem_cons.mpr ⟨lw_p28, List.forall_mem_cons.mpr ⟨lw_p29, List.forall_mem_cons.mpr ⟨lw_p30, List.forall_mem_cons.mpr ⟨lw_p31, fun _ h => absurd h List.not_mem_nil⟩⟩⟩⟩⟩⟩⟩⟩⟩⟩⟩⟩⟩⟩⟩⟩
theorem lw_p32 : lw_okq (⟨"RubberSealsModel", "byteAt", "(II)I"⟩, 51) := ⟨⟨by decide +kernel, by decide +kernel⟩, List.mem_of_getElem? (i := 793) (by decide +kernel), List.mem_of_getElem? (i := 1031) (by decide +kernel), List.mem_of_getElem? (i := 1032) (by decide +kernel)⟩
theorem lw_p33 : lw_okq (⟨"RubberSealsModel", "readItem", "(I)Z"⟩, 51) := ⟨⟨by decide +kernel, by decide +kernel⟩, List.mem_of_getElem? (i := 793) (by decide +kernel), List.mem_of_getElem? (i := 1035) (by decide +kernel), List.mem_of_getElem? (i := 1036) (by decide +kernel)⟩
theorem lw_p34 : lw_okq (⟨"RubberSealsModel", "readPoint", "(I)Z"⟩, 51) := ⟨⟨by decide +kernel, by decide +kernel⟩, List.mem_of_getElem? (i := 793) (by decide +kernel), List.mem_of_getElem? (i := 1039) (by decide +kernel), List.mem_of_getElem? (i := 1040) (by decide +kernel)⟩
theorem lw_p35 : lw_okq (⟨"RubberSealsModel", "readNumber", "(II)Z"⟩, 51) := ⟨⟨by decide +kernel, by decide +kernel⟩, List.mem_of_getElem? (i := 793) (by decide +kernel), List.mem_of_getElem? (i := 1043) (by decide +kernel), List.mem_of_getElem? (i := 1044) (by decide +kernel)⟩
theorem lw_p36 : lw_okq (⟨"RubberSealsModel", "needStuff", "(ZI)I"⟩, 51) := ⟨⟨by decide +kernel, by decide +kernel⟩, List.mem_of_getElem? (i := 793) (by decide +kernel), List.mem_of_getElem? (i := 1058) (by decide +kernel), List.mem_of_getElem? (i := 1059) (by decide +kernel)⟩
theorem lw_p37 : lw_okq (⟨"RubberSealsModel", "stuffTells", "(II)I"⟩, 51) := ⟨⟨by decide +kernel, by decide +kernel⟩, List.mem_of_getElem? (i := 793) (by decide +kernel), List.mem_of_getElem? (i := 1062) (by decide +kernel), List.mem_of_getElem? (i := 1063) (by decide +kernel)⟩
theorem lw_p38 : lw_okq (⟨"RubberSealsModel", "layPush", "(IJJ)V"⟩, 51) := ⟨⟨by decide +kernel, by decide +kernel⟩, List.mem_of_getElem? (i := 793) (by decide +kernel), List.mem_of_getElem? (i := 1070) (by decide +kernel), List.mem_of_getElem? (i := 1071) (by decide +kernel)⟩
theorem lw_p39 : lw_okq (⟨"RubberSealsModel", "lineOf", "(IJJ)I"⟩, 51) := ⟨⟨by decide +kernel, by decide +kernel⟩, List.mem_of_getElem? (i := 793) (by decide +kernel), List.mem_of_getElem? (i := 1074) (by decide +kernel), List.mem_of_getElem? (i := 1075) (by decide +kernel)⟩
theorem lw_p40 : lw_okq (⟨"RubberSealsModel", "run", "(II)I"⟩, 51) := ⟨⟨by decide +kernel, by decide +kernel⟩, List.mem_of_getElem? (i := 793) (by decide +kernel), List.mem_of_getElem? (i := 1078) (by decide +kernel), List.mem_of_getElem? (i := 1079) (by decide +kernel)⟩
theorem lw_p41 : lw_okq (⟨"RubberSealsModel", "rise", "(II)I"⟩, 51) := ⟨⟨by decide +kernel, by decide +kernel⟩, List.mem_of_getElem? (i := 793) (by decide +kernel), List.mem_of_getElem? (i := 1082) (by decide +kernel), List.mem_of_getElem? (i := 1083) (by decide +kernel)⟩
theorem lw_p42 : lw_okq (⟨"RubberSealsModel", "fraction", "(JJI)I"⟩, 51) := ⟨⟨by decide +kernel, by decide +kernel⟩, List.mem_of_getElem? (i := 793) (by decide +kernel), List.mem_of_getElem? (i := 1089) (by decide +kernel), List.mem_of_getElem? (i := 1090) (by decide +kernel)⟩
theorem lw_p43 : lw_okq (⟨"RubberSealsModel", "needSeal", "(ZI)I"⟩, 51) := ⟨⟨by decide +kernel, by decide +kernel⟩, List.mem_of_getElem? (i := 793) (by decide +kernel), List.mem_of_getElem? (i := 1104) (by decide +kernel), List.mem_of_getElem? (i := 1105) (by decide +kernel)⟩
theorem lw_p44 : lw_okq (⟨"RubberSealsModel", "isSeal", "(I)Z"⟩, 51) := ⟨⟨by decide +kernel, by decide +kernel⟩, List.mem_of_getElem? (i := 793) (by decide +kernel), List.mem_of_getElem? (i := 1108) (by decide +kernel), List.mem_of_getElem? (i := 1109) (by decide +kernel)⟩
theorem lw_p45 : lw_okq (⟨"RubberSealsModel", "isRing", "(I)Z"⟩, 51) := ⟨⟨by decide +kernel, by decide +kernel⟩, List.mem_of_getElem? (i := 793) (by decide +kernel), List.mem_of_getElem? (i := 1120) (by decide +kernel), List.mem_of_getElem? (i := 1121) (by decide +kernel)⟩
theorem lw_p46 : lw_okq (⟨"RubberSealsModel", "sealTells", "(II)I"⟩, 51) := ⟨⟨by decide +kernel, by decide +kernel⟩, List.mem_of_getElem? (i := 793) (by decide +kernel), List.mem_of_getElem? (i := 1131) (by decide +kernel), List.mem_of_getElem? (i := 1132) (by decide +kernel)⟩
theorem lw_p47 : lw_okq (⟨"RubberSealsModel", "isRubber", "(I)Z"⟩, 51) := ⟨⟨by decide +kernel, by decide +kernel⟩, List.mem_of_getElem? (i := 793) (by decide +kernel), List.mem_of_getElem? (i := 1139) (by decide +kernel), List.mem_of_getElem? (i := 1140) (by decide +kernel)⟩
def lw_privs_3 : List (MethodName × Nat) := [(⟨"RubberSealsModel", "byteAt", "(II)I"⟩, 51), (⟨"RubberSealsModel", "readItem", "(I)Z"⟩, 51), (⟨"RubberSealsModel", "readPoint", "(I)Z"⟩, 51), (⟨"RubberSealsModel", "readNumber", "(II)Z"⟩, 51), (⟨"RubberSealsModel", "needStuff", "(ZI)I"⟩, 51), (⟨"RubberSealsModel", "stuffTells", "(II)I"⟩, 51), (⟨"RubberSealsModel", "layPush", "(IJJ)V"⟩, 51), (⟨"RubberSealsModel", "lineOf", "(IJJ)I"⟩, 51), (⟨"RubberSealsModel", "run", "(II)I"⟩, 51), (⟨"RubberSealsModel", "rise", "(II)I"⟩, 51), (⟨"RubberSealsModel", "fraction", "(JJI)I"⟩, 51), (⟨"RubberSealsModel", "needSeal", "(ZI)I"⟩, 51), (⟨"RubberSealsModel", "isSeal", "(I)Z"⟩, 51), (⟨"RubberSealsModel", "isRing", "(I)Z"⟩, 51), (⟨"RubberSealsModel", "sealTells", "(II)I"⟩, 51), (⟨"RubberSealsModel", "isRubber", "(I)Z"⟩, 51)]
theorem lw_r3 : ∀ q ∈ lw_privs_3, lw_okq q := List.forall_mem_cons.mpr ⟨lw_p32, List.forall_mem_cons.mpr ⟨lw_p33, List.forall_mem_cons.mpr ⟨lw_p34, List.forall_mem_cons.mpr ⟨lw_p35, List.forall_mem_cons.mpr ⟨lw_p36, List.forall_mem_cons.mpr ⟨lw_p37, List.forall_mem_cons.mpr ⟨lw_p38, List.forall_mem_cons.mpr ⟨lw_p39, List.forall_mem_cons.mpr ⟨lw_p40, List.forall_mem_cons.mpr ⟨lw_p41, List.forall_mem_cons.mpr ⟨lw_p42, List.forall_mem_cons.mpr ⟨lw_p43, List.forall_mem_cons.mpr ⟨lw_p44, List.forall_mem_cons.mpr ⟨lw_p45, List.forall_mem_cons.mpr ⟨lw_p46, List.forall_mem_cons.mpr ⟨lw_p47, fun _ h => absurd h List.not_mem_nil⟩⟩⟩⟩⟩⟩⟩⟩⟩⟩⟩⟩⟩⟩⟩⟩
theorem lw_p48 : lw_okq (⟨"RubberSealsModel", "highest", "(ZZ)I"⟩, 51) := ⟨⟨by decide +kernel, by decide +kernel⟩, List.mem_of_getElem? (i := 793) (by decide +kernel), List.mem_of_getElem? (i := 1152) (by decide +kernel), List.mem_of_getElem? (i := 1153) (by decide +kernel)⟩
theorem lw_p49 : lw_okq (⟨"RubberSealsModel", "topOf", "(I)I"⟩, 51) := ⟨⟨by decide +kernel, by decide +kernel⟩, List.mem_of_getElem? (i := 793) (by decide +kernel), List.mem_of_getElem? (i := 1156) (by decide +kernel), List.mem_of_getElem? (i := 1157) (by decide +kernel)⟩
theorem lw_p50 : lw_okq (⟨"RubberSealsModel", "layRest", "()V"⟩, 51) := ⟨⟨by decide +kernel, by decide +kernel⟩, List.mem_of_getElem? (i := 793) (by decide +kernel), List.mem_of_getElem? (i := 1160) (by decide +kernel), List.mem_of_getElem? (i := 1161) (by decide +kernel)⟩
theorem lw_p51 : lw_okq (⟨"RubberSealsModel", "nextBreak", "(I)I"⟩, 51) := ⟨⟨by decide +kernel, by decide +kernel⟩, List.mem_of_getElem? (i := 793) (by decide +kernel), List.mem_of_getElem? (i := 1164) (by decide +kernel), List.mem_of_getElem? (i := 1165) (by decide +kernel)⟩
theorem lw_p52 : lw_okq (⟨"RubberSealsModel", "restsBelow", "(II)Z"⟩, 51) := ⟨⟨by decide +kernel, by decide +kernel⟩, List.mem_of_getElem? (i := 793) (by decide +kernel), List.mem_of_getElem? (i := 1168) (by decide +kernel), List.mem_of_getElem? (i := 1169) (by decide +kernel)⟩
theorem lw_p53 : lw_okq (⟨"RubberSealsModel", "factor", "(I)I"⟩, 51) := ⟨⟨by decide +kernel, by decide +kernel⟩, List.mem_of_getElem? (i := 793) (by decide +kernel), List.mem_of_getElem? (i := 1172) (by decide +kernel), List.mem_of_getElem? (i := 1173) (by decide +kernel)⟩
theorem lw_p54 : lw_okq (⟨"RubberSealsModel", "needRubber", "(ZI)I"⟩, 51) := ⟨⟨by decide +kernel, by decide +kernel⟩, List.mem_of_getElem? (i := 793) (by decide +kernel), List.mem_of_getElem? (i := 1180) (by decide +kernel), List.mem_of_getElem? (i := 1181) (by decide +kernel)⟩
theorem lw_p55 : lw_okq (⟨"RubberSealsModel", "layPress", "(I)V"⟩, 51) := ⟨⟨by decide +kernel, by decide +kernel⟩, List.mem_of_getElem? (i := 793) (by decide +kernel), List.mem_of_getElem? (i := 1184) (by decide +kernel), List.mem_of_getElem? (i := 1185) (by decide +kernel)⟩
theorem lw_p56 : lw_okq (⟨"RubberSealsModel", "isOpen", "()Z"⟩, 51) := ⟨⟨by decide +kernel, by decide +kernel⟩, List.mem_of_getElem? (i := 793) (by decide +kernel), List.mem_of_getElem? (i := 1188) (by decide +kernel), List.mem_of_getElem? (i := 1189) (by decide +kernel)⟩
theorem lw_p57 : lw_okq (⟨"RubberSealsModel", "openNow", "()I"⟩, 51) := ⟨⟨by decide +kernel, by decide +kernel⟩, List.mem_of_getElem? (i := 793) (by decide +kernel), List.mem_of_getElem? (i := 1196) (by decide +kernel), List.mem_of_getElem? (i := 1197) (by decide +kernel)⟩
theorem lw_p58 : lw_okq (⟨"RubberSealsModel", "swollen", "(I)I"⟩, 51) := ⟨⟨by decide +kernel, by decide +kernel⟩, List.mem_of_getElem? (i := 793) (by decide +kernel), List.mem_of_getElem? (i := 1227) (by decide +kernel), List.mem_of_getElem? (i := 1228) (by decide +kernel)⟩
theorem lw_p59 : lw_okq (⟨"RubberSealsModel", "keepAll", "()V"⟩, 51) := ⟨⟨by decide +kernel, by decide +kernel⟩, List.mem_of_getElem? (i := 793) (by decide +kernel), List.mem_of_getElem? (i := 1247) (by decide +kernel), List.mem_of_getElem? (i := 1248) (by decide +kernel)⟩
theorem lw_p60 : lw_okq (⟨"RubberSealsModel", "layEnd", "(III)V"⟩, 51) := ⟨⟨by decide +kernel, by decide +kernel⟩, List.mem_of_getElem? (i := 793) (by decide +kernel), List.mem_of_getElem? (i := 1252) (by decide +kernel), List.mem_of_getElem? (i := 1253) (by decide +kernel)⟩
theorem lw_p61 : lw_okq (⟨"RubberSealsModel", "putBack", "()V"⟩, 51) := ⟨⟨by decide +kernel, by decide +kernel⟩, List.mem_of_getElem? (i := 793) (by decide +kernel), List.mem_of_getElem? (i := 1256) (by decide +kernel), List.mem_of_getElem? (i := 1257) (by decide +kernel)⟩
theorem lw_p62 : lw_okq (⟨"RubberSealsModel", "isKept", "(III)Z"⟩, 51) := ⟨⟨by decide +kernel, by decide +kernel⟩, List.mem_of_getElem? (i := 793) (by decide +kernel), List.mem_of_getElem? (i := 1273) (by decide +kernel), List.mem_of_getElem? (i := 1274) (by decide +kernel)⟩
theorem lw_p63 : lw_okq (⟨"RubberSealsModel", "areThere", "(I)Z"⟩, 51) := ⟨⟨by decide +kernel, by decide +kernel⟩, List.mem_of_getElem? (i := 793) (by decide +kernel), List.mem_of_getElem? (i := 1284) (by decide +kernel), List.mem_of_getElem? (i := 1285) (by decide +kernel)⟩
def lw_privs_4 : List (MethodName × Nat) := [(⟨"RubberSealsModel", "highest", "(ZZ)I"⟩, 51), (⟨"RubberSealsModel", "topOf", "(I)I"⟩, 51), (⟨"RubberSealsModel", "layRest", "()V"⟩, 51), (⟨"RubberSealsModel", "nextBreak", "(I)I"⟩, 51), (⟨"RubberSealsModel", "restsBelow", "(II)Z"⟩, 51), (⟨"RubberSealsModel", "factor", "(I)I"⟩, 51), (⟨"RubberSealsModel", "needRubber", "(ZI)I"⟩, 51), (⟨"RubberSealsModel", "layPress", "(I)V"⟩, 51), (⟨"RubberSealsModel", "isOpen", "()Z"⟩, 51), (⟨"RubberSealsModel", "openNow", "()I"⟩, 51), (⟨"RubberSealsModel", "swollen", "(I)I"⟩, 51), (⟨"RubberSealsModel", "keepAll", "()V"⟩, 51), (⟨"RubberSealsModel", "layEnd", "(III)V"⟩, 51), (⟨"RubberSealsModel", "putBack", "()V"⟩, 51), (⟨"RubberSealsModel", "isKept", "(III)Z"⟩, 51), (⟨"RubberSealsModel", "areThere", "(I)Z"⟩, 51)]
theorem lw_r4 : ∀ q ∈ lw_privs_4, lw_okq q := List.forall_mem_cons.mpr ⟨lw_p48, List.forall_mem_cons.mpr ⟨lw_p49, List.forall_mem_cons.mpr ⟨lw_p50, List.forall_mem_cons.mpr ⟨lw_p51, List.forall_mem_cons.mpr ⟨lw_p52, List.forall_mem_cons.mpr ⟨lw_p53, List.forall_mem_cons.mpr ⟨lw_p54, List.forall_mem_cons.mpr ⟨lw_p55, List.forall_mem_cons.mpr ⟨lw_p56, List.forall_mem_cons.mpr ⟨lw_p57, List.forall_mem_cons.mpr ⟨lw_p58, List.forall_mem_cons.mpr ⟨lw_p59, List.forall_mem_cons.mpr ⟨lw_p60, List.forall_mem_cons.mpr ⟨lw_p61, List.forall_mem_cons.mpr ⟨lw_p62, List.forall_mem_cons.mpr ⟨lw_p63, fun _ h => absurd h List.not_mem_nil⟩⟩⟩⟩⟩⟩⟩⟩⟩⟩⟩⟩⟩⟩⟩⟩
theorem lw_p64 : lw_okq (⟨"RubberSealsModel", "layFar", "(II)V"⟩, 51) := ⟨⟨by decide +kernel, by decide +kernel⟩, List.mem_of_getElem? (i := 793) (by decide +kernel), List.mem_of_getElem? (i := 1288) (by decide +kernel), List.mem_of_getElem? (i := 1289) (by decide +kernel)⟩
theorem lw_p65 : lw_okq (⟨"RubberSealsModel", "isShutWithout", "(I)Z"⟩, 51) := ⟨⟨by decide +kernel, by decide +kernel⟩, List.mem_of_getElem? (i := 793) (by decide +kernel), List.mem_of_getElem? (i := 1303) (by decide +kernel), List.mem_of_getElem? (i := 1304) (by decide +kernel)⟩
theorem lw_p66 : lw_okq (⟨"RubberSealsModel", "needChoice", "(III)I"⟩, 51) := ⟨⟨by decide +kernel, by decide +kernel⟩, List.mem_of_getElem? (i := 793) (by decide +kernel), List.mem_of_getElem? (i := 1311) (by decide +kernel), List.mem_of_getElem? (i := 1312) (by decide +kernel)⟩
theorem lw_p67 : lw_okq (⟨"RubberSealsModel", "waysOf", "(I)I"⟩, 51) := ⟨⟨by decide +kernel, by decide +kernel⟩, List.mem_of_getElem? (i := 793) (by decide +kernel), List.mem_of_getElem? (i := 1315) (by decide +kernel), List.mem_of_getElem? (i := 1316) (by decide +kernel)⟩
theorem lw_p68 : lw_okq (⟨"RubberSealsModel", "layChoice", "(III)I"⟩, 51) := ⟨⟨by decide +kernel, by decide +kernel⟩, List.mem_of_getElem? (i := 793) (by decide +kernel), List.mem_of_getElem? (i := 1319) (by decide +kernel), List.mem_of_getElem? (i := 1320) (by decide +kernel)⟩
theorem lw_p69 : lw_okq (⟨"RubberSealsModel", "isLeakAt", "(IIII)Z"⟩, 51) := ⟨⟨by decide +kernel, by decide +kernel⟩, List.mem_of_getElem? (i := 793) (by decide +kernel), List.mem_of_getElem? (i := 1330) (by decide +kernel), List.mem_of_getElem? (i := 1331) (by decide +kernel)⟩
theorem lw_p70 : lw_okq (⟨"RubberSealsModel", "mix", "(J)V"⟩, 51) := ⟨⟨by decide +kernel, by decide +kernel⟩, List.mem_of_getElem? (i := 793) (by decide +kernel), List.mem_of_getElem? (i := 1344) (by decide +kernel), List.mem_of_getElem? (i := 1345) (by decide +kernel)⟩
theorem lw_p71 : lw_okq (⟨"RubberSealsModel", "mixPlaces", "()V"⟩, 51) := ⟨⟨by decide +kernel, by decide +kernel⟩, List.mem_of_getElem? (i := 793) (by decide +kernel), List.mem_of_getElem? (i := 1349) (by decide +kernel), List.mem_of_getElem? (i := 1350) (by decide +kernel)⟩
def lw_privs_5 : List (MethodName × Nat) := [(⟨"RubberSealsModel", "layFar", "(II)V"⟩, 51), (⟨"RubberSealsModel", "isShutWithout", "(I)Z"⟩, 51), (⟨"RubberSealsModel", "needChoice", "(III)I"⟩, 51), (⟨"RubberSealsModel", "waysOf", "(I)I"⟩, 51), (⟨"RubberSealsModel", "layChoice", "(III)I"⟩, 51), (⟨"RubberSealsModel", "isLeakAt", "(IIII)Z"⟩, 51), (⟨"RubberSealsModel", "mix", "(J)V"⟩, 51), (⟨"RubberSealsModel", "mixPlaces", "()V"⟩, 51)]
theorem lw_r5 : ∀ q ∈ lw_privs_5, lw_okq q := List.forall_mem_cons.mpr ⟨lw_p64, List.forall_mem_cons.mpr ⟨lw_p65, List.forall_mem_cons.mpr ⟨lw_p66, List.forall_mem_cons.mpr ⟨lw_p67, List.forall_mem_cons.mpr ⟨lw_p68, List.forall_mem_cons.mpr ⟨lw_p69, List.forall_mem_cons.mpr ⟨lw_p70, List.forall_mem_cons.mpr ⟨lw_p71, fun _ h => absurd h List.not_mem_nil⟩⟩⟩⟩⟩⟩⟩⟩
def lw_privs : List (MethodName × Nat) := lw_privs_1 ++ (lw_privs_2 ++ (lw_privs_3 ++ (lw_privs_4 ++ (lw_privs_5))))
def lw_tbl : List Cond := k2_sels lw_privs ++ tables_1
theorem lw_privs_ok : ∀ q ∈ lw_privs, lw_okq q := by
  show ∀ q ∈ lw_privs_1 ++ (lw_privs_2 ++ (lw_privs_3 ++ (lw_privs_4 ++ (lw_privs_5)))), lw_okq q
  exact List.forall_mem_append.mpr ⟨lw_r1, List.forall_mem_append.mpr ⟨lw_r2, List.forall_mem_append.mpr ⟨lw_r3, List.forall_mem_append.mpr ⟨lw_r4, lw_r5⟩⟩⟩⟩
end
section
def RX0 : String := "RubberSeals$Reader"
def TX0 : u_T := fun k => match k with
  | 0 => ("RubberSeals$Reader", "draft", "LRubberSeals$Stuff;", true)
  | 1 => ("RubberSeals$Reader", "signs", "LRubberSeals$Row;", false)
  | _ => ("RubberSeals$Reader", "at", "I", false)
def tyX0 : Nat → FieldType := fun k => match k with
  | 0 => .object "RubberSeals$Stuff"
  | 1 => .object "RubberSeals$Row"
  | _ => .int
abbrev wsX00 : List Cond := u_ws RX0 TX0 3
theorem nmX0 : ∀ a, a < 3 → ∀ b, b < 3 → a ≠ b → (TX0 a).2.1 ≠ (TX0 b).2.1 := by decide +kernel
theorem tyX0_ok : ∀ k, k < 3 → parseFieldDescriptor (TX0 k).2.2.1 = some (tyX0 k) := by decide +kernel
abbrev cX0_init : ByteArray := prog_2_method_1_code
def yX0_init : MethodName := ⟨RX0, "<init>", "()V"⟩
abbrev cX0_read : ByteArray := prog_2_method_2_code
def yX0_read : MethodName := ⟨RX0, "read", "(LRubberSeals$Row;)I"⟩
abbrev cX0_here : ByteArray := prog_2_method_3_code
def yX0_here : MethodName := ⟨RX0, "here", "()I"⟩
abbrev cX0_readItem : ByteArray := prog_2_method_4_code
def yX0_readItem : MethodName := ⟨RX0, "readItem", "(I)Z"⟩
abbrev cX0_readPair : ByteArray := prog_2_method_5_code
def yX0_readPair : MethodName := ⟨RX0, "readPair", "()Z"⟩
abbrev cX0_readCold : ByteArray := prog_2_method_6_code
def yX0_readCold : MethodName := ⟨RX0, "readCold", "()Z"⟩
abbrev cX0_readPlain : ByteArray := prog_2_method_7_code
def yX0_readPlain : MethodName := ⟨RX0, "readPlain", "(I)Z"⟩
abbrev cX0_number : ByteArray := prog_2_method_8_code
def yX0_number : MethodName := ⟨RX0, "number", "(I)I"⟩
def RX1 : String := "RubberSeals$Row"
def TX1 : u_T := fun k => match k with
  | 0 => ("RubberSeals$Row", "cells", "[I", true)
  | _ => ("RubberSeals$Row", "size", "I", false)
def tyX1 : Nat → FieldType := fun k => match k with
  | 0 => .array .int
  | _ => .int
abbrev wsX10 : List Cond := u_ws RX1 TX1 2
theorem nmX1 : ∀ a, a < 2 → ∀ b, b < 2 → a ≠ b → (TX1 a).2.1 ≠ (TX1 b).2.1 := by decide +kernel
theorem tyX1_ok : ∀ k, k < 2 → parseFieldDescriptor (TX1 k).2.2.1 = some (tyX1 k) := by decide +kernel
abbrev cX1_init : ByteArray := prog_3_method_1_code
def yX1_init : MethodName := ⟨RX1, "<init>", "(I)V"⟩
abbrev cX1_isMissing : ByteArray := prog_3_method_2_code
def yX1_isMissing : MethodName := ⟨RX1, "isMissing", "()Z"⟩
abbrev cX1_has : ByteArray := prog_3_method_3_code
def yX1_has : MethodName := ⟨RX1, "has", "(I)Z"⟩
abbrev cX1_hasRun : ByteArray := prog_3_method_4_code
def yX1_hasRun : MethodName := ⟨RX1, "hasRun", "(II)Z"⟩
abbrev cX1_make : ByteArray := prog_3_method_5_code
def yX1_make : MethodName := ⟨RX1, "make", "(II)V"⟩
abbrev cX1_mixInto : ByteArray := prog_3_method_6_code
def yX1_mixInto : MethodName := ⟨RX1, "mixInto", "(J)J"⟩
def RX2 : String := "RubberSeals$Seal"
def TX2 : u_T := fun k => match k with
  | 0 => ("RubberSeals$Seal", "kind", "I", false)
  | 1 => ("RubberSeals$Seal", "stuff", "I", false)
  | 2 => ("RubberSeals$Seal", "height", "I", false)
  | 3 => ("RubberSeals$Seal", "free", "I", false)
  | 4 => ("RubberSeals$Seal", "area", "I", false)
  | 5 => ("RubberSeals$Seal", "stretched", "I", false)
  | _ => ("RubberSeals$Seal", "asks", "I", false)
def tyX2 : Nat → FieldType := fun k => match k with
  | 0 => .int
  | 1 => .int
  | 2 => .int
  | 3 => .int
  | 4 => .int
  | 5 => .int
  | _ => .int
abbrev wsX20 : List Cond := u_ws RX2 TX2 7
theorem nmX2 : ∀ a, a < 7 → ∀ b, b < 7 → a ≠ b → (TX2 a).2.1 ≠ (TX2 b).2.1 := by decide +kernel
theorem tyX2_ok : ∀ k, k < 7 → parseFieldDescriptor (TX2 k).2.2.1 = some (tyX2 k) := by decide +kernel
abbrev cX2_init : ByteArray := prog_4_method_1_code
def yX2_init : MethodName := ⟨RX2, "<init>", "()V"⟩
abbrev cX2_isMissing : ByteArray := prog_4_method_2_code
def yX2_isMissing : MethodName := ⟨RX2, "isMissing", "()Z"⟩
abbrev cX2_is : ByteArray := prog_4_method_3_code
def yX2_is : MethodName := ⟨RX2, "is", "(I)Z"⟩
abbrev cX2_become : ByteArray := prog_4_method_4_code
def yX2_become : MethodName := ⟨RX2, "become", "(IIII)V"⟩
abbrev cX2_stretchedHeight : ByteArray := prog_4_method_5_code
def yX2_stretchedHeight : MethodName := ⟨RX2, "stretchedHeight", "()I"⟩
abbrev cX2_tells : ByteArray := prog_4_method_6_code
def yX2_tells : MethodName := ⟨RX2, "tells", "(I)I"⟩
abbrev cX2_tellsAs : ByteArray := prog_4_method_7_code
def yX2_tellsAs : MethodName := ⟨RX2, "tellsAs", "(I)I"⟩
abbrev cX2_mixInto : ByteArray := prog_4_method_8_code
def yX2_mixInto : MethodName := ⟨RX2, "mixInto", "(J)J"⟩
def RX3 : String := "RubberSeals$Stuff"
def TX3 : u_T := fun k => match k with
  | 0 => ("RubberSeals$Stuff", "xs", "[I", true)
  | 1 => ("RubberSeals$Stuff", "ys", "[I", true)
  | 2 => ("RubberSeals$Stuff", "points", "I", false)
  | 3 => ("RubberSeals$Stuff", "set", "I", false)
  | 4 => ("RubberSeals$Stuff", "cold", "I", false)
  | 5 => ("RubberSeals$Stuff", "swelling", "I", false)
  | _ => ("RubberSeals$Stuff", "gas", "I", false)
def tyX3 : Nat → FieldType := fun k => match k with
  | 0 => .array .int
  | 1 => .array .int
  | 2 => .int
  | 3 => .int
  | 4 => .int
  | 5 => .int
  | _ => .int
abbrev wsX30 : List Cond := u_ws RX3 TX3 7
theorem nmX3 : ∀ a, a < 7 → ∀ b, b < 7 → a ≠ b → (TX3 a).2.1 ≠ (TX3 b).2.1 := by decide +kernel
theorem tyX3_ok : ∀ k, k < 7 → parseFieldDescriptor (TX3 k).2.2.1 = some (tyX3 k) := by decide +kernel
abbrev cX3_init : ByteArray := prog_5_method_1_code
def yX3_init : MethodName := ⟨RX3, "<init>", "()V"⟩
abbrev cX3_isMissing : ByteArray := prog_5_method_2_code
def yX3_isMissing : MethodName := ⟨RX3, "isMissing", "()Z"⟩
abbrev cX3_clear : ByteArray := prog_5_method_3_code
def yX3_clear : MethodName := ⟨RX3, "clear", "()V"⟩
abbrev cX3_become : ByteArray := prog_5_method_4_code
def yX3_become : MethodName := ⟨RX3, "become", "(LRubberSeals$Stuff;)V"⟩
abbrev cX3_isFull : ByteArray := prog_5_method_5_code
def yX3_isFull : MethodName := ⟨RX3, "isFull", "()Z"⟩
abbrev cX3_add : ByteArray := prog_5_method_6_code
def yX3_add : MethodName := ⟨RX3, "add", "(II)V"⟩
abbrev cX3_tells : ByteArray := prog_5_method_7_code
def yX3_tells : MethodName := ⟨RX3, "tells", "(I)I"⟩
abbrev cX3_pieceAt : ByteArray := prog_5_method_8_code
def yX3_pieceAt : MethodName := ⟨RX3, "pieceAt", "(J)I"⟩
abbrev cX3_width : ByteArray := prog_5_method_9_code
def yX3_width : MethodName := ⟨RX3, "width", "(I)I"⟩
abbrev cX3_rise : ByteArray := prog_5_method_10_code
def yX3_rise : MethodName := ⟨RX3, "rise", "(I)I"⟩
abbrev cX3_scaledPush : ByteArray := prog_5_method_11_code
def yX3_scaledPush : MethodName := ⟨RX3, "scaledPush", "(I)J"⟩
abbrev cX3_fits : ByteArray := prog_5_method_12_code
def yX3_fits : MethodName := ⟨RX3, "fits", "(LRubberSeals$Row;I)Z"⟩
abbrev cX3_mixInto : ByteArray := prog_5_method_13_code
def yX3_mixInto : MethodName := ⟨RX3, "mixInto", "(J)J"⟩
def RX4 : String := "RubberSeals$Trial"
def TX4 : u_T := fun k => match k with
  | 0 => ("RubberSeals$Trial", "hard", "[Z", true)
  | 1 => ("RubberSeals$Trial", "rubber", "[Z", true)
  | 2 => ("RubberSeals$Trial", "tops", "[I", true)
  | 3 => ("RubberSeals$Trial", "areas", "[I", true)
  | 4 => ("RubberSeals$Trial", "stuffs", "[LRubberSeals$Stuff;", true)
  | 5 => ("RubberSeals$Trial", "lidPush", "I", false)
  | 6 => ("RubberSeals$Trial", "degrees", "I", false)
  | 7 => ("RubberSeals$Trial", "pressure", "I", false)
  | 8 => ("RubberSeals$Trial", "up", "J", false)
  | 9 => ("RubberSeals$Trial", "down", "J", false)
  | 10 => ("RubberSeals$Trial", "pressUp", "[J", true)
  | _ => ("RubberSeals$Trial", "widths", "[I", true)
def tyX4 : Nat → FieldType := fun k => match k with
  | 0 => .array .boolean
  | 1 => .array .boolean
  | 2 => .array .int
  | 3 => .array .int
  | 4 => .array (.object "RubberSeals$Stuff")
  | 5 => .int
  | 6 => .int
  | 7 => .int
  | 8 => .long
  | 9 => .long
  | 10 => .array .long
  | _ => .array .int
abbrev wsX40 : List Cond := u_ws RX4 TX4 12
theorem nmX4 : ∀ a, a < 12 → ∀ b, b < 12 → a ≠ b → (TX4 a).2.1 ≠ (TX4 b).2.1 := by decide +kernel
theorem tyX4_ok : ∀ k, k < 12 → parseFieldDescriptor (TX4 k).2.2.1 = some (tyX4 k) := by decide +kernel
abbrev cX4_init : ByteArray := prog_6_method_1_code
def yX4_init : MethodName := ⟨RX4, "<init>", "()V"⟩
abbrev cX4_layDown : ByteArray := prog_6_method_2_code
def yX4_layDown : MethodName := ⟨RX4, "layDown", "(ILRubberSeals$Seal;ILRubberSeals$Stuff;)V"⟩
abbrev cX4_settle : ByteArray := prog_6_method_3_code
def yX4_settle : MethodName := ⟨RX4, "settle", "()V"⟩
abbrev cX4_restBetween : ByteArray := prog_6_method_4_code
def yX4_restBetween : MethodName := ⟨RX4, "restBetween", "(IJJJ)V"⟩
abbrev cX4_floorHeight : ByteArray := prog_6_method_5_code
def yX4_floorHeight : MethodName := ⟨RX4, "floorHeight", "()I"⟩
abbrev cX4_highestTop : ByteArray := prog_6_method_6_code
def yX4_highestTop : MethodName := ⟨RX4, "highestTop", "(I)I"⟩
abbrev cX4_pushAt : ByteArray := prog_6_method_7_code
def yX4_pushAt : MethodName := ⟨RX4, "pushAt", "(I)J"⟩
abbrev cX4_stiffness : ByteArray := prog_6_method_8_code
def yX4_stiffness : MethodName := ⟨RX4, "stiffness", "(I)J"⟩
abbrev cX4_squeezed : ByteArray := prog_6_method_9_code
def yX4_squeezed : MethodName := ⟨RX4, "squeezed", "(I)J"⟩
abbrev cX4_findPress : ByteArray := prog_6_method_10_code
def yX4_findPress : MethodName := ⟨RX4, "findPress", "(I)V"⟩
abbrev cX4_pressDown : ByteArray := prog_6_method_11_code
def yX4_pressDown : MethodName := ⟨RX4, "pressDown", "(I)J"⟩
abbrev cX4_cutPress : ByteArray := prog_6_method_12_code
def yX4_cutPress : MethodName := ⟨RX4, "cutPress", "(I)I"⟩
abbrev cX4_pressesLess : ByteArray := prog_6_method_13_code
def yX4_pressesLess : MethodName := ⟨RX4, "pressesLess", "(II)Z"⟩
abbrev cX4_isOpen : ByteArray := prog_6_method_14_code
def yX4_isOpen : MethodName := ⟨RX4, "isOpen", "(I)Z"⟩
abbrev cX4_openPlaces : ByteArray := prog_6_method_15_code
def yX4_openPlaces : MethodName := ⟨RX4, "openPlaces", "()I"⟩
abbrev cX4_leakAt : ByteArray := prog_6_method_16_code
def yX4_leakAt : MethodName := ⟨RX4, "leakAt", "(I)I"⟩
abbrev cX4_touchesPart : ByteArray := prog_6_method_17_code
def yX4_touchesPart : MethodName := ⟨RX4, "touchesPart", "()Z"⟩
def RX5 : String := "RubberSeals"
def TX5 : u_T := fun k => match k with
  | 0 => ("RubberSeals", "rows", "[LRubberSeals$Row;", true)
  | 1 => ("RubberSeals", "texts", "[LRubberSeals$Row;", true)
  | 2 => ("RubberSeals", "stuffs", "[LRubberSeals$Stuff;", true)
  | 3 => ("RubberSeals", "seals", "[LRubberSeals$Seal;", true)
  | 4 => ("RubberSeals", "depths", "[I", true)
  | 5 => ("RubberSeals", "settings", "[I", true)
  | 6 => ("RubberSeals", "reader", "LRubberSeals$Reader;", true)
  | 7 => ("RubberSeals", "trial", "LRubberSeals$Trial;", true)
  | 8 => ("RubberSeals", "members", "[I", true)
  | 9 => ("RubberSeals", "findingCounts", "[I", true)
  | 10 => ("RubberSeals", "latestFinding", "I", false)
  | 11 => ("RubberSeals", "latestAsked", "I", false)
  | 12 => ("RubberSeals", "toldUpper", "J", false)
  | _ => ("RubberSeals", "toldLower", "J", false)
def tyX5 : Nat → FieldType := fun k => match k with
  | 0 => .array (.object "RubberSeals$Row")
  | 1 => .array (.object "RubberSeals$Row")
  | 2 => .array (.object "RubberSeals$Stuff")
  | 3 => .array (.object "RubberSeals$Seal")
  | 4 => .array .int
  | 5 => .array .int
  | 6 => .object "RubberSeals$Reader"
  | 7 => .object "RubberSeals$Trial"
  | 8 => .array .int
  | 9 => .array .int
  | 10 => .int
  | 11 => .int
  | 12 => .long
  | _ => .long
abbrev wsX50 : List Cond := u_ws RX5 TX5 14
theorem nmX5 : ∀ a, a < 14 → ∀ b, b < 14 → a ≠ b → (TX5 a).2.1 ≠ (TX5 b).2.1 := by decide +kernel
theorem tyX5_ok : ∀ k, k < 14 → parseFieldDescriptor (TX5 k).2.2.1 = some (tyX5 k) := by decide +kernel
abbrev cX5_init : ByteArray := prog_1_method_1_code
def yX5_init : MethodName := ⟨RX5, "<init>", "()V"⟩
abbrev cX5_row : ByteArray := prog_1_method_2_code
def yX5_row : MethodName := ⟨RX5, "row", "(II)I"⟩
abbrev cX5_lay : ByteArray := prog_1_method_3_code
def yX5_lay : MethodName := ⟨RX5, "lay", "(III)I"⟩
abbrev cX5_tear : ByteArray := prog_1_method_4_code
def yX5_tear : MethodName := ⟨RX5, "tear", "(I)I"⟩
abbrev cX5_copy : ByteArray := prog_1_method_5_code
def yX5_copy : MethodName := ⟨RX5, "copy", "(IIIII)I"⟩
abbrev cX5_mean : ByteArray := prog_1_method_6_code
def yX5_mean : MethodName := ⟨RX5, "mean", "(I)I"⟩
abbrev cX5_text : ByteArray := prog_1_method_7_code
def yX5_text : MethodName := ⟨RX5, "text", "(II)I"⟩
abbrev cX5_put : ByteArray := prog_1_method_8_code
def yX5_put : MethodName := ⟨RX5, "put", "(III)I"⟩
abbrev cX5_fault : ByteArray := prog_1_method_9_code
def yX5_fault : MethodName := ⟨RX5, "fault", "(I)I"⟩
abbrev cX5_stuff : ByteArray := prog_1_method_10_code
def yX5_stuff : MethodName := ⟨RX5, "stuff", "(II)I"⟩
abbrev cX5_about : ByteArray := prog_1_method_11_code
def yX5_about : MethodName := ⟨RX5, "about", "(II)I"⟩
abbrev cX5_push : ByteArray := prog_1_method_12_code
def yX5_push : MethodName := ⟨RX5, "push", "(II)I"⟩
abbrev cX5_seal : ByteArray := prog_1_method_13_code
def yX5_seal : MethodName := ⟨RX5, "seal", "(IIIII)I"⟩
abbrev cX5_take : ByteArray := prog_1_method_14_code
def yX5_take : MethodName := ⟨RX5, "take", "(I)I"⟩
abbrev cX5_depth : ByteArray := prog_1_method_15_code
def yX5_depth : MethodName := ⟨RX5, "depth", "(II)I"⟩
abbrev cX5_stretch : ByteArray := prog_1_method_16_code
def yX5_stretch : MethodName := ⟨RX5, "stretch", "(II)I"⟩
abbrev cX5_told : ByteArray := prog_1_method_17_code
def yX5_told : MethodName := ⟨RX5, "told", "(II)I"⟩
abbrev cX5_mark : ByteArray := prog_1_method_18_code
def yX5_mark : MethodName := ⟨RX5, "mark", "(II)I"⟩
abbrev cX5_let : ByteArray := prog_1_method_19_code
def yX5_let : MethodName := ⟨RX5, "let", "(II)I"⟩
abbrev cX5_rest : ByteArray := prog_1_method_20_code
def yX5_rest : MethodName := ⟨RX5, "rest", "()I"⟩
abbrev cX5_press : ByteArray := prog_1_method_21_code
def yX5_press : MethodName := ⟨RX5, "press", "(I)I"⟩
abbrev cX5_opens : ByteArray := prog_1_method_22_code
def yX5_opens : MethodName := ⟨RX5, "opens", "()I"⟩
abbrev cX5_weakest : ByteArray := prog_1_method_23_code
def yX5_weakest : MethodName := ⟨RX5, "weakest", "()I"⟩
abbrev cX5_leak : ByteArray := prog_1_method_24_code
def yX5_leak : MethodName := ⟨RX5, "leak", "()I"⟩
abbrev cX5_through : ByteArray := prog_1_method_25_code
def yX5_through : MethodName := ⟨RX5, "through", "(I)I"⟩
abbrev cX5_age : ByteArray := prog_1_method_26_code
def yX5_age : MethodName := ⟨RX5, "age", "(I)I"⟩
abbrev cX5_swell : ByteArray := prog_1_method_27_code
def yX5_swell : MethodName := ⟨RX5, "swell", "()I"⟩
abbrev cX5_renew : ByteArray := prog_1_method_28_code
def yX5_renew : MethodName := ⟨RX5, "renew", "(I)I"⟩
abbrev cX5_blown : ByteArray := prog_1_method_29_code
def yX5_blown : MethodName := ⟨RX5, "blown", "(I)I"⟩
abbrev cX5_ends : ByteArray := prog_1_method_30_code
def yX5_ends : MethodName := ⟨RX5, "ends", "(III)I"⟩
abbrev cX5_sure : ByteArray := prog_1_method_31_code
def yX5_sure : MethodName := ⟨RX5, "sure", "(II)I"⟩
abbrev cX5_follows : ByteArray := prog_1_method_32_code
def yX5_follows : MethodName := ⟨RX5, "follows", "(III)I"⟩
abbrev cX5_strip : ByteArray := prog_1_method_33_code
def yX5_strip : MethodName := ⟨RX5, "strip", "(II)I"⟩
abbrev cX5_parting : ByteArray := prog_1_method_34_code
def yX5_parting : MethodName := ⟨RX5, "parting", "(I)I"⟩
abbrev cX5_batch : ByteArray := prog_1_method_35_code
def yX5_batch : MethodName := ⟨RX5, "batch", "(IIII)I"⟩
abbrev cX5_led : ByteArray := prog_1_method_36_code
def yX5_led : MethodName := ⟨RX5, "led", "()I"⟩
abbrev cX5_choose : ByteArray := prog_1_method_37_code
def yX5_choose : MethodName := ⟨RX5, "choose", "(III)I"⟩
abbrev cX5_sniff : ByteArray := prog_1_method_38_code
def yX5_sniff : MethodName := ⟨RX5, "sniff", "(II)I"⟩
abbrev cX5_asked : ByteArray := prog_1_method_39_code
def yX5_asked : MethodName := ⟨RX5, "asked", "()I"⟩
abbrev cX5_upper : ByteArray := prog_1_method_40_code
def yX5_upper : MethodName := ⟨RX5, "upper", "()J"⟩
abbrev cX5_lower : ByteArray := prog_1_method_41_code
def yX5_lower : MethodName := ⟨RX5, "lower", "()J"⟩
abbrev cX5_count : ByteArray := prog_1_method_42_code
def yX5_count : MethodName := ⟨RX5, "count", "(I)I"⟩
abbrev cX5_finding : ByteArray := prog_1_method_43_code
def yX5_finding : MethodName := ⟨RX5, "finding", "()I"⟩
abbrev cX5_findings : ByteArray := prog_1_method_44_code
def yX5_findings : MethodName := ⟨RX5, "findings", "(I)I"⟩
abbrev cX5_digest : ByteArray := prog_1_method_45_code
def yX5_digest : MethodName := ⟨RX5, "digest", "()J"⟩
abbrev cX5_within : ByteArray := prog_1_method_46_code
def yX5_within : MethodName := ⟨RX5, "within", "(III)Z"⟩
abbrev cX5_isRow : ByteArray := prog_1_method_47_code
def yX5_isRow : MethodName := ⟨RX5, "isRow", "(I)Z"⟩
abbrev cX5_isText : ByteArray := prog_1_method_48_code
def yX5_isText : MethodName := ⟨RX5, "isText", "(I)Z"⟩
abbrev cX5_isStuff : ByteArray := prog_1_method_49_code
def yX5_isStuff : MethodName := ⟨RX5, "isStuff", "(I)Z"⟩
abbrev cX5_isPlace : ByteArray := prog_1_method_50_code
def yX5_isPlace : MethodName := ⟨RX5, "isPlace", "(I)Z"⟩
abbrev cX5_isSet : ByteArray := prog_1_method_51_code
def yX5_isSet : MethodName := ⟨RX5, "isSet", "(I)Z"⟩
abbrev cX5_areEnds : ByteArray := prog_1_method_52_code
def yX5_areEnds : MethodName := ⟨RX5, "areEnds", "(II)Z"⟩
abbrev cX5_found : ByteArray := prog_1_method_53_code
def yX5_found : MethodName := ⟨RX5, "found", "(I)I"⟩
abbrev cX5_missed : ByteArray := prog_1_method_54_code
def yX5_missed : MethodName := ⟨RX5, "missed", "(II)I"⟩
abbrev cX5_lacksOneOf : ByteArray := prog_1_method_55_code
def yX5_lacksOneOf : MethodName := ⟨RX5, "lacksOneOf", "(I)Z"⟩
abbrev cX5_holds : ByteArray := prog_1_method_56_code
def yX5_holds : MethodName := ⟨RX5, "holds", "(II)Z"⟩
abbrev cX5_tell : ByteArray := prog_1_method_57_code
def yX5_tell : MethodName := ⟨RX5, "tell", "(JJ)V"⟩
abbrev cX5_countOfKind : ByteArray := prog_1_method_58_code
def yX5_countOfKind : MethodName := ⟨RX5, "countOfKind", "(I)I"⟩
abbrev cX5_countOfStuffs : ByteArray := prog_1_method_59_code
def yX5_countOfStuffs : MethodName := ⟨RX5, "countOfStuffs", "()I"⟩
abbrev cX5_countOfRows : ByteArray := prog_1_method_60_code
def yX5_countOfRows : MethodName := ⟨RX5, "countOfRows", "([LRubberSeals$Row;)I"⟩
abbrev cX5_mix : ByteArray := prog_1_method_61_code
def yX5_mix : MethodName := ⟨RX5, "mix", "(JJ)J"⟩
abbrev cX5_cut : ByteArray := prog_1_method_62_code
def yX5_cut : MethodName := ⟨RX5, "cut", "(JJ)J"⟩
abbrev cX5_commonDivisor : ByteArray := prog_1_method_63_code
def yX5_commonDivisor : MethodName := ⟨RX5, "commonDivisor", "(JJ)J"⟩
abbrev cX5_picks : ByteArray := prog_1_method_64_code
def yX5_picks : MethodName := ⟨RX5, "picks", "(II)J"⟩
abbrev cX5_stuffOf : ByteArray := prog_1_method_65_code
def yX5_stuffOf : MethodName := ⟨RX5, "stuffOf", "(LRubberSeals$Seal;)LRubberSeals$Stuff;"⟩
abbrev cX5_layOut : ByteArray := prog_1_method_66_code
def yX5_layOut : MethodName := ⟨RX5, "layOut", "()V"⟩
abbrev cX5_settleAsIs : ByteArray := prog_1_method_67_code
def yX5_settleAsIs : MethodName := ⟨RX5, "settleAsIs", "()V"⟩
abbrev cX5_settleAtEnd : ByteArray := prog_1_method_68_code
def yX5_settleAtEnd : MethodName := ⟨RX5, "settleAtEnd", "(III)V"⟩
abbrev cX5_remove : ByteArray := prog_1_method_69_code
def yX5_remove : MethodName := ⟨RX5, "remove", "(I)V"⟩
abbrev cX5_lostBy : ByteArray := prog_1_method_70_code
def yX5_lostBy : MethodName := ⟨RX5, "lostBy", "(ILRubberSeals$Seal;)I"⟩
abbrev cX5_spread : ByteArray := prog_1_method_71_code
def yX5_spread : MethodName := ⟨RX5, "spread", "(II)J"⟩
abbrev cX5_listMembers : ByteArray := prog_1_method_72_code
def yX5_listMembers : MethodName := ⟨RX5, "listMembers", "(I)I"⟩
abbrev cX5_cheapest : ByteArray := prog_1_method_73_code
def yX5_cheapest : MethodName := ⟨RX5, "cheapest", "(IILRubberSeals$Row;)I"⟩
abbrev cX5_dealOut : ByteArray := prog_1_method_74_code
def yX5_dealOut : MethodName := ⟨RX5, "dealOut", "(II)I"⟩
abbrev cX5_priceOf : ByteArray := prog_1_method_75_code
def yX5_priceOf : MethodName := ⟨RX5, "priceOf", "(ILRubberSeals$Row;)I"⟩
abbrev cX5_couldLeakAt : ByteArray := prog_1_method_76_code
def yX5_couldLeakAt : MethodName := ⟨RX5, "couldLeakAt", "(ILRubberSeals$Row;I)Z"⟩
abbrev cX5_sniffsFit : ByteArray := prog_1_method_77_code
def yX5_sniffsFit : MethodName := ⟨RX5, "sniffsFit", "(IILRubberSeals$Row;I)Z"⟩
def RX6 : String := "RubberSealsModel"
def TX6 : u_T := fun k => match k with
  | 0 => ("RubberSealsModel", "latest", "I", false)
  | 1 => ("RubberSealsModel", "came", "[I", true)
  | 2 => ("RubberSealsModel", "asked", "I", false)
  | 3 => ("RubberSealsModel", "upper", "J", false)
  | 4 => ("RubberSealsModel", "lower", "J", false)
  | 5 => ("RubberSealsModel", "sizes", "[I", true)
  | 6 => ("RubberSealsModel", "rows", "[I", true)
  | 7 => ("RubberSealsModel", "copied", "[I", true)
  | 8 => ("RubberSealsModel", "textSizes", "[I", true)
  | 9 => ("RubberSealsModel", "bytes", "[B", true)
  | 10 => ("RubberSealsModel", "isStuff", "[Z", true)
  | 11 => ("RubberSealsModel", "pointMany", "[I", true)
  | 12 => ("RubberSealsModel", "xs", "[I", true)
  | 13 => ("RubberSealsModel", "ys", "[I", true)
  | 14 => ("RubberSealsModel", "sets", "[I", true)
  | 15 => ("RubberSealsModel", "colds", "[I", true)
  | 16 => ("RubberSealsModel", "swells", "[I", true)
  | 17 => ("RubberSealsModel", "gases", "[I", true)
  | 18 => ("RubberSealsModel", "readPoints", "I", false)
  | 19 => ("RubberSealsModel", "readX", "[I", true)
  | 20 => ("RubberSealsModel", "readY", "[I", true)
  | 21 => ("RubberSealsModel", "readNumbers", "[I", true)
  | 22 => ("RubberSealsModel", "place", "I", false)
  | 23 => ("RubberSealsModel", "number", "I", false)
  | 24 => ("RubberSealsModel", "pushUp", "J", false)
  | 25 => ("RubberSealsModel", "pushLow", "J", false)
  | 26 => ("RubberSealsModel", "kindOf", "[I", true)
  | 27 => ("RubberSealsModel", "stuffOf", "[I", true)
  | 28 => ("RubberSealsModel", "heightOf", "[I", true)
  | 29 => ("RubberSealsModel", "freeOf", "[I", true)
  | 30 => ("RubberSealsModel", "areaOf", "[I", true)
  | 31 => ("RubberSealsModel", "stretchOf", "[I", true)
  | 32 => ("RubberSealsModel", "askedOf", "[I", true)
  | 33 => ("RubberSealsModel", "depthOf", "[I", true)
  | 34 => ("RubberSealsModel", "lidPush", "I", false)
  | 35 => ("RubberSealsModel", "degrees", "I", false)
  | 36 => ("RubberSealsModel", "pressure", "I", false)
  | 37 => ("RubberSealsModel", "gap", "I", false)
  | 38 => ("RubberSealsModel", "restUp", "J", false)
  | 39 => ("RubberSealsModel", "restLow", "J", false)
  | 40 => ("RubberSealsModel", "touches", "Z", false)
  | 41 => ("RubberSealsModel", "isThere", "Z", false)
  | 42 => ("RubberSealsModel", "pressUp", "J", false)
  | 43 => ("RubberSealsModel", "pressLow", "J", false)
  | 44 => ("RubberSealsModel", "squeezeUp", "J", false)
  | 45 => ("RubberSealsModel", "before", "[I", true)
  | 46 => ("RubberSealsModel", "pushBefore", "I", false)
  | 47 => ("RubberSealsModel", "farUp", "J", false)
  | 48 => ("RubberSealsModel", "farLow", "J", false)
  | 49 => ("RubberSealsModel", "stuffBefore", "[I", true)
  | _ => ("RubberSealsModel", "h", "J", false)
def tyX6 : Nat → FieldType := fun k => match k with
  | 0 => .int
  | 1 => .array .int
  | 2 => .int
  | 3 => .long
  | 4 => .long
  | 5 => .array .int
  | 6 => .array .int
  | 7 => .array .int
  | 8 => .array .int
  | 9 => .array .byte
  | 10 => .array .boolean
  | 11 => .array .int
  | 12 => .array .int
  | 13 => .array .int
  | 14 => .array .int
  | 15 => .array .int
  | 16 => .array .int
  | 17 => .array .int
  | 18 => .int
  | 19 => .array .int
  | 20 => .array .int
  | 21 => .array .int
  | 22 => .int
  | 23 => .int
  | 24 => .long
  | 25 => .long
  | 26 => .array .int
  | 27 => .array .int
  | 28 => .array .int
  | 29 => .array .int
  | 30 => .array .int
  | 31 => .array .int
  | 32 => .array .int
  | 33 => .array .int
  | 34 => .int
  | 35 => .int
  | 36 => .int
  | 37 => .int
  | 38 => .long
  | 39 => .long
  | 40 => .boolean
  | 41 => .boolean
  | 42 => .long
  | 43 => .long
  | 44 => .long
  | 45 => .array .int
  | 46 => .int
  | 47 => .long
  | 48 => .long
  | 49 => .array .int
  | _ => .long
abbrev wsX60 : List Cond := u_ws RX6 TX6 51
theorem nmX6 : ∀ a, a < 51 → ∀ b, b < 51 → a ≠ b → (TX6 a).2.1 ≠ (TX6 b).2.1 := by decide +kernel
theorem tyX6_ok : ∀ k, k < 51 → parseFieldDescriptor (TX6 k).2.2.1 = some (tyX6 k) := by decide +kernel
abbrev cX6_init : ByteArray := prog_8_method_1_code
def yX6_init : MethodName := ⟨RX6, "<init>", "()V"⟩
abbrev cX6_in : ByteArray := prog_8_method_2_code
def yX6_in : MethodName := ⟨RX6, "in", "(III)Z"⟩
abbrev cX6_has : ByteArray := prog_8_method_3_code
def yX6_has : MethodName := ⟨RX6, "has", "(II)Z"⟩
abbrev cX6_meets : ByteArray := prog_8_method_4_code
def yX6_meets : MethodName := ⟨RX6, "meets", "(I)I"⟩
abbrev cX6_finding : ByteArray := prog_8_method_5_code
def yX6_finding : MethodName := ⟨RX6, "finding", "()I"⟩
abbrev cX6_findings : ByteArray := prog_8_method_6_code
def yX6_findings : MethodName := ⟨RX6, "findings", "(I)I"⟩
abbrev cX6_tells : ByteArray := prog_8_method_7_code
def yX6_tells : MethodName := ⟨RX6, "tells", "(II)I"⟩
abbrev cX6_asked : ByteArray := prog_8_method_8_code
def yX6_asked : MethodName := ⟨RX6, "asked", "()I"⟩
abbrev cX6_gcd : ByteArray := prog_8_method_9_code
def yX6_gcd : MethodName := ⟨RX6, "gcd", "(JJ)J"⟩
abbrev cX6_fraction : ByteArray := prog_8_method_10_code
def yX6_fraction : MethodName := ⟨RX6, "fraction", "(JJI)I"⟩
abbrev cX6_upper : ByteArray := prog_8_method_11_code
def yX6_upper : MethodName := ⟨RX6, "upper", "()J"⟩
abbrev cX6_lower : ByteArray := prog_8_method_12_code
def yX6_lower : MethodName := ⟨RX6, "lower", "()J"⟩
abbrev cX6_isRow : ByteArray := prog_8_method_13_code
def yX6_isRow : MethodName := ⟨RX6, "isRow", "(I)Z"⟩
abbrev cX6_rowAt : ByteArray := prog_8_method_14_code
def yX6_rowAt : MethodName := ⟨RX6, "rowAt", "(II)I"⟩
abbrev cX6_row : ByteArray := prog_8_method_15_code
def yX6_row : MethodName := ⟨RX6, "row", "(II)I"⟩
abbrev cX6_lay : ByteArray := prog_8_method_16_code
def yX6_lay : MethodName := ⟨RX6, "lay", "(III)I"⟩
abbrev cX6_tear : ByteArray := prog_8_method_17_code
def yX6_tear : MethodName := ⟨RX6, "tear", "(I)I"⟩
abbrev cX6_copy : ByteArray := prog_8_method_18_code
def yX6_copy : MethodName := ⟨RX6, "copy", "(IIIII)I"⟩
abbrev cX6_mean : ByteArray := prog_8_method_19_code
def yX6_mean : MethodName := ⟨RX6, "mean", "(I)I"⟩
abbrev cX6_isText : ByteArray := prog_8_method_20_code
def yX6_isText : MethodName := ⟨RX6, "isText", "(I)Z"⟩
abbrev cX6_text : ByteArray := prog_8_method_21_code
def yX6_text : MethodName := ⟨RX6, "text", "(II)I"⟩
abbrev cX6_put : ByteArray := prog_8_method_22_code
def yX6_put : MethodName := ⟨RX6, "put", "(III)I"⟩
abbrev cX6_byteAt : ByteArray := prog_8_method_23_code
def yX6_byteAt : MethodName := ⟨RX6, "byteAt", "(II)I"⟩
abbrev cX6_readNumber : ByteArray := prog_8_method_24_code
def yX6_readNumber : MethodName := ⟨RX6, "readNumber", "(II)Z"⟩
abbrev cX6_readPoint : ByteArray := prog_8_method_25_code
def yX6_readPoint : MethodName := ⟨RX6, "readPoint", "(I)Z"⟩
abbrev cX6_letterOf : ByteArray := prog_8_method_26_code
def yX6_letterOf : MethodName := ⟨RX6, "letterOf", "(I)I"⟩
abbrev cX6_readItem : ByteArray := prog_8_method_27_code
def yX6_readItem : MethodName := ⟨RX6, "readItem", "(I)Z"⟩
abbrev cX6_faultOf : ByteArray := prog_8_method_28_code
def yX6_faultOf : MethodName := ⟨RX6, "faultOf", "(I)I"⟩
abbrev cX6_fault : ByteArray := prog_8_method_29_code
def yX6_fault : MethodName := ⟨RX6, "fault", "(I)I"⟩
abbrev cX6_stuff : ByteArray := prog_8_method_30_code
def yX6_stuff : MethodName := ⟨RX6, "stuff", "(II)I"⟩
abbrev cX6_stuffTells : ByteArray := prog_8_method_31_code
def yX6_stuffTells : MethodName := ⟨RX6, "stuffTells", "(II)I"⟩
abbrev cX6_needStuff : ByteArray := prog_8_method_32_code
def yX6_needStuff : MethodName := ⟨RX6, "needStuff", "(ZI)I"⟩
abbrev cX6_about : ByteArray := prog_8_method_33_code
def yX6_about : MethodName := ⟨RX6, "about", "(II)I"⟩
abbrev cX6_lineOf : ByteArray := prog_8_method_34_code
def yX6_lineOf : MethodName := ⟨RX6, "lineOf", "(IJJ)I"⟩
abbrev cX6_run : ByteArray := prog_8_method_35_code
def yX6_run : MethodName := ⟨RX6, "run", "(II)I"⟩
abbrev cX6_rise : ByteArray := prog_8_method_36_code
def yX6_rise : MethodName := ⟨RX6, "rise", "(II)I"⟩
abbrev cX6_layPush : ByteArray := prog_8_method_37_code
def yX6_layPush : MethodName := ⟨RX6, "layPush", "(IJJ)V"⟩
abbrev cX6_push : ByteArray := prog_8_method_38_code
def yX6_push : MethodName := ⟨RX6, "push", "(II)I"⟩
abbrev cX6_isPlace : ByteArray := prog_8_method_39_code
def yX6_isPlace : MethodName := ⟨RX6, "isPlace", "(I)Z"⟩
abbrev cX6_isSeal : ByteArray := prog_8_method_40_code
def yX6_isSeal : MethodName := ⟨RX6, "isSeal", "(I)Z"⟩
abbrev cX6_isRubber : ByteArray := prog_8_method_41_code
def yX6_isRubber : MethodName := ⟨RX6, "isRubber", "(I)Z"⟩
abbrev cX6_isRing : ByteArray := prog_8_method_42_code
def yX6_isRing : MethodName := ⟨RX6, "isRing", "(I)Z"⟩
abbrev cX6_seal : ByteArray := prog_8_method_43_code
def yX6_seal : MethodName := ⟨RX6, "seal", "(IIIII)I"⟩
abbrev cX6_needSeal : ByteArray := prog_8_method_44_code
def yX6_needSeal : MethodName := ⟨RX6, "needSeal", "(ZI)I"⟩
abbrev cX6_needRubber : ByteArray := prog_8_method_45_code
def yX6_needRubber : MethodName := ⟨RX6, "needRubber", "(ZI)I"⟩
abbrev cX6_take : ByteArray := prog_8_method_46_code
def yX6_take : MethodName := ⟨RX6, "take", "(I)I"⟩
abbrev cX6_depth : ByteArray := prog_8_method_47_code
def yX6_depth : MethodName := ⟨RX6, "depth", "(II)I"⟩
abbrev cX6_stretched : ByteArray := prog_8_method_48_code
def yX6_stretched : MethodName := ⟨RX6, "stretched", "(II)I"⟩
abbrev cX6_stretch : ByteArray := prog_8_method_49_code
def yX6_stretch : MethodName := ⟨RX6, "stretch", "(II)I"⟩
abbrev cX6_sealTells : ByteArray := prog_8_method_50_code
def yX6_sealTells : MethodName := ⟨RX6, "sealTells", "(II)I"⟩
abbrev cX6_told : ByteArray := prog_8_method_51_code
def yX6_told : MethodName := ⟨RX6, "told", "(II)I"⟩
abbrev cX6_mark : ByteArray := prog_8_method_52_code
def yX6_mark : MethodName := ⟨RX6, "mark", "(II)I"⟩
abbrev cX6_let : ByteArray := prog_8_method_53_code
def yX6_let : MethodName := ⟨RX6, "let", "(II)I"⟩
abbrev cX6_topOf : ByteArray := prog_8_method_54_code
def yX6_topOf : MethodName := ⟨RX6, "topOf", "(I)I"⟩
abbrev cX6_factor : ByteArray := prog_8_method_55_code
def yX6_factor : MethodName := ⟨RX6, "factor", "(I)I"⟩
abbrev cX6_highest : ByteArray := prog_8_method_56_code
def yX6_highest : MethodName := ⟨RX6, "highest", "(ZZ)I"⟩
abbrev cX6_nextBreak : ByteArray := prog_8_method_57_code
def yX6_nextBreak : MethodName := ⟨RX6, "nextBreak", "(I)I"⟩
abbrev cX6_restsBelow : ByteArray := prog_8_method_58_code
def yX6_restsBelow : MethodName := ⟨RX6, "restsBelow", "(II)Z"⟩
abbrev cX6_layRest : ByteArray := prog_8_method_59_code
def yX6_layRest : MethodName := ⟨RX6, "layRest", "()V"⟩
abbrev cX6_rest : ByteArray := prog_8_method_60_code
def yX6_rest : MethodName := ⟨RX6, "rest", "()I"⟩
abbrev cX6_layPress : ByteArray := prog_8_method_61_code
def yX6_layPress : MethodName := ⟨RX6, "layPress", "(I)V"⟩
abbrev cX6_isOpen : ByteArray := prog_8_method_62_code
def yX6_isOpen : MethodName := ⟨RX6, "isOpen", "()Z"⟩
abbrev cX6_press : ByteArray := prog_8_method_63_code
def yX6_press : MethodName := ⟨RX6, "press", "(I)I"⟩
abbrev cX6_openNow : ByteArray := prog_8_method_64_code
def yX6_openNow : MethodName := ⟨RX6, "openNow", "()I"⟩
abbrev cX6_opens : ByteArray := prog_8_method_65_code
def yX6_opens : MethodName := ⟨RX6, "opens", "()I"⟩
abbrev cX6_weakest : ByteArray := prog_8_method_66_code
def yX6_weakest : MethodName := ⟨RX6, "weakest", "()I"⟩
abbrev cX6_isLess : ByteArray := prog_8_method_67_code
def yX6_isLess : MethodName := ⟨RX6, "isLess", "(JJJJ)Z"⟩
abbrev cX6_leak : ByteArray := prog_8_method_68_code
def yX6_leak : MethodName := ⟨RX6, "leak", "()I"⟩
abbrev cX6_through : ByteArray := prog_8_method_69_code
def yX6_through : MethodName := ⟨RX6, "through", "(I)I"⟩
abbrev cX6_age : ByteArray := prog_8_method_70_code
def yX6_age : MethodName := ⟨RX6, "age", "(I)I"⟩
abbrev cX6_swollen : ByteArray := prog_8_method_71_code
def yX6_swollen : MethodName := ⟨RX6, "swollen", "(I)I"⟩
abbrev cX6_swell : ByteArray := prog_8_method_72_code
def yX6_swell : MethodName := ⟨RX6, "swell", "()I"⟩
abbrev cX6_renew : ByteArray := prog_8_method_73_code
def yX6_renew : MethodName := ⟨RX6, "renew", "(I)I"⟩
abbrev cX6_blown : ByteArray := prog_8_method_74_code
def yX6_blown : MethodName := ⟨RX6, "blown", "(I)I"⟩
abbrev cX6_keepAll : ByteArray := prog_8_method_75_code
def yX6_keepAll : MethodName := ⟨RX6, "keepAll", "()V"⟩
abbrev cX6_putBack : ByteArray := prog_8_method_76_code
def yX6_putBack : MethodName := ⟨RX6, "putBack", "()V"⟩
abbrev cX6_layEnd : ByteArray := prog_8_method_77_code
def yX6_layEnd : MethodName := ⟨RX6, "layEnd", "(III)V"⟩
abbrev cX6_areEnds : ByteArray := prog_8_method_78_code
def yX6_areEnds : MethodName := ⟨RX6, "areEnds", "(II)Z"⟩
abbrev cX6_ends : ByteArray := prog_8_method_79_code
def yX6_ends : MethodName := ⟨RX6, "ends", "(III)I"⟩
abbrev cX6_sure : ByteArray := prog_8_method_80_code
def yX6_sure : MethodName := ⟨RX6, "sure", "(II)I"⟩
abbrev cX6_follows : ByteArray := prog_8_method_81_code
def yX6_follows : MethodName := ⟨RX6, "follows", "(III)I"⟩
abbrev cX6_strip : ByteArray := prog_8_method_82_code
def yX6_strip : MethodName := ⟨RX6, "strip", "(II)I"⟩
abbrev cX6_isKept : ByteArray := prog_8_method_83_code
def yX6_isKept : MethodName := ⟨RX6, "isKept", "(III)Z"⟩
abbrev cX6_bits : ByteArray := prog_8_method_84_code
def yX6_bits : MethodName := ⟨RX6, "bits", "(I)I"⟩
abbrev cX6_areThere : ByteArray := prog_8_method_85_code
def yX6_areThere : MethodName := ⟨RX6, "areThere", "(I)Z"⟩
abbrev cX6_layFar : ByteArray := prog_8_method_86_code
def yX6_layFar : MethodName := ⟨RX6, "layFar", "(II)V"⟩
abbrev cX6_parting : ByteArray := prog_8_method_87_code
def yX6_parting : MethodName := ⟨RX6, "parting", "(I)I"⟩
abbrev cX6_chosen : ByteArray := prog_8_method_88_code
def yX6_chosen : MethodName := ⟨RX6, "chosen", "(II)J"⟩
abbrev cX6_batch : ByteArray := prog_8_method_89_code
def yX6_batch : MethodName := ⟨RX6, "batch", "(IIII)I"⟩
abbrev cX6_isShutWithout : ByteArray := prog_8_method_90_code
def yX6_isShutWithout : MethodName := ⟨RX6, "isShutWithout", "(I)Z"⟩
abbrev cX6_led : ByteArray := prog_8_method_91_code
def yX6_led : MethodName := ⟨RX6, "led", "()I"⟩
abbrev cX6_needChoice : ByteArray := prog_8_method_92_code
def yX6_needChoice : MethodName := ⟨RX6, "needChoice", "(III)I"⟩
abbrev cX6_waysOf : ByteArray := prog_8_method_93_code
def yX6_waysOf : MethodName := ⟨RX6, "waysOf", "(I)I"⟩
abbrev cX6_stuffAt : ByteArray := prog_8_method_94_code
def yX6_stuffAt : MethodName := ⟨RX6, "stuffAt", "(II)I"⟩
abbrev cX6_layChoice : ByteArray := prog_8_method_95_code
def yX6_layChoice : MethodName := ⟨RX6, "layChoice", "(III)I"⟩
abbrev cX6_choose : ByteArray := prog_8_method_96_code
def yX6_choose : MethodName := ⟨RX6, "choose", "(III)I"⟩
abbrev cX6_isLeakAt : ByteArray := prog_8_method_97_code
def yX6_isLeakAt : MethodName := ⟨RX6, "isLeakAt", "(IIII)Z"⟩
abbrev cX6_sniff : ByteArray := prog_8_method_98_code
def yX6_sniff : MethodName := ⟨RX6, "sniff", "(II)I"⟩
abbrev cX6_count : ByteArray := prog_8_method_99_code
def yX6_count : MethodName := ⟨RX6, "count", "(I)I"⟩
abbrev cX6_mix : ByteArray := prog_8_method_100_code
def yX6_mix : MethodName := ⟨RX6, "mix", "(J)V"⟩
abbrev cX6_mixPlaces : ByteArray := prog_8_method_101_code
def yX6_mixPlaces : MethodName := ⟨RX6, "mixPlaces", "()V"⟩
abbrev cX6_digest : ByteArray := prog_8_method_102_code
def yX6_digest : MethodName := ⟨RX6, "digest", "()J"⟩
def RJ6 : String := "java/lang/Integer"
abbrev cJ6_bitCount_0f7a4 : ByteArray := prog_9_method_49_code
def yJ6_bitCount_0f7a4 : MethodName := ⟨RJ6, "bitCount", "(I)I"⟩
def RJ9 : String := "java/lang/Math"
abbrev cJ9_abs_0f7a4 : ByteArray := prog_10_method_59_code
def yJ9_abs_0f7a4 : MethodName := ⟨RJ9, "abs", "(I)I"⟩
abbrev cJ9_abs_067f4 : ByteArray := prog_10_method_61_code
def yJ9_abs_067f4 : MethodName := ⟨RJ9, "abs", "(J)J"⟩
abbrev cJ9_max_7cf53 : ByteArray := prog_10_method_65_code
def yJ9_max_7cf53 : MethodName := ⟨RJ9, "max", "(II)I"⟩
abbrev cJ9_max_f86c9 : ByteArray := prog_10_method_66_code
def yJ9_max_f86c9 : MethodName := ⟨RJ9, "max", "(JJ)J"⟩
abbrev cJ9_min_7cf53 : ByteArray := prog_10_method_69_code
def yJ9_min_7cf53 : MethodName := ⟨RJ9, "min", "(II)I"⟩
abbrev cJ9_min_f86c9 : ByteArray := prog_10_method_70_code
def yJ9_min_f86c9 : MethodName := ⟨RJ9, "min", "(JJ)J"⟩
def RJ10 : String := "java/lang/System"
def RL : String := "RubberSealsLaw"
abbrev cL_law : ByteArray := code
def yL_law : MethodName := ⟨RL, "law", "([I)Z"⟩
abbrev vwCl : List vw_C := [(RX0, TX0, 3), (RX1, TX1, 2), (RX2, TX2, 7), (RX3, TX3, 7), (RX4, TX4, 12), (RX5, TX5, 14), (RX6, TX6, 51)]
end
section
/-! THE WORLD AS A FLAT MEMORY over the whole numbers: cells at b, b + 1 ..; their shapes stand fixed in a list, their numbers in one function (cell, place). A reference to the cell q is q + 1, null is 0. -/
abbrev Sh : Type := (Nat × List Nat) ⊕ (Nat × Nat × Nat × Nat)
abbrev St : Type := Nat → Nat → Int
def iI (x : Int) : Int32 := Int32.ofInt x
def lI (x : Int) : Int64 := Int64.ofInt x
def vi (x : Int) : Value := .int (iI x)
def vl (x : Int) : Value := .long (lI x)
def put (S : St) (q j : Nat) (v : Int) : St := fun x y => if x = q ∧ y = j then v else S x y
def rf (b : Nat) (x : Int) : Option Nat := if 0 < x then some (b + (x - 1).toNat) else none
theorem put_ne {S : St} {q j x : Nat} {v : Int} (h : x ≠ q) : put S q j v x = S x := by
  funext y; unfold put; rw [if_neg (fun e => h e.1)]
theorem put_at {S : St} {q j : Nat} {v : Int} : put S q j v q j = v := by simp [put]
theorem put_j {S : St} {q j y : Nat} {v : Int} (h : y ≠ j) : put S q j v q y = S q y := by simp [put, h]
theorem rf_succ {b q : Nat} : rf b ((q : Int) + 1) = some (b + q) := by
  unfold rf
  rw [if_pos (by omega)]
  congr 2
  omega
def fldV (b : Nat) (S : St) (q j : Nat) : Nat → Value
  | 0 => vi (S q j)
  | 1 => vl (S q j)
  | 2 => va_rf (rf b (S q j))
  | k + 3 => .ref (b + k)
def fldL (b : Nat) (S : St) (q : Nat) : Nat → List Nat → List Value
  | _, [] => []
  | j, k :: ks => fldV b S q j k :: fldL b S q (j + 1) ks
def refA (b : Nat) (S : St) (q c0 d : Nat) : Nat → Option Nat := fun j => match d with
  | 0 => rf b (S q j)
  | d + 1 => some (b + (c0 + (d + 1) * j))
def arrC (b : Nat) (S : St) (q c0 d : Nat) : Nat → ((Nat → Int32) ⊕ (Nat → Int64) ⊕ (Nat → UInt32) ⊕ (Nat → UInt64) ⊕ (Nat → Option Nat))
  | 0 => .inl (fun j => iI (S q j))
  | 1 => .inr (.inl (fun j => lI (S q j)))
  | 2 => .inl (fun j => iI (S q j))
  | 3 => .inl (fun j => iI (S q j))
  | _ => .inr (.inr (.inr (.inr (refA b S q c0 d))))
def cellE (cy : Nat → ClassId) (b : Nat) (S : St) (q : Nat) : Sh → va_E
  | .inl (ci, ks) => .inr (ci, fldL b S q 0 ks)
  | .inr (t, n, c0, d) => .inl (cy t, n, arrC b S q c0 d t)
def wdA (cy : Nat → ClassId) (b : Nat) (S : St) : Nat → List Sh → va_W
  | _, [] => []
  | q, x :: l => (b + q, cellE cy b S q x) :: wdA cy b S (q + 1) l
def wd (cy : Nat → ClassId) (b : Nat) (sh : List Sh) (S : St) : va_W := wdA cy b S 0 sh
theorem wdA_at {cy : Nat → ClassId} {b : Nat} {S : St} : ∀ (sh : List Sh) (o q : Nat), (wdA cy b S o sh)[q]? = (sh[q]?).map (fun x => (b + (o + q), cellE cy b S (o + q) x))
  | [], o, q => by simp [wdA]
  | x :: l, o, 0 => by simp [wdA]
  | x :: l, o, q + 1 => by
    simp only [wdA, List.getElem?_cons_succ]
    rw [wdA_at l (o + 1) q]
    have e : o + 1 + q = o + (q + 1) := by omega
    rw [e]
theorem wd_at {cy : Nat → ClassId} {b : Nat} {S : St} {sh : List Sh} {q : Nat} {x : Sh} (h : sh[q]? = some x) : (wd cy b sh S)[q]? = some (b + q, cellE cy b S q x) := by
  unfold wd; rw [wdA_at, h]; simp
theorem wd_inv {cy : Nat → ClassId} {b : Nat} {S : St} {sh : List Sh} {q : Nat} {y : Nat × va_E} (h : (wd cy b sh S)[q]? = some y) : ∃ x, sh[q]? = some x ∧ y = (b + q, cellE cy b S q x) := by
  unfold wd at h; rw [wdA_at] at h
  cases hx : sh[q]? with
  | none => rw [hx] at h; cases h
  | some x => rw [hx] at h; simp at h; exact ⟨x, rfl, h.symm⟩
theorem fldL_at {b : Nat} {S : St} {q : Nat} : ∀ (ks : List Nat) (o j : Nat), (fldL b S q o ks)[j]? = (ks[j]?).map (fun k => fldV b S q (o + j) k)
  | [], o, j => by simp [fldL]
  | x :: l, o, 0 => by simp [fldL]
  | x :: l, o, j + 1 => by
    simp only [fldL, List.getElem?_cons_succ]
    rw [fldL_at l (o + 1) j]
    have e : o + 1 + j = o + (j + 1) := by omega
    rw [e]
theorem fld_at {b : Nat} {S : St} {q j k : Nat} {ks : List Nat} (h : ks[j]? = some k) : (fldL b S q 0 ks)[j]? = some (fldV b S q j k) := by
  rw [fldL_at, h]; simp
theorem fldL_len {b : Nat} {S : St} {q : Nat} : ∀ (ks : List Nat) (o : Nat), (fldL b S q o ks).length = ks.length
  | [], _ => rfl
  | _ :: l, o => by simp only [fldL, List.length_cons, fldL_len l (o + 1)]
/-- the field j of the cell q is written -/
theorem fld_set {b : Nat} {S S' : St} {q j k : Nat} {ks : List Nat} {v : Value} (h : ks[j]? = some k) (hv : fldV b S' q j k = v) (ho : ∀ i k, i ≠ j → fldV b S' q i k = fldV b S q i k) : (fldL b S q 0 ks).set j v = fldL b S' q 0 ks := by
  apply List.ext_getElem?
  intro i
  rw [List.getElem?_set, fldL_at, fldL_at]
  by_cases e : j = i
  · subst e
    have hl := (List.getElem?_eq_some_iff.mp h).1
    rw [if_pos rfl, if_pos (by rw [fldL_len]; exact hl), h]
    simp [hv]
  · rw [if_neg e]
    cases ks[i]? with
    | none => rfl
    | some k2 => simp [ho i k2 (Ne.symm e)]
/-- the cell q is written -/
theorem wd_set {cy : Nat → ClassId} {b : Nat} {S S' : St} {sh : List Sh} {q : Nat} {x : Sh} {e : va_E} (h : sh[q]? = some x) (he : cellE cy b S' q x = e) (ho : ∀ q' y, q' ≠ q → cellE cy b S' q' y = cellE cy b S q' y) : (wd cy b sh S).set q (b + q, e) = wd cy b sh S' := by
  apply List.ext_getElem?
  intro i
  rw [List.getElem?_set]
  unfold wd
  rw [wdA_at, wdA_at]
  by_cases e2 : q = i
  · subst e2
    have hl := (List.getElem?_eq_some_iff.mp h).1
    have hl2 : q < (wdA cy b S 0 sh).length := by
      have h3 : (wdA cy b S 0 sh)[q]? = some (b + (0 + q), cellE cy b S (0 + q) x) := by rw [wdA_at, h]; rfl
      exact (List.getElem?_eq_some_iff.mp h3).1
    rw [if_pos rfl, if_pos hl2, h]
    simp [he]
  · rw [if_neg e2]
    cases sh[i]? with
    | none => rfl
    | some y => simp [ho i y (Ne.symm e2)]
theorem fldV_congr {b : Nat} {S S' : St} {q j : Nat} (h : S' q j = S q j) (k : Nat) : fldV b S' q j k = fldV b S q j k := by
  match k with
  | 0 => simp [fldV, h]
  | 1 => simp [fldV, h]
  | 2 => simp [fldV, h]
  | k + 3 => rfl
theorem cellE_congr {cy : Nat → ClassId} {b : Nat} {S S' : St} {q : Nat} (h : S' q = S q) (y : Sh) : cellE cy b S' q y = cellE cy b S q y := by
  have hf : ∀ (j k : Nat), fldV b S' q j k = fldV b S q j k := fun j k => fldV_congr (by rw [h]) k
  cases y with
  | inl p =>
    obtain ⟨ci, ks⟩ := p
    have : ∀ (ks : List Nat) (o : Nat), fldL b S' q o ks = fldL b S q o ks := by
      intro ks
      induction ks with
      | nil => intro o; rfl
      | cons k ks ih => intro o; simp [fldL, hf, ih]
    simp [cellE, this]
  | inr p =>
    obtain ⟨t, n, c0, d⟩ := p
    have hr : refA b S' q c0 d = refA b S q c0 d := by funext j; unfold refA; rw [h]
    have : arrC b S' q c0 d t = arrC b S q c0 d t := by
      unfold arrC
      split <;> simp [h, hr]
    simp [cellE, this]
theorem wd_put {cy : Nat → ClassId} {b : Nat} {S : St} {sh : List Sh} {q j : Nat} {x : Sh} {v : Int} {e : va_E} (h : sh[q]? = some x) (he : cellE cy b (put S q j v) q x = e) : (wd cy b sh S).set q (b + q, e) = wd cy b sh (put S q j v) :=
  wd_set h he (fun q' y hq => cellE_congr (S := S) (S' := put S q j v) (put_ne hq) y)
theorem cell_fld {cy : Nat → ClassId} {b : Nat} {S : St} {q j ci k : Nat} {ks : List Nat} {v : Int} {w : Value} (h : ks[j]? = some k) (hw : fldV b (put S q j v) q j k = w) : cellE cy b (put S q j v) q (.inl (ci, ks)) = .inr (ci, (fldL b S q 0 ks).set j w) := by
  simp only [cellE]
  rw [fld_set (S' := put S q j v) h hw (fun i k hi => fldV_congr (put_j hi) k)]
def inR (b N : Nat) : Nat → Prop := fun q => b ≤ q ∧ q < b + N
theorem wd_D {cy : Nat → ClassId} {b N : Nat} {S : St} {sh : List Sh} (h : sh.length ≤ N) : va_D (inR b N) (wd cy b sh S) := by
  refine ⟨fun i j x y hi hj hxy => ?_, fun k x hk => ?_⟩
  · obtain ⟨x', -, rfl⟩ := wd_inv hi
    obtain ⟨y', -, rfl⟩ := wd_inv hj
    have : b + i = b + j := hxy
    omega
  · obtain ⟨x', hx, rfl⟩ := wd_inv hk
    have hl := (List.getElem?_eq_some_iff.mp hx).1
    exact ⟨Nat.le_add_right _ _, by show b + k < b + N; omega⟩
def tysOf (cy : Nat → ClassId) : List (ClassId × FieldType) := [(cy 0, .int), (cy 1, .long), (cy 2, .byte), (cy 3, .boolean), (cy 4, .object RX1), (cy 5, .object RX3), (cy 6, .object RX2)]
/-! whole numbers and the machine's -/
abbrev in32 (x : Int) : Prop := -2147483648 ≤ x ∧ x ≤ 2147483647
abbrev in64 (x : Int) : Prop := -9223372036854775808 ≤ x ∧ x ≤ 9223372036854775807
theorem iI_toInt {x : Int} (h : in32 x) : (iI x).toInt = x := Int32.toInt_ofInt_of_le (by have := h.1; omega) (by have := h.2; omega)
theorem lI_toInt {x : Int} (h : in64 x) : (lI x).toInt = x := Int64.toInt_ofInt_of_le (by have := h.1; omega) (by have := h.2; omega)
theorem iI_lt {x y : Int} (hx : in32 x) (hy : in32 y) : iI x < iI y ↔ x < y := by
  rw [Int32.lt_iff_toInt_lt, iI_toInt hx, iI_toInt hy]
theorem iI_le {x y : Int} (hx : in32 x) (hy : in32 y) : iI x ≤ iI y ↔ x ≤ y := by
  rw [Int32.le_iff_toInt_le, iI_toInt hx, iI_toInt hy]
theorem iI_eq {x y : Int} (hx : in32 x) (hy : in32 y) : iI x = iI y ↔ x = y := by
  constructor
  · intro h; have := congrArg Int32.toInt h; rwa [iI_toInt hx, iI_toInt hy] at this
  · intro h; rw [h]
theorem lI_lt {x y : Int} (hx : in64 x) (hy : in64 y) : lI x < lI y ↔ x < y := by
  rw [Int64.lt_iff_toInt_lt, lI_toInt hx, lI_toInt hy]
theorem lI_le {x y : Int} (hx : in64 x) (hy : in64 y) : lI x ≤ lI y ↔ x ≤ y := by
  rw [Int64.le_iff_toInt_le, lI_toInt hx, lI_toInt hy]
theorem lI_eq {x y : Int} (hx : in64 x) (hy : in64 y) : lI x = lI y ↔ x = y := by
  constructor
  · intro h; have := congrArg Int64.toInt h; rwa [lI_toInt hx, lI_toInt hy] at this
  · intro h; rw [h]
theorem iI_0 : iI 0 = 0 := by decide
theorem lI_0 : lI 0 = 0 := by decide
theorem in32_0 : in32 0 := ⟨by decide, by decide⟩
theorem in64_0 : in64 0 := ⟨by decide, by decide⟩
theorem iI_add (x y : Int) : iI x + iI y = iI (x + y) := (Int32.ofInt_add x y).symm
theorem iI_sub (x y : Int) : iI x - iI y = iI (x - y) := (Int32.ofInt_sub x y).symm
theorem iI_mul (x y : Int) : iI x * iI y = iI (x * y) := (Int32.ofInt_mul x y).symm
theorem iI_neg (x : Int) : - iI x = iI (-x) := (Int32.ofInt_neg x).symm
theorem lI_add (x y : Int) : lI x + lI y = lI (x + y) := (Int64.ofInt_add x y).symm
theorem lI_sub (x y : Int) : lI x - lI y = lI (x - y) := (Int64.ofInt_sub x y).symm
theorem lI_mul (x y : Int) : lI x * lI y = lI (x * y) := (Int64.ofInt_mul x y).symm
theorem lI_neg (x : Int) : - lI x = lI (-x) := (Int64.ofInt_neg x).symm
theorem iI_div {x y : Int} (hx : in32 x) (hy : in32 y) : iI x / iI y = iI (x.tdiv y) :=
  (Int32.ofInt_tdiv (by simpa using hx.1) (by rw [show Int32.maxValue.toInt = 2147483647 from by decide]; exact hx.2) (by simpa using hy.1) (by rw [show Int32.maxValue.toInt = 2147483647 from by decide]; exact hy.2)).symm
theorem lI_div {x y : Int} (hx : in64 x) (hy : in64 y) : lI x / lI y = lI (x.tdiv y) :=
  (Int64.ofInt_tdiv (by simpa using hx.1) (by rw [show Int64.maxValue.toInt = 9223372036854775807 from by decide]; exact hx.2) (by simpa using hy.1) (by rw [show Int64.maxValue.toInt = 9223372036854775807 from by decide]; exact hy.2)).symm
theorem iI_rem {x y : Int} (hx : in32 x) (hy : in32 y) : iI x - iI x / iI y * iI y = iI (x.tmod y) := by
  rw [iI_div hx hy, iI_mul, iI_sub, Int.tmod_def, Int.mul_comm]
theorem lI_rem {x y : Int} (hx : in64 x) (hy : in64 y) : lI x - lI x / lI y * lI y = lI (x.tmod y) := by
  rw [lI_div hx hy, lI_mul, lI_sub, Int.tmod_def, Int.mul_comm]
theorem iI_l {x : Int} (hx : in32 x) : (iI x).toInt64 = lI x := Int32.toInt64_ofInt (by simpa using hx.1) (by rw [show Int32.maxValue.toInt = 2147483647 from by decide]; exact hx.2)
theorem lI_i (x : Int) : (lI x).toInt32 = iI x := Int64.toInt32_ofInt
theorem iI_b (x : Int) : (iI x).toInt8.toInt32 = iI (x.bmod 256) := by
  unfold iI
  rw [Int32.toInt8_ofInt]
  apply Int32.toInt_inj.mp
  rw [Int8.toInt_toInt32, Int8.toInt_ofInt, Int32.toInt_ofInt_of_le]
  · have := Int.le_bmod (x := x) (m := 256) (by omega); omega
  · have := Int.bmod_lt (x := x) (m := 256) (by omega); omega
theorem iI_vp {i : Int} {n : Nat} (hn : n ≤ 2147483647) (h : 0 ≤ i ∧ i < n) : vp_in (iI i) n := by
  rw [vp_in_iff, iI_toInt ⟨by omega, by omega⟩]; exact h
theorem iI_cl {i : Int} (h : 0 ≤ i) (h2 : i ≤ 2147483647) : (iI i).toNatClampNeg = i.toNat := by
  rw [← Int32.toNat_toInt, iI_toInt ⟨by omega, by omega⟩]
/-! the locals as a list: none where nothing is known -/
def lvA : Nat → List (Option Value) → List (Nat × Value)
  | _, [] => []
  | i, none :: l => lvA (i + 1) l
  | i, some v :: l => (i, v) :: lvA (i + 1) l
theorem lvA_ge : ∀ (l : List (Option Value)) (o k : Nat) (w : Value), (k, w) ∈ lvA o l → o ≤ k
  | [], o, k, w, h => by simp [lvA] at h
  | none :: l, o, k, w, h => by
    have := lvA_ge l (o + 1) k w h
    omega
  | some v :: l, o, k, w, h => by
    rcases List.mem_cons.mp h with e | h
    · cases e; exact Nat.le_refl _
    · have := lvA_ge l (o + 1) k w h
      omega
theorem lvA_mem : ∀ (l : List (Option Value)) (o k : Nat) (w : Value), l[k]? = some (some w) → (o + k, w) ∈ lvA o l
  | [], o, k, w, h => by simp at h
  | none :: l, o, 0, w, h => by simp at h
  | some v :: l, o, 0, w, h => by simp at h; subst h; exact List.mem_cons_self
  | none :: l, o, k + 1, w, h => by
    have := lvA_mem l (o + 1) k w (by simpa using h)
    have e : o + 1 + k = o + (k + 1) := by omega
    rw [e] at this; exact this
  | some v :: l, o, k + 1, w, h => by
    have := lvA_mem l (o + 1) k w (by simpa using h)
    have e : o + 1 + k = o + (k + 1) := by omega
    rw [e] at this; exact List.mem_cons_of_mem _ this
def kl : Option Value → Option Value
  | some (.long _) => none
  | some (.double _) => none
  | w => w
def kz : Nat → Option Value → Option Value
  | 0, w => kl w
  | _ + 1, w => w
def st1 : List (Option Value) → Nat → Value → List (Option Value)
  | [], _, _ => []
  | _ :: l, 0, v => some v :: l
  | w :: l, i + 1, v => kz i w :: st1 l i v
def hd0 : List (Option Value) → List (Option Value)
  | [] => []
  | _ :: l => none :: l
def st2 : List (Option Value) → Nat → Value → List (Option Value)
  | [], _, _ => []
  | _ :: l, 0, v => some v :: hd0 l
  | w :: l, i + 1, v => kz i w :: st2 l i v
theorem kl_some {w : Option Value} {v : Value} (h : kl w = some v) : w = some v ∧ v.category ≠ 2 := by
  unfold kl at h
  split at h
  · cases h
  · cases h
  · rename_i h1 h2
    subst h
    refine ⟨rfl, fun hc => ?_⟩
    cases v <;> simp [Value.category] at hc
    · exact h1 _ rfl
    · exact h2 _ rfl
theorem lvA_cons {w : Option Value} {l : List (Option Value)} {o : Nat} {x : Nat × Value} : x ∈ lvA o (w :: l) ↔ (w = some x.2 ∧ x.1 = o) ∨ x ∈ lvA (o + 1) l := by
  cases w with
  | none => simp [lvA]
  | some v =>
    obtain ⟨a, c⟩ := x
    simp [lvA]
    constructor
    · rintro (⟨rfl, rfl⟩ | h)
      · exact Or.inl ⟨rfl, rfl⟩
      · exact Or.inr h
    · rintro (⟨rfl, rfl⟩ | h)
      · exact Or.inl ⟨rfl, rfl⟩
      · exact Or.inr h
theorem st1_mem : ∀ (l : List (Option Value)) (o i : Nat) (v : Value) (x : Nat × Value), x ∈ lvA o (st1 l i v) → (x = (o + i, v)) ∨ (x ∈ lvA o l ∧ x.1 ≠ o + i ∧ ¬ (x.1 + 1 = o + i ∧ x.2.category = 2))
  | [], o, i, v, x, h => by simp [st1, lvA] at h
  | w :: l, o, 0, v, x, h => by
    rw [st1, lvA_cons] at h
    rcases h with ⟨h1, h2⟩ | h
    · left
      obtain ⟨a, c⟩ := x
      simp at h1 h2
      simp [h1, h2]
    · have := lvA_ge l (o + 1) x.1 x.2 h
      exact Or.inr ⟨lvA_cons.mpr (Or.inr h), by omega, by omega⟩
  | w :: l, o, i + 1, v, x, h => by
    rw [st1, lvA_cons] at h
    rcases h with ⟨h1, h2⟩ | h
    · right
      cases i with
      | zero =>
        obtain ⟨e1, e2⟩ := kl_some h1
        exact ⟨lvA_cons.mpr (Or.inl ⟨e1, h2⟩), by omega, fun z => e2 z.2⟩
      | succ i => exact ⟨lvA_cons.mpr (Or.inl ⟨h1, h2⟩), by omega, fun z => by omega⟩
    · rcases st1_mem l (o + 1) i v x h with e | ⟨a1, a2, a3⟩
      · left; rw [e]; congr 1; omega
      · refine Or.inr ⟨lvA_cons.mpr (Or.inr a1), by omega, fun z => a3 ⟨by omega, z.2⟩⟩
theorem st2_mem : ∀ (l : List (Option Value)) (o i : Nat) (v : Value) (x : Nat × Value), x ∈ lvA o (st2 l i v) → (x = (o + i, v)) ∨ (x ∈ lvA o l ∧ x.1 ≠ o + i ∧ x.1 ≠ o + i + 1 ∧ ¬ (x.1 + 1 = o + i ∧ x.2.category = 2))
  | [], o, i, v, x, h => by simp [st2, lvA] at h
  | w :: l, o, 0, v, x, h => by
    rw [st2, lvA_cons] at h
    rcases h with ⟨h1, h2⟩ | h
    · left
      obtain ⟨a, c⟩ := x
      simp at h1 h2
      simp [h1, h2]
    · cases l with
      | nil => simp [hd0, lvA] at h
      | cons w2 l =>
        simp only [hd0] at h
        rw [lvA_cons] at h
        rcases h with ⟨h1, -⟩ | h
        · cases h1
        · have := lvA_ge l (o + 1 + 1) x.1 x.2 h
          exact Or.inr ⟨lvA_cons.mpr (Or.inr (lvA_cons.mpr (Or.inr h))), by omega, by omega, by omega⟩
  | w :: l, o, i + 1, v, x, h => by
    rw [st2, lvA_cons] at h
    rcases h with ⟨h1, h2⟩ | h
    · right
      cases i with
      | zero =>
        obtain ⟨e1, e2⟩ := kl_some h1
        exact ⟨lvA_cons.mpr (Or.inl ⟨e1, h2⟩), by omega, by omega, fun z => e2 z.2⟩
      | succ i => exact ⟨lvA_cons.mpr (Or.inl ⟨h1, h2⟩), by omega, by omega, fun z => by omega⟩
    · rcases st2_mem l (o + 1) i v x h with e | ⟨a1, a2, a3, a4⟩
      · left; rw [e]; congr 1; omega
      · refine Or.inr ⟨lvA_cons.mpr (Or.inr a1), by omega, by omega, fun z => a4 ⟨by omega, z.2⟩⟩
/-- fewer values known -/
def msk : List Bool → List (Option Value) → List (Option Value)
  | true :: ms, w :: l => w :: msk ms l
  | false :: ms, _ :: l => none :: msk ms l
  | _, _ => []
theorem msk_mem : ∀ (ms : List Bool) (l : List (Option Value)) (o : Nat) (x : Nat × Value), x ∈ lvA o (msk ms l) → x ∈ lvA o l
  | true :: ms, w :: l, o, x, h => by
    rw [msk, lvA_cons] at h
    exact lvA_cons.mpr (h.imp id (msk_mem ms l (o + 1) x))
  | false :: ms, w :: l, o, x, h => by
    rw [msk, lvA_cons] at h
    rcases h with ⟨h1, -⟩ | h
    · cases h1
    · exact lvA_cons.mpr (Or.inr (msk_mem ms l (o + 1) x h))
  | [], _, o, x, h => by simp [msk, lvA] at h
  | true :: ms, [], o, x, h => by simp [msk, lvA] at h
  | false :: ms, [], o, x, h => by simp [msk, lvA] at h
end
section
/-! THE JUDGEMENT: the machine, at pc with locals lv, stack st and memory S, does what the program o says (o = none: nothing is claimed). -/
abbrev Gx : Type := Program × Launch × Env × Room × State × MethodId × Array Value × List Frame × Method × Code × (Nat → ClassId) × va_G × Nat × Nat
abbrev Cf : Type := List Sh × Nat × Nat
def gb (G : Gx) : Nat := G.2.2.2.2.2.2.2.2.2.2.2.2.1
def gsz (G : Gx) : Nat := G.2.2.2.2.1.heap.size
def gmn (G : Gx) : String := G.2.2.2.2.2.2.2.2.1.name
abbrev vr (G : Gx) (q : Nat) : Value := .ref (gb G + q)
def goodW (w : Cond) : Bool := (w.onTables && w.keeps) || (match w with | .arrayClass _ => true | _ => false)
def lw_gd : List Cond := lw_tbl.filter goodW
def lw_nest : List (String × Nat × MethodName × String) := lw_tbl.filterMap (fun w => match w with | .methodLinkNest a i x h => some (a, i, x, h) | _ => none)
def NestOk (U : State) : Prop := ∀ q ∈ lw_nest, va_Nw (.methodLinkNest q.1 q.2.1 q.2.2.1 q.2.2.2) U
def fn4 (a b c d : Int32) : Nat → Int32 := fun j => match j with | 0 => a | 1 => b | 2 => c | _ => d
def Stat1 (n : String) (f : Nat → Int32) (A : Nat → Prop) (U : State) (H : Heap) : Prop := ∃ a : Nat, va_Z RX5 n "[I" (.ref a) A U H ∧ va_X a 4 f U H ∧ a < H.size ∧ ¬ A a
def StatOk (A : Nat → Prop) (U : State) (H : Heap) : Prop := Stat1 "SETTING_MOST" (fn4 99999 99 9999 99) A U H ∧ Stat1 "SETTING_LEAST" (fn4 0 (-99) 0 0) A U H
def Ok (G : Gx) (cc : ByteArray) (own : String) (nL : Nat) (rm : Room) (rt : Option FieldType) : Prop := match G with
  | (p, _, _, R, s, m, args, _, meth, c, cy, D, b, N) => R = rm ∧ p.tables.exec = Jvm.exec ∧ c.code = cc ∧ c.maxLocals = nL ∧ s.vm.findClass own = some m.cls ∧ (∀ w ∈ lw_gd, w.before args s = true) ∧ meth.locks = false ∧ meth.sig.returnType = rt ∧ va_K D vwCl (tysOf cy) s ∧ NestOk s ∧ StatOk (inR b N) s s.heap
def Qw (cy : Nat → ClassId) (D : va_G) (b N : Nat) (sh : List Sh) (r : Option Value) (S : St) : Array Value → State → Outcome → State → Prop := fun _ st oc t => oc = .returned r ∧ va_P D vwCl (wd cy b sh S) t.heap ∧ va_F (inR b N) st t
def Rg (G : Gx) {ρ : Type} (ret : ρ → Option Value) (sf : ρ → St) (F C : Cf) (S : St) (pc : Nat) (lv : List (Option Value)) (st : List Value) (o : Option ρ) : Prop := match G with
  | (p, l, e, R, s, m, args, below, meth, c, cy, D, b, N) => ∀ (v : ρ), o = some v → ∀ (H : Heap) (locs : List Loc) (ls : Array Slot), C.1.length ≤ N → va_P D vwCl (wd cy b C.1 S) H → va_S (inR b N) s.heap H locs → lv_has ls c.maxLocals (lvA 0 lv) → W p l e R s m args below meth c H locs C.2.1 C.2.2 (MQ below (Qw cy D b N F.1 (ret v) (sf v)) args s F.2.1 F.2.2 (inR b N)) (F0 m pc ls st)
/-! how a method answers -/
def oI : Int → Option Value := fun v => some (vi v)
def oL : Int → Option Value := fun v => some (vl v)
def oV : Unit → Option Value := fun _ => none
def oIS : Int × St → Option Value := fun v => some (vi v.1)
def oLS : Int × St → Option Value := fun v => some (vl v.1)
def oVS : St → Option Value := fun _ => none
/-! the partial steps of a program -/
def cEQ {α : Type} (x y : Int) (a b : Option α) : Option α := if in32 x ∧ in32 y then (if x = y then a else b) else none
def cLT {α : Type} (x y : Int) (a b : Option α) : Option α := if in32 x ∧ in32 y then (if x < y then a else b) else none
def lEQ {α : Type} (x y : Int) (a b : Option α) : Option α := if in64 x ∧ in64 y then (if x = y then a else b) else none
def lLT {α : Type} (x y : Int) (a b : Option α) : Option α := if in64 x ∧ in64 y then (if x < y then a else b) else none
def ldI {α : Type} (S : St) (q n : Nat) (i : Int) (k : Int → Option α) : Option α := if 0 ≤ i ∧ i < n then k (S q i.toNat) else none
def stI {α : Type} (S : St) (q n : Nat) (i v : Int) (k : St → Option α) : Option α := if 0 ≤ i ∧ i < n then k (put S q i.toNat v) else none
def ldA {α : Type} (c0 d n : Nat) (i : Int) (k : Nat → Option α) : Option α := if 0 ≤ i ∧ i < n then k (c0 + d * i.toNat) else none
def gtR {α : Type} (S : St) (q j : Nat) (P : Nat → Bool) (k : Nat → Option α) : Option α := if 0 < S q j ∧ P (S q j - 1).toNat = true then k (S q j - 1).toNat else none
def ldR {α : Type} (S : St) (q n : Nat) (i : Int) (P : Nat → Bool) (k : Nat → Option α) : Option α := if 0 ≤ i ∧ i < n then gtR S q i.toNat P k else none
def dvI {α : Type} (x y : Int) (k : Int → Option α) : Option α := if in32 x ∧ in32 y ∧ y ≠ 0 then k (x.tdiv y) else none
def rmI {α : Type} (x y : Int) (k : Int → Option α) : Option α := if in32 x ∧ in32 y ∧ y ≠ 0 then k (x.tmod y) else none
def dvL {α : Type} (x y : Int) (k : Int → Option α) : Option α := if in64 x ∧ in64 y ∧ y ≠ 0 then k (x.tdiv y) else none
def rmL {α : Type} (x y : Int) (k : Int → Option α) : Option α := if in64 x ∧ in64 y ∧ y ≠ 0 then k (x.tmod y) else none
def wdI {α : Type} (x : Int) (k : Option α) : Option α := if in32 x then k else none
def isB {α : Type} (x : Int) (k : Option α) : Option α := if x = 0 ∨ x = 1 then k else none
def andI {α : Type} (x y : Int) (k : Int → Option α) : Option α := if 0 ≤ x ∧ x ≤ 2147483647 ∧ 0 ≤ y ∧ y ≤ 2147483647 then k ((x.toNat &&& y.toNat : Nat) : Int) else none
def orI {α : Type} (x y : Int) (k : Int → Option α) : Option α := if 0 ≤ x ∧ x ≤ 2147483647 ∧ 0 ≤ y ∧ y ≤ 2147483647 then k ((x.toNat ||| y.toNat : Nat) : Int) else none
def shlI {α : Type} (x y : Int) (k : Int → Option α) : Option α := if 0 ≤ x ∧ 0 ≤ y ∧ y ≤ 30 ∧ x * 2 ^ y.toNat ≤ 2147483647 then k (x * 2 ^ y.toNat) else none
def shrI {α : Type} (x y : Int) (k : Int → Option α) : Option α := if 0 ≤ x ∧ x ≤ 2147483647 ∧ 0 ≤ y ∧ y ≤ 30 then k (x / 2 ^ y.toNat) else none
def setS {α β : Type} (a : α) (k : α → β) : β := k a
def FU : Nat := 4096
theorem iI_nI (x : Int) (h : 0 ≤ x) : iI x = nI x.toNat := by
  unfold iI nI
  rw [← Int32.ofInt_eq_ofNat, Int.toNat_of_nonneg h]
theorem iI_ofNat (n : Nat) : iI (n : Int) = nI n := Int32.ofInt_eq_ofNat
theorem nI_and (a b : Nat) : nI a &&& nI b = nI (a &&& b) := by
  apply Int32.toBitVec_inj.mp
  simp [nI, Int32.toBitVec_and, BitVec.ofNat_and]
theorem nI_or (a b : Nat) : nI a ||| nI b = nI (a ||| b) := by
  apply Int32.toBitVec_inj.mp
  simp [nI, Int32.toBitVec_or, BitVec.ofNat_or]
theorem smod_31 : ∀ n, n < 32 → ((nI n &&& 31).toBitVec.smod 32).toNat = n := by decide
theorem ushr_31 : ∀ n, n < 32 → ((((nI n).toUInt32 &&& Int32.toUInt32 31).toBitVec % 32).toNat = n) := by decide
section Rows
variable {G : Gx} {cc : ByteArray} {own : String} {nL : Nat} {rm : Room} {rt : Option FieldType} {ρ : Type} {ret : ρ → Option Value} {sf : ρ → St} {F C : Cf} {S : St} {pc : Nat} {lv : List (Option Value)} {st : List Value} {o : Option ρ}
theorem r_none : Rg G ret sf F C S pc lv st none := by
  obtain ⟨p, l, e, R, s, m, args, below, meth, c, cy, D, b, N⟩ := G
  intro v ho
  cases ho
theorem r_msk (ms : List Bool) {lv' : List (Option Value)} (h : msk ms lv = lv') (k : Rg G ret sf F C S pc lv' st o) : Rg G ret sf F C S pc lv st o := by
  obtain ⟨p, l, e, R, s, m, args, below, meth, c, cy, D, b, N⟩ := G
  intro v ho H locs ls hN hP hS hl
  subst h
  exact k v ho H locs ls hN hP hS ⟨hl.1, hl.2.1, fun q hq => hl.2.2 q (msk_mem ms lv 0 q hq)⟩
theorem r_setS {α : Type} {a : α} {f : α → Option ρ} (k : ∀ z, z = a → Rg G ret sf F C S pc lv st (f z)) : Rg G ret sf F C S pc lv st (setS a f) := k a rfl
theorem r_topi {a : Int} {f : Int → Option ρ} (k : ∀ z, Rg G ret sf F C S pc lv (vi z :: st) (f z)) : Rg G ret sf F C S pc lv (vi a :: st) (setS a f) := k a
theorem r_topl {a : Int} {f : Int → Option ρ} (k : ∀ z, Rg G ret sf F C S pc lv (vl z :: st) (f z)) : Rg G ret sf F C S pc lv (vl a :: st) (setS a f) := k a
theorem r_split {x y : Int} {o1 o2 : Option ρ} (k1 : in32 x → x = y → Rg G ret sf F C S pc lv st o1) (k2 : in32 x → x ≠ y → Rg G ret sf F C S pc lv st o2) : Rg G ret sf F C S pc lv st (cEQ x y o1 o2) := by
  unfold cEQ
  by_cases h : in32 x ∧ in32 y
  · rw [if_pos h]
    by_cases e : x = y
    · rw [if_pos e]; exact k1 h.1 e
    · rw [if_neg e]; exact k2 h.1 e
  · rw [if_neg h]; exact r_none
theorem r_iconst (g : Ok G cc own nL rm rt) {x : Int} (d : decode cc pc = .ok (.iconst x, 1)) (k : Rg G ret sf F C S (pc + 1) lv (vi x :: st) o) : Rg G ret sf F C S pc lv (st) o := by
  obtain ⟨p, l, e, R, s, m, args, below, meth, c, cy, D, b, N⟩ := G
  obtain ⟨hR, hx, hb, hml, hown, hts, hlk, hrt, hK, hnw, hsta⟩ := g
  intro v ho H locs ls hN hP hS hl
  exact lv_iconst hx hb d rfl (k v ho H locs ls hN hP hS hl)
theorem r_bipush (g : Ok G cc own nL rm rt) {x : Int} (d : decode cc pc = .ok (.bipush x, 2)) (hv : (Int8.ofInt x).toInt32 = iI x) (k : Rg G ret sf F C S (pc + 2) lv (vi x :: st) o) : Rg G ret sf F C S pc lv (st) o := by
  obtain ⟨p, l, e, R, s, m, args, below, meth, c, cy, D, b, N⟩ := G
  obtain ⟨hR, hx, hb, hml, hown, hts, hlk, hrt, hK, hnw, hsta⟩ := g
  intro v ho H locs ls hN hP hS hl
  exact lv_bipush hx hb d hv (k v ho H locs ls hN hP hS hl)
theorem r_sipush (g : Ok G cc own nL rm rt) {x : Int} (d : decode cc pc = .ok (.sipush x, 3)) (hv : (Int16.ofInt x).toInt32 = iI x) (k : Rg G ret sf F C S (pc + 3) lv (vi x :: st) o) : Rg G ret sf F C S pc lv (st) o := by
  obtain ⟨p, l, e, R, s, m, args, below, meth, c, cy, D, b, N⟩ := G
  obtain ⟨hR, hx, hb, hml, hown, hts, hlk, hrt, hK, hnw, hsta⟩ := g
  intro v ho H locs ls hN hP hS hl
  exact lv_sipush hx hb d hv (k v ho H locs ls hN hP hS hl)
theorem r_lconst (g : Ok G cc own nL rm rt) {n : Fin 2} {x : Int} (d : decode cc pc = .ok (.lconst n, 1)) (hv : Int64.ofNat (n : Nat) = lI x) (k : Rg G ret sf F C S (pc + 1) lv (vl x :: st) o) : Rg G ret sf F C S pc lv (st) o := by
  obtain ⟨p, l, e, R, s, m, args, below, meth, c, cy, D, b, N⟩ := G
  obtain ⟨hR, hx, hb, hml, hown, hts, hlk, hrt, hK, hnw, hsta⟩ := g
  intro v ho H locs ls hN hP hS hl
  exact lv_lconst hx hb d hv (k v ho H locs ls hN hP hS hl)
theorem r_ldc (g : Ok G cc own nL rm rt) {n : Nat} {x : Int} {y : Int32} (d : decode cc pc = .ok (.ldc n, 2)) (hc : Cond.constant own n y ∈ lw_gd) (hv : y = iI x) (k : Rg G ret sf F C S (pc + 2) lv (vi x :: st) o) : Rg G ret sf F C S pc lv (st) o := by
  obtain ⟨p, l, e, R, s, m, args, below, meth, c, cy, D, b, N⟩ := G
  obtain ⟨hR, hx, hb, hml, hown, hts, hlk, hrt, hK, hnw, hsta⟩ := g
  intro v ho H locs ls hN hP hS hl
  exact lv_ldc hx hb hown (hts _ (hv ▸ hc)) d (k v ho H locs ls hN hP hS hl)
theorem r_ldcw (g : Ok G cc own nL rm rt) {n : Nat} {x : Int} {y : Int32} (d : decode cc pc = .ok (.ldc_w n, 3)) (hc : Cond.constant own n y ∈ lw_gd) (hv : y = iI x) (k : Rg G ret sf F C S (pc + 3) lv (vi x :: st) o) : Rg G ret sf F C S pc lv (st) o := by
  obtain ⟨p, l, e, R, s, m, args, below, meth, c, cy, D, b, N⟩ := G
  obtain ⟨hR, hx, hb, hml, hown, hts, hlk, hrt, hK, hnw, hsta⟩ := g
  intro v ho H locs ls hN hP hS hl
  exact lv_ldcw hx hb hown (hts _ (hv ▸ hc)) d (k v ho H locs ls hN hP hS hl)
theorem r_ldc2 (g : Ok G cc own nL rm rt) {n : Nat} {x : Int} {y : Int64} (d : decode cc pc = .ok (.ldc2_w n, 3)) (hc : Cond.constantLong own n y ∈ lw_gd) (hv : y = lI x) (k : Rg G ret sf F C S (pc + 3) lv (vl x :: st) o) : Rg G ret sf F C S pc lv (st) o := by
  obtain ⟨p, l, e, R, s, m, args, below, meth, c, cy, D, b, N⟩ := G
  obtain ⟨hR, hx, hb, hml, hown, hts, hlk, hrt, hK, hnw, hsta⟩ := g
  intro v ho H locs ls hN hP hS hl
  exact lv_ldc2 hx hb hown (hts _ (hv ▸ hc)) d (k v ho H locs ls hN hP hS hl)
theorem r_iload (g : Ok G cc own nL rm rt) {i : Nat} {x : Int} (d : decode cc pc = .ok (.iload i, 2)) (h : lv[i]? = some (some (vi x))) (k : Rg G ret sf F C S (pc + 2) lv (vi x :: st) o) : Rg G ret sf F C S pc lv st o := by
  obtain ⟨p, l, e, R, s, m, args, below, meth, c, cy, D, b, N⟩ := G
  obtain ⟨hR, hx, hb, hml, hown, hts, hlk, hrt, hK, hnw, hsta⟩ := g
  intro v ho H locs ls hN hP hS hl
  exact lv_iload hx hb d (hl.2.2 (i, vi x) (by have := lvA_mem lv 0 i _ h; rwa [Nat.zero_add] at this)) (k v ho H locs ls hN hP hS hl)
theorem r_iload_n (g : Ok G cc own nL rm rt) {i : Fin 4} {x : Int} (d : decode cc pc = .ok (.iload_n i, 1)) (h : lv[(i : Nat)]? = some (some (vi x))) (k : Rg G ret sf F C S (pc + 1) lv (vi x :: st) o) : Rg G ret sf F C S pc lv st o := by
  obtain ⟨p, l, e, R, s, m, args, below, meth, c, cy, D, b, N⟩ := G
  obtain ⟨hR, hx, hb, hml, hown, hts, hlk, hrt, hK, hnw, hsta⟩ := g
  intro v ho H locs ls hN hP hS hl
  exact lv_iload_n hx hb d rfl (hl.2.2 ((i : Nat), vi x) (by have := lvA_mem lv 0 i _ h; rwa [Nat.zero_add] at this)) (k v ho H locs ls hN hP hS hl)
theorem r_istore (g : Ok G cc own nL rm rt) {i : Nat} {x : Int} {lv' : List (Option Value)} (d : decode cc pc = .ok (.istore i, 2)) (hn : i < nL) (h : st1 lv i (vi x) = lv') (k : Rg G ret sf F C S (pc + 2) lv' st o) : Rg G ret sf F C S pc lv (vi x :: st) o := by
  obtain ⟨p, l, e, R, s, m, args, below, meth, c, cy, D, b, N⟩ := G
  obtain ⟨hR, hx, hb, hml, hown, hts, hlk, hrt, hK, hnw, hsta⟩ := g
  intro v ho H locs ls hN hP hS hl
  subst h
  refine lv_istore hx hb d hl (by rw [hml]; exact hn) rfl (fun ls' hl' => k v ho H locs ls' hN hP hS ?_)
  refine ⟨hl'.1, hl'.2.1, fun q hq => hl'.2.2 q ?_⟩
  rcases st1_mem lv 0 i _ q hq with e1 | ⟨a1, a2, a4⟩
  · rw [e1, Nat.zero_add]; exact List.mem_cons_self
  · refine List.mem_cons_of_mem _ (List.mem_filter.mpr ⟨a1, ?_⟩)
    rw [Nat.zero_add] at a2 a4
    simp only [Bool.and_eq_true, Bool.not_eq_true', beq_eq_false_iff_ne, Bool.and_eq_false_iff]
    refine ⟨a2, ?_⟩
    by_cases h1 : q.1 + 1 = i
    · exact Or.inr (fun h2 => a4 ⟨h1, h2⟩)
    · exact Or.inl h1
theorem r_istore_n (g : Ok G cc own nL rm rt) {j : Fin 4} (i : Nat) {x : Int} {lv' : List (Option Value)} (d : decode cc pc = .ok (.istore_n j, 1)) (hi : (j : Nat) = i) (hn : i < nL) (h : st1 lv i (vi x) = lv') (k : Rg G ret sf F C S (pc + 1) lv' st o) : Rg G ret sf F C S pc lv (vi x :: st) o := by
  obtain ⟨p, l, e, R, s, m, args, below, meth, c, cy, D, b, N⟩ := G
  obtain ⟨hR, hx, hb, hml, hown, hts, hlk, hrt, hK, hnw, hsta⟩ := g
  intro v ho H locs ls hN hP hS hl
  subst h
  refine lv_istore_n hx hb d hi hl (by rw [hml]; exact hn) rfl (fun ls' hl' => k v ho H locs ls' hN hP hS ?_)
  refine ⟨hl'.1, hl'.2.1, fun q hq => hl'.2.2 q ?_⟩
  rcases st1_mem lv 0 i _ q hq with e1 | ⟨a1, a2, a4⟩
  · rw [e1, Nat.zero_add]; exact List.mem_cons_self
  · refine List.mem_cons_of_mem _ (List.mem_filter.mpr ⟨a1, ?_⟩)
    rw [Nat.zero_add] at a2 a4
    simp only [Bool.and_eq_true, Bool.not_eq_true', beq_eq_false_iff_ne, Bool.and_eq_false_iff]
    refine ⟨a2, ?_⟩
    by_cases h1 : q.1 + 1 = i
    · exact Or.inr (fun h2 => a4 ⟨h1, h2⟩)
    · exact Or.inl h1
theorem r_iinc (g : Ok G cc own nL rm rt) {i : Nat} {n : Int} {x : Int} {f : Int → Option ρ} (d : decode cc pc = .ok (.iinc i n, 3)) (hn : i < nL) (hx0 : lv[i]? = some (some (vi x))) (k : ∀ z, Rg G ret sf F C S (pc + 3) (st1 lv i (vi z)) st (f z)) : Rg G ret sf F C S pc lv st (setS (x + n) f) := by
  obtain ⟨p, l, e, R, s, m, args, below, meth, c, cy, D, b, N⟩ := G
  obtain ⟨hR, hx, hb, hml, hown, hts, hlk, hrt, hK, hnw, hsta⟩ := g
  intro v ho H locs ls hN hP hS hl
  have hm : (i, Value.int (iI x)) ∈ lvA 0 lv := by have := lvA_mem lv 0 i _ hx0; rwa [Nat.zero_add] at this
  obtain ⟨kk, hkk⟩ := List.getElem?_of_mem hm
  refine lv_iinc (v := iI (x + n)) hx hb d hl hkk (by rw [← iI_add]; rfl) (by rw [hml]; exact hn) rfl (fun ls' hl' => k (x + n) v ho H locs ls' hN hP hS ?_)
  refine ⟨hl'.1, hl'.2.1, fun q hq => hl'.2.2 q ?_⟩
  rcases st1_mem lv 0 i _ q hq with e1 | ⟨a1, a2, a4⟩
  · rw [e1, Nat.zero_add]; exact List.mem_cons_self
  · refine List.mem_cons_of_mem _ (List.mem_filter.mpr ⟨a1, ?_⟩)
    rw [Nat.zero_add] at a2 a4
    simp only [Bool.and_eq_true, Bool.not_eq_true', beq_eq_false_iff_ne, Bool.and_eq_false_iff]
    refine ⟨a2, ?_⟩
    by_cases h1 : q.1 + 1 = i
    · exact Or.inr (fun h2 => a4 ⟨h1, h2⟩)
    · exact Or.inl h1
theorem r_lload (g : Ok G cc own nL rm rt) {i : Nat} {x : Int} (d : decode cc pc = .ok (.lload i, 2)) (h : lv[i]? = some (some (vl x))) (k : Rg G ret sf F C S (pc + 2) lv (vl x :: st) o) : Rg G ret sf F C S pc lv st o := by
  obtain ⟨p, l, e, R, s, m, args, below, meth, c, cy, D, b, N⟩ := G
  obtain ⟨hR, hx, hb, hml, hown, hts, hlk, hrt, hK, hnw, hsta⟩ := g
  intro v ho H locs ls hN hP hS hl
  exact lv_lload hx hb d (hl.2.2 (i, vl x) (by have := lvA_mem lv 0 i _ h; rwa [Nat.zero_add] at this)) (k v ho H locs ls hN hP hS hl)
theorem r_lload_n (g : Ok G cc own nL rm rt) {i : Fin 4} {x : Int} (d : decode cc pc = .ok (.lload_n i, 1)) (h : lv[(i : Nat)]? = some (some (vl x))) (k : Rg G ret sf F C S (pc + 1) lv (vl x :: st) o) : Rg G ret sf F C S pc lv st o := by
  obtain ⟨p, l, e, R, s, m, args, below, meth, c, cy, D, b, N⟩ := G
  obtain ⟨hR, hx, hb, hml, hown, hts, hlk, hrt, hK, hnw, hsta⟩ := g
  intro v ho H locs ls hN hP hS hl
  exact lv_lload_n hx hb d rfl (hl.2.2 ((i : Nat), vl x) (by have := lvA_mem lv 0 i _ h; rwa [Nat.zero_add] at this)) (k v ho H locs ls hN hP hS hl)
theorem r_lstore (g : Ok G cc own nL rm rt) {i : Nat} {x : Int} {lv' : List (Option Value)} (d : decode cc pc = .ok (.lstore i, 2)) (hn : i + 1 < nL) (h : st2 lv i (vl x) = lv') (k : Rg G ret sf F C S (pc + 2) lv' st o) : Rg G ret sf F C S pc lv (vl x :: st) o := by
  obtain ⟨p, l, e, R, s, m, args, below, meth, c, cy, D, b, N⟩ := G
  obtain ⟨hR, hx, hb, hml, hown, hts, hlk, hrt, hK, hnw, hsta⟩ := g
  intro v ho H locs ls hN hP hS hl
  subst h
  refine lv_lstore hx hb d hl (by rw [hml]; exact hn) rfl (fun ls' hl' => k v ho H locs ls' hN hP hS ?_)
  refine ⟨hl'.1, hl'.2.1, fun q hq => hl'.2.2 q ?_⟩
  rcases st2_mem lv 0 i _ q hq with e1 | ⟨a1, a2, a3, a4⟩
  · rw [e1, Nat.zero_add]; exact List.mem_cons_self
  · refine List.mem_cons_of_mem _ (List.mem_filter.mpr ⟨a1, ?_⟩)
    rw [Nat.zero_add] at a2 a3 a4
    simp only [Bool.and_eq_true, Bool.not_eq_true', beq_eq_false_iff_ne, Bool.and_eq_false_iff]
    refine ⟨a2, a3, ?_⟩
    by_cases h1 : q.1 + 1 = i
    · exact Or.inr (fun h2 => a4 ⟨h1, h2⟩)
    · exact Or.inl h1
theorem r_lstore_n (g : Ok G cc own nL rm rt) {j : Fin 4} (i : Nat) {x : Int} {lv' : List (Option Value)} (d : decode cc pc = .ok (.lstore_n j, 1)) (hi : (j : Nat) = i) (hn : i + 1 < nL) (h : st2 lv i (vl x) = lv') (k : Rg G ret sf F C S (pc + 1) lv' st o) : Rg G ret sf F C S pc lv (vl x :: st) o := by
  obtain ⟨p, l, e, R, s, m, args, below, meth, c, cy, D, b, N⟩ := G
  obtain ⟨hR, hx, hb, hml, hown, hts, hlk, hrt, hK, hnw, hsta⟩ := g
  intro v ho H locs ls hN hP hS hl
  subst h
  refine lv_lstore_n hx hb d hi hl (by rw [hml]; exact hn) rfl (fun ls' hl' => k v ho H locs ls' hN hP hS ?_)
  refine ⟨hl'.1, hl'.2.1, fun q hq => hl'.2.2 q ?_⟩
  rcases st2_mem lv 0 i _ q hq with e1 | ⟨a1, a2, a3, a4⟩
  · rw [e1, Nat.zero_add]; exact List.mem_cons_self
  · refine List.mem_cons_of_mem _ (List.mem_filter.mpr ⟨a1, ?_⟩)
    rw [Nat.zero_add] at a2 a3 a4
    simp only [Bool.and_eq_true, Bool.not_eq_true', beq_eq_false_iff_ne, Bool.and_eq_false_iff]
    refine ⟨a2, a3, ?_⟩
    by_cases h1 : q.1 + 1 = i
    · exact Or.inr (fun h2 => a4 ⟨h1, h2⟩)
    · exact Or.inl h1
theorem r_aload (g : Ok G cc own nL rm rt) {i : Nat} {x : Nat} (d : decode cc pc = .ok (.aload i, 2)) (h : lv[i]? = some (some (.ref x))) (k : Rg G ret sf F C S (pc + 2) lv (.ref x :: st) o) : Rg G ret sf F C S pc lv st o := by
  obtain ⟨p, l, e, R, s, m, args, below, meth, c, cy, D, b, N⟩ := G
  obtain ⟨hR, hx, hb, hml, hown, hts, hlk, hrt, hK, hnw, hsta⟩ := g
  intro v ho H locs ls hN hP hS hl
  exact lv_aload hx hb d (hl.2.2 (i, .ref x) (by have := lvA_mem lv 0 i _ h; rwa [Nat.zero_add] at this)) (k v ho H locs ls hN hP hS hl)
theorem r_aload_n (g : Ok G cc own nL rm rt) {i : Fin 4} {x : Nat} (d : decode cc pc = .ok (.aload_n i, 1)) (h : lv[(i : Nat)]? = some (some (.ref x))) (k : Rg G ret sf F C S (pc + 1) lv (.ref x :: st) o) : Rg G ret sf F C S pc lv st o := by
  obtain ⟨p, l, e, R, s, m, args, below, meth, c, cy, D, b, N⟩ := G
  obtain ⟨hR, hx, hb, hml, hown, hts, hlk, hrt, hK, hnw, hsta⟩ := g
  intro v ho H locs ls hN hP hS hl
  exact lv_aload_n hx hb d rfl (hl.2.2 ((i : Nat), .ref x) (by have := lvA_mem lv 0 i _ h; rwa [Nat.zero_add] at this)) (k v ho H locs ls hN hP hS hl)
theorem r_astore (g : Ok G cc own nL rm rt) {i : Nat} {x : Nat} {lv' : List (Option Value)} (d : decode cc pc = .ok (.astore i, 2)) (hn : i < nL) (h : st1 lv i (.ref x) = lv') (k : Rg G ret sf F C S (pc + 2) lv' st o) : Rg G ret sf F C S pc lv (.ref x :: st) o := by
  obtain ⟨p, l, e, R, s, m, args, below, meth, c, cy, D, b, N⟩ := G
  obtain ⟨hR, hx, hb, hml, hown, hts, hlk, hrt, hK, hnw, hsta⟩ := g
  intro v ho H locs ls hN hP hS hl
  subst h
  refine lv_astore hx hb d hl (by rw [hml]; exact hn) rfl (fun ls' hl' => k v ho H locs ls' hN hP hS ?_)
  refine ⟨hl'.1, hl'.2.1, fun q hq => hl'.2.2 q ?_⟩
  rcases st1_mem lv 0 i _ q hq with e1 | ⟨a1, a2, a4⟩
  · rw [e1, Nat.zero_add]; exact List.mem_cons_self
  · refine List.mem_cons_of_mem _ (List.mem_filter.mpr ⟨a1, ?_⟩)
    rw [Nat.zero_add] at a2 a4
    simp only [Bool.and_eq_true, Bool.not_eq_true', beq_eq_false_iff_ne, Bool.and_eq_false_iff]
    refine ⟨a2, ?_⟩
    by_cases h1 : q.1 + 1 = i
    · exact Or.inr (fun h2 => a4 ⟨h1, h2⟩)
    · exact Or.inl h1
theorem r_astore_n (g : Ok G cc own nL rm rt) {j : Fin 4} (i : Nat) {x : Nat} {lv' : List (Option Value)} (d : decode cc pc = .ok (.astore_n j, 1)) (hi : (j : Nat) = i) (hn : i < nL) (h : st1 lv i (.ref x) = lv') (k : Rg G ret sf F C S (pc + 1) lv' st o) : Rg G ret sf F C S pc lv (.ref x :: st) o := by
  obtain ⟨p, l, e, R, s, m, args, below, meth, c, cy, D, b, N⟩ := G
  obtain ⟨hR, hx, hb, hml, hown, hts, hlk, hrt, hK, hnw, hsta⟩ := g
  intro v ho H locs ls hN hP hS hl
  subst h
  refine lv_astore_n hx hb d hi hl (by rw [hml]; exact hn) rfl (fun ls' hl' => k v ho H locs ls' hN hP hS ?_)
  refine ⟨hl'.1, hl'.2.1, fun q hq => hl'.2.2 q ?_⟩
  rcases st1_mem lv 0 i _ q hq with e1 | ⟨a1, a2, a4⟩
  · rw [e1, Nat.zero_add]; exact List.mem_cons_self
  · refine List.mem_cons_of_mem _ (List.mem_filter.mpr ⟨a1, ?_⟩)
    rw [Nat.zero_add] at a2 a4
    simp only [Bool.and_eq_true, Bool.not_eq_true', beq_eq_false_iff_ne, Bool.and_eq_false_iff]
    refine ⟨a2, ?_⟩
    by_cases h1 : q.1 + 1 = i
    · exact Or.inr (fun h2 => a4 ⟨h1, h2⟩)
    · exact Or.inl h1
theorem r_iadd (g : Ok G cc own nL rm rt) {x y : Int} (d : decode cc pc = .ok (.iadd, 1)) (k : Rg G ret sf F C S (pc + 1) lv (vi (x + y) :: st) o) : Rg G ret sf F C S pc lv (vi y :: vi x :: st) o := by
  obtain ⟨p, l, e, R, s, m, args, below, meth, c, cy, D, b, N⟩ := G
  obtain ⟨hR, hx, hb, hml, hown, hts, hlk, hrt, hK, hnw, hsta⟩ := g
  intro v ho H locs ls hN hP hS hl
  have kk := (k v ho H locs ls hN hP hS hl)
  refine lv_iadd hx hb d ?_
  rw [iI_add]
  exact kk
theorem r_isub (g : Ok G cc own nL rm rt) {x y : Int} (d : decode cc pc = .ok (.isub, 1)) (k : Rg G ret sf F C S (pc + 1) lv (vi (x - y) :: st) o) : Rg G ret sf F C S pc lv (vi y :: vi x :: st) o := by
  obtain ⟨p, l, e, R, s, m, args, below, meth, c, cy, D, b, N⟩ := G
  obtain ⟨hR, hx, hb, hml, hown, hts, hlk, hrt, hK, hnw, hsta⟩ := g
  intro v ho H locs ls hN hP hS hl
  have kk := (k v ho H locs ls hN hP hS hl)
  refine lv_isub hx hb d ?_
  rw [iI_sub]
  exact kk
theorem r_imul (g : Ok G cc own nL rm rt) {x y : Int} (d : decode cc pc = .ok (.imul, 1)) (k : Rg G ret sf F C S (pc + 1) lv (vi (x * y) :: st) o) : Rg G ret sf F C S pc lv (vi y :: vi x :: st) o := by
  obtain ⟨p, l, e, R, s, m, args, below, meth, c, cy, D, b, N⟩ := G
  obtain ⟨hR, hx, hb, hml, hown, hts, hlk, hrt, hK, hnw, hsta⟩ := g
  intro v ho H locs ls hN hP hS hl
  have kk := (k v ho H locs ls hN hP hS hl)
  refine lv_imul hx hb d ?_
  rw [iI_mul]
  exact kk
theorem r_ladd (g : Ok G cc own nL rm rt) {x y : Int} (d : decode cc pc = .ok (.ladd, 1)) (k : Rg G ret sf F C S (pc + 1) lv (vl (x + y) :: st) o) : Rg G ret sf F C S pc lv (vl y :: vl x :: st) o := by
  obtain ⟨p, l, e, R, s, m, args, below, meth, c, cy, D, b, N⟩ := G
  obtain ⟨hR, hx, hb, hml, hown, hts, hlk, hrt, hK, hnw, hsta⟩ := g
  intro v ho H locs ls hN hP hS hl
  have kk := (k v ho H locs ls hN hP hS hl)
  refine lv_ladd hx hb d ?_
  rw [lI_add]
  exact kk
theorem r_lsub (g : Ok G cc own nL rm rt) {x y : Int} (d : decode cc pc = .ok (.lsub, 1)) (k : Rg G ret sf F C S (pc + 1) lv (vl (x - y) :: st) o) : Rg G ret sf F C S pc lv (vl y :: vl x :: st) o := by
  obtain ⟨p, l, e, R, s, m, args, below, meth, c, cy, D, b, N⟩ := G
  obtain ⟨hR, hx, hb, hml, hown, hts, hlk, hrt, hK, hnw, hsta⟩ := g
  intro v ho H locs ls hN hP hS hl
  have kk := (k v ho H locs ls hN hP hS hl)
  refine lv_lsub hx hb d ?_
  rw [lI_sub]
  exact kk
theorem r_lmul (g : Ok G cc own nL rm rt) {x y : Int} (d : decode cc pc = .ok (.lmul, 1)) (k : Rg G ret sf F C S (pc + 1) lv (vl (x * y) :: st) o) : Rg G ret sf F C S pc lv (vl y :: vl x :: st) o := by
  obtain ⟨p, l, e, R, s, m, args, below, meth, c, cy, D, b, N⟩ := G
  obtain ⟨hR, hx, hb, hml, hown, hts, hlk, hrt, hK, hnw, hsta⟩ := g
  intro v ho H locs ls hN hP hS hl
  have kk := (k v ho H locs ls hN hP hS hl)
  refine lv_lmul hx hb d ?_
  rw [lI_mul]
  exact kk
theorem r_ineg (g : Ok G cc own nL rm rt) {x : Int} (d : decode cc pc = .ok (.ineg, 1)) (k : Rg G ret sf F C S (pc + 1) lv (vi (-x) :: st) o) : Rg G ret sf F C S pc lv (vi x :: st) o := by
  obtain ⟨p, l, e, R, s, m, args, below, meth, c, cy, D, b, N⟩ := G
  obtain ⟨hR, hx, hb, hml, hown, hts, hlk, hrt, hK, hnw, hsta⟩ := g
  intro v ho H locs ls hN hP hS hl
  have kk := (k v ho H locs ls hN hP hS hl)
  refine lv_ineg hx hb d ?_
  rw [iI_neg]
  exact kk
theorem r_lneg (g : Ok G cc own nL rm rt) {x : Int} (d : decode cc pc = .ok (.lneg, 1)) (k : Rg G ret sf F C S (pc + 1) lv (vl (-x) :: st) o) : Rg G ret sf F C S pc lv (vl x :: st) o := by
  obtain ⟨p, l, e, R, s, m, args, below, meth, c, cy, D, b, N⟩ := G
  obtain ⟨hR, hx, hb, hml, hown, hts, hlk, hrt, hK, hnw, hsta⟩ := g
  intro v ho H locs ls hN hP hS hl
  have kk := (k v ho H locs ls hN hP hS hl)
  refine lv_lneg hx hb d ?_
  rw [lI_neg]
  exact kk
theorem r_l2i (g : Ok G cc own nL rm rt) {x : Int} (d : decode cc pc = .ok (.l2i, 1)) (k : Rg G ret sf F C S (pc + 1) lv (vi x :: st) o) : Rg G ret sf F C S pc lv (vl x :: st) o := by
  obtain ⟨p, l, e, R, s, m, args, below, meth, c, cy, D, b, N⟩ := G
  obtain ⟨hR, hx, hb, hml, hown, hts, hlk, hrt, hK, hnw, hsta⟩ := g
  intro v ho H locs ls hN hP hS hl
  have kk := (k v ho H locs ls hN hP hS hl)
  refine lv_l2i hx hb d rfl ?_
  rw [lI_i]
  exact kk
theorem r_i2b (g : Ok G cc own nL rm rt) {x : Int} (d : decode cc pc = .ok (.i2b, 1)) (k : Rg G ret sf F C S (pc + 1) lv (vi (x.bmod 256) :: st) o) : Rg G ret sf F C S pc lv (vi x :: st) o := by
  obtain ⟨p, l, e, R, s, m, args, below, meth, c, cy, D, b, N⟩ := G
  obtain ⟨hR, hx, hb, hml, hown, hts, hlk, hrt, hK, hnw, hsta⟩ := g
  intro v ho H locs ls hN hP hS hl
  have kk := (k v ho H locs ls hN hP hS hl)
  refine lv_i2b hx hb d rfl ?_
  rw [iI_b]
  exact kk
theorem r_i2l (g : Ok G cc own nL rm rt) {x : Int} (d : decode cc pc = .ok (.i2l, 1)) (k : Rg G ret sf F C S (pc + 1) lv (vl x :: st) o) : Rg G ret sf F C S pc lv (vi x :: st) (wdI x o) := by
  obtain ⟨p, l, e, R, s, m, args, below, meth, c, cy, D, b, N⟩ := G
  obtain ⟨hR, hx, hb, hml, hown, hts, hlk, hrt, hK, hnw, hsta⟩ := g
  intro v ho H locs ls hN hP hS hl
  unfold wdI at ho
  by_cases h : in32 x
  · rw [if_pos h] at ho
    have kk := (k v ho H locs ls hN hP hS hl)
    refine lv_i2l hx hb d rfl ?_
    rw [iI_l h]
    exact kk
  · rw [if_neg h] at ho; cases ho
theorem r_i2lk (g : Ok G cc own nL rm rt) {x : Int} (h : in32 x) (d : decode cc pc = .ok (.i2l, 1)) (k : Rg G ret sf F C S (pc + 1) lv (vl x :: st) o) : Rg G ret sf F C S pc lv (vi x :: st) o := by
  obtain ⟨p, l, e, R, s, m, args, below, meth, c, cy, D, b, N⟩ := G
  obtain ⟨hR, hx, hb, hml, hown, hts, hlk, hrt, hK, hnw, hsta⟩ := g
  intro v ho H locs ls hN hP hS hl
  have kk := (k v ho H locs ls hN hP hS hl)
  refine lv_i2l hx hb d rfl ?_
  rw [iI_l h]
  exact kk
theorem r_dup (g : Ok G cc own nL rm rt) {va : Value} (d : decode cc pc = .ok (.dup, 1)) (hc : va.category = 1) (k : Rg G ret sf F C S (pc + 1) lv (va :: va :: st) o) : Rg G ret sf F C S pc lv (va :: st) o := by
  obtain ⟨p, l, e, R, s, m, args, below, meth, c, cy, D, b, N⟩ := G
  obtain ⟨hR, hx, hb, hml, hown, hts, hlk, hrt, hK, hnw, hsta⟩ := g
  intro v ho H locs ls hN hP hS hl
  exact lv_dup hx hb d hc (k v ho H locs ls hN hP hS hl)
theorem r_dup2 (g : Ok G cc own nL rm rt) {va vb : Value} (d : decode cc pc = .ok (.dup2, 1)) (hc : va.category = 1) (hc2 : vb.category = 1) (k : Rg G ret sf F C S (pc + 1) lv (va :: vb :: va :: vb :: st) o) : Rg G ret sf F C S pc lv (va :: vb :: st) o := by
  obtain ⟨p, l, e, R, s, m, args, below, meth, c, cy, D, b, N⟩ := G
  obtain ⟨hR, hx, hb, hml, hown, hts, hlk, hrt, hK, hnw, hsta⟩ := g
  intro v ho H locs ls hN hP hS hl
  exact lv_dup2_11 hx hb d hc hc2 (k v ho H locs ls hN hP hS hl)
theorem r_pop (g : Ok G cc own nL rm rt) {va : Value} (d : decode cc pc = .ok (.pop, 1)) (hc : va.category = 1) (k : Rg G ret sf F C S (pc + 1) lv (st) o) : Rg G ret sf F C S pc lv (va :: st) o := by
  obtain ⟨p, l, e, R, s, m, args, below, meth, c, cy, D, b, N⟩ := G
  obtain ⟨hR, hx, hb, hml, hown, hts, hlk, hrt, hK, hnw, hsta⟩ := g
  intro v ho H locs ls hN hP hS hl
  exact lv_pop hx hb d hc (k v ho H locs ls hN hP hS hl)
theorem r_idiv (g : Ok G cc own nL rm rt) {x y : Int} {f : Int → Option ρ} (d : decode cc pc = .ok (.idiv, 1)) (k : ∀ z, Rg G ret sf F C S (pc + 1) lv (vi z :: st) (f z)) : Rg G ret sf F C S pc lv (vi y :: vi x :: st) (dvI x y f) := by
  obtain ⟨p, l, e, R, s, m, args, below, meth, c, cy, D, b, N⟩ := G
  obtain ⟨hR, hx, hb, hml, hown, hts, hlk, hrt, hK, hnw, hsta⟩ := g
  intro v ho H locs ls hN hP hS hl
  unfold dvI at ho
  by_cases hy : in32 x ∧ in32 y ∧ y ≠ 0
  · rw [if_pos hy] at ho
    have kk := k _ v ho H locs ls hN hP hS hl
    refine lv_idiv hx hb d (fun h => hy.2.2 ((iI_eq hy.2.1 ⟨by decide, by decide⟩).mp (h.trans iI_0.symm))) ?_
    rw [iI_div hy.1 hy.2.1]
    exact kk
  · rw [if_neg hy] at ho; cases ho
theorem r_irem (g : Ok G cc own nL rm rt) {x y : Int} {f : Int → Option ρ} (d : decode cc pc = .ok (.irem, 1)) (k : ∀ z, Rg G ret sf F C S (pc + 1) lv (vi z :: st) (f z)) : Rg G ret sf F C S pc lv (vi y :: vi x :: st) (rmI x y f) := by
  obtain ⟨p, l, e, R, s, m, args, below, meth, c, cy, D, b, N⟩ := G
  obtain ⟨hR, hx, hb, hml, hown, hts, hlk, hrt, hK, hnw, hsta⟩ := g
  intro v ho H locs ls hN hP hS hl
  unfold rmI at ho
  by_cases hy : in32 x ∧ in32 y ∧ y ≠ 0
  · rw [if_pos hy] at ho
    have kk := k _ v ho H locs ls hN hP hS hl
    refine lv_irem hx hb d (fun h => hy.2.2 ((iI_eq hy.2.1 ⟨by decide, by decide⟩).mp (h.trans iI_0.symm))) ?_
    rw [iI_rem hy.1 hy.2.1]
    exact kk
  · rw [if_neg hy] at ho; cases ho
theorem r_ldiv (g : Ok G cc own nL rm rt) {x y : Int} {f : Int → Option ρ} (d : decode cc pc = .ok (.ldiv, 1)) (k : ∀ z, Rg G ret sf F C S (pc + 1) lv (vl z :: st) (f z)) : Rg G ret sf F C S pc lv (vl y :: vl x :: st) (dvL x y f) := by
  obtain ⟨p, l, e, R, s, m, args, below, meth, c, cy, D, b, N⟩ := G
  obtain ⟨hR, hx, hb, hml, hown, hts, hlk, hrt, hK, hnw, hsta⟩ := g
  intro v ho H locs ls hN hP hS hl
  unfold dvL at ho
  by_cases hy : in64 x ∧ in64 y ∧ y ≠ 0
  · rw [if_pos hy] at ho
    have kk := k _ v ho H locs ls hN hP hS hl
    refine lv_ldiv hx hb d (fun h => hy.2.2 ((lI_eq hy.2.1 ⟨by decide, by decide⟩).mp (h.trans lI_0.symm))) ?_
    rw [lI_div hy.1 hy.2.1]
    exact kk
  · rw [if_neg hy] at ho; cases ho
theorem r_lrem (g : Ok G cc own nL rm rt) {x y : Int} {f : Int → Option ρ} (d : decode cc pc = .ok (.lrem, 1)) (k : ∀ z, Rg G ret sf F C S (pc + 1) lv (vl z :: st) (f z)) : Rg G ret sf F C S pc lv (vl y :: vl x :: st) (rmL x y f) := by
  obtain ⟨p, l, e, R, s, m, args, below, meth, c, cy, D, b, N⟩ := G
  obtain ⟨hR, hx, hb, hml, hown, hts, hlk, hrt, hK, hnw, hsta⟩ := g
  intro v ho H locs ls hN hP hS hl
  unfold rmL at ho
  by_cases hy : in64 x ∧ in64 y ∧ y ≠ 0
  · rw [if_pos hy] at ho
    have kk := k _ v ho H locs ls hN hP hS hl
    refine lv_lrem hx hb d (fun h => hy.2.2 ((lI_eq hy.2.1 ⟨by decide, by decide⟩).mp (h.trans lI_0.symm))) ?_
    rw [lI_rem hy.1 hy.2.1]
    exact kk
  · rw [if_neg hy] at ho; cases ho
theorem r_iand (g : Ok G cc own nL rm rt) {x y : Int} {f : Int → Option ρ} (d : decode cc pc = .ok (.iand, 1)) (k : ∀ z, Rg G ret sf F C S (pc + 1) lv (vi z :: st) (f z)) : Rg G ret sf F C S pc lv (vi y :: vi x :: st) (andI x y f) := by
  obtain ⟨p, l, e, R, s, m, args, below, meth, c, cy, D, b, N⟩ := G
  obtain ⟨hR, hx, hb, hml, hown, hts, hlk, hrt, hK, hnw, hsta⟩ := g
  intro v ho H locs ls hN hP hS hl
  unfold andI at ho
  by_cases hy : 0 ≤ x ∧ x ≤ 2147483647 ∧ 0 ≤ y ∧ y ≤ 2147483647
  · rw [if_pos hy] at ho
    have kk := k _ v ho H locs ls hN hP hS hl
    refine lv_iand hx hb d ?_
    rw [iI_nI x hy.1, iI_nI y hy.2.2.1, nI_and, ← iI_ofNat]
    exact kk
  · rw [if_neg hy] at ho; cases ho
theorem r_ior (g : Ok G cc own nL rm rt) {x y : Int} {f : Int → Option ρ} (d : decode cc pc = .ok (.ior, 1)) (k : ∀ z, Rg G ret sf F C S (pc + 1) lv (vi z :: st) (f z)) : Rg G ret sf F C S pc lv (vi y :: vi x :: st) (orI x y f) := by
  obtain ⟨p, l, e, R, s, m, args, below, meth, c, cy, D, b, N⟩ := G
  obtain ⟨hR, hx, hb, hml, hown, hts, hlk, hrt, hK, hnw, hsta⟩ := g
  intro v ho H locs ls hN hP hS hl
  unfold orI at ho
  by_cases hy : 0 ≤ x ∧ x ≤ 2147483647 ∧ 0 ≤ y ∧ y ≤ 2147483647
  · rw [if_pos hy] at ho
    have kk := k _ v ho H locs ls hN hP hS hl
    refine lv_ior hx hb d ?_
    rw [iI_nI x hy.1, iI_nI y hy.2.2.1, nI_or, ← iI_ofNat]
    exact kk
  · rw [if_neg hy] at ho; cases ho
theorem r_ishl (g : Ok G cc own nL rm rt) {x y : Int} {f : Int → Option ρ} (d : decode cc pc = .ok (.ishl, 1)) (k : ∀ z, Rg G ret sf F C S (pc + 1) lv (vi z :: st) (f z)) : Rg G ret sf F C S pc lv (vi y :: vi x :: st) (shlI x y f) := by
  obtain ⟨p, l, e, R, s, m, args, below, meth, c, cy, D, b, N⟩ := G
  obtain ⟨hR, hx, hb, hml, hown, hts, hlk, hrt, hK, hnw, hsta⟩ := g
  intro v ho H locs ls hN hP hS hl
  unfold shlI at ho
  by_cases hy : 0 ≤ x ∧ 0 ≤ y ∧ y ≤ 30 ∧ x * 2 ^ y.toNat ≤ 2147483647
  · rw [if_pos hy] at ho
    have kk := k _ v ho H locs ls hN hP hS hl
    refine lv_ishl hx hb d ?_
    obtain ⟨a, rfl⟩ := Int.eq_ofNat_of_zero_le hy.1
    obtain ⟨k, rfl⟩ := Int.eq_ofNat_of_zero_le hy.2.1
    have h4 : a * 2 ^ k < 2 ^ 32 := by
      have h5 := hy.2.2.2
      rw [Int.toNat_natCast] at h5
      have h6 : ((a * 2 ^ k : Nat) : Int) ≤ 2147483647 := by simpa using h5
      omega
    rw [iI_ofNat a, iI_ofNat k, pk_shlN _ k (smod_31 k (by have := hy.2.2.1; omega)) h4]
    have e : nI (a * 2 ^ k) = iI (((a : Nat) : Int) * 2 ^ (((k : Nat) : Int)).toNat) := by
      rw [Int.toNat_natCast, ← iI_ofNat]; simp
    rw [e]
    exact kk
  · rw [if_neg hy] at ho; cases ho
theorem r_ishr (g : Ok G cc own nL rm rt) {x y : Int} {f : Int → Option ρ} (d : decode cc pc = .ok (.ishr, 1)) (k : ∀ z, Rg G ret sf F C S (pc + 1) lv (vi z :: st) (f z)) : Rg G ret sf F C S pc lv (vi y :: vi x :: st) (shrI x y f) := by
  obtain ⟨p, l, e, R, s, m, args, below, meth, c, cy, D, b, N⟩ := G
  obtain ⟨hR, hx, hb, hml, hown, hts, hlk, hrt, hK, hnw, hsta⟩ := g
  intro v ho H locs ls hN hP hS hl
  unfold shrI at ho
  by_cases hy : 0 ≤ x ∧ x ≤ 2147483647 ∧ 0 ≤ y ∧ y ≤ 30
  · rw [if_pos hy] at ho
    have kk := k _ v ho H locs ls hN hP hS hl
    refine lv_ishr hx hb d ?_
    obtain ⟨a, rfl⟩ := Int.eq_ofNat_of_zero_le hy.1
    obtain ⟨k, rfl⟩ := Int.eq_ofNat_of_zero_le hy.2.2.1
    rw [iI_ofNat a, iI_ofNat k, pk_shrN (by have := hy.2.1; omega) _ k (smod_31 k (by have := hy.2.2.2; omega))]
    have e : nI (a / 2 ^ k) = iI (((a : Nat) : Int) / 2 ^ (((k : Nat) : Int)).toNat) := by
      rw [Int.toNat_natCast, ← iI_ofNat]; simp
    rw [e]
    exact kk
  · rw [if_neg hy] at ho; cases ho
theorem r_iushr (g : Ok G cc own nL rm rt) {x y : Int} {f : Int → Option ρ} (d : decode cc pc = .ok (.iushr, 1)) (k : ∀ z, Rg G ret sf F C S (pc + 1) lv (vi z :: st) (f z)) : Rg G ret sf F C S pc lv (vi y :: vi x :: st) (shrI x y f) := by
  obtain ⟨p, l, e, R, s, m, args, below, meth, c, cy, D, b, N⟩ := G
  obtain ⟨hR, hx, hb, hml, hown, hts, hlk, hrt, hK, hnw, hsta⟩ := g
  intro v ho H locs ls hN hP hS hl
  unfold shrI at ho
  by_cases hy : 0 ≤ x ∧ x ≤ 2147483647 ∧ 0 ≤ y ∧ y ≤ 30
  · rw [if_pos hy] at ho
    have kk := k _ v ho H locs ls hN hP hS hl
    refine lv_iushr hx hb d rfl ?_
    obtain ⟨a, rfl⟩ := Int.eq_ofNat_of_zero_le hy.1
    obtain ⟨k, rfl⟩ := Int.eq_ofNat_of_zero_le hy.2.2.1
    rw [iI_ofNat a, iI_ofNat k, pk_ushrN (by have := hy.2.1; omega) _ k (ushr_31 k (by have := hy.2.2.2; omega))]
    have e : nI (a / 2 ^ k) = iI (((a : Nat) : Int) / 2 ^ (((k : Nat) : Int)).toNat) := by
      rw [Int.toNat_natCast, ← iI_ofNat]; simp
    rw [e]
    exact kk
  · rw [if_neg hy] at ho; cases ho
theorem r_icmp_eq (g : Ok G cc own nL rm rt) {x y : Int} {off : Int} (tgt : Nat) {o1 o2 : Option ρ} (d : decode cc pc = .ok (.if_icmp .eq off, 3)) (ht : (pc : Int) + off = (tgt : Int)) (kt : Rg G ret sf F C S tgt lv st o1) (kf : Rg G ret sf F C S (pc + 3) lv st o2) : Rg G ret sf F C S pc lv (vi y :: vi x :: st) (cEQ x y o1 o2) := by
  obtain ⟨p, l, e, R, s, m, args, below, meth, c, cy, D, b, N⟩ := G
  obtain ⟨hR, hx, hb, hml, hown, hts, hlk, hrt, hK, hnw, hsta⟩ := g
  intro v ho H locs ls hN hP hS hl
  unfold cEQ at ho
  by_cases hc : in32 x ∧ in32 y
  · rw [if_pos hc] at ho
    exact lv_icmp_eq hx hb d ht (fun h => kt v (by rw [if_pos ((iI_eq hc.1 hc.2).mp (by first | exact h | (rw [iI_0]; exact h) | (simpa [iI_0] using h)))] at ho; exact ho) H locs ls hN hP hS hl) (fun h => kf v (by rw [if_neg (fun z => h (by have z2 := (iI_eq hc.1 hc.2).mpr z; first | exact z2 | (rw [iI_0] at z2; exact z2)))] at ho; exact ho) H locs ls hN hP hS hl)
  · rw [if_neg hc] at ho; cases ho
theorem r_if_eq (g : Ok G cc own nL rm rt) {x : Int} {off : Int} (tgt : Nat) {o1 o2 : Option ρ} (d : decode cc pc = .ok (.ifCond .eq off, 3)) (ht : (pc : Int) + off = (tgt : Int)) (kt : Rg G ret sf F C S tgt lv st o1) (kf : Rg G ret sf F C S (pc + 3) lv st o2) : Rg G ret sf F C S pc lv (vi x :: st) (cEQ x 0 o1 o2) := by
  obtain ⟨p, l, e, R, s, m, args, below, meth, c, cy, D, b, N⟩ := G
  obtain ⟨hR, hx, hb, hml, hown, hts, hlk, hrt, hK, hnw, hsta⟩ := g
  intro v ho H locs ls hN hP hS hl
  unfold cEQ at ho
  by_cases hc : in32 x ∧ in32 0
  · rw [if_pos hc] at ho
    exact lv_if_eq hx hb d ht (fun h => kt v (by rw [if_pos ((iI_eq hc.1 hc.2).mp (by first | exact h | (rw [iI_0]; exact h) | (simpa [iI_0] using h)))] at ho; exact ho) H locs ls hN hP hS hl) (fun h => kf v (by rw [if_neg (fun z => h (by have z2 := (iI_eq hc.1 hc.2).mpr z; first | exact z2 | (rw [iI_0] at z2; exact z2)))] at ho; exact ho) H locs ls hN hP hS hl)
  · rw [if_neg hc] at ho; cases ho
theorem r_icmp_ne (g : Ok G cc own nL rm rt) {x y : Int} {off : Int} (tgt : Nat) {o1 o2 : Option ρ} (d : decode cc pc = .ok (.if_icmp .ne off, 3)) (ht : (pc : Int) + off = (tgt : Int)) (kt : Rg G ret sf F C S tgt lv st o1) (kf : Rg G ret sf F C S (pc + 3) lv st o2) : Rg G ret sf F C S pc lv (vi y :: vi x :: st) (cEQ x y o2 o1) := by
  obtain ⟨p, l, e, R, s, m, args, below, meth, c, cy, D, b, N⟩ := G
  obtain ⟨hR, hx, hb, hml, hown, hts, hlk, hrt, hK, hnw, hsta⟩ := g
  intro v ho H locs ls hN hP hS hl
  unfold cEQ at ho
  by_cases hc : in32 x ∧ in32 y
  · rw [if_pos hc] at ho
    exact lv_icmp_ne hx hb d ht (fun h => kt v (by rw [if_neg (fun z => h (by have z2 := (iI_eq hc.1 hc.2).mpr z; first | exact z2 | (rw [iI_0] at z2; exact z2)))] at ho; exact ho) H locs ls hN hP hS hl) (fun h => kf v (by rw [if_pos ((iI_eq hc.1 hc.2).mp (by first | exact h | (rw [iI_0]; exact h)))] at ho; exact ho) H locs ls hN hP hS hl)
  · rw [if_neg hc] at ho; cases ho
theorem r_if_ne (g : Ok G cc own nL rm rt) {x : Int} {off : Int} (tgt : Nat) {o1 o2 : Option ρ} (d : decode cc pc = .ok (.ifCond .ne off, 3)) (ht : (pc : Int) + off = (tgt : Int)) (kt : Rg G ret sf F C S tgt lv st o1) (kf : Rg G ret sf F C S (pc + 3) lv st o2) : Rg G ret sf F C S pc lv (vi x :: st) (cEQ x 0 o2 o1) := by
  obtain ⟨p, l, e, R, s, m, args, below, meth, c, cy, D, b, N⟩ := G
  obtain ⟨hR, hx, hb, hml, hown, hts, hlk, hrt, hK, hnw, hsta⟩ := g
  intro v ho H locs ls hN hP hS hl
  unfold cEQ at ho
  by_cases hc : in32 x ∧ in32 0
  · rw [if_pos hc] at ho
    exact lv_if_ne hx hb d ht (fun h => kt v (by rw [if_neg (fun z => h (by have z2 := (iI_eq hc.1 hc.2).mpr z; first | exact z2 | (rw [iI_0] at z2; exact z2)))] at ho; exact ho) H locs ls hN hP hS hl) (fun h => kf v (by rw [if_pos ((iI_eq hc.1 hc.2).mp (by first | exact h | (rw [iI_0]; exact h)))] at ho; exact ho) H locs ls hN hP hS hl)
  · rw [if_neg hc] at ho; cases ho
theorem r_icmp_lt (g : Ok G cc own nL rm rt) {x y : Int} {off : Int} (tgt : Nat) {o1 o2 : Option ρ} (d : decode cc pc = .ok (.if_icmp .lt off, 3)) (ht : (pc : Int) + off = (tgt : Int)) (kt : Rg G ret sf F C S tgt lv st o1) (kf : Rg G ret sf F C S (pc + 3) lv st o2) : Rg G ret sf F C S pc lv (vi y :: vi x :: st) (cLT x y o1 o2) := by
  obtain ⟨p, l, e, R, s, m, args, below, meth, c, cy, D, b, N⟩ := G
  obtain ⟨hR, hx, hb, hml, hown, hts, hlk, hrt, hK, hnw, hsta⟩ := g
  intro v ho H locs ls hN hP hS hl
  unfold cLT at ho
  by_cases hc : in32 x ∧ in32 y
  · rw [if_pos hc] at ho
    exact lv_icmp_lt hx hb d ht (fun h => kt v (by rw [if_pos ((iI_lt hc.1 hc.2).mp (by first | exact h | (rw [iI_0]; exact h) | (simpa [iI_0] using h)))] at ho; exact ho) H locs ls hN hP hS hl) (fun h => kf v (by rw [if_neg (fun z => h (by have z2 := (iI_lt hc.1 hc.2).mpr z; first | exact z2 | (rw [iI_0] at z2; exact z2)))] at ho; exact ho) H locs ls hN hP hS hl)
  · rw [if_neg hc] at ho; cases ho
theorem r_if_lt (g : Ok G cc own nL rm rt) {x : Int} {off : Int} (tgt : Nat) {o1 o2 : Option ρ} (d : decode cc pc = .ok (.ifCond .lt off, 3)) (ht : (pc : Int) + off = (tgt : Int)) (kt : Rg G ret sf F C S tgt lv st o1) (kf : Rg G ret sf F C S (pc + 3) lv st o2) : Rg G ret sf F C S pc lv (vi x :: st) (cLT x 0 o1 o2) := by
  obtain ⟨p, l, e, R, s, m, args, below, meth, c, cy, D, b, N⟩ := G
  obtain ⟨hR, hx, hb, hml, hown, hts, hlk, hrt, hK, hnw, hsta⟩ := g
  intro v ho H locs ls hN hP hS hl
  unfold cLT at ho
  by_cases hc : in32 x ∧ in32 0
  · rw [if_pos hc] at ho
    exact lv_if_lt hx hb d ht (fun h => kt v (by rw [if_pos ((iI_lt hc.1 hc.2).mp (by first | exact h | (rw [iI_0]; exact h) | (simpa [iI_0] using h)))] at ho; exact ho) H locs ls hN hP hS hl) (fun h => kf v (by rw [if_neg (fun z => h (by have z2 := (iI_lt hc.1 hc.2).mpr z; first | exact z2 | (rw [iI_0] at z2; exact z2)))] at ho; exact ho) H locs ls hN hP hS hl)
  · rw [if_neg hc] at ho; cases ho
theorem r_icmp_ge (g : Ok G cc own nL rm rt) {x y : Int} {off : Int} (tgt : Nat) {o1 o2 : Option ρ} (d : decode cc pc = .ok (.if_icmp .ge off, 3)) (ht : (pc : Int) + off = (tgt : Int)) (kt : Rg G ret sf F C S tgt lv st o1) (kf : Rg G ret sf F C S (pc + 3) lv st o2) : Rg G ret sf F C S pc lv (vi y :: vi x :: st) (cLT x y o2 o1) := by
  obtain ⟨p, l, e, R, s, m, args, below, meth, c, cy, D, b, N⟩ := G
  obtain ⟨hR, hx, hb, hml, hown, hts, hlk, hrt, hK, hnw, hsta⟩ := g
  intro v ho H locs ls hN hP hS hl
  unfold cLT at ho
  by_cases hc : in32 x ∧ in32 y
  · rw [if_pos hc] at ho
    exact lv_icmp_ge hx hb d ht (fun h => kt v (by rw [if_neg (Int.not_lt.mpr ((iI_le hc.2 hc.1).mp (by first | exact h | (rw [iI_0]; exact h))))] at ho; exact ho) H locs ls hN hP hS hl) (fun h => kf v (by rw [if_pos (Int.not_le.mp (fun z => h (by have z2 := (iI_le hc.2 hc.1).mpr z; first | exact z2 | (rw [iI_0] at z2; exact z2))))] at ho; exact ho) H locs ls hN hP hS hl)
  · rw [if_neg hc] at ho; cases ho
theorem r_if_ge (g : Ok G cc own nL rm rt) {x : Int} {off : Int} (tgt : Nat) {o1 o2 : Option ρ} (d : decode cc pc = .ok (.ifCond .ge off, 3)) (ht : (pc : Int) + off = (tgt : Int)) (kt : Rg G ret sf F C S tgt lv st o1) (kf : Rg G ret sf F C S (pc + 3) lv st o2) : Rg G ret sf F C S pc lv (vi x :: st) (cLT x 0 o2 o1) := by
  obtain ⟨p, l, e, R, s, m, args, below, meth, c, cy, D, b, N⟩ := G
  obtain ⟨hR, hx, hb, hml, hown, hts, hlk, hrt, hK, hnw, hsta⟩ := g
  intro v ho H locs ls hN hP hS hl
  unfold cLT at ho
  by_cases hc : in32 x ∧ in32 0
  · rw [if_pos hc] at ho
    exact lv_if_ge hx hb d ht (fun h => kt v (by rw [if_neg (Int.not_lt.mpr ((iI_le hc.2 hc.1).mp (by first | exact h | (rw [iI_0]; exact h))))] at ho; exact ho) H locs ls hN hP hS hl) (fun h => kf v (by rw [if_pos (Int.not_le.mp (fun z => h (by have z2 := (iI_le hc.2 hc.1).mpr z; first | exact z2 | (rw [iI_0] at z2; exact z2))))] at ho; exact ho) H locs ls hN hP hS hl)
  · rw [if_neg hc] at ho; cases ho
theorem r_icmp_gt (g : Ok G cc own nL rm rt) {x y : Int} {off : Int} (tgt : Nat) {o1 o2 : Option ρ} (d : decode cc pc = .ok (.if_icmp .gt off, 3)) (ht : (pc : Int) + off = (tgt : Int)) (kt : Rg G ret sf F C S tgt lv st o1) (kf : Rg G ret sf F C S (pc + 3) lv st o2) : Rg G ret sf F C S pc lv (vi y :: vi x :: st) (cLT y x o1 o2) := by
  obtain ⟨p, l, e, R, s, m, args, below, meth, c, cy, D, b, N⟩ := G
  obtain ⟨hR, hx, hb, hml, hown, hts, hlk, hrt, hK, hnw, hsta⟩ := g
  intro v ho H locs ls hN hP hS hl
  unfold cLT at ho
  by_cases hc : in32 y ∧ in32 x
  · rw [if_pos hc] at ho
    exact lv_icmp_gt hx hb d ht (fun h => kt v (by rw [if_pos ((iI_lt hc.1 hc.2).mp (by first | exact h | (rw [iI_0]; exact h) | (simpa [iI_0] using h)))] at ho; exact ho) H locs ls hN hP hS hl) (fun h => kf v (by rw [if_neg (fun z => h (by have z2 := (iI_lt hc.1 hc.2).mpr z; first | exact z2 | (rw [iI_0] at z2; exact z2)))] at ho; exact ho) H locs ls hN hP hS hl)
  · rw [if_neg hc] at ho; cases ho
theorem r_if_gt (g : Ok G cc own nL rm rt) {x : Int} {off : Int} (tgt : Nat) {o1 o2 : Option ρ} (d : decode cc pc = .ok (.ifCond .gt off, 3)) (ht : (pc : Int) + off = (tgt : Int)) (kt : Rg G ret sf F C S tgt lv st o1) (kf : Rg G ret sf F C S (pc + 3) lv st o2) : Rg G ret sf F C S pc lv (vi x :: st) (cLT 0 x o1 o2) := by
  obtain ⟨p, l, e, R, s, m, args, below, meth, c, cy, D, b, N⟩ := G
  obtain ⟨hR, hx, hb, hml, hown, hts, hlk, hrt, hK, hnw, hsta⟩ := g
  intro v ho H locs ls hN hP hS hl
  unfold cLT at ho
  by_cases hc : in32 0 ∧ in32 x
  · rw [if_pos hc] at ho
    exact lv_if_gt hx hb d ht (fun h => kt v (by rw [if_pos ((iI_lt hc.1 hc.2).mp (by first | exact h | (rw [iI_0]; exact h) | (simpa [iI_0] using h)))] at ho; exact ho) H locs ls hN hP hS hl) (fun h => kf v (by rw [if_neg (fun z => h (by have z2 := (iI_lt hc.1 hc.2).mpr z; first | exact z2 | (rw [iI_0] at z2; exact z2)))] at ho; exact ho) H locs ls hN hP hS hl)
  · rw [if_neg hc] at ho; cases ho
theorem r_icmp_le (g : Ok G cc own nL rm rt) {x y : Int} {off : Int} (tgt : Nat) {o1 o2 : Option ρ} (d : decode cc pc = .ok (.if_icmp .le off, 3)) (ht : (pc : Int) + off = (tgt : Int)) (kt : Rg G ret sf F C S tgt lv st o1) (kf : Rg G ret sf F C S (pc + 3) lv st o2) : Rg G ret sf F C S pc lv (vi y :: vi x :: st) (cLT y x o2 o1) := by
  obtain ⟨p, l, e, R, s, m, args, below, meth, c, cy, D, b, N⟩ := G
  obtain ⟨hR, hx, hb, hml, hown, hts, hlk, hrt, hK, hnw, hsta⟩ := g
  intro v ho H locs ls hN hP hS hl
  unfold cLT at ho
  by_cases hc : in32 y ∧ in32 x
  · rw [if_pos hc] at ho
    exact lv_icmp_le hx hb d ht (fun h => kt v (by rw [if_neg (Int.not_lt.mpr ((iI_le hc.2 hc.1).mp (by first | exact h | (rw [iI_0]; exact h))))] at ho; exact ho) H locs ls hN hP hS hl) (fun h => kf v (by rw [if_pos (Int.not_le.mp (fun z => h (by have z2 := (iI_le hc.2 hc.1).mpr z; first | exact z2 | (rw [iI_0] at z2; exact z2))))] at ho; exact ho) H locs ls hN hP hS hl)
  · rw [if_neg hc] at ho; cases ho
theorem r_if_le (g : Ok G cc own nL rm rt) {x : Int} {off : Int} (tgt : Nat) {o1 o2 : Option ρ} (d : decode cc pc = .ok (.ifCond .le off, 3)) (ht : (pc : Int) + off = (tgt : Int)) (kt : Rg G ret sf F C S tgt lv st o1) (kf : Rg G ret sf F C S (pc + 3) lv st o2) : Rg G ret sf F C S pc lv (vi x :: st) (cLT 0 x o2 o1) := by
  obtain ⟨p, l, e, R, s, m, args, below, meth, c, cy, D, b, N⟩ := G
  obtain ⟨hR, hx, hb, hml, hown, hts, hlk, hrt, hK, hnw, hsta⟩ := g
  intro v ho H locs ls hN hP hS hl
  unfold cLT at ho
  by_cases hc : in32 0 ∧ in32 x
  · rw [if_pos hc] at ho
    exact lv_if_le hx hb d ht (fun h => kt v (by rw [if_neg (Int.not_lt.mpr ((iI_le hc.2 hc.1).mp (by first | exact h | (rw [iI_0]; exact h))))] at ho; exact ho) H locs ls hN hP hS hl) (fun h => kf v (by rw [if_pos (Int.not_le.mp (fun z => h (by have z2 := (iI_le hc.2 hc.1).mpr z; first | exact z2 | (rw [iI_0] at z2; exact z2))))] at ho; exact ho) H locs ls hN hP hS hl)
  · rw [if_neg hc] at ho; cases ho
theorem r_lcmp_eq (g : Ok G cc own nL rm rt) {x y : Int} {off : Int} (tgt : Nat) {o1 o2 : Option ρ} (d0 : decode cc pc = .ok (.lcmp, 1)) (d : decode cc (pc + 1) = .ok (.ifCond .eq off, 3)) (ht : ((pc + 1 : Nat) : Int) + off = (tgt : Int)) (kt : Rg G ret sf F C S tgt lv st o1) (kf : Rg G ret sf F C S (pc + 4) lv st o2) : Rg G ret sf F C S pc lv (vl y :: vl x :: st) (lEQ x y o1 o2) := by
  obtain ⟨p, l, e, R, s, m, args, below, meth, c, cy, D, b, N⟩ := G
  obtain ⟨hR, hx, hb, hml, hown, hts, hlk, hrt, hK, hnw, hsta⟩ := g
  intro v ho H locs ls hN hP hS hl
  unfold lEQ at ho
  by_cases hc : in64 x ∧ in64 y
  · rw [if_pos hc] at ho
    refine W.lcmp hx hb d0 ?_
    exact lv_if_eq hx hb d ht (fun h => kt v (by rw [if_pos ((lI_eq hc.1 hc.2).mp ((lg_cmp_eq (lI x) (lI y)).mp h))] at ho; exact ho) H locs ls hN hP hS hl) (fun h => kf v (by rw [if_neg (fun z => h ((lg_cmp_eq (lI x) (lI y)).mpr ((lI_eq hc.1 hc.2).mpr z)))] at ho; exact ho) H locs ls hN hP hS hl)
  · rw [if_neg hc] at ho; cases ho
theorem r_lcmp_ne (g : Ok G cc own nL rm rt) {x y : Int} {off : Int} (tgt : Nat) {o1 o2 : Option ρ} (d0 : decode cc pc = .ok (.lcmp, 1)) (d : decode cc (pc + 1) = .ok (.ifCond .ne off, 3)) (ht : ((pc + 1 : Nat) : Int) + off = (tgt : Int)) (kt : Rg G ret sf F C S tgt lv st o1) (kf : Rg G ret sf F C S (pc + 4) lv st o2) : Rg G ret sf F C S pc lv (vl y :: vl x :: st) (lEQ x y o2 o1) := by
  obtain ⟨p, l, e, R, s, m, args, below, meth, c, cy, D, b, N⟩ := G
  obtain ⟨hR, hx, hb, hml, hown, hts, hlk, hrt, hK, hnw, hsta⟩ := g
  intro v ho H locs ls hN hP hS hl
  unfold lEQ at ho
  by_cases hc : in64 x ∧ in64 y
  · rw [if_pos hc] at ho
    refine W.lcmp hx hb d0 ?_
    exact lv_if_ne hx hb d ht (fun h => kt v (by rw [if_neg (fun z => h ((lg_cmp_eq (lI x) (lI y)).mpr ((lI_eq hc.1 hc.2).mpr z)))] at ho; exact ho) H locs ls hN hP hS hl) (fun h => kf v (by rw [if_pos ((lI_eq hc.1 hc.2).mp ((lg_cmp_eq (lI x) (lI y)).mp h))] at ho; exact ho) H locs ls hN hP hS hl)
  · rw [if_neg hc] at ho; cases ho
theorem r_lcmp_lt (g : Ok G cc own nL rm rt) {x y : Int} {off : Int} (tgt : Nat) {o1 o2 : Option ρ} (d0 : decode cc pc = .ok (.lcmp, 1)) (d : decode cc (pc + 1) = .ok (.ifCond .lt off, 3)) (ht : ((pc + 1 : Nat) : Int) + off = (tgt : Int)) (kt : Rg G ret sf F C S tgt lv st o1) (kf : Rg G ret sf F C S (pc + 4) lv st o2) : Rg G ret sf F C S pc lv (vl y :: vl x :: st) (lLT x y o1 o2) := by
  obtain ⟨p, l, e, R, s, m, args, below, meth, c, cy, D, b, N⟩ := G
  obtain ⟨hR, hx, hb, hml, hown, hts, hlk, hrt, hK, hnw, hsta⟩ := g
  intro v ho H locs ls hN hP hS hl
  unfold lLT at ho
  by_cases hc : in64 x ∧ in64 y
  · rw [if_pos hc] at ho
    refine W.lcmp hx hb d0 ?_
    exact lv_if_lt hx hb d ht (fun h => kt v (by rw [if_pos ((lI_lt hc.1 hc.2).mp ((lg_cmp_lt (lI x) (lI y)).mp h))] at ho; exact ho) H locs ls hN hP hS hl) (fun h => kf v (by rw [if_neg (fun z => h ((lg_cmp_lt (lI x) (lI y)).mpr ((lI_lt hc.1 hc.2).mpr z)))] at ho; exact ho) H locs ls hN hP hS hl)
  · rw [if_neg hc] at ho; cases ho
theorem r_lcmp_ge (g : Ok G cc own nL rm rt) {x y : Int} {off : Int} (tgt : Nat) {o1 o2 : Option ρ} (d0 : decode cc pc = .ok (.lcmp, 1)) (d : decode cc (pc + 1) = .ok (.ifCond .ge off, 3)) (ht : ((pc + 1 : Nat) : Int) + off = (tgt : Int)) (kt : Rg G ret sf F C S tgt lv st o1) (kf : Rg G ret sf F C S (pc + 4) lv st o2) : Rg G ret sf F C S pc lv (vl y :: vl x :: st) (lLT x y o2 o1) := by
  obtain ⟨p, l, e, R, s, m, args, below, meth, c, cy, D, b, N⟩ := G
  obtain ⟨hR, hx, hb, hml, hown, hts, hlk, hrt, hK, hnw, hsta⟩ := g
  intro v ho H locs ls hN hP hS hl
  unfold lLT at ho
  by_cases hc : in64 x ∧ in64 y
  · rw [if_pos hc] at ho
    refine W.lcmp hx hb d0 ?_
    exact lv_if_ge hx hb d ht (fun h => kt v (by rw [if_neg (Int.not_lt.mpr ((lI_le hc.2 hc.1).mp ((lg_cmp_ge (lI x) (lI y)).mp h)))] at ho; exact ho) H locs ls hN hP hS hl) (fun h => kf v (by rw [if_pos (Int.not_le.mp (fun z => h ((lg_cmp_ge (lI x) (lI y)).mpr ((lI_le hc.2 hc.1).mpr z))))] at ho; exact ho) H locs ls hN hP hS hl)
  · rw [if_neg hc] at ho; cases ho
theorem r_lcmp_gt (g : Ok G cc own nL rm rt) {x y : Int} {off : Int} (tgt : Nat) {o1 o2 : Option ρ} (d0 : decode cc pc = .ok (.lcmp, 1)) (d : decode cc (pc + 1) = .ok (.ifCond .gt off, 3)) (ht : ((pc + 1 : Nat) : Int) + off = (tgt : Int)) (kt : Rg G ret sf F C S tgt lv st o1) (kf : Rg G ret sf F C S (pc + 4) lv st o2) : Rg G ret sf F C S pc lv (vl y :: vl x :: st) (lLT y x o1 o2) := by
  obtain ⟨p, l, e, R, s, m, args, below, meth, c, cy, D, b, N⟩ := G
  obtain ⟨hR, hx, hb, hml, hown, hts, hlk, hrt, hK, hnw, hsta⟩ := g
  intro v ho H locs ls hN hP hS hl
  unfold lLT at ho
  by_cases hc : in64 y ∧ in64 x
  · rw [if_pos hc] at ho
    refine W.lcmp hx hb d0 ?_
    exact lv_if_gt hx hb d ht (fun h => kt v (by rw [if_pos ((lI_lt hc.1 hc.2).mp ((lg_cmp_gt (lI x) (lI y)).mp h))] at ho; exact ho) H locs ls hN hP hS hl) (fun h => kf v (by rw [if_neg (fun z => h ((lg_cmp_gt (lI x) (lI y)).mpr ((lI_lt hc.1 hc.2).mpr z)))] at ho; exact ho) H locs ls hN hP hS hl)
  · rw [if_neg hc] at ho; cases ho
theorem r_lcmp_le (g : Ok G cc own nL rm rt) {x y : Int} {off : Int} (tgt : Nat) {o1 o2 : Option ρ} (d0 : decode cc pc = .ok (.lcmp, 1)) (d : decode cc (pc + 1) = .ok (.ifCond .le off, 3)) (ht : ((pc + 1 : Nat) : Int) + off = (tgt : Int)) (kt : Rg G ret sf F C S tgt lv st o1) (kf : Rg G ret sf F C S (pc + 4) lv st o2) : Rg G ret sf F C S pc lv (vl y :: vl x :: st) (lLT y x o2 o1) := by
  obtain ⟨p, l, e, R, s, m, args, below, meth, c, cy, D, b, N⟩ := G
  obtain ⟨hR, hx, hb, hml, hown, hts, hlk, hrt, hK, hnw, hsta⟩ := g
  intro v ho H locs ls hN hP hS hl
  unfold lLT at ho
  by_cases hc : in64 y ∧ in64 x
  · rw [if_pos hc] at ho
    refine W.lcmp hx hb d0 ?_
    exact lv_if_le hx hb d ht (fun h => kt v (by rw [if_neg (Int.not_lt.mpr ((lI_le hc.2 hc.1).mp ((lg_cmp_le (lI x) (lI y)).mp h)))] at ho; exact ho) H locs ls hN hP hS hl) (fun h => kf v (by rw [if_pos (Int.not_le.mp (fun z => h ((lg_cmp_le (lI x) (lI y)).mpr ((lI_le hc.2 hc.1).mpr z))))] at ho; exact ho) H locs ls hN hP hS hl)
  · rw [if_neg hc] at ho; cases ho
theorem r_goto (g : Ok G cc own nL rm rt) {off : Int} (tgt : Nat) (d : decode cc pc = .ok (.goto off, 3)) (ht : (pc : Int) + off = (tgt : Int)) (k : Rg G ret sf F C S tgt lv st o) : Rg G ret sf F C S pc lv st o := by
  obtain ⟨p, l, e, R, s, m, args, below, meth, c, cy, D, b, N⟩ := G
  obtain ⟨hR, hx, hb, hml, hown, hts, hlk, hrt, hK, hnw, hsta⟩ := g
  intro v ho H locs ls hN hP hS hl
  exact lv_goto hx hb d ht (k v ho H locs ls hN hP hS hl)
theorem r_tabIn (g : Ok G cc own nL rm rt) {x lo hi dflt off : Int} {offs : Array Int} {len : Nat} (tgt : Nat) (hx0 : in32 x) (d : decode cc pc = .ok (.tableswitch dflt lo hi offs, len)) (h1 : ¬ x < lo) (h2 : ¬ hi < x) (h3 : offs[(x - lo).toNat]? = some off) (ht : (pc : Int) + off = (tgt : Int)) (k : Rg G ret sf F C S tgt lv st o) : Rg G ret sf F C S pc lv (vi x :: st) o := by
  obtain ⟨p, l, e, R, s, m, args, below, meth, c, cy, D, b, N⟩ := G
  obtain ⟨hR, hx, hb, hml, hown, hts, hlk, hrt, hK, hnw, hsta⟩ := g
  intro v ho H locs ls hN hP hS hl
  exact lv_tableIn hx hb d (by rw [iI_toInt hx0]; exact h1) (by rw [iI_toInt hx0]; exact h2) (by rw [iI_toInt hx0]; exact h3) ht (k v ho H locs ls hN hP hS hl)
theorem r_tabOut (g : Ok G cc own nL rm rt) {x lo hi dflt : Int} {offs : Array Int} {len : Nat} (tgt : Nat) (hx0 : in32 x) (d : decode cc pc = .ok (.tableswitch dflt lo hi offs, len)) (h : x < lo ∨ hi < x) (ht : (pc : Int) + dflt = (tgt : Int)) (k : Rg G ret sf F C S tgt lv st o) : Rg G ret sf F C S pc lv (vi x :: st) o := by
  obtain ⟨p, l, e, R, s, m, args, below, meth, c, cy, D, b, N⟩ := G
  obtain ⟨hR, hx, hb, hml, hown, hts, hlk, hrt, hK, hnw, hsta⟩ := g
  intro v ho H locs ls hN hP hS hl
  exact lv_tableOut hx hb d (by rw [iI_toInt hx0]; exact h) ht (k v ho H locs ls hN hP hS hl)
theorem r_look (g : Ok G cc own nL rm rt) {x dflt off : Int} {ps : Array (Int × Int)} {len : Nat} (tgt : Nat) (hx0 : in32 x) (d : decode cc pc = .ok (.lookupswitch dflt ps, len)) (hp : (ps.toList.zip (ps.toList.drop 1)).all (fun (a, next) => a.1 < next.1) = true) (h : Op.lookupswitch.offset ps.toList dflt x = off) (ht : (pc : Int) + off = (tgt : Int)) (k : Rg G ret sf F C S tgt lv st o) : Rg G ret sf F C S pc lv (vi x :: st) o := by
  obtain ⟨p, l, e, R, s, m, args, below, meth, c, cy, D, b, N⟩ := G
  obtain ⟨hR, hx, hb, hml, hown, hts, hlk, hrt, hK, hnw, hsta⟩ := g
  intro v ho H locs ls hN hP hS hl
  exact lv_lookup hx hb d hp (by rw [iI_toInt hx0]; exact h) ht (k v ho H locs ls hN hP hS hl)
end Rows
section Rets
variable {G : Gx} {cc : ByteArray} {own : String} {nL : Nat} {rm : Room} {rt : Option FieldType} {ρ : Type} {ret : ρ → Option Value} {sf : ρ → St} {F : Cf} {S : St} {pc : Nat} {lv : List (Option Value)}
theorem r_iret (g : Ok G cc own nL rm (some .int)) {x : Int} {r : ρ} (d : decode cc pc = .ok (.ireturn, 1)) (h1 : ret r = some (vi x)) (h2 : sf r = S) : Rg G ret sf F F S pc lv [vi x] (some r) := by
  obtain ⟨p, l, e, R, s, m, args, below, meth, c, cy, D, b, N⟩ := G
  obtain ⟨hR, hx, hb, hml, hown, hts, hlk, hrt, hK, hnw, hsta⟩ := g
  intro v ho H locs ls hN hP hS hl
  cases ho
  exact W.iret hx hb hrt (fun t ht hW => ⟨by rw [h1] <;> rfl, by rw [ht, h2]; exact hP, hS.F ht⟩) hS.2.2 d hlk
theorem r_lret (g : Ok G cc own nL rm (some .long)) {x : Int} {r : ρ} (d : decode cc pc = .ok (.lreturn, 1)) (h1 : ret r = some (vl x)) (h2 : sf r = S) : Rg G ret sf F F S pc lv [vl x] (some r) := by
  obtain ⟨p, l, e, R, s, m, args, below, meth, c, cy, D, b, N⟩ := G
  obtain ⟨hR, hx, hb, hml, hown, hts, hlk, hrt, hK, hnw, hsta⟩ := g
  intro v ho H locs ls hN hP hS hl
  cases ho
  exact W.lret hx hb hrt (fun t ht hW => ⟨by rw [h1] <;> rfl, by rw [ht, h2]; exact hP, hS.F ht⟩) hS.2.2 d hlk
theorem r_vret (g : Ok G cc own nL rm none) {r : ρ} (d : decode cc pc = .ok (.return_, 1)) (h1 : ret r = none) (h2 : sf r = S) : Rg G ret sf F F S pc lv [] (some r) := by
  obtain ⟨p, l, e, R, s, m, args, below, meth, c, cy, D, b, N⟩ := G
  obtain ⟨hR, hx, hb, hml, hown, hts, hlk, hrt, hK, hnw, hsta⟩ := g
  intro v ho H locs ls hN hP hS hl
  cases ho
  exact W.vret hx hb hrt (fun t ht hW => ⟨by rw [h1] <;> rfl, by rw [ht, h2]; exact hP, hS.F ht⟩) hS.2.2 d hlk
theorem r_zret (g : Ok G cc own nL rm (some .boolean)) {x : Int} {r : ρ} (d : decode cc pc = .ok (.ireturn, 1)) (h1 : ret r = some (vi x)) (h2 : sf r = S) : Rg G ret sf F F S pc lv [vi x] (isB x (some r)) := by
  obtain ⟨p, l, e, R, s, m, args, below, meth, c, cy, D, b, N⟩ := G
  obtain ⟨hR, hx, hb, hml, hown, hts, hlk, hrt, hK, hnw, hsta⟩ := g
  intro v ho H locs ls hN hP hS hl
  unfold isB at ho
  by_cases hx01 : x = 0 ∨ x = 1
  · rw [if_pos hx01] at ho
    cases ho
    have hn : narrow .boolean (.int (iI x)) = .int (iI x) := by rcases hx01 with rfl | rfl <;> rfl
    exact W.zret hx hb hrt hn (fun t ht hW => ⟨by rw [h1] <;> rfl, by rw [ht, h2]; exact hP, hS.F ht⟩) hS.2.2 d hlk
  · rw [if_neg hx01] at ho; cases ho
theorem r_zret0 (g : Ok G cc own nL rm (some .boolean)) {x : Int} {r : ρ} (hx01 : x = 0 ∨ x = 1) (d : decode cc pc = .ok (.ireturn, 1)) (h1 : ret r = some (vi x)) (h2 : sf r = S) : Rg G ret sf F F S pc lv [vi x] (some r) := by
  obtain ⟨p, l, e, R, s, m, args, below, meth, c, cy, D, b, N⟩ := G
  obtain ⟨hR, hx, hb, hml, hown, hts, hlk, hrt, hK, hnw, hsta⟩ := g
  intro v ho H locs ls hN hP hS hl
  cases ho
  have hn : narrow .boolean (.int (iI x)) = .int (iI x) := by rcases hx01 with rfl | rfl <;> rfl
  exact W.zret hx hb hrt hn (fun t ht hW => ⟨by rw [h1] <;> rfl, by rw [ht, h2]; exact hP, hS.F ht⟩) hS.2.2 d hlk
theorem r_aret (g : Ok G cc own nL rm rt) (hrr : ∃ n, rt = some (.object n)) {q : Nat} {r : ρ} (d : decode cc pc = .ok (.areturn, 1)) (h1 : ret r = some (vr G q)) (h2 : sf r = S) : Rg G ret sf F F S pc lv [vr G q] (some r) := by
  obtain ⟨p, l, e, R, s, m, args, below, meth, c, cy, D, b, N⟩ := G
  obtain ⟨hR, hx, hb, hml, hown, hts, hlk, hrt, hK, hnw, hsta⟩ := g
  intro v ho H locs ls hN hP hS hl
  cases ho
  obtain ⟨n, rfl⟩ := hrr
  exact W.aret hx hb hrt (Or.inl ⟨n, rfl⟩) (Or.inr ⟨_, rfl⟩) (fun t ht hW => ⟨by rw [h1] <;> rfl, by rw [ht, h2]; exact hP, hS.F ht⟩) hS.2.2 d hlk
end Rets
end
section
/-! fields, arrays, calls, in the words of part 05 -/
def KC (ci : Nat) (C : String) (T : u_T) (n : Nat) (ty : Nat → FieldType) : Prop := vwCl[ci]? = some (C, T, n) ∧ (∀ w ∈ u_ws C T n, w ∈ lw_gd) ∧ (∀ k, k < n → parseFieldDescriptor (T k).2.2.1 = some (ty k)) ∧ ∀ a, a < n → ∀ b, b < n → a ≠ b → (T a).2.1 ≠ (T b).2.1
section Heap
variable {G : Gx} {cc : ByteArray} {own : String} {nL : Nat} {rm : Room} {rt : Option FieldType} {ρ : Type} {ret : ρ → Option Value} {sf : ρ → St} {F C : Cf} {S : St} {pc : Nat} {lv : List (Option Value)} {st : List Value} {o : Option ρ}
variable {ci idx q j n : Nat} {Cn : String} {T : u_T} {ty : Nat → FieldType} {fk : List Nat}
theorem r_getI (g : Ok G cc own nL rm rt) (K : KC ci Cn T n ty) (hsh : C.1[q]? = some (.inl (ci, fk))) (j : Nat) (hj : fk[j]? = some 0) (hjn : j < n) (hl0 : Cond.fieldLink own idx (T j).1 (T j).2.1 (T j).2.2.1 ∈ lw_gd) (d : decode cc pc = .ok (.getfield idx, 3)) (k : Rg G ret sf F C S (pc + 3) lv (vi (S q j) :: st) o) : Rg G ret sf F C S pc lv (vr G q :: st) o := by
  obtain ⟨p, l, e, R, s, m, args, below, meth, c, cy, D, b, N⟩ := G
  obtain ⟨hR, hx, hb, hml, hown, hts, hlk, hrt, hK, hnw, hsta⟩ := g
  intro v ho H locs ls hN hP hS hl
  exact va_get hx hb hts K.2.1 hown hK hP q (wd_at hsh) K.1 j hjn (hts _ hl0) (fun _ h => h) (fld_at hj) d (k v ho H locs ls hN hP hS hl)
theorem r_getL (g : Ok G cc own nL rm rt) (K : KC ci Cn T n ty) (hsh : C.1[q]? = some (.inl (ci, fk))) (j : Nat) (hj : fk[j]? = some 1) (hjn : j < n) (hl0 : Cond.fieldLink own idx (T j).1 (T j).2.1 (T j).2.2.1 ∈ lw_gd) (d : decode cc pc = .ok (.getfield idx, 3)) (k : Rg G ret sf F C S (pc + 3) lv (vl (S q j) :: st) o) : Rg G ret sf F C S pc lv (vr G q :: st) o := by
  obtain ⟨p, l, e, R, s, m, args, below, meth, c, cy, D, b, N⟩ := G
  obtain ⟨hR, hx, hb, hml, hown, hts, hlk, hrt, hK, hnw, hsta⟩ := g
  intro v ho H locs ls hN hP hS hl
  exact va_get hx hb hts K.2.1 hown hK hP q (wd_at hsh) K.1 j hjn (hts _ hl0) (fun _ h => h) (fld_at hj) d (k v ho H locs ls hN hP hS hl)
theorem r_getC {c0 : Nat} (g : Ok G cc own nL rm rt) (K : KC ci Cn T n ty) (hsh : C.1[q]? = some (.inl (ci, fk))) (j : Nat) (hj : fk[j]? = some (c0 + 3)) (hjn : j < n) (hl0 : Cond.fieldLink own idx (T j).1 (T j).2.1 (T j).2.2.1 ∈ lw_gd) (d : decode cc pc = .ok (.getfield idx, 3)) (k : Rg G ret sf F C S (pc + 3) lv (vr G c0 :: st) o) : Rg G ret sf F C S pc lv (vr G q :: st) o := by
  obtain ⟨p, l, e, R, s, m, args, below, meth, c, cy, D, b, N⟩ := G
  obtain ⟨hR, hx, hb, hml, hown, hts, hlk, hrt, hK, hnw, hsta⟩ := g
  intro v ho H locs ls hN hP hS hl
  exact va_get hx hb hts K.2.1 hown hK hP q (wd_at hsh) K.1 j hjn (hts _ hl0) (fun _ h => h) (fld_at hj) d (k v ho H locs ls hN hP hS hl)
theorem rf_pos {b : Nat} {x : Int} (h : 0 < x) : va_rf (rf b x) = .ref (b + (x - 1).toNat) := by
  unfold rf; rw [if_pos h]; rfl
theorem r_getR {P : Nat → Bool} {f : Nat → Option ρ} (g : Ok G cc own nL rm rt) (K : KC ci Cn T n ty) (hsh : C.1[q]? = some (.inl (ci, fk))) (j : Nat) (hj : fk[j]? = some 2) (hjn : j < n) (hl0 : Cond.fieldLink own idx (T j).1 (T j).2.1 (T j).2.2.1 ∈ lw_gd) (d : decode cc pc = .ok (.getfield idx, 3)) (k : ∀ r, P r = true → Rg G ret sf F C S (pc + 3) lv (vr G r :: st) (f r)) : Rg G ret sf F C S pc lv (vr G q :: st) (gtR S q j P f) := by
  obtain ⟨p, l, e, R, s, m, args, below, meth, c, cy, D, b, N⟩ := G
  obtain ⟨hR, hx, hb, hml, hown, hts, hlk, hrt, hK, hnw, hsta⟩ := g
  intro v ho H locs ls hN hP hS hl
  unfold gtR at ho
  by_cases hp : 0 < S q j ∧ P (S q j - 1).toNat = true
  · rw [if_pos hp] at ho
    have hv := fld_at (b := b) (S := S) (q := q) hj
    have e1 : fldV b S q j 2 = .ref (b + (S q j - 1).toNat) := rf_pos hp.1
    rw [e1] at hv
    exact va_get hx hb hts K.2.1 hown hK hP q (wd_at hsh) K.1 j hjn (hts _ hl0) (fun _ h => h) hv d (k _ hp.2 v ho H locs ls hN hP hS hl)
  · rw [if_neg hp] at ho; cases ho
/-- putfield of an int -/
theorem r_putI {x : Int} {f : St → Option ρ} (g : Ok G cc own nL rm rt) (K : KC ci Cn T n ty) (hsh : C.1[q]? = some (.inl (ci, fk))) (j : Nat) (hj : fk[j]? = some 0) (hjn : j < n) (hf : (T j).2.2.2 = false) (hty : parseFieldDescriptor (T j).2.2.1 = some .int) (hl0 : Cond.fieldLink own idx (T j).1 (T j).2.1 (T j).2.2.1 ∈ lw_gd) (d : decode cc pc = .ok (.putfield idx, 3)) (k : ∀ S1, S1 = put S q j x → Rg G ret sf F C S1 (pc + 3) lv st (f S1)) : Rg G ret sf F C S pc lv (vi x :: vr G q :: st) (setS (put S q j x) f) := by
  obtain ⟨p, l, e, R, s, m, args, below, meth, c, cy, D, b, N⟩ := G
  obtain ⟨hR, hx, hb, hml, hown, hts, hlk, hrt, hK, hnw, hsta⟩ := g
  intro v ho H locs ls hN hP hS hl
  refine va_put hx hb hts K.2.1 ty K.2.2.1 K.2.2.2 hown hK hP (wd_D hN) hS q (wd_at hsh) K.1 j hjn (hts _ hl0) (fun _ h => h) hf hty rfl rfl (by rw [fldL_len]; exact (List.getElem?_eq_some_iff.mp hj).1) d (fun H1 locs1 hP1 hD1 hS1 => ?_)
  rw [wd_put hsh (cell_fld (v := x) hj (by simp [fldV, put_at, vi]))] at hP1
  exact k _ rfl v ho H1 locs1 ls hN hP1 hS1 hl
theorem r_putZ {x : Int} {f : St → Option ρ} (g : Ok G cc own nL rm rt) (K : KC ci Cn T n ty) (hsh : C.1[q]? = some (.inl (ci, fk))) (j : Nat) (hj : fk[j]? = some 0) (hjn : j < n) (hf : (T j).2.2.2 = false) (hty : parseFieldDescriptor (T j).2.2.1 = some .boolean) (hl0 : Cond.fieldLink own idx (T j).1 (T j).2.1 (T j).2.2.1 ∈ lw_gd) (d : decode cc pc = .ok (.putfield idx, 3)) (k : ∀ S1, S1 = put S q j x → Rg G ret sf F C S1 (pc + 3) lv st (f S1)) : Rg G ret sf F C S pc lv (vi x :: vr G q :: st) (isB x (setS (put S q j x) f)) := by
  obtain ⟨p, l, e, R, s, m, args, below, meth, c, cy, D, b, N⟩ := G
  obtain ⟨hR, hx, hb, hml, hown, hts, hlk, hrt, hK, hnw, hsta⟩ := g
  intro v ho H locs ls hN hP hS hl
  unfold isB at ho
  by_cases h01 : x = 0 ∨ x = 1
  · rw [if_pos h01] at ho
    refine va_put hx hb hts K.2.1 ty K.2.2.1 K.2.2.2 hown hK hP (wd_D hN) hS q (wd_at hsh) K.1 j hjn (hts _ hl0) (fun _ h => h) hf hty (by rcases h01 with rfl | rfl <;> rfl) (by rcases h01 with rfl | rfl <;> rfl) (by rw [fldL_len]; exact (List.getElem?_eq_some_iff.mp hj).1) d (fun H1 locs1 hP1 hD1 hS1 => ?_)
    rw [wd_put hsh (cell_fld (v := x) hj (by simp [fldV, put_at, vi]))] at hP1
    exact k _ rfl v ho H1 locs1 ls hN hP1 hS1 hl
  · rw [if_neg h01] at ho; cases ho
theorem r_putL {x : Int} {f : St → Option ρ} (g : Ok G cc own nL rm rt) (K : KC ci Cn T n ty) (hsh : C.1[q]? = some (.inl (ci, fk))) (j : Nat) (hj : fk[j]? = some 1) (hjn : j < n) (hf : (T j).2.2.2 = false) (hty : parseFieldDescriptor (T j).2.2.1 = some .long) (hl0 : Cond.fieldLink own idx (T j).1 (T j).2.1 (T j).2.2.1 ∈ lw_gd) (d : decode cc pc = .ok (.putfield idx, 3)) (k : ∀ S1, S1 = put S q j x → Rg G ret sf F C S1 (pc + 3) lv st (f S1)) : Rg G ret sf F C S pc lv (vl x :: vr G q :: st) (setS (put S q j x) f) := by
  obtain ⟨p, l, e, R, s, m, args, below, meth, c, cy, D, b, N⟩ := G
  obtain ⟨hR, hx, hb, hml, hown, hts, hlk, hrt, hK, hnw, hsta⟩ := g
  intro v ho H locs ls hN hP hS hl
  refine va_put hx hb hts K.2.1 ty K.2.2.1 K.2.2.2 hown hK hP (wd_D hN) hS q (wd_at hsh) K.1 j hjn (hts _ hl0) (fun _ h => h) hf hty rfl rfl (by rw [fldL_len]; exact (List.getElem?_eq_some_iff.mp hj).1) d (fun H1 locs1 hP1 hD1 hS1 => ?_)
  rw [wd_put hsh (cell_fld (v := x) hj (by simp [fldV, put_at, vl]))] at hP1
  exact k _ rfl v ho H1 locs1 ls hN hP1 hS1 hl
theorem r_putR {r : Nat} {nm : String} {f : St → Option ρ} (g : Ok G cc own nL rm rt) (K : KC ci Cn T n ty) (hsh : C.1[q]? = some (.inl (ci, fk))) (j : Nat) (hj : fk[j]? = some 2) (hjn : j < n) (hf : (T j).2.2.2 = false) (hty : parseFieldDescriptor (T j).2.2.1 = some (.object nm)) (hl0 : Cond.fieldLink own idx (T j).1 (T j).2.1 (T j).2.2.1 ∈ lw_gd) (d : decode cc pc = .ok (.putfield idx, 3)) (k : ∀ S1, S1 = put S q j ((r : Int) + 1) → Rg G ret sf F C S1 (pc + 3) lv st (f S1)) : Rg G ret sf F C S pc lv (vr G r :: vr G q :: st) (setS (put S q j ((r : Int) + 1)) f) := by
  obtain ⟨p, l, e, R, s, m, args, below, meth, c, cy, D, b, N⟩ := G
  obtain ⟨hR, hx, hb, hml, hown, hts, hlk, hrt, hK, hnw, hsta⟩ := g
  intro v ho H locs ls hN hP hS hl
  refine va_put hx hb hts K.2.1 ty K.2.2.1 K.2.2.2 hown hK hP (wd_D hN) hS q (wd_at hsh) K.1 j hjn (hts _ hl0) (fun _ h => h) hf hty rfl rfl (by rw [fldL_len]; exact (List.getElem?_eq_some_iff.mp hj).1) d (fun H1 locs1 hP1 hD1 hS1 => ?_)
  rw [wd_put hsh (cell_fld (v := (r : Int) + 1) hj (by simp only [fldV, put_at, rf_succ]; rfl))] at hP1
  exact k _ rfl v ho H1 locs1 ls hN hP1 hS1 hl
/-! arrays -/
variable {c0 dd t : Nat}
theorem arrUpd {S : St} {q : Nat} {i : Int} {x : Int} : (fun y => iI (put S q i.toNat x q y)) = upd (fun y => iI (S q y)) i.toNat (iI x) := by
  funext y
  simp only [put, upd]
  by_cases h : y = i.toNat <;> simp [h]
theorem arrUpdL {S : St} {q : Nat} {i : Int} {x : Int} : (fun y => lI (put S q i.toNat x q y)) = vp_updL (fun y => lI (S q y)) i.toNat (lI x) := by
  funext y
  simp only [put, vp_updL]
  by_cases h : y = i.toNat <;> simp [h]
theorem r_iald {i : Int} {f : Int → Option ρ} (g : Ok G cc own nL rm rt) (hsh : C.1[q]? = some (.inr (0, n, c0, dd))) (hn : n ≤ 2147483647) (d : decode cc pc = .ok (.iaload, 1)) (k : ∀ z, Rg G ret sf F C S (pc + 1) lv (vi z :: st) (f z)) : Rg G ret sf F C S pc lv (vi i :: vr G q :: st) (ldI S q n i f) := by
  obtain ⟨p, l, e, R, s, m, args, below, meth, c, cy, D, b, N⟩ := G
  obtain ⟨hR, hx, hb, hml, hown, hts, hlk, hrt, hK, hnw, hsta⟩ := g
  intro v ho H locs ls hN hP hS hl
  unfold ldI at ho
  by_cases hi : 0 ≤ i ∧ i < n
  · rw [if_pos hi] at ho
    have kk := k _ v ho H locs ls hN hP hS hl
    refine va_iald hx hb hK hP q 0 (wd_at hsh) rfl (iI_vp hn hi) d ?_
    rw [iI_cl hi.1 (by omega)]
    exact kk
  · rw [if_neg hi] at ho; cases ho
theorem r_lald {i : Int} {f : Int → Option ρ} (g : Ok G cc own nL rm rt) (hsh : C.1[q]? = some (.inr (1, n, c0, dd))) (hn : n ≤ 2147483647) (d : decode cc pc = .ok (.laload, 1)) (k : ∀ z, Rg G ret sf F C S (pc + 1) lv (vl z :: st) (f z)) : Rg G ret sf F C S pc lv (vi i :: vr G q :: st) (ldI S q n i f) := by
  obtain ⟨p, l, e, R, s, m, args, below, meth, c, cy, D, b, N⟩ := G
  obtain ⟨hR, hx, hb, hml, hown, hts, hlk, hrt, hK, hnw, hsta⟩ := g
  intro v ho H locs ls hN hP hS hl
  unfold ldI at ho
  by_cases hi : 0 ≤ i ∧ i < n
  · rw [if_pos hi] at ho
    have kk := k _ v ho H locs ls hN hP hS hl
    refine va_lald hx hb hK hP q 1 (wd_at hsh) rfl (iI_vp hn hi) d ?_
    rw [iI_cl hi.1 (by omega)]
    exact kk
  · rw [if_neg hi] at ho; cases ho
theorem r_bald {i : Int} {f : Int → Option ρ} (g : Ok G cc own nL rm rt) (hsh : C.1[q]? = some (.inr (2, n, c0, dd))) (hn : n ≤ 2147483647) (d : decode cc pc = .ok (.baload, 1)) (k : ∀ z, Rg G ret sf F C S (pc + 1) lv (vi z :: st) (f z)) : Rg G ret sf F C S pc lv (vi i :: vr G q :: st) (ldI S q n i f) := by
  obtain ⟨p, l, e, R, s, m, args, below, meth, c, cy, D, b, N⟩ := G
  obtain ⟨hR, hx, hb, hml, hown, hts, hlk, hrt, hK, hnw, hsta⟩ := g
  intro v ho H locs ls hN hP hS hl
  unfold ldI at ho
  by_cases hi : 0 ≤ i ∧ i < n
  · rw [if_pos hi] at ho
    have kk := k _ v ho H locs ls hN hP hS hl
    refine va_bald hx hb hK hP q 2 (wd_at hsh) rfl (iI_vp hn hi) d ?_
    rw [iI_cl hi.1 (by omega)]
    exact kk
  · rw [if_neg hi] at ho; cases ho
theorem r_zald {i : Int} {f : Int → Option ρ} (g : Ok G cc own nL rm rt) (hsh : C.1[q]? = some (.inr (3, n, c0, dd))) (hn : n ≤ 2147483647) (d : decode cc pc = .ok (.baload, 1)) (k : ∀ z, Rg G ret sf F C S (pc + 1) lv (vi z :: st) (f z)) : Rg G ret sf F C S pc lv (vi i :: vr G q :: st) (ldI S q n i f) := by
  obtain ⟨p, l, e, R, s, m, args, below, meth, c, cy, D, b, N⟩ := G
  obtain ⟨hR, hx, hb, hml, hown, hts, hlk, hrt, hK, hnw, hsta⟩ := g
  intro v ho H locs ls hN hP hS hl
  unfold ldI at ho
  by_cases hi : 0 ≤ i ∧ i < n
  · rw [if_pos hi] at ho
    have kk := k _ v ho H locs ls hN hP hS hl
    refine va_zald hx hb hK hP q 3 (wd_at hsh) rfl (iI_vp hn hi) d ?_
    rw [iI_cl hi.1 (by omega)]
    exact kk
  · rw [if_neg hi] at ho; cases ho
theorem r_iast {i x : Int} {f : St → Option ρ} (g : Ok G cc own nL rm rt) (hsh : C.1[q]? = some (.inr (0, n, c0, dd))) (hn : n ≤ 2147483647) (d : decode cc pc = .ok (.iastore, 1)) (k : ∀ S1, Rg G ret sf F C S1 (pc + 1) lv st (f S1)) : Rg G ret sf F C S pc lv (vi x :: vi i :: vr G q :: st) (stI S q n i x f) := by
  obtain ⟨p, l, e, R, s, m, args, below, meth, c, cy, D, b, N⟩ := G
  obtain ⟨hR, hx, hb, hml, hown, hts, hlk, hrt, hK, hnw, hsta⟩ := g
  intro v ho H locs ls hN hP hS hl
  unfold stI at ho
  by_cases hi : 0 ≤ i ∧ i < n
  · rw [if_pos hi] at ho
    refine va_iast hx hb hK hP (wd_D hN) hS q 0 (wd_at hsh) rfl (iI_vp hn hi) d (fun H1 locs1 hP1 hD1 hS1 => ?_)
    rw [iI_cl hi.1 (by omega)] at hP1
    rw [wd_put hsh (j := i.toNat) (v := x) (by simp only [cellE, arrC, arrUpd])] at hP1
    exact k _ v ho H1 locs1 ls hN hP1 hS1 hl
  · rw [if_neg hi] at ho; cases ho
theorem r_last {i x : Int} {f : St → Option ρ} (g : Ok G cc own nL rm rt) (hsh : C.1[q]? = some (.inr (1, n, c0, dd))) (hn : n ≤ 2147483647) (d : decode cc pc = .ok (.lastore, 1)) (k : ∀ S1, Rg G ret sf F C S1 (pc + 1) lv st (f S1)) : Rg G ret sf F C S pc lv (vl x :: vi i :: vr G q :: st) (stI S q n i x f) := by
  obtain ⟨p, l, e, R, s, m, args, below, meth, c, cy, D, b, N⟩ := G
  obtain ⟨hR, hx, hb, hml, hown, hts, hlk, hrt, hK, hnw, hsta⟩ := g
  intro v ho H locs ls hN hP hS hl
  unfold stI at ho
  by_cases hi : 0 ≤ i ∧ i < n
  · rw [if_pos hi] at ho
    refine va_last hx hb hK hP (wd_D hN) hS q 1 (wd_at hsh) rfl (iI_vp hn hi) d (fun H1 locs1 hP1 hD1 hS1 => ?_)
    rw [iI_cl hi.1 (by omega)] at hP1
    rw [wd_put hsh (j := i.toNat) (v := x) (by simp only [cellE, arrC, arrUpdL])] at hP1
    exact k _ v ho H1 locs1 ls hN hP1 hS1 hl
  · rw [if_neg hi] at ho; cases ho
theorem r_bast {i x : Int} {f : St → Option ρ} (g : Ok G cc own nL rm rt) (hsh : C.1[q]? = some (.inr (2, n, c0, dd))) (hn : n ≤ 2147483647) (d : decode cc pc = .ok (.bastore, 1)) (k : ∀ S1, Rg G ret sf F C S1 (pc + 1) lv st (f S1)) : Rg G ret sf F C S pc lv (vi x :: vi i :: vr G q :: st) (stI S q n i (x.bmod 256) f) := by
  obtain ⟨p, l, e, R, s, m, args, below, meth, c, cy, D, b, N⟩ := G
  obtain ⟨hR, hx, hb, hml, hown, hts, hlk, hrt, hK, hnw, hsta⟩ := g
  intro v ho H locs ls hN hP hS hl
  unfold stI at ho
  by_cases hi : 0 ≤ i ∧ i < n
  · rw [if_pos hi] at ho
    refine va_bast hx hb hK hP (wd_D hN) hS q 2 (wd_at hsh) rfl (iI_vp hn hi) d (fun H1 locs1 hP1 hD1 hS1 => ?_)
    rw [iI_cl hi.1 (by omega), vp_nar_byte, iI_b] at hP1
    rw [wd_put hsh (j := i.toNat) (v := x.bmod 256) (by simp only [cellE, arrC, arrUpd])] at hP1
    exact k _ v ho H1 locs1 ls hN hP1 hS1 hl
  · rw [if_neg hi] at ho; cases ho
theorem r_zast {i x : Int} {f : St → Option ρ} (g : Ok G cc own nL rm rt) (hsh : C.1[q]? = some (.inr (3, n, c0, dd))) (hn : n ≤ 2147483647) (d : decode cc pc = .ok (.bastore, 1)) (k : ∀ S1, Rg G ret sf F C S1 (pc + 1) lv st (f S1)) : Rg G ret sf F C S pc lv (vi x :: vi i :: vr G q :: st) (isB x (stI S q n i x f)) := by
  obtain ⟨p, l, e, R, s, m, args, below, meth, c, cy, D, b, N⟩ := G
  obtain ⟨hR, hx, hb, hml, hown, hts, hlk, hrt, hK, hnw, hsta⟩ := g
  intro v ho H locs ls hN hP hS hl
  unfold isB at ho
  by_cases h01 : x = 0 ∨ x = 1
  · rw [if_pos h01] at ho
    unfold stI at ho
    by_cases hi : 0 ≤ i ∧ i < n
    · rw [if_pos hi] at ho
      refine va_zast hx hb hK hP (wd_D hN) hS q 3 (wd_at hsh) rfl (iI_vp hn hi) d (fun H1 locs1 hP1 hD1 hS1 => ?_)
      have hz : vp_nar .boolean (iI x) = iI x := by rcases h01 with rfl | rfl <;> rfl
      rw [iI_cl hi.1 (by omega), hz] at hP1
      rw [wd_put hsh (j := i.toNat) (v := x) (by simp only [cellE, arrC, arrUpd])] at hP1
      exact k _ v ho H1 locs1 ls hN hP1 hS1 hl
    · rw [if_neg hi] at ho; cases ho
  · rw [if_neg h01] at ho; cases ho
/-- the reference arrays: t0 = 4, 5, 6 -/
theorem r_aaldA {i : Int} {P : Nat → Bool} {nm : String} {f : Nat → Option ρ} (g : Ok G cc own nL rm rt) (t : Nat) (ht : ∀ cy, (tysOf cy)[t + 4]? = some (cy (t + 4), .object nm)) (hsh : C.1[q]? = some (.inr (t + 4, n, c0, dd + 1))) (hn : n ≤ 2147483647) (hPq : ∀ j, j < n → P (c0 + (dd + 1) * j) = true) (d : decode cc pc = .ok (.aaload, 1)) (k : ∀ r, P r = true → Rg G ret sf F C S (pc + 1) lv (vr G r :: st) (f r)) : Rg G ret sf F C S pc lv (vi i :: vr G q :: st) (ldA c0 (dd + 1) n i f) := by
  obtain ⟨p, l, e, R, s, m, args, below, meth, c, cy, D, b, N⟩ := G
  obtain ⟨hR, hx, hb, hml, hown, hts, hlk, hrt, hK, hnw, hsta⟩ := g
  intro v ho H locs ls hN hP hS hl
  unfold ldA at ho
  by_cases hi : 0 ≤ i ∧ i < n
  · rw [if_pos hi] at ho
    have kk := k _ (hPq _ (by omega)) v ho H locs ls hN hP hS hl
    refine va_aldq (f := refA b S q c0 (dd + 1)) hx hb hK hP q (t + 4) (wd_at hsh) (ht cy) (iI_vp hn hi) d ?_
    rw [iI_cl hi.1 (by omega)]
    exact kk
  · rw [if_neg hi] at ho; cases ho
theorem r_aaldR {i : Int} {P : Nat → Bool} {nm : String} {f : Nat → Option ρ} (g : Ok G cc own nL rm rt) (t : Nat) (ht : ∀ cy, (tysOf cy)[t + 4]? = some (cy (t + 4), .object nm)) (hsh : C.1[q]? = some (.inr (t + 4, n, c0, 0))) (hn : n ≤ 2147483647) (d : decode cc pc = .ok (.aaload, 1)) (k : ∀ r, P r = true → Rg G ret sf F C S (pc + 1) lv (vr G r :: st) (f r)) : Rg G ret sf F C S pc lv (vi i :: vr G q :: st) (ldR S q n i P f) := by
  obtain ⟨p, l, e, R, s, m, args, below, meth, c, cy, D, b, N⟩ := G
  obtain ⟨hR, hx, hb, hml, hown, hts, hlk, hrt, hK, hnw, hsta⟩ := g
  intro v ho H locs ls hN hP hS hl
  unfold ldR at ho
  by_cases hi : 0 ≤ i ∧ i < n
  · rw [if_pos hi] at ho
    unfold gtR at ho
    by_cases hp : 0 < S q i.toNat ∧ P (S q i.toNat - 1).toNat = true
    · rw [if_pos hp] at ho
      have kk := k _ hp.2 v ho H locs ls hN hP hS hl
      refine va_aldq (f := refA b S q c0 0) hx hb hK hP q (t + 4) (wd_at hsh) (ht cy) (iI_vp hn hi) d ?_
      rw [iI_cl hi.1 (by omega)]
      show W _ _ _ _ _ _ _ _ _ _ _ _ _ _ _ (F0 m (pc + 1) ls (va_rf (rf b (S q i.toNat)) :: st))
      rw [rf_pos hp.1]
      exact kk
    · rw [if_neg hp] at ho; cases ho
  · rw [if_neg hi] at ho; cases ho
theorem refUpd {b : Nat} {S : St} {q c0 : Nat} {i : Int} {r : Nat} : refA b (put S q i.toNat ((r : Int) + 1)) q c0 0 = va_up (refA b S q c0 0) i.toNat (some (b + r)) := by
  funext y
  simp only [refA, put, va_up]
  by_cases h : y = i.toNat
  · simp [h, rf_succ]
  · simp [h]
theorem r_aast {i : Int} {r ck : Nat} {vc : vw_C} {fkr : List Nat} {f : St → Option ρ} (g : Ok G cc own nL rm rt) (t : Nat) (ht : ∀ cy, (tysOf cy)[t + 4]? = some (cy (t + 4), .object vc.1)) (hsh : C.1[q]? = some (.inr (t + 4, n, c0, 0))) (hr : C.1[r]? = some (.inl (ck, fkr))) (hc : vwCl[ck]? = some vc) (hn : n ≤ 2147483647) (d : decode cc pc = .ok (.aastore, 1)) (k : ∀ S1, Rg G ret sf F C S1 (pc + 1) lv st (f S1)) : Rg G ret sf F C S pc lv (vr G r :: vi i :: vr G q :: st) (stI S q n i ((r : Int) + 1) f) := by
  obtain ⟨p, l, e, R, s, m, args, below, meth, c, cy, D, b, N⟩ := G
  obtain ⟨hR, hx, hb, hml, hown, hts, hlk, hrt, hK, hnw, hsta⟩ := g
  intro v ho H locs ls hN hP hS hl
  unfold stI at ho
  by_cases hi : 0 ≤ i ∧ i < n
  · rw [if_pos hi] at ho
    refine va_astq (f := refA b S q c0 0) hx hb hK hP (wd_D hN) hS q (t + 4) r ck (wd_at hsh) (ht cy) (wd_at hr) hc (iI_vp hn hi) d (fun H1 locs1 hP1 hD1 hS1 => ?_)
    rw [iI_cl hi.1 (by omega)] at hP1
    rw [wd_put hsh (j := i.toNat) (v := (r : Int) + 1) (by simp only [cellE, arrC, refUpd])] at hP1
    exact k _ v ho H1 locs1 ls hN hP1 hS1 hl
  · rw [if_neg hi] at ho; cases ho
theorem r_alen {x : FieldType} (g : Ok G cc own nL rm rt) (ht : ∀ cy, (tysOf cy)[t]? = some (cy t, x)) (hsh : C.1[q]? = some (.inr (t, n, c0, dd))) (d : decode cc pc = .ok (.arraylength, 1)) (k : Rg G ret sf F C S (pc + 1) lv (vi (n : Int) :: st) o) : Rg G ret sf F C S pc lv (vr G q :: st) o := by
  obtain ⟨p, l, e, R, s, m, args, below, meth, c, cy, D, b, N⟩ := G
  obtain ⟨hR, hx, hb, hml, hown, hts, hlk, hrt, hK, hnw, hsta⟩ := g
  intro v ho H locs ls hN hP hS hl
  exact va_alen hx hb hK hP q t (wd_at hsh) (ht cy) (Int32.ofInt_eq_ofNat.symm : Int32.ofNat n = iI (n : Int)) d (k v ho H locs ls hN hP hS hl)
end Heap
end
section
/-! contracts and calls -/
def Pw (cy : Nat → ClassId) (D : va_G) (b N : Nat) (fr : Bool) (sh : List Sh) (S : St) (U : State) : Prop := (fr = true → U.heap.size = b + sh.length) ∧ va_P D vwCl (wd cy b sh S) U.heap ∧ va_K D vwCl (tysOf cy) U ∧ NestOk U ∧ StatOk (inR b N) U U.heap
def ws0 (y : MethodName) (cc : ByteArray) (nL : Nat) (rt : Option FieldType) : List Cond := Cond.code y cc nL rt :: lw_gd
def Con {ρ : Type} (y : MethodName) (cc : ByteArray) (nL : Nat) (rt : Option FieldType) (rm : Room) (fr : Bool) (sh : List Sh) (F : Cf) (av : Nat → List Value) (S : St) (ret : Nat → ρ → Option Value) (sf : ρ → St) (o : Option ρ) : Prop :=
  ∀ (l : Launch) (cy : Nat → ClassId) (D : va_G) (b N : Nat) (v : ρ), o = some v → sh.length ≤ N → F.1.length ≤ N → Met l y (ws0 y cc nL rt) rm (va_Pc (av b) (Pw cy D b N fr sh S)) (Qw cy D b N F.1 (ret b v) (sf v)) F.2.1 F.2.2 (inR b N)
def gN (G : Gx) : Nat := G.2.2.2.2.2.2.2.2.2.2.2.2.2
/-- a contract out of the judgement -/
theorem Con_of {ρ : Type} {y : MethodName} {cc : ByteArray} {nL : Nat} {rt : Option FieldType} {rm : Room} {fr : Bool} {sh : List Sh} {F : Cf} {av : Nat → List Value} {S : St} {ret : Nat → ρ → Option Value} {sf : ρ → St} {o : Option ρ} (lv : Nat → List (Option Value)) (hy : plainName y.cls = true) (hlv : ∀ b, lvA 0 (lv b) = lv_args 0 (av b)) (hlen : ∀ b, (lg_sl (av b)).length ≤ nL)
    (body : ∀ G : Gx, Ok G cc y.cls nL rm rt → (fr = true → gsz G = gb G + sh.length) → gmn G = y.name → F.1.length ≤ gN G → Rg G (ret (gb G)) sf F (sh, 0, 0) S 0 (lv (gb G)) [] o) : Con y cc nL rt rm fr sh F av S ret sf o := by
  intro l cy D b N v ho hN hN2
  refine Met.ofW (cc := cc) (maxL := nL) (ret := rt) hy rfl ?_
  intro p e s m args below meth c s₁ B hml hv
  obtain ⟨rfl, hsz, hP, hK, hnw, hst⟩ := hv
  have hts := atoms_spec (ws := ws0 y cc nL rt) B.pre
  have hown : s.vm.findClass y.cls = some m.cls := findClass_of_methodNamed B.named
  have hnm : meth.name = y.name := (name_of_methodNamed B.named B.method).1
  have hl := lv_entry (av b) (n := nL) (hlen b)
  rw [lg_entry_eq]
  generalize (lg_sl (av b) ++ List.replicate (nL - (lg_sl (av b)).length) Slot.unset).toArray = ls at hl ⊢
  have k := body (p, l, e, (headSpec (ws0 y cc nL rt) rm).room, s, m, (av b).toArray, below, meth, c, cy, D, b, N) ⟨rfl, B.exec, B.bytes, hml, hown, fun w hw => hts w (List.mem_cons_of_mem _ hw), B.notSynchronized, B.returns, hK, hnw, hst⟩ hsz hnm hN2
  refine k v ho s.heap [] ls hN hP va_S.rf ?_
  show lv_has ls c.maxLocals (lvA 0 (lv b))
  rw [hml, hlv b]
  exact hl
theorem NestOk.moved {s U : State} (hW : s.WarmedH U.vm) (h : NestOk s) : NestOk U := fun q hq => va_Nw.warmM hW (h q hq)
theorem NestOk.same {u U : State} (h : u.vm = U.vm) (hN : NestOk u) : NestOk U := fun q hq => va_Nw.same rfl h (hN q hq)
theorem Stat1.moved {n : String} {f : Nat → Int32} {A : Nat → Prop} {u U : State} {H : Heap} (hvm : u.vm.Alike U.vm) (h : Stat1 n f A u H) : Stat1 n f A U H := by
  obtain ⟨a, h1, h2, h3⟩ := h
  exact ⟨a, h1.moved hvm, h2.moved hvm, h3⟩
theorem Stat1.kept {n : String} {f : Nat → Int32} {A : Nat → Prop} {U : State} {H H1 : Heap} (hz : H.size ≤ H1.size) (hq : ∀ a : Nat, a < H.size → ¬ A a → H1[a]? = H[a]?) (h : Stat1 n f A U H) : Stat1 n f A U H1 := by
  obtain ⟨a, h1, h2, h3, h4⟩ := h
  exact ⟨a, h1.kept hq, h2.kept (hq a h3 h4), Nat.lt_of_lt_of_le h3 hz, h4⟩
theorem StatOk.moved {A : Nat → Prop} {u U : State} {H : Heap} (hvm : u.vm.Alike U.vm) (h : StatOk A u H) : StatOk A U H := ⟨h.1.moved hvm, h.2.moved hvm⟩
theorem StatOk.kept {A : Nat → Prop} {U : State} {H H1 : Heap} (hz : H.size ≤ H1.size) (hq : ∀ a : Nat, a < H.size → ¬ A a → H1[a]? = H[a]?) (h : StatOk A U H) : StatOk A U H1 := ⟨h.1.kept hz hq, h.2.kept hz hq⟩
theorem Pw_blind {cy : Nat → ClassId} {D : va_G} {b N : Nat} {fr : Bool} {sh : List Sh} {S : St} {av : List Value} : FrameBlind (va_Pc av (Pw cy D b N fr sh S)) := by
  intro a U g mk h
  obtain ⟨h0, h1, h2, h3, h4, h5⟩ := h
  exact ⟨h0, h1, h2, va_K.moved (u := U) (U := U.calling g mk a) (Vm.Alike.refl U.vm) h3, NestOk.same (u := U) (U := U.calling g mk a) rfl h4, StatOk.moved (u := U) (U := U.calling g mk a) (Vm.Alike.refl U.vm) h5⟩
theorem Pw_in {cy : Nat → ClassId} {D : va_G} {b N : Nat} {sh : List Sh} {S : St} {s U : State} {H : Heap} {locs : List Loc} (fr : Bool) (hfr : fr = true → H.size = b + sh.length) (hK : va_K D vwCl (tysOf cy) s) (hnw : NestOk s) (hst : StatOk (inR b N) s s.heap) (hP : va_P D vwCl (wd cy b sh S) H) (hS : va_S (inR b N) s.heap H locs) (hU : U.heap = H) (hW : s.WarmedH U.vm) : Pw cy D b N fr sh S U :=
  ⟨fun h => by rw [hU]; exact hfr h, by rw [hU]; exact hP, va_K.moved hW.alike hK, NestOk.moved hW hnw, by rw [hU]; exact (StatOk.kept hS.1 hS.2.1 hst).moved hW.alike⟩
theorem gd_gd : GoodIn lw_gd lw_gd := by
  intro w hw
  refine ⟨hw, ?_⟩
  have h := (List.mem_filter.mp hw).2
  unfold goodW at h
  rcases Bool.or_eq_true_iff.mp h with h | h
  · exact Or.inl h
  · right
    split at h
    · exact ⟨_, rfl⟩
    · cases h
theorem gd_ws {y : MethodName} {cc : ByteArray} {nL : Nat} {rt : Option FieldType} (h : Cond.code y cc nL rt ∈ lw_gd) : GoodIn lw_gd (ws0 y cc nL rt) := by
  intro w hw
  rcases List.mem_cons.mp hw with rfl | hw
  · exact gd_gd _ h
  · exact gd_gd _ hw
/-- what is known of a method, wherever it is called -/
def Mth (y : MethodName) (cc : ByteArray) (nL : Nat) (rt : Option FieldType) (n : Nat) : Prop := Cond.code y cc nL rt ∈ lw_gd ∧ Cond.initialized y.cls ∈ lw_gd ∧ y.cls ≠ "java/lang/invoke/MethodHandle" ∧ y.cls ≠ "java/lang/invoke/VarHandle" ∧ (parseMethodDescriptor y.desc).map (fun d => d.parameters.length) = some n
section CallRow
variable {p : Program} {l : Launch} {e : Env} {R : Room} {s : State} {m : MethodId} {args : Array Value} {below : List Frame} {meth : Method} {c : Code} {H : Heap} {locs : List Loc} {cells slots mc ms : Nat} {Q : State → Prop} {pc : Nat} {ls : Array Slot} {rest st0 : List Value} {a : Array Value}
theorem va_callw {cy : Nat → ClassId} {D : va_G} {b N : Nat} {sh : List Sh} {r : Option Value} {S' : St} (hr : va_Run p l e R s m args below meth c H locs cells slots mc ms (F0 m pc ls st0) rest (Qw cy D b N sh r S' a) (inR b N)) (hS : va_S (inR b N) s.heap H locs)
    (kk : ∀ (H1 : Heap) (locs1 : List Loc), va_P D vwCl (wd cy b sh S') H1 → va_S (inR b N) s.heap H1 locs1 → W p l e R s m args below meth c H1 locs1 (cells + mc) (slots + ms) Q (F0 m (pc + 3) ls (r.toList ++ rest))) : W p l e R s m args below meth c H locs cells slots Q (F0 m pc ls st0) := by
  intro T hT X
  obtain ⟨v, st₀, t, T', L, h0, X', hL, e1, e2, ⟨hv, hP, hz, hk⟩, st⟩ := hr T hT X
  cases hv
  rw [h0] at hz hk
  obtain ⟨t2, a1, b1⟩ := kk T'.heap (locs ++ L) (by rw [e1]; exact hP)
    ⟨Nat.le_trans hS.1 (by rw [e1]; exact hz), fun q h1 h2 => by rw [e1, hk q (Nat.lt_of_lt_of_le h1 hS.1) h2]; exact hS.2.1 q h1 h2, fun q hq => by
      rcases List.mem_append.mp hq with h | h
      · exact hS.2.2 q h
      · exact hL q h⟩ T' rfl X'
  exact ⟨t2, st t2 a1, b1⟩
end CallRow
section Calls
variable {G : Gx} {cc : ByteArray} {own : String} {nL : Nat} {rm : Room} {rt : Option FieldType} {ρ : Type} {ret : ρ → Option Value} {sf : ρ → St} {F : Cf} {sh : List Sh} {S : St} {pc : Nat} {lv : List (Option Value)} {st st0 : List Value}
variable {σ : Type} {y : MethodName} {ccc : ByteArray} {nLc : Nat} {rtc : Option FieldType} {rmc : Room} {av : Nat → List Value} {retc : Nat → σ → Option Value} {sfc : σ → St} {oc : Option σ} {idx n : Nat} {f : σ → Option ρ}
theorem r_callS (g : Ok G cc own nL rm rt) (con : Con y ccc nLc rtc rmc false sh (sh, 0, 0) av S retc sfc oc) (M : Mth y ccc nLc rtc n) (hl : Cond.methodLink own idx y ∈ lw_gd) (hs : Cond.static y ∈ lw_gd) (hr : rmc.cells = 0 ∧ rmc.slots = 0 ∧ rmc.frames + 1 ≤ rm.frames ∧ 8 + (nLc + 11) + rmc.locals ≤ rm.locals) (hn : ∀ b, (av b).length = n) (hst : st0 = (av (gb G)).reverse ++ st) (hW : (st.map fun v => v.category).sum ≤ 8) (d : decode cc pc = .ok (.invokestatic idx, 3))
    (k : ∀ u, Rg G ret sf F (sh, 0, 0) (sfc u) (pc + 3) lv ((retc (gb G) u).toList ++ st) (f u)) : Rg G ret sf F (sh, 0, 0) S pc lv st0 (oc.bind f) := by
  obtain ⟨p, l, e, R, s, m, args, below, meth, c, cy, D, b, N⟩ := G
  obtain ⟨hR, hx, hb, hml, hown, hts, hlk, hrt, hK, hnw, hsta⟩ := g
  intro v ho H locs ls hN hP hS hlv
  cases hoc : oc with
  | none => rw [hoc] at ho; cases ho
  | some u =>
    rw [hoc] at ho
    subst hR
    refine va_callw (va_runS (As := av b) (rest := st) (mc := 0) (ms := 0) (n := n) ⟨hx, hb, hml, hown, hts⟩ (con l cy D b N u hoc hN hN) ⟨callB_of n hts (gd_ws M.1) rfl hr.1 hr.2.1 (hts _ M.2.1) (hts _ hl) M.2.2 hr.2.2, hts _ hs⟩ ⟨Pw_blind, fun U hU hW => ⟨rfl, Pw_in false (fun h => by cases h) hK hnw hsta hP hS hU hW⟩⟩ rfl (hn b) (hlv.1.trans hml) hst (lv_room hW) d ⟨Nat.zero_le _, Nat.zero_le _⟩) hS (fun H1 locs1 hP1 hS1 => ?_)
    exact k u v ho H1 locs1 ls hN hP1 hS1 hlv
theorem r_callSN {host : String} (g : Ok G cc own nL rm rt) (con : Con y ccc nLc rtc rmc false sh (sh, 0, 0) av S retc sfc oc) (M : Mth y ccc nLc rtc n) (hl : (own, idx, y, host) ∈ lw_nest) (hs : Cond.static y ∈ lw_gd) (hr : rmc.cells = 0 ∧ rmc.slots = 0 ∧ rmc.frames + 1 ≤ rm.frames ∧ 8 + (nLc + 11) + rmc.locals ≤ rm.locals) (hn : ∀ b, (av b).length = n) (hst : st0 = (av (gb G)).reverse ++ st) (hW : (st.map fun v => v.category).sum ≤ 8) (d : decode cc pc = .ok (.invokestatic idx, 3))
    (k : ∀ u, Rg G ret sf F (sh, 0, 0) (sfc u) (pc + 3) lv ((retc (gb G) u).toList ++ st) (f u)) : Rg G ret sf F (sh, 0, 0) S pc lv st0 (oc.bind f) := by
  obtain ⟨p, l, e, R, s, m, args, below, meth, c, cy, D, b, N⟩ := G
  obtain ⟨hR, hx, hb, hml, hown, hts, hlk, hrt, hK, hnw, hsta⟩ := g
  intro v ho H locs ls hN hP hS hlv
  cases hoc : oc with
  | none => rw [hoc] at ho; cases ho
  | some u =>
    rw [hoc] at ho
    subst hR
    refine va_callw (va_runSN (As := av b) (rest := st) (mc := 0) (ms := 0) (n := n) ⟨hx, hb, hml, hown, hts⟩ (con l cy D b N u hoc hN hN) ⟨va_cnB n hts (gd_ws M.1) rfl hr.1 hr.2.1 (hnw _ hl) (hts _ M.2.1) M.2.2 hr.2.2, hts _ hs, trivial⟩ ⟨Pw_blind, fun U hU hW => ⟨rfl, Pw_in false (fun h => by cases h) hK hnw hsta hP hS hU hW⟩⟩ rfl (hn b) (hlv.1.trans hml) hst (lv_room hW) d ⟨Nat.zero_le _, Nat.zero_le _⟩) hS (fun H1 locs1 hP1 hS1 => ?_)
    exact k u v ho H1 locs1 ls hN hP1 hS1 hlv
theorem r_callV {q ci : Nat} {fk : List Nat} {T : u_T} {nf : Nat} {as : Nat → List Value} (g : Ok G cc own nL rm rt) (con : Con y ccc nLc rtc rmc false sh (sh, 0, 0) (fun b => .ref (b + q) :: as b) S retc sfc oc) (M : Mth y ccc nLc rtc n) (hq : sh[q]? = some (.inl (ci, fk))) (hc : vwCl[ci]? = some (y.cls, T, nf)) (hl : Cond.methodLink own idx y ∈ lw_gd) (hs : Cond.instanceMethod y ∈ lw_gd) (hse : Cond.selects y.cls y y ∈ lw_gd) (hr : rmc.cells = 0 ∧ rmc.slots = 0 ∧ rmc.frames + 1 ≤ rm.frames ∧ 8 + (nLc + 11) + rmc.locals ≤ rm.locals) (hn : ∀ b, (as b).length = n) (hst : st0 = (as (gb G)).reverse ++ vr G q :: st) (hW : (st.map fun v => v.category).sum ≤ 8) (d : decode cc pc = .ok (.invokevirtual idx, 3))
    (k : ∀ u, Rg G ret sf F (sh, 0, 0) (sfc u) (pc + 3) lv ((retc (gb G) u).toList ++ st) (f u)) : Rg G ret sf F (sh, 0, 0) S pc lv st0 (oc.bind f) := by
  obtain ⟨p, l, e, R, s, m, args, below, meth, c, cy, D, b, N⟩ := G
  obtain ⟨hR, hx, hb, hml, hown, hts, hlk, hrt, hK, hnw, hsta⟩ := g
  intro v ho H locs ls hN hP hS hlv
  cases hoc : oc with
  | none => rw [hoc] at ho; cases ho
  | some u =>
    rw [hoc] at ho
    subst hR
    refine va_callw (va_runV (C := y.cls) (As := as b) (rest := st) (b := b + q) (mc := 0) (ms := 0) (n := n) ⟨hx, hb, hml, hown, hts⟩ (con l cy D b N u hoc hN hN) ⟨callB_of n hts (gd_ws M.1) rfl hr.1 hr.2.1 (hts _ M.2.1) (hts _ hl) M.2.2 hr.2.2, hts _ hs, hts _ hse⟩ ⟨Pw_blind, va_recv hK hP hc (wd_at hq), fun U hU hW => ⟨rfl, Pw_in false (fun h => by cases h) hK hnw hsta hP hS hU hW⟩⟩ rfl (hn b) (hlv.1.trans hml) hst (lv_room hW) d ⟨Nat.zero_le _, Nat.zero_le _⟩) hS (fun H1 locs1 hP1 hS1 => ?_)
    exact k u v ho H1 locs1 ls hN hP1 hS1 hlv
end Calls
end
