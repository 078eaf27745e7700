/-- a private method of a class that the tables say can be made, by its rows of tables_1 -/
def lw_okq (q : MethodName × Nat) : Prop := (q.1.cls ≠ "java/lang/invoke/MethodHandle" ∧ q.1.cls ≠ "java/lang/invoke/VarHandle") ∧ Cond.instantiable q.1.cls q.2 ∈ tables_1 ∧ Cond.privateMethod q.1 ∈ tables_1 ∧ Cond.instanceMethod q.1 ∈ tables_1
theorem lw_p0 : lw_okq (⟨"CostumeStock", "forgetActs", "()V"⟩, 8) := ⟨⟨by decide +kernel, by decide +kernel⟩, List.mem_of_getElem? (i := 21) (by decide +kernel), List.mem_of_getElem? (i := 454) (by decide +kernel), List.mem_of_getElem? (i := 455) (by decide +kernel)⟩
theorem lw_p1 : lw_okq (⟨"CostumeStock", "rowToSet", "(I)[I"⟩, 8) := ⟨⟨by decide +kernel, by decide +kernel⟩, List.mem_of_getElem? (i := 21) (by decide +kernel), List.mem_of_getElem? (i := 508) (by decide +kernel), List.mem_of_getElem? (i := 509) (by decide +kernel)⟩
theorem lw_p2 : lw_okq (⟨"CostumeStock$Reader", "scan", "()V"⟩, 11) := ⟨⟨by decide +kernel, by decide +kernel⟩, List.mem_of_getElem? (i := 276) (by decide +kernel), List.mem_of_getElem? (i := 540) (by decide +kernel), List.mem_of_getElem? (i := 541) (by decide +kernel)⟩
theorem lw_p3 : lw_okq (⟨"CostumeStock$Reader", "runEnd", "(I)I"⟩, 11) := ⟨⟨by decide +kernel, by decide +kernel⟩, List.mem_of_getElem? (i := 276) (by decide +kernel), List.mem_of_getElem? (i := 544) (by decide +kernel), List.mem_of_getElem? (i := 545) (by decide +kernel)⟩
theorem lw_p4 : lw_okq (⟨"CostumeStock$Reader", "keyword", "(II)I"⟩, 11) := ⟨⟨by decide +kernel, by decide +kernel⟩, List.mem_of_getElem? (i := 276) (by decide +kernel), List.mem_of_getElem? (i := 554) (by decide +kernel), List.mem_of_getElem? (i := 555) (by decide +kernel)⟩
theorem lw_p5 : lw_okq (⟨"CostumeStock$Reader", "addToken", "(III)V"⟩, 11) := ⟨⟨by decide +kernel, by decide +kernel⟩, List.mem_of_getElem? (i := 276) (by decide +kernel), List.mem_of_getElem? (i := 607) (by decide +kernel), List.mem_of_getElem? (i := 608) (by decide +kernel)⟩
theorem lw_p6 : lw_okq (⟨"CostumeStock$Reader", "number", "(II)I"⟩, 11) := ⟨⟨by decide +kernel, by decide +kernel⟩, List.mem_of_getElem? (i := 276) (by decide +kernel), List.mem_of_getElem? (i := 611) (by decide +kernel), List.mem_of_getElem? (i := 612) (by decide +kernel)⟩
theorem lw_p7 : lw_okq (⟨"CostumeStock$Reader", "token", "()I"⟩, 11) := ⟨⟨by decide +kernel, by decide +kernel⟩, List.mem_of_getElem? (i := 276) (by decide +kernel), List.mem_of_getElem? (i := 684) (by decide +kernel), List.mem_of_getElem? (i := 685) (by decide +kernel)⟩
theorem lw_p8 : lw_okq (⟨"CostumeStock$Reader", "refuse", "(I)Z"⟩, 11) := ⟨⟨by decide +kernel, by decide +kernel⟩, List.mem_of_getElem? (i := 276) (by decide +kernel), List.mem_of_getElem? (i := 688) (by decide +kernel), List.mem_of_getElem? (i := 689) (by decide +kernel)⟩
theorem lw_p9 : lw_okq (⟨"CostumeStock$Reader", "pass", "(I)Z"⟩, 11) := ⟨⟨by decide +kernel, by decide +kernel⟩, List.mem_of_getElem? (i := 276) (by decide +kernel), List.mem_of_getElem? (i := 692) (by decide +kernel), List.mem_of_getElem? (i := 693) (by decide +kernel)⟩
theorem lw_p10 : lw_okq (⟨"CostumeStock$Reader", "value", "()I"⟩, 11) := ⟨⟨by decide +kernel, by decide +kernel⟩, List.mem_of_getElem? (i := 276) (by decide +kernel), List.mem_of_getElem? (i := 696) (by decide +kernel), List.mem_of_getElem? (i := 697) (by decide +kernel)⟩
theorem lw_p11 : lw_okq (⟨"CostumeStock$Reader", "readWears", "(I)Z"⟩, 11) := ⟨⟨by decide +kernel, by decide +kernel⟩, List.mem_of_getElem? (i := 276) (by decide +kernel), List.mem_of_getElem? (i := 700) (by decide +kernel), List.mem_of_getElem? (i := 701) (by decide +kernel)⟩
theorem lw_p12 : lw_okq (⟨"CostumeStock$Reader", "readSum", "()Z"⟩, 11) := ⟨⟨by decide +kernel, by decide +kernel⟩, List.mem_of_getElem? (i := 276) (by decide +kernel), List.mem_of_getElem? (i := 715) (by decide +kernel), List.mem_of_getElem? (i := 716) (by decide +kernel)⟩
theorem lw_p13 : lw_okq (⟨"CostumeStock$Reader", "readUnit", "(Z)Z"⟩, 11) := ⟨⟨by decide +kernel, by decide +kernel⟩, List.mem_of_getElem? (i := 276) (by decide +kernel), List.mem_of_getElem? (i := 719) (by decide +kernel), List.mem_of_getElem? (i := 720) (by decide +kernel)⟩
theorem lw_p14 : lw_okq (⟨"CostumeStock$Reader", "emitPending", "(I)V"⟩, 11) := ⟨⟨by decide +kernel, by decide +kernel⟩, List.mem_of_getElem? (i := 276) (by decide +kernel), List.mem_of_getElem? (i := 727) (by decide +kernel), List.mem_of_getElem? (i := 728) (by decide +kernel)⟩
theorem lw_p15 : lw_okq (⟨"CostumeStock$Reader", "readEither", "(I)Z"⟩, 11) := ⟨⟨by decide +kernel, by decide +kernel⟩, List.mem_of_getElem? (i := 276) (by decide +kernel), List.mem_of_getElem? (i := 731) (by decide +kernel), List.mem_of_getElem? (i := 732) (by decide +kernel)⟩
def lw_privs_1 : List (MethodName × Nat) := [(⟨"CostumeStock", "forgetActs", "()V"⟩, 8), (⟨"CostumeStock", "rowToSet", "(I)[I"⟩, 8), (⟨"CostumeStock$Reader", "scan", "()V"⟩, 11), (⟨"CostumeStock$Reader", "runEnd", "(I)I"⟩, 11), (⟨"CostumeStock$Reader", "keyword", "(II)I"⟩, 11), (⟨"CostumeStock$Reader", "addToken", "(III)V"⟩, 11), (⟨"CostumeStock$Reader", "number", "(II)I"⟩, 11), (⟨"CostumeStock$Reader", "token", "()I"⟩, 11), (⟨"CostumeStock$Reader", "refuse", "(I)Z"⟩, 11), (⟨"CostumeStock$Reader", "pass", "(I)Z"⟩, 11), (⟨"CostumeStock$Reader", "value", "()I"⟩, 11), (⟨"CostumeStock$Reader", "readWears", "(I)Z"⟩, 11), (⟨"CostumeStock$Reader", "readSum", "()Z"⟩, 11), (⟨"CostumeStock$Reader", "readUnit", "(Z)Z"⟩, 11), (⟨"CostumeStock$Reader", "emitPending", "(I)V"⟩, 11), (⟨"CostumeStock$Reader", "readEither", "(I)Z"⟩, 11)]
theorem lw_r1 : ∀ q ∈ lw_privs_1, lw_okq q := List.forall_mem_cons.mpr ⟨lw_p0, List.forall_mem_cons.mpr ⟨lw_p1, List.forall_mem_cons.mpr ⟨lw_p2, List.forall_mem_cons.mpr ⟨lw_p3, List.forall_mem_cons.mpr ⟨lw_p4, List.forall_mem_cons.mpr ⟨lw_p5, List.forall_mem_cons.mpr ⟨lw_p6, List.forall_mem_cons.mpr ⟨lw_p7, List.forall_mem_cons.mpr ⟨lw_p8, List.forall_mem_cons.mpr ⟨lw_p9, List.forall_mem_cons.mpr ⟨lw_p10, List.forall_mem_cons.mpr ⟨lw_p11, List.forall_mem_cons.mpr ⟨lw_p12, List.forall_mem_cons.mpr ⟨lw_p13, List.forall_mem_cons.mpr ⟨lw_p14, List.forall_mem_cons.mpr ⟨lw_p15, fun _ h => absurd h List.not_mem_nil⟩⟩⟩⟩⟩⟩⟩⟩⟩⟩⟩⟩⟩⟩⟩⟩
theorem lw_p16 : lw_okq (⟨"CostumeStock$Reader", "readCondition", "(I)Z"⟩, 11) := ⟨⟨by decide +kernel, by decide +kernel⟩, List.mem_of_getElem? (i := 276) (by decide +kernel), List.mem_of_getElem? (i := 735) (by decide +kernel), List.mem_of_getElem? (i := 736) (by decide +kernel)⟩
theorem lw_p17 : lw_okq (⟨"CostumeStock", "startAct", "()V"⟩, 8) := ⟨⟨by decide +kernel, by decide +kernel⟩, List.mem_of_getElem? (i := 21) (by decide +kernel), List.mem_of_getElem? (i := 817) (by decide +kernel), List.mem_of_getElem? (i := 818) (by decide +kernel)⟩
theorem lw_p18 : lw_okq (⟨"CostumeStock$House", "askAbout", "(I)V"⟩, 17) := ⟨⟨by decide +kernel, by decide +kernel⟩, List.mem_of_getElem? (i := 29) (by decide +kernel), List.mem_of_getElem? (i := 859) (by decide +kernel), List.mem_of_getElem? (i := 860) (by decide +kernel)⟩
theorem lw_p19 : lw_okq (⟨"CostumeStock$Law", "run", "(II[I)I"⟩, 8) := ⟨⟨by decide +kernel, by decide +kernel⟩, List.mem_of_getElem? (i := 104) (by decide +kernel), List.mem_of_getElem? (i := 867) (by decide +kernel), List.mem_of_getElem? (i := 868) (by decide +kernel)⟩
theorem lw_p20 : lw_okq (⟨"CostumeStock$House", "useForDay", "(I)Z"⟩, 17) := ⟨⟨by decide +kernel, by decide +kernel⟩, List.mem_of_getElem? (i := 29) (by decide +kernel), List.mem_of_getElem? (i := 905) (by decide +kernel), List.mem_of_getElem? (i := 906) (by decide +kernel)⟩
theorem lw_p21 : lw_okq (⟨"CostumeStock$House", "draw", "(I)I"⟩, 17) := ⟨⟨by decide +kernel, by decide +kernel⟩, List.mem_of_getElem? (i := 29) (by decide +kernel), List.mem_of_getElem? (i := 910) (by decide +kernel), List.mem_of_getElem? (i := 911) (by decide +kernel)⟩
theorem lw_p22 : lw_okq (⟨"CostumeStock", "lookInRow", "(I)I"⟩, 8) := ⟨⟨by decide +kernel, by decide +kernel⟩, List.mem_of_getElem? (i := 21) (by decide +kernel), List.mem_of_getElem? (i := 971) (by decide +kernel), List.mem_of_getElem? (i := 972) (by decide +kernel)⟩
theorem lw_p23 : lw_okq (⟨"CostumeStock$Wardrobe", "extend", "(IIII)V"⟩, 5) := ⟨⟨by decide +kernel, by decide +kernel⟩, List.mem_of_getElem? (i := 401) (by decide +kernel), List.mem_of_getElem? (i := 1028) (by decide +kernel), List.mem_of_getElem? (i := 1029) (by decide +kernel)⟩
theorem lw_p24 : lw_okq (⟨"CostumeStock$Wardrobe", "consider", "(III)V"⟩, 5) := ⟨⟨by decide +kernel, by decide +kernel⟩, List.mem_of_getElem? (i := 401) (by decide +kernel), List.mem_of_getElem? (i := 1038) (by decide +kernel), List.mem_of_getElem? (i := 1039) (by decide +kernel)⟩
theorem lw_p25 : lw_okq (⟨"CostumeStock$Earnings", "worth", "(LCostumeStock$House;I)I"⟩, 3) := ⟨⟨by decide +kernel, by decide +kernel⟩, List.mem_of_getElem? (i := 383) (by decide +kernel), List.mem_of_getElem? (i := 1082) (by decide +kernel), List.mem_of_getElem? (i := 1083) (by decide +kernel)⟩
theorem lw_p26 : lw_okq (⟨"CostumeStock$Planner", "findCandidates", "(LCostumeStock$House;I)V"⟩, 15) := ⟨⟨by decide +kernel, by decide +kernel⟩, List.mem_of_getElem? (i := 325) (by decide +kernel), List.mem_of_getElem? (i := 1099) (by decide +kernel), List.mem_of_getElem? (i := 1100) (by decide +kernel)⟩
theorem lw_p27 : lw_okq (⟨"CostumeStock$Planner", "relate", "(LCostumeStock$House;II)V"⟩, 15) := ⟨⟨by decide +kernel, by decide +kernel⟩, List.mem_of_getElem? (i := 325) (by decide +kernel), List.mem_of_getElem? (i := 1107) (by decide +kernel), List.mem_of_getElem? (i := 1108) (by decide +kernel)⟩
theorem lw_p28 : lw_okq (⟨"CostumeStock$Planner", "startSearch", "()V"⟩, 15) := ⟨⟨by decide +kernel, by decide +kernel⟩, List.mem_of_getElem? (i := 325) (by decide +kernel), List.mem_of_getElem? (i := 1125) (by decide +kernel), List.mem_of_getElem? (i := 1126) (by decide +kernel)⟩
theorem lw_p29 : lw_okq (⟨"CostumeStock$Planner", "searchAll", "()Z"⟩, 15) := ⟨⟨by decide +kernel, by decide +kernel⟩, List.mem_of_getElem? (i := 325) (by decide +kernel), List.mem_of_getElem? (i := 1130) (by decide +kernel), List.mem_of_getElem? (i := 1131) (by decide +kernel)⟩
theorem lw_p30 : lw_okq (⟨"CostumeStock$Planner", "search", "(II)V"⟩, 15) := ⟨⟨by decide +kernel, by decide +kernel⟩, List.mem_of_getElem? (i := 325) (by decide +kernel), List.mem_of_getElem? (i := 1135) (by decide +kernel), List.mem_of_getElem? (i := 1136) (by decide +kernel)⟩
theorem lw_p31 : lw_okq (⟨"CostumeStock$Planner", "narrow", "(II)I"⟩, 15) := ⟨⟨by decide +kernel, by decide +kernel⟩, List.mem_of_getElem? (i := 325) (by decide +kernel), List.mem_of_getElem? (i := 1139) (by decide +kernel), List.mem_of_getElem? (i := 1140) (by decide +kernel)⟩
def lw_privs_2 : List (MethodName × Nat) := [(⟨"CostumeStock$Reader", "readCondition", "(I)Z"⟩, 11), (⟨"CostumeStock", "startAct", "()V"⟩, 8), (⟨"CostumeStock$House", "askAbout", "(I)V"⟩, 17), (⟨"CostumeStock$Law", "run", "(II[I)I"⟩, 8), (⟨"CostumeStock$House", "useForDay", "(I)Z"⟩, 17), (⟨"CostumeStock$House", "draw", "(I)I"⟩, 17), (⟨"CostumeStock", "lookInRow", "(I)I"⟩, 8), (⟨"CostumeStock$Wardrobe", "extend", "(IIII)V"⟩, 5), (⟨"CostumeStock$Wardrobe", "consider", "(III)V"⟩, 5), (⟨"CostumeStock$Earnings", "worth", "(LCostumeStock$House;I)I"⟩, 3), (⟨"CostumeStock$Planner", "findCandidates", "(LCostumeStock$House;I)V"⟩, 15), (⟨"CostumeStock$Planner", "relate", "(LCostumeStock$House;II)V"⟩, 15), (⟨"CostumeStock$Planner", "startSearch", "()V"⟩, 15), (⟨"CostumeStock$Planner", "searchAll", "()Z"⟩, 15), (⟨"CostumeStock$Planner", "search", "(II)V"⟩, 15), (⟨"CostumeStock$Planner", "narrow", "(II)I"⟩, 15)]
theorem lw_r2 : ∀ q ∈ lw_privs_2, lw_okq q := List.forall_mem_cons.mpr ⟨lw_p16, List.forall_mem_cons.mpr ⟨lw_p17, List.forall_mem_cons.mpr ⟨lw_p18, List.forall_mem_cons.mpr ⟨lw_p19, List.forall_mem_cons.mpr ⟨lw_p20, List.forall_mem_cons.mpr ⟨lw_p21, List.forall_mem_cons.mpr ⟨lw_p22, List.forall_mem_cons.mpr ⟨lw_p23, List.forall_mem_cons.mpr ⟨lw_p24, List.forall_mem_cons.mpr ⟨lw_p25, List.forall_mem_cons.mpr ⟨lw_p26, List.forall_mem_cons.mpr ⟨lw_p27, List.forall_mem_cons.mpr ⟨lw_p28, List.forall_mem_cons.mpr ⟨lw_p29, List.forall_mem_cons.mpr ⟨lw_p30, List.forall_mem_cons.mpr ⟨lw_p31, fun _ h => absurd h List.not_mem_nil⟩⟩⟩⟩⟩⟩⟩⟩⟩⟩⟩⟩⟩⟩⟩⟩
theorem lw_p32 : lw_okq (⟨"CostumeStock$Planner", "cheapest", "(II)I"⟩, 15) := ⟨⟨by decide +kernel, by decide +kernel⟩, List.mem_of_getElem? (i := 325) (by decide +kernel), List.mem_of_getElem? (i := 1143) (by decide +kernel), List.mem_of_getElem? (i := 1144) (by decide +kernel)⟩
theorem lw_p33 : lw_okq (⟨"CostumeStock$Planner", "countChanges", "(LCostumeStock$Script;)I"⟩, 15) := ⟨⟨by decide +kernel, by decide +kernel⟩, List.mem_of_getElem? (i := 325) (by decide +kernel), List.mem_of_getElem? (i := 1148) (by decide +kernel), List.mem_of_getElem? (i := 1149) (by decide +kernel)⟩
theorem lw_p34 : lw_okq (⟨"CostumeStock$Planner", "isPlan", "()Z"⟩, 15) := ⟨⟨by decide +kernel, by decide +kernel⟩, List.mem_of_getElem? (i := 325) (by decide +kernel), List.mem_of_getElem? (i := 1182) (by decide +kernel), List.mem_of_getElem? (i := 1183) (by decide +kernel)⟩
theorem lw_p35 : lw_okq (⟨"CostumeStockModel", "forgets", "()V"⟩, 38) := ⟨⟨by decide +kernel, by decide +kernel⟩, List.mem_of_getElem? (i := 1190) (by decide +kernel), List.mem_of_getElem? (i := 1314) (by decide +kernel), List.mem_of_getElem? (i := 1315) (by decide +kernel)⟩
theorem lw_p36 : lw_okq (⟨"CostumeStockModel", "things", "(III)V"⟩, 38) := ⟨⟨by decide +kernel, by decide +kernel⟩, List.mem_of_getElem? (i := 1190) (by decide +kernel), List.mem_of_getElem? (i := 1325) (by decide +kernel), List.mem_of_getElem? (i := 1326) (by decide +kernel)⟩
theorem lw_p37 : lw_okq (⟨"CostumeStockModel", "isActor", "(I)Z"⟩, 38) := ⟨⟨by decide +kernel, by decide +kernel⟩, List.mem_of_getElem? (i := 1190) (by decide +kernel), List.mem_of_getElem? (i := 1341) (by decide +kernel), List.mem_of_getElem? (i := 1342) (by decide +kernel)⟩
theorem lw_p38 : lw_okq (⟨"CostumeStockModel", "isThing", "(I)Z"⟩, 38) := ⟨⟨by decide +kernel, by decide +kernel⟩, List.mem_of_getElem? (i := 1190) (by decide +kernel), List.mem_of_getElem? (i := 1345) (by decide +kernel), List.mem_of_getElem? (i := 1346) (by decide +kernel)⟩
theorem lw_p39 : lw_okq (⟨"CostumeStockModel", "isTrunk", "(I)Z"⟩, 38) := ⟨⟨by decide +kernel, by decide +kernel⟩, List.mem_of_getElem? (i := 1190) (by decide +kernel), List.mem_of_getElem? (i := 1349) (by decide +kernel), List.mem_of_getElem? (i := 1350) (by decide +kernel)⟩
theorem lw_p40 : lw_okq (⟨"CostumeStockModel", "of0", "(II)I"⟩, 38) := ⟨⟨by decide +kernel, by decide +kernel⟩, List.mem_of_getElem? (i := 1190) (by decide +kernel), List.mem_of_getElem? (i := 1353) (by decide +kernel), List.mem_of_getElem? (i := 1354) (by decide +kernel)⟩
theorem lw_p41 : lw_okq (⟨"CostumeStockModel", "next0", "()V"⟩, 38) := ⟨⟨by decide +kernel, by decide +kernel⟩, List.mem_of_getElem? (i := 1190) (by decide +kernel), List.mem_of_getElem? (i := 1376) (by decide +kernel), List.mem_of_getElem? (i := 1377) (by decide +kernel)⟩
theorem lw_p42 : lw_okq (⟨"CostumeStockModel", "see", "(I)I"⟩, 38) := ⟨⟨by decide +kernel, by decide +kernel⟩, List.mem_of_getElem? (i := 1190) (by decide +kernel), List.mem_of_getElem? (i := 1380) (by decide +kernel), List.mem_of_getElem? (i := 1381) (by decide +kernel)⟩
theorem lw_p43 : lw_okq (⟨"CostumeStockModel", "word", "()I"⟩, 38) := ⟨⟨by decide +kernel, by decide +kernel⟩, List.mem_of_getElem? (i := 1190) (by decide +kernel), List.mem_of_getElem? (i := 1387) (by decide +kernel), List.mem_of_getElem? (i := 1388) (by decide +kernel)⟩
theorem lw_p44 : lw_okq (⟨"CostumeStockModel", "sceneWord", "()I"⟩, 38) := ⟨⟨by decide +kernel, by decide +kernel⟩, List.mem_of_getElem? (i := 1190) (by decide +kernel), List.mem_of_getElem? (i := 1391) (by decide +kernel), List.mem_of_getElem? (i := 1392) (by decide +kernel)⟩
theorem lw_p45 : lw_okq (⟨"CostumeStockModel", "is", "(Ljava/lang/String;)Z"⟩, 38) := ⟨⟨by decide +kernel, by decide +kernel⟩, List.mem_of_getElem? (i := 1190) (by decide +kernel), List.mem_of_getElem? (i := 1396) (by decide +kernel), List.mem_of_getElem? (i := 1397) (by decide +kernel)⟩
theorem lw_p46 : lw_okq (⟨"CostumeStockModel", "lawWord", "()I"⟩, 38) := ⟨⟨by decide +kernel, by decide +kernel⟩, List.mem_of_getElem? (i := 1190) (by decide +kernel), List.mem_of_getElem? (i := 1408) (by decide +kernel), List.mem_of_getElem? (i := 1409) (by decide +kernel)⟩
theorem lw_p47 : lw_okq (⟨"CostumeStockModel", "asked", "()I"⟩, 38) := ⟨⟨by decide +kernel, by decide +kernel⟩, List.mem_of_getElem? (i := 1190) (by decide +kernel), List.mem_of_getElem? (i := 1420) (by decide +kernel), List.mem_of_getElem? (i := 1421) (by decide +kernel)⟩
def lw_privs_3 : List (MethodName × Nat) := [(⟨"CostumeStock$Planner", "cheapest", "(II)I"⟩, 15), (⟨"CostumeStock$Planner", "countChanges", "(LCostumeStock$Script;)I"⟩, 15), (⟨"CostumeStock$Planner", "isPlan", "()Z"⟩, 15), (⟨"CostumeStockModel", "forgets", "()V"⟩, 38), (⟨"CostumeStockModel", "things", "(III)V"⟩, 38), (⟨"CostumeStockModel", "isActor", "(I)Z"⟩, 38), (⟨"CostumeStockModel", "isThing", "(I)Z"⟩, 38), (⟨"CostumeStockModel", "isTrunk", "(I)Z"⟩, 38), (⟨"CostumeStockModel", "of0", "(II)I"⟩, 38), (⟨"CostumeStockModel", "next0", "()V"⟩, 38), (⟨"CostumeStockModel", "see", "(I)I"⟩, 38), (⟨"CostumeStockModel", "word", "()I"⟩, 38), (⟨"CostumeStockModel", "sceneWord", "()I"⟩, 38), (⟨"CostumeStockModel", "is", "(Ljava/lang/String;)Z"⟩, 38), (⟨"CostumeStockModel", "lawWord", "()I"⟩, 38), (⟨"CostumeStockModel", "asked", "()I"⟩, 38)]
theorem lw_r3 : ∀ q ∈ lw_privs_3, lw_okq q := List.forall_mem_cons.mpr ⟨lw_p32, List.forall_mem_cons.mpr ⟨lw_p33, List.forall_mem_cons.mpr ⟨lw_p34, List.forall_mem_cons.mpr ⟨lw_p35, List.forall_mem_cons.mpr ⟨lw_p36, List.forall_mem_cons.mpr ⟨lw_p37, List.forall_mem_cons.mpr ⟨lw_p38, List.forall_mem_cons.mpr ⟨lw_p39, List.forall_mem_cons.mpr ⟨lw_p40, List.forall_mem_cons.mpr ⟨lw_p41, List.forall_mem_cons.mpr ⟨lw_p42, List.forall_mem_cons.mpr ⟨lw_p43, List.forall_mem_cons.mpr ⟨lw_p44, List.forall_mem_cons.mpr ⟨lw_p45, List.forall_mem_cons.mpr ⟨lw_p46, List.forall_mem_cons.mpr ⟨lw_p47, fun _ h => absurd h List.not_mem_nil⟩⟩⟩⟩⟩⟩⟩⟩⟩⟩⟩⟩⟩⟩⟩⟩
theorem lw_p48 : lw_okq (⟨"CostumeStockModel", "readsScenes", "()Z"⟩, 38) := ⟨⟨by decide +kernel, by decide +kernel⟩, List.mem_of_getElem? (i := 1190) (by decide +kernel), List.mem_of_getElem? (i := 1436) (by decide +kernel), List.mem_of_getElem? (i := 1437) (by decide +kernel)⟩
theorem lw_p49 : lw_okq (⟨"CostumeStockModel", "aScene", "()Z"⟩, 38) := ⟨⟨by decide +kernel, by decide +kernel⟩, List.mem_of_getElem? (i := 1190) (by decide +kernel), List.mem_of_getElem? (i := 1440) (by decide +kernel), List.mem_of_getElem? (i := 1441) (by decide +kernel)⟩
theorem lw_p50 : lw_okq (⟨"CostumeStockModel", "bad", "(I)Z"⟩, 38) := ⟨⟨by decide +kernel, by decide +kernel⟩, List.mem_of_getElem? (i := 1190) (by decide +kernel), List.mem_of_getElem? (i := 1444) (by decide +kernel), List.mem_of_getElem? (i := 1445) (by decide +kernel)⟩
theorem lw_p51 : lw_okq (⟨"CostumeStockModel", "number", "(II)Z"⟩, 38) := ⟨⟨by decide +kernel, by decide +kernel⟩, List.mem_of_getElem? (i := 1190) (by decide +kernel), List.mem_of_getElem? (i := 1448) (by decide +kernel), List.mem_of_getElem? (i := 1449) (by decide +kernel)⟩
theorem lw_p52 : lw_okq (⟨"CostumeStockModel", "aWear", "()Z"⟩, 38) := ⟨⟨by decide +kernel, by decide +kernel⟩, List.mem_of_getElem? (i := 1190) (by decide +kernel), List.mem_of_getElem? (i := 1452) (by decide +kernel), List.mem_of_getElem? (i := 1453) (by decide +kernel)⟩
theorem lw_p53 : lw_okq (⟨"CostumeStockModel", "isInScene", "(I)Z"⟩, 38) := ⟨⟨by decide +kernel, by decide +kernel⟩, List.mem_of_getElem? (i := 1190) (by decide +kernel), List.mem_of_getElem? (i := 1456) (by decide +kernel), List.mem_of_getElem? (i := 1457) (by decide +kernel)⟩
theorem lw_p54 : lw_okq (⟨"CostumeStockModel", "need", "(I)Z"⟩, 38) := ⟨⟨by decide +kernel, by decide +kernel⟩, List.mem_of_getElem? (i := 1190) (by decide +kernel), List.mem_of_getElem? (i := 1460) (by decide +kernel), List.mem_of_getElem? (i := 1461) (by decide +kernel)⟩
theorem lw_p55 : lw_okq (⟨"CostumeStockModel", "readsLaw", "()Z"⟩, 38) := ⟨⟨by decide +kernel, by decide +kernel⟩, List.mem_of_getElem? (i := 1190) (by decide +kernel), List.mem_of_getElem? (i := 1464) (by decide +kernel), List.mem_of_getElem? (i := 1465) (by decide +kernel)⟩
theorem lw_p56 : lw_okq (⟨"CostumeStockModel", "aLine", "()Z"⟩, 38) := ⟨⟨by decide +kernel, by decide +kernel⟩, List.mem_of_getElem? (i := 1190) (by decide +kernel), List.mem_of_getElem? (i := 1468) (by decide +kernel), List.mem_of_getElem? (i := 1469) (by decide +kernel)⟩
theorem lw_p57 : lw_okq (⟨"CostumeStockModel", "sumUp", "()Z"⟩, 38) := ⟨⟨by decide +kernel, by decide +kernel⟩, List.mem_of_getElem? (i := 1190) (by decide +kernel), List.mem_of_getElem? (i := 1472) (by decide +kernel), List.mem_of_getElem? (i := 1473) (by decide +kernel)⟩
theorem lw_p58 : lw_okq (⟨"CostumeStockModel", "product", "()Z"⟩, 38) := ⟨⟨by decide +kernel, by decide +kernel⟩, List.mem_of_getElem? (i := 1190) (by decide +kernel), List.mem_of_getElem? (i := 1476) (by decide +kernel), List.mem_of_getElem? (i := 1477) (by decide +kernel)⟩
theorem lw_p59 : lw_okq (⟨"CostumeStockModel", "unit", "()Z"⟩, 38) := ⟨⟨by decide +kernel, by decide +kernel⟩, List.mem_of_getElem? (i := 1190) (by decide +kernel), List.mem_of_getElem? (i := 1480) (by decide +kernel), List.mem_of_getElem? (i := 1481) (by decide +kernel)⟩
theorem lw_p60 : lw_okq (⟨"CostumeStockModel", "lay", "(II)V"⟩, 38) := ⟨⟨by decide +kernel, by decide +kernel⟩, List.mem_of_getElem? (i := 1190) (by decide +kernel), List.mem_of_getElem? (i := 1484) (by decide +kernel), List.mem_of_getElem? (i := 1485) (by decide +kernel)⟩
theorem lw_p61 : lw_okq (⟨"CostumeStockModel", "any", "()Z"⟩, 38) := ⟨⟨by decide +kernel, by decide +kernel⟩, List.mem_of_getElem? (i := 1190) (by decide +kernel), List.mem_of_getElem? (i := 1488) (by decide +kernel), List.mem_of_getElem? (i := 1489) (by decide +kernel)⟩
theorem lw_p62 : lw_okq (⟨"CostumeStockModel", "every", "()Z"⟩, 38) := ⟨⟨by decide +kernel, by decide +kernel⟩, List.mem_of_getElem? (i := 1190) (by decide +kernel), List.mem_of_getElem? (i := 1492) (by decide +kernel), List.mem_of_getElem? (i := 1493) (by decide +kernel)⟩
theorem lw_p63 : lw_okq (⟨"CostumeStockModel", "oneTest", "()Z"⟩, 38) := ⟨⟨by decide +kernel, by decide +kernel⟩, List.mem_of_getElem? (i := 1190) (by decide +kernel), List.mem_of_getElem? (i := 1496) (by decide +kernel), List.mem_of_getElem? (i := 1497) (by decide +kernel)⟩
def lw_privs_4 : List (MethodName × Nat) := [(⟨"CostumeStockModel", "readsScenes", "()Z"⟩, 38), (⟨"CostumeStockModel", "aScene", "()Z"⟩, 38), (⟨"CostumeStockModel", "bad", "(I)Z"⟩, 38), (⟨"CostumeStockModel", "number", "(II)Z"⟩, 38), (⟨"CostumeStockModel", "aWear", "()Z"⟩, 38), (⟨"CostumeStockModel", "isInScene", "(I)Z"⟩, 38), (⟨"CostumeStockModel", "need", "(I)Z"⟩, 38), (⟨"CostumeStockModel", "readsLaw", "()Z"⟩, 38), (⟨"CostumeStockModel", "aLine", "()Z"⟩, 38), (⟨"CostumeStockModel", "sumUp", "()Z"⟩, 38), (⟨"CostumeStockModel", "product", "()Z"⟩, 38), (⟨"CostumeStockModel", "unit", "()Z"⟩, 38), (⟨"CostumeStockModel", "lay", "(II)V"⟩, 38), (⟨"CostumeStockModel", "any", "()Z"⟩, 38), (⟨"CostumeStockModel", "every", "()Z"⟩, 38), (⟨"CostumeStockModel", "oneTest", "()Z"⟩, 38)]
theorem lw_r4 : ∀ q ∈ lw_privs_4, lw_okq q := List.forall_mem_cons.mpr ⟨lw_p48, List.forall_mem_cons.mpr ⟨lw_p49, List.forall_mem_cons.mpr ⟨lw_p50, List.forall_mem_cons.mpr ⟨lw_p51, List.forall_mem_cons.mpr ⟨lw_p52, List.forall_mem_cons.mpr ⟨lw_p53, List.forall_mem_cons.mpr ⟨lw_p54, List.forall_mem_cons.mpr ⟨lw_p55, List.forall_mem_cons.mpr ⟨lw_p56, List.forall_mem_cons.mpr ⟨lw_p57, List.forall_mem_cons.mpr ⟨lw_p58, List.forall_mem_cons.mpr ⟨lw_p59, List.forall_mem_cons.mpr ⟨lw_p60, List.forall_mem_cons.mpr ⟨lw_p61, List.forall_mem_cons.mpr ⟨lw_p62, List.forall_mem_cons.mpr ⟨lw_p63, fun _ h => absurd h List.not_mem_nil⟩⟩⟩⟩⟩⟩⟩⟩⟩⟩⟩⟩⟩⟩⟩⟩
theorem lw_p64 : lw_okq (⟨"CostumeStockModel", "opens", "()Z"⟩, 38) := ⟨⟨by decide +kernel, by decide +kernel⟩, List.mem_of_getElem? (i := 1190) (by decide +kernel), List.mem_of_getElem? (i := 1500) (by decide +kernel), List.mem_of_getElem? (i := 1501) (by decide +kernel)⟩
theorem lw_p65 : lw_okq (⟨"CostumeStockModel", "putsScenes", "()I"⟩, 38) := ⟨⟨by decide +kernel, by decide +kernel⟩, List.mem_of_getElem? (i := 1190) (by decide +kernel), List.mem_of_getElem? (i := 1504) (by decide +kernel), List.mem_of_getElem? (i := 1505) (by decide +kernel)⟩
theorem lw_p66 : lw_okq (⟨"CostumeStockModel", "putsLaw", "(I)I"⟩, 38) := ⟨⟨by decide +kernel, by decide +kernel⟩, List.mem_of_getElem? (i := 1190) (by decide +kernel), List.mem_of_getElem? (i := 1508) (by decide +kernel), List.mem_of_getElem? (i := 1509) (by decide +kernel)⟩
theorem lw_p67 : lw_okq (⟨"CostumeStockModel", "isSlot", "(II)Z"⟩, 38) := ⟨⟨by decide +kernel, by decide +kernel⟩, List.mem_of_getElem? (i := 1190) (by decide +kernel), List.mem_of_getElem? (i := 1524) (by decide +kernel), List.mem_of_getElem? (i := 1525) (by decide +kernel)⟩
theorem lw_p68 : lw_okq (⟨"CostumeStockModel", "isHolder", "(I)Z"⟩, 38) := ⟨⟨by decide +kernel, by decide +kernel⟩, List.mem_of_getElem? (i := 1190) (by decide +kernel), List.mem_of_getElem? (i := 1528) (by decide +kernel), List.mem_of_getElem? (i := 1529) (by decide +kernel)⟩
theorem lw_p69 : lw_okq (⟨"CostumeStockModel", "slotsOf", "(I)I"⟩, 38) := ⟨⟨by decide +kernel, by decide +kernel⟩, List.mem_of_getElem? (i := 1190) (by decide +kernel), List.mem_of_getElem? (i := 1532) (by decide +kernel), List.mem_of_getElem? (i := 1533) (by decide +kernel)⟩
theorem lw_p70 : lw_okq (⟨"CostumeStockModel", "inSlot", "(II)I"⟩, 38) := ⟨⟨by decide +kernel, by decide +kernel⟩, List.mem_of_getElem? (i := 1190) (by decide +kernel), List.mem_of_getElem? (i := 1536) (by decide +kernel), List.mem_of_getElem? (i := 1537) (by decide +kernel)⟩
theorem lw_p71 : lw_okq (⟨"CostumeStockModel", "isHolderOut", "(I)Z"⟩, 38) := ⟨⟨by decide +kernel, by decide +kernel⟩, List.mem_of_getElem? (i := 1190) (by decide +kernel), List.mem_of_getElem? (i := 1540) (by decide +kernel), List.mem_of_getElem? (i := 1541) (by decide +kernel)⟩
theorem lw_p72 : lw_okq (⟨"CostumeStockModel", "isOut", "(I)Z"⟩, 38) := ⟨⟨by decide +kernel, by decide +kernel⟩, List.mem_of_getElem? (i := 1190) (by decide +kernel), List.mem_of_getElem? (i := 1544) (by decide +kernel), List.mem_of_getElem? (i := 1545) (by decide +kernel)⟩
theorem lw_p73 : lw_okq (⟨"CostumeStockModel", "outermost", "(I)I"⟩, 38) := ⟨⟨by decide +kernel, by decide +kernel⟩, List.mem_of_getElem? (i := 1190) (by decide +kernel), List.mem_of_getElem? (i := 1548) (by decide +kernel), List.mem_of_getElem? (i := 1549) (by decide +kernel)⟩
theorem lw_p74 : lw_okq (⟨"CostumeStockModel", "isOutItself", "(I)Z"⟩, 38) := ⟨⟨by decide +kernel, by decide +kernel⟩, List.mem_of_getElem? (i := 1190) (by decide +kernel), List.mem_of_getElem? (i := 1555) (by decide +kernel), List.mem_of_getElem? (i := 1556) (by decide +kernel)⟩
theorem lw_p75 : lw_okq (⟨"CostumeStockModel", "isInside", "(II)Z"⟩, 38) := ⟨⟨by decide +kernel, by decide +kernel⟩, List.mem_of_getElem? (i := 1190) (by decide +kernel), List.mem_of_getElem? (i := 1559) (by decide +kernel), List.mem_of_getElem? (i := 1560) (by decide +kernel)⟩
theorem lw_p76 : lw_okq (⟨"CostumeStockModel", "deepWith", "(II)I"⟩, 38) := ⟨⟨by decide +kernel, by decide +kernel⟩, List.mem_of_getElem? (i := 1190) (by decide +kernel), List.mem_of_getElem? (i := 1563) (by decide +kernel), List.mem_of_getElem? (i := 1564) (by decide +kernel)⟩
theorem lw_p77 : lw_okq (⟨"CostumeStockModel", "deep", "(I)I"⟩, 38) := ⟨⟨by decide +kernel, by decide +kernel⟩, List.mem_of_getElem? (i := 1190) (by decide +kernel), List.mem_of_getElem? (i := 1567) (by decide +kernel), List.mem_of_getElem? (i := 1568) (by decide +kernel)⟩
theorem lw_p78 : lw_okq (⟨"CostumeStockModel", "keeps", "()V"⟩, 38) := ⟨⟨by decide +kernel, by decide +kernel⟩, List.mem_of_getElem? (i := 1190) (by decide +kernel), List.mem_of_getElem? (i := 1574) (by decide +kernel), List.mem_of_getElem? (i := 1575) (by decide +kernel)⟩
theorem lw_p79 : lw_okq (⟨"CostumeStockModel", "notes", "(II)V"⟩, 38) := ⟨⟨by decide +kernel, by decide +kernel⟩, List.mem_of_getElem? (i := 1190) (by decide +kernel), List.mem_of_getElem? (i := 1578) (by decide +kernel), List.mem_of_getElem? (i := 1579) (by decide +kernel)⟩
def lw_privs_5 : List (MethodName × Nat) := [(⟨"CostumeStockModel", "opens", "()Z"⟩, 38), (⟨"CostumeStockModel", "putsScenes", "()I"⟩, 38), (⟨"CostumeStockModel", "putsLaw", "(I)I"⟩, 38), (⟨"CostumeStockModel", "isSlot", "(II)Z"⟩, 38), (⟨"CostumeStockModel", "isHolder", "(I)Z"⟩, 38), (⟨"CostumeStockModel", "slotsOf", "(I)I"⟩, 38), (⟨"CostumeStockModel", "inSlot", "(II)I"⟩, 38), (⟨"CostumeStockModel", "isHolderOut", "(I)Z"⟩, 38), (⟨"CostumeStockModel", "isOut", "(I)Z"⟩, 38), (⟨"CostumeStockModel", "outermost", "(I)I"⟩, 38), (⟨"CostumeStockModel", "isOutItself", "(I)Z"⟩, 38), (⟨"CostumeStockModel", "isInside", "(II)Z"⟩, 38), (⟨"CostumeStockModel", "deepWith", "(II)I"⟩, 38), (⟨"CostumeStockModel", "deep", "(I)I"⟩, 38), (⟨"CostumeStockModel", "keeps", "()V"⟩, 38), (⟨"CostumeStockModel", "notes", "(II)V"⟩, 38)]
theorem lw_r5 : ∀ q ∈ lw_privs_5, lw_okq q := List.forall_mem_cons.mpr ⟨lw_p64, List.forall_mem_cons.mpr ⟨lw_p65, List.forall_mem_cons.mpr ⟨lw_p66, List.forall_mem_cons.mpr ⟨lw_p67, List.forall_mem_cons.mpr ⟨lw_p68, List.forall_mem_cons.mpr ⟨lw_p69, List.forall_mem_cons.mpr ⟨lw_p70, List.forall_mem_cons.mpr ⟨lw_p71, List.forall_mem_cons.mpr ⟨lw_p72, List.forall_mem_cons.mpr ⟨lw_p73, List.forall_mem_cons.mpr ⟨lw_p74, List.forall_mem_cons.mpr ⟨lw_p75, List.forall_mem_cons.mpr ⟨lw_p76, List.forall_mem_cons.mpr ⟨lw_p77, List.forall_mem_cons.mpr ⟨lw_p78, List.forall_mem_cons.mpr ⟨lw_p79, fun _ h => absurd h List.not_mem_nil⟩⟩⟩⟩⟩⟩⟩⟩⟩⟩⟩⟩⟩⟩⟩⟩
theorem lw_p80 : lw_okq (⟨"CostumeStockModel", "laysDown", "(I)V"⟩, 38) := ⟨⟨by decide +kernel, by decide +kernel⟩, List.mem_of_getElem? (i := 1190) (by decide +kernel), List.mem_of_getElem? (i := 1586) (by decide +kernel), List.mem_of_getElem? (i := 1587) (by decide +kernel)⟩
theorem lw_p81 : lw_okq (⟨"CostumeStockModel", "fitsTo", "(II)I"⟩, 38) := ⟨⟨by decide +kernel, by decide +kernel⟩, List.mem_of_getElem? (i := 1190) (by decide +kernel), List.mem_of_getElem? (i := 1594) (by decide +kernel), List.mem_of_getElem? (i := 1595) (by decide +kernel)⟩
theorem lw_p82 : lw_okq (⟨"CostumeStockModel", "bodyOf", "(II)I"⟩, 38) := ⟨⟨by decide +kernel, by decide +kernel⟩, List.mem_of_getElem? (i := 1190) (by decide +kernel), List.mem_of_getElem? (i := 1598) (by decide +kernel), List.mem_of_getElem? (i := 1599) (by decide +kernel)⟩
theorem lw_p83 : lw_okq (⟨"CostumeStockModel", "costBy", "(II)I"⟩, 38) := ⟨⟨by decide +kernel, by decide +kernel⟩, List.mem_of_getElem? (i := 1190) (by decide +kernel), List.mem_of_getElem? (i := 1605) (by decide +kernel), List.mem_of_getElem? (i := 1606) (by decide +kernel)⟩
theorem lw_p84 : lw_okq (⟨"CostumeStockModel", "goalOf", "(III)I"⟩, 38) := ⟨⟨by decide +kernel, by decide +kernel⟩, List.mem_of_getElem? (i := 1190) (by decide +kernel), List.mem_of_getElem? (i := 1609) (by decide +kernel), List.mem_of_getElem? (i := 1610) (by decide +kernel)⟩
theorem lw_p85 : lw_okq (⟨"CostumeStockModel", "costOf", "(IIIZ)I"⟩, 38) := ⟨⟨by decide +kernel, by decide +kernel⟩, List.mem_of_getElem? (i := 1190) (by decide +kernel), List.mem_of_getElem? (i := 1613) (by decide +kernel), List.mem_of_getElem? (i := 1614) (by decide +kernel)⟩
theorem lw_p86 : lw_okq (⟨"CostumeStockModel", "lays", "(II)V"⟩, 38) := ⟨⟨by decide +kernel, by decide +kernel⟩, List.mem_of_getElem? (i := 1190) (by decide +kernel), List.mem_of_getElem? (i := 1617) (by decide +kernel), List.mem_of_getElem? (i := 1618) (by decide +kernel)⟩
theorem lw_p87 : lw_okq (⟨"CostumeStockModel", "says", "(IIII)I"⟩, 38) := ⟨⟨by decide +kernel, by decide +kernel⟩, List.mem_of_getElem? (i := 1190) (by decide +kernel), List.mem_of_getElem? (i := 1621) (by decide +kernel), List.mem_of_getElem? (i := 1622) (by decide +kernel)⟩
theorem lw_p88 : lw_okq (⟨"CostumeStockModel", "isSo", "(II)Z"⟩, 38) := ⟨⟨by decide +kernel, by decide +kernel⟩, List.mem_of_getElem? (i := 1190) (by decide +kernel), List.mem_of_getElem? (i := 1625) (by decide +kernel), List.mem_of_getElem? (i := 1626) (by decide +kernel)⟩
theorem lw_p89 : lw_okq (⟨"CostumeStockModel", "comesTo", "(III)I"⟩, 38) := ⟨⟨by decide +kernel, by decide +kernel⟩, List.mem_of_getElem? (i := 1190) (by decide +kernel), List.mem_of_getElem? (i := 1629) (by decide +kernel), List.mem_of_getElem? (i := 1630) (by decide +kernel)⟩
theorem lw_p90 : lw_okq (⟨"CostumeStockModel", "isWornOut", "(I)Z"⟩, 38) := ⟨⟨by decide +kernel, by decide +kernel⟩, List.mem_of_getElem? (i := 1190) (by decide +kernel), List.mem_of_getElem? (i := 1655) (by decide +kernel), List.mem_of_getElem? (i := 1656) (by decide +kernel)⟩
theorem lw_p91 : lw_okq (⟨"CostumeStockModel", "draw", "(I)I"⟩, 38) := ⟨⟨by decide +kernel, by decide +kernel⟩, List.mem_of_getElem? (i := 1190) (by decide +kernel), List.mem_of_getElem? (i := 1659) (by decide +kernel), List.mem_of_getElem? (i := 1660) (by decide +kernel)⟩
theorem lw_p92 : lw_okq (⟨"CostumeStockModel", "inside", "(I)I"⟩, 38) := ⟨⟨by decide +kernel, by decide +kernel⟩, List.mem_of_getElem? (i := 1190) (by decide +kernel), List.mem_of_getElem? (i := 1669) (by decide +kernel), List.mem_of_getElem? (i := 1670) (by decide +kernel)⟩
theorem lw_p93 : lw_okq (⟨"CostumeStockModel", "canFit", "(II)Z"⟩, 38) := ⟨⟨by decide +kernel, by decide +kernel⟩, List.mem_of_getElem? (i := 1190) (by decide +kernel), List.mem_of_getElem? (i := 1694) (by decide +kernel), List.mem_of_getElem? (i := 1695) (by decide +kernel)⟩
theorem lw_p94 : lw_okq (⟨"CostumeStockModel", "isOfKind", "(II)Z"⟩, 38) := ⟨⟨by decide +kernel, by decide +kernel⟩, List.mem_of_getElem? (i := 1190) (by decide +kernel), List.mem_of_getElem? (i := 1706) (by decide +kernel), List.mem_of_getElem? (i := 1707) (by decide +kernel)⟩
theorem lw_p95 : lw_okq (⟨"CostumeStockModel", "ofWear", "(II)I"⟩, 38) := ⟨⟨by decide +kernel, by decide +kernel⟩, List.mem_of_getElem? (i := 1190) (by decide +kernel), List.mem_of_getElem? (i := 1714) (by decide +kernel), List.mem_of_getElem? (i := 1715) (by decide +kernel)⟩
def lw_privs_6 : List (MethodName × Nat) := [(⟨"CostumeStockModel", "laysDown", "(I)V"⟩, 38), (⟨"CostumeStockModel", "fitsTo", "(II)I"⟩, 38), (⟨"CostumeStockModel", "bodyOf", "(II)I"⟩, 38), (⟨"CostumeStockModel", "costBy", "(II)I"⟩, 38), (⟨"CostumeStockModel", "goalOf", "(III)I"⟩, 38), (⟨"CostumeStockModel", "costOf", "(IIIZ)I"⟩, 38), (⟨"CostumeStockModel", "lays", "(II)V"⟩, 38), (⟨"CostumeStockModel", "says", "(IIII)I"⟩, 38), (⟨"CostumeStockModel", "isSo", "(II)Z"⟩, 38), (⟨"CostumeStockModel", "comesTo", "(III)I"⟩, 38), (⟨"CostumeStockModel", "isWornOut", "(I)Z"⟩, 38), (⟨"CostumeStockModel", "draw", "(I)I"⟩, 38), (⟨"CostumeStockModel", "inside", "(I)I"⟩, 38), (⟨"CostumeStockModel", "canFit", "(II)Z"⟩, 38), (⟨"CostumeStockModel", "isOfKind", "(II)Z"⟩, 38), (⟨"CostumeStockModel", "ofWear", "(II)I"⟩, 38)]
theorem lw_r6 : ∀ q ∈ lw_privs_6, lw_okq q := List.forall_mem_cons.mpr ⟨lw_p80, List.forall_mem_cons.mpr ⟨lw_p81, List.forall_mem_cons.mpr ⟨lw_p82, List.forall_mem_cons.mpr ⟨lw_p83, List.forall_mem_cons.mpr ⟨lw_p84, List.forall_mem_cons.mpr ⟨lw_p85, List.forall_mem_cons.mpr ⟨lw_p86, List.forall_mem_cons.mpr ⟨lw_p87, List.forall_mem_cons.mpr ⟨lw_p88, List.forall_mem_cons.mpr ⟨lw_p89, List.forall_mem_cons.mpr ⟨lw_p90, List.forall_mem_cons.mpr ⟨lw_p91, List.forall_mem_cons.mpr ⟨lw_p92, List.forall_mem_cons.mpr ⟨lw_p93, List.forall_mem_cons.mpr ⟨lw_p94, List.forall_mem_cons.mpr ⟨lw_p95, fun _ h => absurd h List.not_mem_nil⟩⟩⟩⟩⟩⟩⟩⟩⟩⟩⟩⟩⟩⟩⟩⟩
theorem lw_p96 : lw_okq (⟨"CostumeStockModel", "laysBounds", "()V"⟩, 38) := ⟨⟨by decide +kernel, by decide +kernel⟩, List.mem_of_getElem? (i := 1190) (by decide +kernel), List.mem_of_getElem? (i := 1722) (by decide +kernel), List.mem_of_getElem? (i := 1723) (by decide +kernel)⟩
theorem lw_p97 : lw_okq (⟨"CostumeStockModel", "leastOf", "(I)I"⟩, 38) := ⟨⟨by decide +kernel, by decide +kernel⟩, List.mem_of_getElem? (i := 1190) (by decide +kernel), List.mem_of_getElem? (i := 1727) (by decide +kernel), List.mem_of_getElem? (i := 1728) (by decide +kernel)⟩
theorem lw_p98 : lw_okq (⟨"CostumeStockModel", "canWear", "(II)Z"⟩, 38) := ⟨⟨by decide +kernel, by decide +kernel⟩, List.mem_of_getElem? (i := 1190) (by decide +kernel), List.mem_of_getElem? (i := 1731) (by decide +kernel), List.mem_of_getElem? (i := 1732) (by decide +kernel)⟩
theorem lw_p99 : lw_okq (⟨"CostumeStockModel", "laysPlan", "()Z"⟩, 38) := ⟨⟨by decide +kernel, by decide +kernel⟩, List.mem_of_getElem? (i := 1190) (by decide +kernel), List.mem_of_getElem? (i := 1735) (by decide +kernel), List.mem_of_getElem? (i := 1736) (by decide +kernel)⟩
theorem lw_p100 : lw_okq (⟨"CostumeStockModel", "plans", "(II)V"⟩, 38) := ⟨⟨by decide +kernel, by decide +kernel⟩, List.mem_of_getElem? (i := 1190) (by decide +kernel), List.mem_of_getElem? (i := 1739) (by decide +kernel), List.mem_of_getElem? (i := 1740) (by decide +kernel)⟩
theorem lw_p101 : lw_okq (⟨"CostumeStockModel", "goTogether", "(IIII)Z"⟩, 38) := ⟨⟨by decide +kernel, by decide +kernel⟩, List.mem_of_getElem? (i := 1190) (by decide +kernel), List.mem_of_getElem? (i := 1743) (by decide +kernel), List.mem_of_getElem? (i := 1744) (by decide +kernel)⟩
theorem lw_p102 : lw_okq (⟨"CostumeStockModel", "change", "(II)I"⟩, 38) := ⟨⟨by decide +kernel, by decide +kernel⟩, List.mem_of_getElem? (i := 1190) (by decide +kernel), List.mem_of_getElem? (i := 1747) (by decide +kernel), List.mem_of_getElem? (i := 1748) (by decide +kernel)⟩
theorem lw_p103 : lw_okq (⟨"CostumeStockModel", "ofPlan", "(I)I"⟩, 38) := ⟨⟨by decide +kernel, by decide +kernel⟩, List.mem_of_getElem? (i := 1190) (by decide +kernel), List.mem_of_getElem? (i := 1751) (by decide +kernel), List.mem_of_getElem? (i := 1752) (by decide +kernel)⟩
theorem lw_p104 : lw_okq (⟨"CostumeStockModel", "changes", "()I"⟩, 38) := ⟨⟨by decide +kernel, by decide +kernel⟩, List.mem_of_getElem? (i := 1190) (by decide +kernel), List.mem_of_getElem? (i := 1755) (by decide +kernel), List.mem_of_getElem? (i := 1756) (by decide +kernel)⟩
theorem lw_p105 : lw_okq (⟨"CostumeStockModel", "instead", "(I)I"⟩, 38) := ⟨⟨by decide +kernel, by decide +kernel⟩, List.mem_of_getElem? (i := 1190) (by decide +kernel), List.mem_of_getElem? (i := 1759) (by decide +kernel), List.mem_of_getElem? (i := 1760) (by decide +kernel)⟩
theorem lw_p106 : lw_okq (⟨"CostumeStockModel", "isInstead", "(II)Z"⟩, 38) := ⟨⟨by decide +kernel, by decide +kernel⟩, List.mem_of_getElem? (i := 1190) (by decide +kernel), List.mem_of_getElem? (i := 1763) (by decide +kernel), List.mem_of_getElem? (i := 1764) (by decide +kernel)⟩
theorem lw_p107 : lw_okq (⟨"CostumeStockModel", "elseOf", "(I)I"⟩, 38) := ⟨⟨by decide +kernel, by decide +kernel⟩, List.mem_of_getElem? (i := 1190) (by decide +kernel), List.mem_of_getElem? (i := 1767) (by decide +kernel), List.mem_of_getElem? (i := 1768) (by decide +kernel)⟩
theorem lw_p108 : lw_okq (⟨"CostumeStockModel", "uses", "(I)I"⟩, 38) := ⟨⟨by decide +kernel, by decide +kernel⟩, List.mem_of_getElem? (i := 1190) (by decide +kernel), List.mem_of_getElem? (i := 1771) (by decide +kernel), List.mem_of_getElem? (i := 1772) (by decide +kernel)⟩
theorem lw_p109 : lw_okq (⟨"CostumeStockModel", "rackOf", "(I)I"⟩, 38) := ⟨⟨by decide +kernel, by decide +kernel⟩, List.mem_of_getElem? (i := 1190) (by decide +kernel), List.mem_of_getElem? (i := 1787) (by decide +kernel), List.mem_of_getElem? (i := 1788) (by decide +kernel)⟩
theorem lw_p110 : lw_okq (⟨"CostumeStockModel", "laysDressed", "()V"⟩, 38) := ⟨⟨by decide +kernel, by decide +kernel⟩, List.mem_of_getElem? (i := 1190) (by decide +kernel), List.mem_of_getElem? (i := 1799) (by decide +kernel), List.mem_of_getElem? (i := 1800) (by decide +kernel)⟩
theorem lw_p111 : lw_okq (⟨"CostumeStockModel", "dressedBy", "(I)I"⟩, 38) := ⟨⟨by decide +kernel, by decide +kernel⟩, List.mem_of_getElem? (i := 1190) (by decide +kernel), List.mem_of_getElem? (i := 1806) (by decide +kernel), List.mem_of_getElem? (i := 1807) (by decide +kernel)⟩
def lw_privs_7 : List (MethodName × Nat) := [(⟨"CostumeStockModel", "laysBounds", "()V"⟩, 38), (⟨"CostumeStockModel", "leastOf", "(I)I"⟩, 38), (⟨"CostumeStockModel", "canWear", "(II)Z"⟩, 38), (⟨"CostumeStockModel", "laysPlan", "()Z"⟩, 38), (⟨"CostumeStockModel", "plans", "(II)V"⟩, 38), (⟨"CostumeStockModel", "goTogether", "(IIII)Z"⟩, 38), (⟨"CostumeStockModel", "change", "(II)I"⟩, 38), (⟨"CostumeStockModel", "ofPlan", "(I)I"⟩, 38), (⟨"CostumeStockModel", "changes", "()I"⟩, 38), (⟨"CostumeStockModel", "instead", "(I)I"⟩, 38), (⟨"CostumeStockModel", "isInstead", "(II)Z"⟩, 38), (⟨"CostumeStockModel", "elseOf", "(I)I"⟩, 38), (⟨"CostumeStockModel", "uses", "(I)I"⟩, 38), (⟨"CostumeStockModel", "rackOf", "(I)I"⟩, 38), (⟨"CostumeStockModel", "laysDressed", "()V"⟩, 38), (⟨"CostumeStockModel", "dressedBy", "(I)I"⟩, 38)]
theorem lw_r7 : ∀ q ∈ lw_privs_7, lw_okq q := List.forall_mem_cons.mpr ⟨lw_p96, List.forall_mem_cons.mpr ⟨lw_p97, List.forall_mem_cons.mpr ⟨lw_p98, List.forall_mem_cons.mpr ⟨lw_p99, List.forall_mem_cons.mpr ⟨lw_p100, List.forall_mem_cons.mpr ⟨lw_p101, List.forall_mem_cons.mpr ⟨lw_p102, List.forall_mem_cons.mpr ⟨lw_p103, List.forall_mem_cons.mpr ⟨lw_p104, List.forall_mem_cons.mpr ⟨lw_p105, List.forall_mem_cons.mpr ⟨lw_p106, List.forall_mem_cons.mpr ⟨lw_p107, List.forall_mem_cons.mpr ⟨lw_p108, List.forall_mem_cons.mpr ⟨lw_p109, List.forall_mem_cons.mpr ⟨lw_p110, List.forall_mem_cons.mpr ⟨lw_p111, fun _ h => absurd h List.not_mem_nil⟩⟩⟩⟩⟩⟩⟩⟩⟩⟩⟩⟩⟩⟩⟩⟩
theorem lw_p112 : lw_okq (⟨"CostumeStockModel", "mendAll", "(I)I"⟩, 38) := ⟨⟨by decide +kernel, by decide +kernel⟩, List.mem_of_getElem? (i := 1190) (by decide +kernel), List.mem_of_getElem? (i := 1819) (by decide +kernel), List.mem_of_getElem? (i := 1820) (by decide +kernel)⟩
theorem lw_p113 : lw_okq (⟨"CostumeStockModel", "cheapest", "(I)I"⟩, 38) := ⟨⟨by decide +kernel, by decide +kernel⟩, List.mem_of_getElem? (i := 1190) (by decide +kernel), List.mem_of_getElem? (i := 1823) (by decide +kernel), List.mem_of_getElem? (i := 1824) (by decide +kernel)⟩
theorem lw_p114 : lw_okq (⟨"CostumeStockModel", "canSwap", "(II)Z"⟩, 38) := ⟨⟨by decide +kernel, by decide +kernel⟩, List.mem_of_getElem? (i := 1190) (by decide +kernel), List.mem_of_getElem? (i := 1831) (by decide +kernel), List.mem_of_getElem? (i := 1832) (by decide +kernel)⟩
theorem lw_p115 : lw_okq (⟨"CostumeStockModel", "wornAt", "(III)I"⟩, 38) := ⟨⟨by decide +kernel, by decide +kernel⟩, List.mem_of_getElem? (i := 1190) (by decide +kernel), List.mem_of_getElem? (i := 1835) (by decide +kernel), List.mem_of_getElem? (i := 1836) (by decide +kernel)⟩
theorem lw_p116 : lw_okq (⟨"CostumeStockModel", "swapCost", "(II)I"⟩, 38) := ⟨⟨by decide +kernel, by decide +kernel⟩, List.mem_of_getElem? (i := 1190) (by decide +kernel), List.mem_of_getElem? (i := 1839) (by decide +kernel), List.mem_of_getElem? (i := 1840) (by decide +kernel)⟩
theorem lw_p117 : lw_okq (⟨"CostumeStockModel", "paysFor", "(I)I"⟩, 38) := ⟨⟨by decide +kernel, by decide +kernel⟩, List.mem_of_getElem? (i := 1190) (by decide +kernel), List.mem_of_getElem? (i := 1851) (by decide +kernel), List.mem_of_getElem? (i := 1852) (by decide +kernel)⟩
theorem lw_p118 : lw_okq (⟨"CostumeStockModel", "areBoth", "(II)Z"⟩, 38) := ⟨⟨by decide +kernel, by decide +kernel⟩, List.mem_of_getElem? (i := 1190) (by decide +kernel), List.mem_of_getElem? (i := 1855) (by decide +kernel), List.mem_of_getElem? (i := 1856) (by decide +kernel)⟩
theorem lw_p119 : lw_okq (⟨"CostumeStockModel", "late", "()I"⟩, 38) := ⟨⟨by decide +kernel, by decide +kernel⟩, List.mem_of_getElem? (i := 1190) (by decide +kernel), List.mem_of_getElem? (i := 1871) (by decide +kernel), List.mem_of_getElem? (i := 1872) (by decide +kernel)⟩
def lw_privs_8 : List (MethodName × Nat) := [(⟨"CostumeStockModel", "mendAll", "(I)I"⟩, 38), (⟨"CostumeStockModel", "cheapest", "(I)I"⟩, 38), (⟨"CostumeStockModel", "canSwap", "(II)Z"⟩, 38), (⟨"CostumeStockModel", "wornAt", "(III)I"⟩, 38), (⟨"CostumeStockModel", "swapCost", "(II)I"⟩, 38), (⟨"CostumeStockModel", "paysFor", "(I)I"⟩, 38), (⟨"CostumeStockModel", "areBoth", "(II)Z"⟩, 38), (⟨"CostumeStockModel", "late", "()I"⟩, 38)]
theorem lw_r8 : ∀ q ∈ lw_privs_8, lw_okq q := List.forall_mem_cons.mpr ⟨lw_p112, List.forall_mem_cons.mpr ⟨lw_p113, List.forall_mem_cons.mpr ⟨lw_p114, List.forall_mem_cons.mpr ⟨lw_p115, List.forall_mem_cons.mpr ⟨lw_p116, List.forall_mem_cons.mpr ⟨lw_p117, List.forall_mem_cons.mpr ⟨lw_p118, List.forall_mem_cons.mpr ⟨lw_p119, fun _ h => absurd h List.not_mem_nil⟩⟩⟩⟩⟩⟩⟩⟩
def lw_privs : List (MethodName × Nat) := lw_privs_1 ++ (lw_privs_2 ++ (lw_privs_3 ++ (lw_privs_4 ++ (lw_privs_5 ++ (lw_privs_6 ++ (lw_privs_7 ++ (lw_privs_8)))))))
def lw_tbl : List Cond := k2_sels lw_privs ++ tables_1
theorem lw_privs_ok : ∀ q ∈ lw_privs, lw_okq q := by
  show ∀ q ∈ lw_privs_1 ++ (lw_privs_2 ++ (lw_privs_3 ++ (lw_privs_4 ++ (lw_privs_5 ++ (lw_privs_6 ++ (lw_privs_7 ++ (lw_privs_8))))))), lw_okq q
  exact List.forall_mem_append.mpr ⟨lw_r1, List.forall_mem_append.mpr ⟨lw_r2, List.forall_mem_append.mpr ⟨lw_r3, List.forall_mem_append.mpr ⟨lw_r4, List.forall_mem_append.mpr ⟨lw_r5, List.forall_mem_append.mpr ⟨lw_r6, List.forall_mem_append.mpr ⟨lw_r7, lw_r8⟩⟩⟩⟩⟩⟩⟩

def RX0 : String := "CostumeStock$Earnings"
def TX0 : u_T := fun k => match k with
  | 0 => ("CostumeStock$Earnings", "against", "[I", true)
  | 1 => ("CostumeStock$Earnings", "most", "I", false)
  | _ => ("CostumeStock$Earnings", "set", "I", false)
def tyX0 : Nat → FieldType := fun k => match k with
  | 0 => .array .int
  | 1 => .int
  | _ => .int
abbrev wsX00 : List Cond := u_ws RX0 TX0 3
theorem nmX0 : ∀ a, a < 3 → ∀ b, b < 3 → a ≠ b → (TX0 a).2.1 ≠ (TX0 b).2.1 := by decide +kernel
theorem tyX0_ok : ∀ k, k < 3 → parseFieldDescriptor (TX0 k).2.2.1 = some (tyX0 k) := by decide +kernel
abbrev cX0_init : ByteArray := prog_2_method_1_code
def yX0_init : MethodName := ⟨RX0, "<init>", "()V"⟩
abbrev cX0_find : ByteArray := prog_2_method_2_code
def yX0_find : MethodName := ⟨RX0, "find", "(LCostumeStock$House;)V"⟩
abbrev cX0_clash : ByteArray := prog_2_method_3_code
def yX0_clash : MethodName := ⟨RX0, "clash", "([III)Z"⟩
abbrev cX0_worth : ByteArray := prog_2_method_4_code
def yX0_worth : MethodName := ⟨RX0, "worth", "(LCostumeStock$House;I)I"⟩
def RX1 : String := "CostumeStock$House"
def TX1 : u_T := fun k => match k with
  | 0 => ("CostumeStock$House", "stock", "LCostumeStock$Stock;", true)
  | 1 => ("CostumeStock$House", "kind", "[I", true)
  | 2 => ("CostumeStock$House", "lets", "[I", true)
  | 3 => ("CostumeStock$House", "made", "[I", true)
  | 4 => ("CostumeStock$House", "body", "[I", true)
  | 5 => ("CostumeStock$House", "slots", "[I", true)
  | 6 => ("CostumeStock$House", "book", "[I", true)
  | 7 => ("CostumeStock$House", "wishes", "[I", true)
  | 8 => ("CostumeStock$House", "altering", "LCostumeStock$Law;", true)
  | 9 => ("CostumeStock$House", "daily", "LCostumeStock$Law;", true)
  | 10 => ("CostumeStock$House", "script", "LCostumeStock$Script;", true)
  | 11 => ("CostumeStock$House", "things", "I", false)
  | 12 => ("CostumeStock$House", "actors", "I", false)
  | 13 => ("CostumeStock$House", "racks", "I", false)
  | 14 => ("CostumeStock$House", "wished", "I", false)
  | 15 => ("CostumeStock$House", "facts", "[I", true)
  | _ => ("CostumeStock$House", "whole", "[I", true)
def tyX1 : Nat → FieldType := fun k => match k with
  | 0 => .object "CostumeStock$Stock"
  | 1 => .array .int
  | 2 => .array .int
  | 3 => .array .int
  | 4 => .array .int
  | 5 => .array .int
  | 6 => .array .int
  | 7 => .array .int
  | 8 => .object "CostumeStock$Law"
  | 9 => .object "CostumeStock$Law"
  | 10 => .object "CostumeStock$Script"
  | 11 => .int
  | 12 => .int
  | 13 => .int
  | 14 => .int
  | 15 => .array .int
  | _ => .array .int
abbrev wsX10 : List Cond := u_ws RX1 TX1 17
theorem nmX1 : ∀ a, a < 17 → ∀ b, b < 17 → a ≠ b → (TX1 a).2.1 ≠ (TX1 b).2.1 := by decide +kernel
theorem tyX1_ok : ∀ k, k < 17 → parseFieldDescriptor (TX1 k).2.2.1 = some (tyX1 k) := by decide +kernel
abbrev cX1_init : ByteArray := prog_3_method_1_code
def yX1_init : MethodName := ⟨RX1, "<init>", "()V"⟩
abbrev cX1_copyFrom : ByteArray := prog_3_method_2_code
def yX1_copyFrom : MethodName := ⟨RX1, "copyFrom", "(LCostumeStock$House;)V"⟩
abbrev cX1_isThing : ByteArray := prog_3_method_3_code
def yX1_isThing : MethodName := ⟨RX1, "isThing", "(I)Z"⟩
abbrev cX1_isActor : ByteArray := prog_3_method_4_code
def yX1_isActor : MethodName := ⟨RX1, "isActor", "(I)Z"⟩
abbrev cX1_isTrunk : ByteArray := prog_3_method_5_code
def yX1_isTrunk : MethodName := ⟨RX1, "isTrunk", "(I)Z"⟩
abbrev cX1_isWearable : ByteArray := prog_3_method_6_code
def yX1_isWearable : MethodName := ⟨RX1, "isWearable", "(I)Z"⟩
abbrev cX1_isOfKind : ByteArray := prog_3_method_7_code
def yX1_isOfKind : MethodName := ⟨RX1, "isOfKind", "(II)Z"⟩
abbrev cX1_isHolder : ByteArray := prog_3_method_8_code
def yX1_isHolder : MethodName := ⟨RX1, "isHolder", "(I)Z"⟩
abbrev cX1_isSlot : ByteArray := prog_3_method_9_code
def yX1_isSlot : MethodName := ⟨RX1, "isSlot", "(II)Z"⟩
abbrev cX1_canOpen : ByteArray := prog_3_method_10_code
def yX1_canOpen : MethodName := ⟨RX1, "canOpen", "(II)Z"⟩
abbrev cX1_inSlot : ByteArray := prog_3_method_11_code
def yX1_inSlot : MethodName := ⟨RX1, "inSlot", "(II)I"⟩
abbrev cX1_trunkOf : ByteArray := prog_3_method_12_code
def yX1_trunkOf : MethodName := ⟨RX1, "trunkOf", "(I)I"⟩
abbrev cX1_outermost : ByteArray := prog_3_method_13_code
def yX1_outermost : MethodName := ⟨RX1, "outermost", "(I)I"⟩
abbrev cX1_isAway : ByteArray := prog_3_method_14_code
def yX1_isAway : MethodName := ⟨RX1, "isAway", "(I)Z"⟩
abbrev cX1_rackAround : ByteArray := prog_3_method_15_code
def yX1_rackAround : MethodName := ⟨RX1, "rackAround", "(I)I"⟩
abbrev cX1_trunksAround : ByteArray := prog_3_method_16_code
def yX1_trunksAround : MethodName := ⟨RX1, "trunksAround", "(I)I"⟩
abbrev cX1_isIn : ByteArray := prog_3_method_17_code
def yX1_isIn : MethodName := ⟨RX1, "isIn", "(II)Z"⟩
abbrev cX1_countIn : ByteArray := prog_3_method_18_code
def yX1_countIn : MethodName := ⟨RX1, "countIn", "(II)I"⟩
abbrev cX1_depth : ByteArray := prog_3_method_19_code
def yX1_depth : MethodName := ⟨RX1, "depth", "(I)I"⟩
abbrev cX1_hasDepthFor : ByteArray := prog_3_method_20_code
def yX1_hasDepthFor : MethodName := ⟨RX1, "hasDepthFor", "(II)Z"⟩
abbrev cX1_moveAside : ByteArray := prog_3_method_21_code
def yX1_moveAside : MethodName := ⟨RX1, "moveAside", "(I)V"⟩
abbrev cX1_late : ByteArray := prog_3_method_22_code
def yX1_late : MethodName := ⟨RX1, "late", "()I"⟩
abbrev cX1_write : ByteArray := prog_3_method_23_code
def yX1_write : MethodName := ⟨RX1, "write", "(II)V"⟩
abbrev cX1_passDay : ByteArray := prog_3_method_24_code
def yX1_passDay : MethodName := ⟨RX1, "passDay", "()I"⟩
abbrev cX1_useForDay : ByteArray := prog_3_method_25_code
def yX1_useForDay : MethodName := ⟨RX1, "useForDay", "(I)Z"⟩
abbrev cX1_draw : ByteArray := prog_3_method_26_code
def yX1_draw : MethodName := ⟨RX1, "draw", "(I)I"⟩
abbrev cX1_askAbout : ByteArray := prog_3_method_27_code
def yX1_askAbout : MethodName := ⟨RX1, "askAbout", "(I)V"⟩
abbrev cX1_price : ByteArray := prog_3_method_28_code
def yX1_price : MethodName := ⟨RX1, "price", "(I[II)I"⟩
abbrev cX1_sew : ByteArray := prog_3_method_29_code
def yX1_sew : MethodName := ⟨RX1, "sew", "(I[II)V"⟩
abbrev cX1_mendPrice : ByteArray := prog_3_method_30_code
def yX1_mendPrice : MethodName := ⟨RX1, "mendPrice", "(II)I"⟩
abbrev cX1_priceMending : ByteArray := prog_3_method_31_code
def yX1_priceMending : MethodName := ⟨RX1, "priceMending", "()V"⟩
abbrev cX1_cheapestToMend : ByteArray := prog_3_method_32_code
def yX1_cheapestToMend : MethodName := ⟨RX1, "cheapestToMend", "(I)I"⟩
abbrev cX1_changeMinutes : ByteArray := prog_3_method_33_code
def yX1_changeMinutes : MethodName := ⟨RX1, "changeMinutes", "(II)I"⟩
abbrev cX1_fit : ByteArray := prog_3_method_34_code
def yX1_fit : MethodName := ⟨RX1, "fit", "(II)I"⟩
abbrev cX1_clothes : ByteArray := prog_3_method_35_code
def yX1_clothes : MethodName := ⟨RX1, "clothes", "(II)Z"⟩
abbrev cX1_dressedBy : ByteArray := prog_3_method_36_code
def yX1_dressedBy : MethodName := ⟨RX1, "dressedBy", "(I)I"⟩
def RX2 : String := "CostumeStock$Kept"
def TX2 : u_T := fun k => match k with
  | 0 => ("CostumeStock$Kept", "stocks", "[LCostumeStock$Stock;", true)
  | 1 => ("CostumeStock$Kept", "next", "I", false)
  | _ => ("CostumeStock$Kept", "count", "I", false)
def tyX2 : Nat → FieldType := fun k => match k with
  | 0 => .array (.object "CostumeStock$Stock")
  | 1 => .int
  | _ => .int
abbrev wsX20 : List Cond := u_ws RX2 TX2 3
theorem nmX2 : ∀ a, a < 3 → ∀ b, b < 3 → a ≠ b → (TX2 a).2.1 ≠ (TX2 b).2.1 := by decide +kernel
theorem tyX2_ok : ∀ k, k < 3 → parseFieldDescriptor (TX2 k).2.2.1 = some (tyX2 k) := by decide +kernel
abbrev cX2_init : ByteArray := prog_4_method_1_code
def yX2_init : MethodName := ⟨RX2, "<init>", "()V"⟩
abbrev cX2_keep : ByteArray := prog_4_method_2_code
def yX2_keep : MethodName := ⟨RX2, "keep", "(LCostumeStock$Stock;)V"⟩
abbrev cX2_giveBack : ByteArray := prog_4_method_3_code
def yX2_giveBack : MethodName := ⟨RX2, "giveBack", "(LCostumeStock$Stock;)Z"⟩
abbrev cX2_clear : ByteArray := prog_4_method_4_code
def yX2_clear : MethodName := ⟨RX2, "clear", "()V"⟩
def RX3 : String := "CostumeStock$Law"
def TX3 : u_T := fun k => match k with
  | 0 => ("CostumeStock$Law", "code", "[I", true)
  | 1 => ("CostumeStock$Law", "word", "[I", true)
  | 2 => ("CostumeStock$Law", "from", "[I", true)
  | 3 => ("CostumeStock$Law", "when", "[I", true)
  | 4 => ("CostumeStock$Law", "until", "[I", true)
  | 5 => ("CostumeStock$Law", "stack", "[I", true)
  | 6 => ("CostumeStock$Law", "lines", "I", false)
  | _ => ("CostumeStock$Law", "size", "I", false)
def tyX3 : Nat → FieldType := fun k => match k with
  | 0 => .array .int
  | 1 => .array .int
  | 2 => .array .int
  | 3 => .array .int
  | 4 => .array .int
  | 5 => .array .int
  | 6 => .int
  | _ => .int
abbrev wsX30 : List Cond := u_ws RX3 TX3 8
theorem nmX3 : ∀ a, a < 8 → ∀ b, b < 8 → a ≠ b → (TX3 a).2.1 ≠ (TX3 b).2.1 := by decide +kernel
theorem tyX3_ok : ∀ k, k < 8 → parseFieldDescriptor (TX3 k).2.2.1 = some (tyX3 k) := by decide +kernel
abbrev cX3_init : ByteArray := prog_5_method_1_code
def yX3_init : MethodName := ⟨RX3, "<init>", "()V"⟩
abbrev cX3_copyFrom : ByteArray := prog_5_method_2_code
def yX3_copyFrom : MethodName := ⟨RX3, "copyFrom", "(LCostumeStock$Law;)V"⟩
abbrev cX3_clear : ByteArray := prog_5_method_3_code
def yX3_clear : MethodName := ⟨RX3, "clear", "()V"⟩
abbrev cX3_emit : ByteArray := prog_5_method_4_code
def yX3_emit : MethodName := ⟨RX3, "emit", "(I)V"⟩
abbrev cX3_addLine : ByteArray := prog_5_method_5_code
def yX3_addLine : MethodName := ⟨RX3, "addLine", "(III)V"⟩
abbrev cX3_tell : ByteArray := prog_5_method_6_code
def yX3_tell : MethodName := ⟨RX3, "tell", "(I[III)I"⟩
abbrev cX3_run : ByteArray := prog_5_method_7_code
def yX3_run : MethodName := ⟨RX3, "run", "(II[I)I"⟩
abbrev cX3_combine : ByteArray := prog_5_method_8_code
def yX3_combine : MethodName := ⟨RX3, "combine", "(III)I"⟩
def RX4 : String := "CostumeStock$Planner"
def TX4 : u_T := fun k => match k with
  | 0 => ("CostumeStock$Planner", "known", "Z", false)
  | 1 => ("CostumeStock$Planner", "found", "Z", false)
  | 2 => ("CostumeStock$Planner", "planCost", "I", false)
  | 3 => ("CostumeStock$Planner", "changes", "I", false)
  | 4 => ("CostumeStock$Planner", "chosen", "[I", true)
  | 5 => ("CostumeStock$Planner", "wears", "I", false)
  | 6 => ("CostumeStock$Planner", "things", "I", false)
  | 7 => ("CostumeStock$Planner", "could", "[I", true)
  | 8 => ("CostumeStock$Planner", "costs", "[I", true)
  | 9 => ("CostumeStock$Planner", "beside", "[I", true)
  | 10 => ("CostumeStock$Planner", "left", "[[I", true)
  | 11 => ("CostumeStock$Planner", "tried", "[I", true)
  | 12 => ("CostumeStock$Planner", "bestTried", "[I", true)
  | 13 => ("CostumeStock$Planner", "least", "I", false)
  | _ => ("CostumeStock$Planner", "atLeast", "[I", true)
def tyX4 : Nat → FieldType := fun k => match k with
  | 0 => .boolean
  | 1 => .boolean
  | 2 => .int
  | 3 => .int
  | 4 => .array .int
  | 5 => .int
  | 6 => .int
  | 7 => .array .int
  | 8 => .array .int
  | 9 => .array .int
  | 10 => .array (.array .int)
  | 11 => .array .int
  | 12 => .array .int
  | 13 => .int
  | _ => .array .int
abbrev wsX40 : List Cond := u_ws RX4 TX4 15
theorem nmX4 : ∀ a, a < 15 → ∀ b, b < 15 → a ≠ b → (TX4 a).2.1 ≠ (TX4 b).2.1 := by decide +kernel
theorem tyX4_ok : ∀ k, k < 15 → parseFieldDescriptor (TX4 k).2.2.1 = some (tyX4 k) := by decide +kernel
abbrev cX4_init : ByteArray := prog_6_method_1_code
def yX4_init : MethodName := ⟨RX4, "<init>", "()V"⟩
abbrev cX4_forgetPlan : ByteArray := prog_6_method_2_code
def yX4_forgetPlan : MethodName := ⟨RX4, "forgetPlan", "()V"⟩
abbrev cX4_prepare : ByteArray := prog_6_method_3_code
def yX4_prepare : MethodName := ⟨RX4, "prepare", "(LCostumeStock$House;)V"⟩
abbrev cX4_findCandidates : ByteArray := prog_6_method_4_code
def yX4_findCandidates : MethodName := ⟨RX4, "findCandidates", "(LCostumeStock$House;I)V"⟩
abbrev cX4_besideAt : ByteArray := prog_6_method_5_code
def yX4_besideAt : MethodName := ⟨RX4, "besideAt", "(III)I"⟩
abbrev cX4_relate : ByteArray := prog_6_method_6_code
def yX4_relate : MethodName := ⟨RX4, "relate", "(LCostumeStock$House;II)V"⟩
abbrev cX4_quickEnough : ByteArray := prog_6_method_7_code
def yX4_quickEnough : MethodName := ⟨RX4, "quickEnough", "(LCostumeStock$House;III)I"⟩
abbrev cX4_handedOver : ByteArray := prog_6_method_8_code
def yX4_handedOver : MethodName := ⟨RX4, "handedOver", "(LCostumeStock$House;III)I"⟩
abbrev cX4_countChanges : ByteArray := prog_6_method_9_code
def yX4_countChanges : MethodName := ⟨RX4, "countChanges", "(LCostumeStock$Script;)I"⟩
abbrev cX4_startSearch : ByteArray := prog_6_method_10_code
def yX4_startSearch : MethodName := ⟨RX4, "startSearch", "()V"⟩
abbrev cX4_searchAll : ByteArray := prog_6_method_11_code
def yX4_searchAll : MethodName := ⟨RX4, "searchAll", "()Z"⟩
abbrev cX4_search : ByteArray := prog_6_method_12_code
def yX4_search : MethodName := ⟨RX4, "search", "(II)V"⟩
abbrev cX4_narrow : ByteArray := prog_6_method_13_code
def yX4_narrow : MethodName := ⟨RX4, "narrow", "(II)I"⟩
abbrev cX4_cheapest : ByteArray := prog_6_method_14_code
def yX4_cheapest : MethodName := ⟨RX4, "cheapest", "(II)I"⟩
abbrev cX4_bound : ByteArray := prog_6_method_15_code
def yX4_bound : MethodName := ⟨RX4, "bound", "(I)I"⟩
abbrev cX4_uses : ByteArray := prog_6_method_16_code
def yX4_uses : MethodName := ⟨RX4, "uses", "(I)I"⟩
abbrev cX4_instead : ByteArray := prog_6_method_17_code
def yX4_instead : MethodName := ⟨RX4, "instead", "(I)I"⟩
abbrev cX4_otherwise : ByteArray := prog_6_method_18_code
def yX4_otherwise : MethodName := ⟨RX4, "otherwise", "(I)I"⟩
abbrev cX4_canSwap : ByteArray := prog_6_method_19_code
def yX4_canSwap : MethodName := ⟨RX4, "canSwap", "(II)Z"⟩
abbrev cX4_isPlan : ByteArray := prog_6_method_20_code
def yX4_isPlan : MethodName := ⟨RX4, "isPlan", "()Z"⟩
abbrev cX4_swapCost : ByteArray := prog_6_method_21_code
def yX4_swapCost : MethodName := ⟨RX4, "swapCost", "(II)I"⟩
def RX5 : String := "CostumeStock$Reader"
def TX5 : u_T := fun k => match k with
  | 0 => ("CostumeStock$Reader", "tape", "[I", true)
  | 1 => ("CostumeStock$Reader", "size", "I", false)
  | 2 => ("CostumeStock$Reader", "fault", "I", false)
  | 3 => ("CostumeStock$Reader", "faultPlace", "I", false)
  | 4 => ("CostumeStock$Reader", "law", "LCostumeStock$Law;", true)
  | 5 => ("CostumeStock$Reader", "script", "LCostumeStock$Script;", true)
  | 6 => ("CostumeStock$Reader", "tokens", "[I", true)
  | 7 => ("CostumeStock$Reader", "places", "[I", true)
  | 8 => ("CostumeStock$Reader", "values", "[I", true)
  | 9 => ("CostumeStock$Reader", "count", "I", false)
  | _ => ("CostumeStock$Reader", "at", "I", false)
def tyX5 : Nat → FieldType := fun k => match k with
  | 0 => .array .int
  | 1 => .int
  | 2 => .int
  | 3 => .int
  | 4 => .object "CostumeStock$Law"
  | 5 => .object "CostumeStock$Script"
  | 6 => .array .int
  | 7 => .array .int
  | 8 => .array .int
  | 9 => .int
  | _ => .int
abbrev wsX50 : List Cond := u_ws RX5 TX5 11
theorem nmX5 : ∀ a, a < 11 → ∀ b, b < 11 → a ≠ b → (TX5 a).2.1 ≠ (TX5 b).2.1 := by decide +kernel
theorem tyX5_ok : ∀ k, k < 11 → parseFieldDescriptor (TX5 k).2.2.1 = some (tyX5 k) := by decide +kernel
abbrev cX5_init : ByteArray := prog_7_method_1_code
def yX5_init : MethodName := ⟨RX5, "<init>", "()V"⟩
abbrev cX5_hasRoom : ByteArray := prog_7_method_2_code
def yX5_hasRoom : MethodName := ⟨RX5, "hasRoom", "()Z"⟩
abbrev cX5_append : ByteArray := prog_7_method_3_code
def yX5_append : MethodName := ⟨RX5, "append", "(I)V"⟩
abbrev cX5_start : ByteArray := prog_7_method_4_code
def yX5_start : MethodName := ⟨RX5, "start", "(I)Z"⟩
abbrev cX5_scan : ByteArray := prog_7_method_5_code
def yX5_scan : MethodName := ⟨RX5, "scan", "()V"⟩
abbrev cX5_addToken : ByteArray := prog_7_method_6_code
def yX5_addToken : MethodName := ⟨RX5, "addToken", "(III)V"⟩
abbrev cX5_runEnd : ByteArray := prog_7_method_7_code
def yX5_runEnd : MethodName := ⟨RX5, "runEnd", "(I)I"⟩
abbrev cX5_isLetter : ByteArray := prog_7_method_8_code
def yX5_isLetter : MethodName := ⟨RX5, "isLetter", "(I)Z"⟩
abbrev cX5_isDigit : ByteArray := prog_7_method_9_code
def yX5_isDigit : MethodName := ⟨RX5, "isDigit", "(I)Z"⟩
abbrev cX5_number : ByteArray := prog_7_method_10_code
def yX5_number : MethodName := ⟨RX5, "number", "(II)I"⟩
abbrev cX5_keyword : ByteArray := prog_7_method_11_code
def yX5_keyword : MethodName := ⟨RX5, "keyword", "(II)I"⟩
abbrev cX5_token : ByteArray := prog_7_method_12_code
def yX5_token : MethodName := ⟨RX5, "token", "()I"⟩
abbrev cX5_value : ByteArray := prog_7_method_13_code
def yX5_value : MethodName := ⟨RX5, "value", "()I"⟩
abbrev cX5_refuse : ByteArray := prog_7_method_14_code
def yX5_refuse : MethodName := ⟨RX5, "refuse", "(I)Z"⟩
abbrev cX5_pass : ByteArray := prog_7_method_15_code
def yX5_pass : MethodName := ⟨RX5, "pass", "(I)Z"⟩
abbrev cX5_readLaw : ByteArray := prog_7_method_16_code
def yX5_readLaw : MethodName := ⟨RX5, "readLaw", "(Z)Z"⟩
abbrev cX5_readEither : ByteArray := prog_7_method_17_code
def yX5_readEither : MethodName := ⟨RX5, "readEither", "(I)Z"⟩
abbrev cX5_emitPending : ByteArray := prog_7_method_18_code
def yX5_emitPending : MethodName := ⟨RX5, "emitPending", "(I)V"⟩
abbrev cX5_readCondition : ByteArray := prog_7_method_19_code
def yX5_readCondition : MethodName := ⟨RX5, "readCondition", "(I)Z"⟩
abbrev cX5_readSum : ByteArray := prog_7_method_20_code
def yX5_readSum : MethodName := ⟨RX5, "readSum", "()Z"⟩
abbrev cX5_readUnit : ByteArray := prog_7_method_21_code
def yX5_readUnit : MethodName := ⟨RX5, "readUnit", "(Z)Z"⟩
abbrev cX5_readScenes : ByteArray := prog_7_method_22_code
def yX5_readScenes : MethodName := ⟨RX5, "readScenes", "(I)Z"⟩
abbrev cX5_readWears : ByteArray := prog_7_method_23_code
def yX5_readWears : MethodName := ⟨RX5, "readWears", "(I)Z"⟩
def RX6 : String := "CostumeStock$Script"
def TX6 : u_T := fun k => match k with
  | 0 => ("CostumeStock$Script", "minutes", "[I", true)
  | 1 => ("CostumeStock$Script", "scene", "[I", true)
  | 2 => ("CostumeStock$Script", "actor", "[I", true)
  | 3 => ("CostumeStock$Script", "kind", "[I", true)
  | 4 => ("CostumeStock$Script", "scenes", "I", false)
  | _ => ("CostumeStock$Script", "wears", "I", false)
def tyX6 : Nat → FieldType := fun k => match k with
  | 0 => .array .int
  | 1 => .array .int
  | 2 => .array .int
  | 3 => .array .int
  | 4 => .int
  | _ => .int
abbrev wsX60 : List Cond := u_ws RX6 TX6 6
theorem nmX6 : ∀ a, a < 6 → ∀ b, b < 6 → a ≠ b → (TX6 a).2.1 ≠ (TX6 b).2.1 := by decide +kernel
theorem tyX6_ok : ∀ k, k < 6 → parseFieldDescriptor (TX6 k).2.2.1 = some (tyX6 k) := by decide +kernel
abbrev cX6_init : ByteArray := prog_8_method_1_code
def yX6_init : MethodName := ⟨RX6, "<init>", "()V"⟩
abbrev cX6_copyFrom : ByteArray := prog_8_method_2_code
def yX6_copyFrom : MethodName := ⟨RX6, "copyFrom", "(LCostumeStock$Script;)V"⟩
abbrev cX6_clear : ByteArray := prog_8_method_3_code
def yX6_clear : MethodName := ⟨RX6, "clear", "()V"⟩
def RX7 : String := "CostumeStock$Stock"
def TX7 : u_T := fun k => match k with
  | 0 => ("CostumeStock$Stock", "dirt", "[I", true)
  | 1 => ("CostumeStock$Stock", "torn", "[I", true)
  | 2 => ("CostumeStock$Stock", "worn", "[I", true)
  | 3 => ("CostumeStock$Stock", "holder", "[I", true)
  | 4 => ("CostumeStock$Stock", "slot", "[I", true)
  | 5 => ("CostumeStock$Stock", "due", "[I", true)
  | 6 => ("CostumeStock$Stock", "deposit", "[I", true)
  | 7 => ("CostumeStock$Stock", "now", "[I", true)
  | 8 => ("CostumeStock$Stock", "purse", "I", false)
  | 9 => ("CostumeStock$Stock", "day", "I", false)
  | 10 => ("CostumeStock$Stock", "draws", "I", false)
  | _ => ("CostumeStock$Stock", "lines", "I", false)
def tyX7 : Nat → FieldType := fun k => match k with
  | 0 => .array .int
  | 1 => .array .int
  | 2 => .array .int
  | 3 => .array .int
  | 4 => .array .int
  | 5 => .array .int
  | 6 => .array .int
  | 7 => .array .int
  | 8 => .int
  | 9 => .int
  | 10 => .int
  | _ => .int
abbrev wsX70 : List Cond := u_ws RX7 TX7 12
theorem nmX7 : ∀ a, a < 12 → ∀ b, b < 12 → a ≠ b → (TX7 a).2.1 ≠ (TX7 b).2.1 := by decide +kernel
theorem tyX7_ok : ∀ k, k < 12 → parseFieldDescriptor (TX7 k).2.2.1 = some (tyX7 k) := by decide +kernel
abbrev cX7_init : ByteArray := prog_9_method_1_code
def yX7_init : MethodName := ⟨RX7, "<init>", "()V"⟩
abbrev cX7_copyFrom : ByteArray := prog_9_method_2_code
def yX7_copyFrom : MethodName := ⟨RX7, "copyFrom", "(LCostumeStock$Stock;)V"⟩
def RX8 : String := "CostumeStock$Wardrobe"
def TX8 : u_T := fun k => match k with
  | 0 => ("CostumeStock$Wardrobe", "dressed", "[I", true)
  | 1 => ("CostumeStock$Wardrobe", "things", "I", false)
  | 2 => ("CostumeStock$Wardrobe", "size", "I", false)
  | 3 => ("CostumeStock$Wardrobe", "most", "I", false)
  | _ => ("CostumeStock$Wardrobe", "set", "I", false)
def tyX8 : Nat → FieldType := fun k => match k with
  | 0 => .array .int
  | 1 => .int
  | 2 => .int
  | 3 => .int
  | _ => .int
abbrev wsX80 : List Cond := u_ws RX8 TX8 5
theorem nmX8 : ∀ a, a < 5 → ∀ b, b < 5 → a ≠ b → (TX8 a).2.1 ≠ (TX8 b).2.1 := by decide +kernel
theorem tyX8_ok : ∀ k, k < 5 → parseFieldDescriptor (TX8 k).2.2.1 = some (tyX8 k) := by decide +kernel
abbrev cX8_init : ByteArray := prog_10_method_1_code
def yX8_init : MethodName := ⟨RX8, "<init>", "()V"⟩
abbrev cX8_find : ByteArray := prog_10_method_2_code
def yX8_find : MethodName := ⟨RX8, "find", "(LCostumeStock$House;)V"⟩
abbrev cX8_extend : ByteArray := prog_10_method_3_code
def yX8_extend : MethodName := ⟨RX8, "extend", "(IIII)V"⟩
abbrev cX8_consider : ByteArray := prog_10_method_4_code
def yX8_consider : MethodName := ⟨RX8, "consider", "(III)V"⟩
def RX9 : String := "CostumeStock"
def TX9 : u_T := fun k => match k with
  | 0 => ("CostumeStock", "house", "LCostumeStock$House;", true)
  | 1 => ("CostumeStock", "picture", "LCostumeStock$House;", true)
  | 2 => ("CostumeStock", "kept", "LCostumeStock$Kept;", true)
  | 3 => ("CostumeStock", "reader", "LCostumeStock$Reader;", true)
  | 4 => ("CostumeStock", "planner", "LCostumeStock$Planner;", true)
  | 5 => ("CostumeStock", "earnings", "LCostumeStock$Earnings;", true)
  | 6 => ("CostumeStock", "wardrobe", "LCostumeStock$Wardrobe;", true)
  | _ => ("CostumeStock", "imaged", "Z", false)
def tyX9 : Nat → FieldType := fun k => match k with
  | 0 => .object "CostumeStock$House"
  | 1 => .object "CostumeStock$House"
  | 2 => .object "CostumeStock$Kept"
  | 3 => .object "CostumeStock$Reader"
  | 4 => .object "CostumeStock$Planner"
  | 5 => .object "CostumeStock$Earnings"
  | 6 => .object "CostumeStock$Wardrobe"
  | _ => .boolean
abbrev wsX90 : List Cond := u_ws RX9 TX9 8
theorem nmX9 : ∀ a, a < 8 → ∀ b, b < 8 → a ≠ b → (TX9 a).2.1 ≠ (TX9 b).2.1 := by decide +kernel
theorem tyX9_ok : ∀ k, k < 8 → parseFieldDescriptor (TX9 k).2.2.1 = some (tyX9 k) := by decide +kernel
abbrev cX9_init : ByteArray := prog_1_method_1_code
def yX9_init : MethodName := ⟨RX9, "<init>", "()V"⟩
abbrev cX9_state : ByteArray := prog_1_method_2_code
def yX9_state : MethodName := ⟨RX9, "state", "(I)I"⟩
abbrev cX9_thing : ByteArray := prog_1_method_3_code
def yX9_thing : MethodName := ⟨RX9, "thing", "(II)I"⟩
abbrev cX9_actor : ByteArray := prog_1_method_4_code
def yX9_actor : MethodName := ⟨RX9, "actor", "()I"⟩
abbrev cX9_rack : ByteArray := prog_1_method_5_code
def yX9_rack : MethodName := ⟨RX9, "rack", "(I)I"⟩
abbrev cX9_measure : ByteArray := prog_1_method_6_code
def yX9_measure : MethodName := ⟨RX9, "measure", "(ZIII)Z"⟩
abbrev cX9_set : ByteArray := prog_1_method_7_code
def yX9_set : MethodName := ⟨RX9, "set", "(III)Z"⟩
abbrev cX9_mostToSet : ByteArray := prog_1_method_8_code
def yX9_mostToSet : MethodName := ⟨RX9, "mostToSet", "(I)I"⟩
abbrev cX9_rowToSet : ByteArray := prog_1_method_9_code
def yX9_rowToSet : MethodName := ⟨RX9, "rowToSet", "(I)[I"⟩
abbrev cX9_wish : ByteArray := prog_1_method_10_code
def yX9_wish : MethodName := ⟨RX9, "wish", "(IIII)I"⟩
abbrev cX9_feed : ByteArray := prog_1_method_11_code
def yX9_feed : MethodName := ⟨RX9, "feed", "(IIIII)I"⟩
abbrev cX9_end : ByteArray := prog_1_method_12_code
def yX9_end : MethodName := ⟨RX9, "end", "(I)Z"⟩
abbrev cX9_text : ByteArray := prog_1_method_13_code
def yX9_text : MethodName := ⟨RX9, "text", "(I)I"⟩
abbrev cX9_fault : ByteArray := prog_1_method_14_code
def yX9_fault : MethodName := ⟨RX9, "fault", "(I)I"⟩
abbrev cX9_put : ByteArray := prog_1_method_15_code
def yX9_put : MethodName := ⟨RX9, "put", "(III)Z"⟩
abbrev cX9_take : ByteArray := prog_1_method_16_code
def yX9_take : MethodName := ⟨RX9, "take", "(II)I"⟩
abbrev cX9_alter : ByteArray := prog_1_method_17_code
def yX9_alter : MethodName := ⟨RX9, "alter", "(II)I"⟩
abbrev cX9_care : ByteArray := prog_1_method_18_code
def yX9_care : MethodName := ⟨RX9, "care", "(IZ)Z"⟩
abbrev cX9_hire : ByteArray := prog_1_method_19_code
def yX9_hire : MethodName := ⟨RX9, "hire", "(III)I"⟩
abbrev cX9_back : ByteArray := prog_1_method_20_code
def yX9_back : MethodName := ⟨RX9, "back", "(II)I"⟩
abbrev cX9_days : ByteArray := prog_1_method_21_code
def yX9_days : MethodName := ⟨RX9, "days", "(I)I"⟩
abbrev cX9_undo : ByteArray := prog_1_method_22_code
def yX9_undo : MethodName := ⟨RX9, "undo", "()Z"⟩
abbrev cX9_image : ByteArray := prog_1_method_23_code
def yX9_image : MethodName := ⟨RX9, "image", "(Z)Z"⟩
abbrev cX9_startAct : ByteArray := prog_1_method_24_code
def yX9_startAct : MethodName := ⟨RX9, "startAct", "()V"⟩
abbrev cX9_forgetActs : ByteArray := prog_1_method_25_code
def yX9_forgetActs : MethodName := ⟨RX9, "forgetActs", "()V"⟩
abbrev cX9_of : ByteArray := prog_1_method_26_code
def yX9_of : MethodName := ⟨RX9, "of", "(II)I"⟩
abbrev cX9_at : ByteArray := prog_1_method_27_code
def yX9_at : MethodName := ⟨RX9, "at", "(III)I"⟩
abbrev cX9_body : ByteArray := prog_1_method_28_code
def yX9_body : MethodName := ⟨RX9, "body", "(II)I"⟩
abbrev cX9_slot : ByteArray := prog_1_method_29_code
def yX9_slot : MethodName := ⟨RX9, "slot", "(II)I"⟩
abbrev cX9_book : ByteArray := prog_1_method_30_code
def yX9_book : MethodName := ⟨RX9, "book", "(II)I"⟩
abbrev cX9_look : ByteArray := prog_1_method_31_code
def yX9_look : MethodName := ⟨RX9, "look", "(I)I"⟩
abbrev cX9_lookInRow : ByteArray := prog_1_method_32_code
def yX9_lookInRow : MethodName := ⟨RX9, "lookInRow", "(I)I"⟩
abbrev cX9_wear : ByteArray := prog_1_method_33_code
def yX9_wear : MethodName := ⟨RX9, "wear", "(II)I"⟩
abbrev cX9_fits : ByteArray := prog_1_method_34_code
def yX9_fits : MethodName := ⟨RX9, "fits", "(II)I"⟩
abbrev cX9_cost : ByteArray := prog_1_method_35_code
def yX9_cost : MethodName := ⟨RX9, "cost", "(II)I"⟩
abbrev cX9_suits : ByteArray := prog_1_method_36_code
def yX9_suits : MethodName := ⟨RX9, "suits", "(II)I"⟩
abbrev cX9_best : ByteArray := prog_1_method_37_code
def yX9_best : MethodName := ⟨RX9, "best", "(II)I"⟩
abbrev cX9_dresses : ByteArray := prog_1_method_38_code
def yX9_dresses : MethodName := ⟨RX9, "dresses", "(I)I"⟩
abbrev cX9_alone : ByteArray := prog_1_method_39_code
def yX9_alone : MethodName := ⟨RX9, "alone", "(I)I"⟩
abbrev cX9_tour : ByteArray := prog_1_method_40_code
def yX9_tour : MethodName := ⟨RX9, "tour", "(I)I"⟩
abbrev cX9_holds : ByteArray := prog_1_method_41_code
def yX9_holds : MethodName := ⟨RX9, "holds", "(II)I"⟩
abbrev cX9_path : ByteArray := prog_1_method_42_code
def yX9_path : MethodName := ⟨RX9, "path", "(II)I"⟩
abbrev cX9_mends : ByteArray := prog_1_method_43_code
def yX9_mends : MethodName := ⟨RX9, "mends", "(II)I"⟩
abbrev cX9_earns : ByteArray := prog_1_method_44_code
def yX9_earns : MethodName := ⟨RX9, "earns", "(I)I"⟩
abbrev cX9_share : ByteArray := prog_1_method_45_code
def yX9_share : MethodName := ⟨RX9, "share", "(II)I"⟩
abbrev cX9_plan : ByteArray := prog_1_method_46_code
def yX9_plan : MethodName := ⟨RX9, "plan", "(I)I"⟩
abbrev cX9_swaps : ByteArray := prog_1_method_47_code
def yX9_swaps : MethodName := ⟨RX9, "swaps", "(I)I"⟩
abbrev cX9_isKind : ByteArray := prog_1_method_48_code
def yX9_isKind : MethodName := ⟨RX9, "isKind", "(I)Z"⟩
abbrev cX9_isMeasure : ByteArray := prog_1_method_49_code
def yX9_isMeasure : MethodName := ⟨RX9, "isMeasure", "(I)Z"⟩
abbrev cX9_has : ByteArray := prog_1_method_50_code
def yX9_has : MethodName := ⟨RX9, "has", "(II)Z"⟩
abbrev cX9_copyRow : ByteArray := prog_1_method_51_code
def yX9_copyRow : MethodName := ⟨RX9, "copyRow", "([I[I)V"⟩
def RX10 : String := "CostumeStockModel"
def TX10 : u_T := fun k => match k with
  | 0 => ("CostumeStockModel", "w", "[I", true)
  | 1 => ("CostumeStockModel", "kept", "[I", true)
  | 2 => ("CostumeStockModel", "back", "[I", true)
  | 3 => ("CostumeStockModel", "backMany", "I", false)
  | 4 => ("CostumeStockModel", "hasImage", "Z", false)
  | 5 => ("CostumeStockModel", "freshLine", "[I", true)
  | 6 => ("CostumeStockModel", "freshStep", "[I", true)
  | 7 => ("CostumeStockModel", "freshScene", "[I", true)
  | 8 => ("CostumeStockModel", "freshWear", "[I", true)
  | 9 => ("CostumeStockModel", "tape", "[I", true)
  | 10 => ("CostumeStockModel", "pile", "[I", true)
  | 11 => ("CostumeStockModel", "facts", "[I", true)
  | 12 => ("CostumeStockModel", "reading", "I", false)
  | 13 => ("CostumeStockModel", "telling", "I", false)
  | 14 => ("CostumeStockModel", "lines", "I", false)
  | 15 => ("CostumeStockModel", "steps", "I", false)
  | 16 => ("CostumeStockModel", "scenes", "I", false)
  | 17 => ("CostumeStockModel", "wears", "I", false)
  | 18 => ("CostumeStockModel", "taped", "I", false)
  | 19 => ("CostumeStockModel", "at", "I", false)
  | 20 => ("CostumeStockModel", "token", "I", false)
  | 21 => ("CostumeStockModel", "tokenAt", "I", false)
  | 22 => ("CostumeStockModel", "value", "I", false)
  | 23 => ("CostumeStockModel", "wrong", "I", false)
  | 24 => ("CostumeStockModel", "wrongAt", "I", false)
  | 25 => ("CostumeStockModel", "faultKind", "I", false)
  | 26 => ("CostumeStockModel", "depth", "I", false)
  | 27 => ("CostumeStockModel", "faultPlace", "I", false)
  | 28 => ("CostumeStockModel", "numbered", "I", false)
  | 29 => ("CostumeStockModel", "worn", "[I", true)
  | 30 => ("CostumeStockModel", "planned", "[I", true)
  | 31 => ("CostumeStockModel", "bound", "[I", true)
  | 32 => ("CostumeStockModel", "least", "I", false)
  | 33 => ("CostumeStockModel", "hasPlan", "Z", false)
  | 34 => ("CostumeStockModel", "bannedWear", "I", false)
  | 35 => ("CostumeStockModel", "bannedThing", "I", false)
  | 36 => ("CostumeStockModel", "dressed", "[I", true)
  | _ => ("CostumeStockModel", "mendCost", "[I", true)
def tyX10 : Nat → FieldType := fun k => match k with
  | 0 => .array .int
  | 1 => .array .int
  | 2 => .array .int
  | 3 => .int
  | 4 => .boolean
  | 5 => .array .int
  | 6 => .array .int
  | 7 => .array .int
  | 8 => .array .int
  | 9 => .array .int
  | 10 => .array .int
  | 11 => .array .int
  | 12 => .int
  | 13 => .int
  | 14 => .int
  | 15 => .int
  | 16 => .int
  | 17 => .int
  | 18 => .int
  | 19 => .int
  | 20 => .int
  | 21 => .int
  | 22 => .int
  | 23 => .int
  | 24 => .int
  | 25 => .int
  | 26 => .int
  | 27 => .int
  | 28 => .int
  | 29 => .array .int
  | 30 => .array .int
  | 31 => .array .int
  | 32 => .int
  | 33 => .boolean
  | 34 => .int
  | 35 => .int
  | 36 => .array .int
  | _ => .array .int
abbrev wsX100 : List Cond := u_ws RX10 TX10 38
theorem nmX10 : ∀ a, a < 38 → ∀ b, b < 38 → a ≠ b → (TX10 a).2.1 ≠ (TX10 b).2.1 := by decide +kernel
theorem tyX10_ok : ∀ k, k < 38 → parseFieldDescriptor (TX10 k).2.2.1 = some (tyX10 k) := by decide +kernel
abbrev cX10_init : ByteArray := prog_12_method_1_code
def yX10_init : MethodName := ⟨RX10, "<init>", "()V"⟩
abbrev cX10_isIn : ByteArray := prog_12_method_2_code
def yX10_isIn : MethodName := ⟨RX10, "isIn", "(III)Z"⟩
abbrev cX10_lesser : ByteArray := prog_12_method_3_code
def yX10_lesser : MethodName := ⟨RX10, "lesser", "(II)I"⟩
abbrev cX10_greater : ByteArray := prog_12_method_4_code
def yX10_greater : MethodName := ⟨RX10, "greater", "(II)I"⟩
abbrev cX10_apart : ByteArray := prog_12_method_5_code
def yX10_apart : MethodName := ⟨RX10, "apart", "(II)I"⟩
abbrev cX10_isThing : ByteArray := prog_12_method_6_code
def yX10_isThing : MethodName := ⟨RX10, "isThing", "(I)Z"⟩
abbrev cX10_isActor : ByteArray := prog_12_method_7_code
def yX10_isActor : MethodName := ⟨RX10, "isActor", "(I)Z"⟩
abbrev cX10_of0 : ByteArray := prog_12_method_8_code
def yX10_of0 : MethodName := ⟨RX10, "of0", "(II)I"⟩
abbrev cX10_things : ByteArray := prog_12_method_9_code
def yX10_things : MethodName := ⟨RX10, "things", "(III)V"⟩
abbrev cX10_bodyOf : ByteArray := prog_12_method_10_code
def yX10_bodyOf : MethodName := ⟨RX10, "bodyOf", "(II)I"⟩
abbrev cX10_isTrunk : ByteArray := prog_12_method_11_code
def yX10_isTrunk : MethodName := ⟨RX10, "isTrunk", "(I)Z"⟩
abbrev cX10_forgets : ByteArray := prog_12_method_12_code
def yX10_forgets : MethodName := ⟨RX10, "forgets", "()V"⟩
abbrev cX10_state : ByteArray := prog_12_method_13_code
def yX10_state : MethodName := ⟨RX10, "state", "(I)I"⟩
abbrev cX10_draw : ByteArray := prog_12_method_14_code
def yX10_draw : MethodName := ⟨RX10, "draw", "(I)I"⟩
abbrev cX10_thing : ByteArray := prog_12_method_15_code
def yX10_thing : MethodName := ⟨RX10, "thing", "(II)I"⟩
abbrev cX10_actor : ByteArray := prog_12_method_16_code
def yX10_actor : MethodName := ⟨RX10, "actor", "()I"⟩
abbrev cX10_rack : ByteArray := prog_12_method_17_code
def yX10_rack : MethodName := ⟨RX10, "rack", "(I)I"⟩
abbrev cX10_measure : ByteArray := prog_12_method_18_code
def yX10_measure : MethodName := ⟨RX10, "measure", "(ZIII)Z"⟩
abbrev cX10_mostOf : ByteArray := prog_12_method_19_code
def yX10_mostOf : MethodName := ⟨RX10, "mostOf", "(I)I"⟩
abbrev cX10_set : ByteArray := prog_12_method_20_code
def yX10_set : MethodName := ⟨RX10, "set", "(III)Z"⟩
abbrev cX10_feed : ByteArray := prog_12_method_21_code
def yX10_feed : MethodName := ⟨RX10, "feed", "(IIIII)I"⟩
abbrev cX10_end : ByteArray := prog_12_method_22_code
def yX10_end : MethodName := ⟨RX10, "end", "(I)Z"⟩
abbrev cX10_see : ByteArray := prog_12_method_23_code
def yX10_see : MethodName := ⟨RX10, "see", "(I)I"⟩
abbrev cX10_isLetter : ByteArray := prog_12_method_24_code
def yX10_isLetter : MethodName := ⟨RX10, "isLetter", "(I)Z"⟩
abbrev cX10_isDigit : ByteArray := prog_12_method_25_code
def yX10_isDigit : MethodName := ⟨RX10, "isDigit", "(I)Z"⟩
abbrev cX10_is : ByteArray := prog_12_method_26_code
def yX10_is : MethodName := ⟨RX10, "is", "(Ljava/lang/String;)Z"⟩
abbrev cX10_asked : ByteArray := prog_12_method_27_code
def yX10_asked : MethodName := ⟨RX10, "asked", "()I"⟩
abbrev cX10_lawWord : ByteArray := prog_12_method_28_code
def yX10_lawWord : MethodName := ⟨RX10, "lawWord", "()I"⟩
abbrev cX10_sceneWord : ByteArray := prog_12_method_29_code
def yX10_sceneWord : MethodName := ⟨RX10, "sceneWord", "()I"⟩
abbrev cX10_word : ByteArray := prog_12_method_30_code
def yX10_word : MethodName := ⟨RX10, "word", "()I"⟩
abbrev cX10_next0 : ByteArray := prog_12_method_31_code
def yX10_next0 : MethodName := ⟨RX10, "next0", "()V"⟩
abbrev cX10_bad : ByteArray := prog_12_method_32_code
def yX10_bad : MethodName := ⟨RX10, "bad", "(I)Z"⟩
abbrev cX10_need : ByteArray := prog_12_method_33_code
def yX10_need : MethodName := ⟨RX10, "need", "(I)Z"⟩
abbrev cX10_lay : ByteArray := prog_12_method_34_code
def yX10_lay : MethodName := ⟨RX10, "lay", "(II)V"⟩
abbrev cX10_opens : ByteArray := prog_12_method_35_code
def yX10_opens : MethodName := ⟨RX10, "opens", "()Z"⟩
abbrev cX10_sumUp : ByteArray := prog_12_method_36_code
def yX10_sumUp : MethodName := ⟨RX10, "sumUp", "()Z"⟩
abbrev cX10_product : ByteArray := prog_12_method_37_code
def yX10_product : MethodName := ⟨RX10, "product", "()Z"⟩
abbrev cX10_unit : ByteArray := prog_12_method_38_code
def yX10_unit : MethodName := ⟨RX10, "unit", "()Z"⟩
abbrev cX10_any : ByteArray := prog_12_method_39_code
def yX10_any : MethodName := ⟨RX10, "any", "()Z"⟩
abbrev cX10_every : ByteArray := prog_12_method_40_code
def yX10_every : MethodName := ⟨RX10, "every", "()Z"⟩
abbrev cX10_oneTest : ByteArray := prog_12_method_41_code
def yX10_oneTest : MethodName := ⟨RX10, "oneTest", "()Z"⟩
abbrev cX10_aLine : ByteArray := prog_12_method_42_code
def yX10_aLine : MethodName := ⟨RX10, "aLine", "()Z"⟩
abbrev cX10_readsLaw : ByteArray := prog_12_method_43_code
def yX10_readsLaw : MethodName := ⟨RX10, "readsLaw", "()Z"⟩
abbrev cX10_number : ByteArray := prog_12_method_44_code
def yX10_number : MethodName := ⟨RX10, "number", "(II)Z"⟩
abbrev cX10_isInScene : ByteArray := prog_12_method_45_code
def yX10_isInScene : MethodName := ⟨RX10, "isInScene", "(I)Z"⟩
abbrev cX10_aWear : ByteArray := prog_12_method_46_code
def yX10_aWear : MethodName := ⟨RX10, "aWear", "()Z"⟩
abbrev cX10_aScene : ByteArray := prog_12_method_47_code
def yX10_aScene : MethodName := ⟨RX10, "aScene", "()Z"⟩
abbrev cX10_readsScenes : ByteArray := prog_12_method_48_code
def yX10_readsScenes : MethodName := ⟨RX10, "readsScenes", "()Z"⟩
abbrev cX10_putsLaw : ByteArray := prog_12_method_49_code
def yX10_putsLaw : MethodName := ⟨RX10, "putsLaw", "(I)I"⟩
abbrev cX10_putsScenes : ByteArray := prog_12_method_50_code
def yX10_putsScenes : MethodName := ⟨RX10, "putsScenes", "()I"⟩
abbrev cX10_text : ByteArray := prog_12_method_51_code
def yX10_text : MethodName := ⟨RX10, "text", "(I)I"⟩
abbrev cX10_fault : ByteArray := prog_12_method_52_code
def yX10_fault : MethodName := ⟨RX10, "fault", "(I)I"⟩
abbrev cX10_both : ByteArray := prog_12_method_53_code
def yX10_both : MethodName := ⟨RX10, "both", "(III)I"⟩
abbrev cX10_comesTo : ByteArray := prog_12_method_54_code
def yX10_comesTo : MethodName := ⟨RX10, "comesTo", "(III)I"⟩
abbrev cX10_isSo : ByteArray := prog_12_method_55_code
def yX10_isSo : MethodName := ⟨RX10, "isSo", "(II)Z"⟩
abbrev cX10_says : ByteArray := prog_12_method_56_code
def yX10_says : MethodName := ⟨RX10, "says", "(IIII)I"⟩
abbrev cX10_lays : ByteArray := prog_12_method_57_code
def yX10_lays : MethodName := ⟨RX10, "lays", "(II)V"⟩
abbrev cX10_costOf : ByteArray := prog_12_method_58_code
def yX10_costOf : MethodName := ⟨RX10, "costOf", "(IIIZ)I"⟩
abbrev cX10_change : ByteArray := prog_12_method_59_code
def yX10_change : MethodName := ⟨RX10, "change", "(II)I"⟩
abbrev cX10_isOutItself : ByteArray := prog_12_method_60_code
def yX10_isOutItself : MethodName := ⟨RX10, "isOutItself", "(I)Z"⟩
abbrev cX10_isTrunkHolder : ByteArray := prog_12_method_61_code
def yX10_isTrunkHolder : MethodName := ⟨RX10, "isTrunkHolder", "(I)Z"⟩
abbrev cX10_outermost : ByteArray := prog_12_method_62_code
def yX10_outermost : MethodName := ⟨RX10, "outermost", "(I)I"⟩
abbrev cX10_isOut : ByteArray := prog_12_method_63_code
def yX10_isOut : MethodName := ⟨RX10, "isOut", "(I)Z"⟩
abbrev cX10_isInside : ByteArray := prog_12_method_64_code
def yX10_isInside : MethodName := ⟨RX10, "isInside", "(II)Z"⟩
abbrev cX10_inside : ByteArray := prog_12_method_65_code
def yX10_inside : MethodName := ⟨RX10, "inside", "(I)I"⟩
abbrev cX10_deep : ByteArray := prog_12_method_66_code
def yX10_deep : MethodName := ⟨RX10, "deep", "(I)I"⟩
abbrev cX10_isHolder : ByteArray := prog_12_method_67_code
def yX10_isHolder : MethodName := ⟨RX10, "isHolder", "(I)Z"⟩
abbrev cX10_slotsOf : ByteArray := prog_12_method_68_code
def yX10_slotsOf : MethodName := ⟨RX10, "slotsOf", "(I)I"⟩
abbrev cX10_isSlot : ByteArray := prog_12_method_69_code
def yX10_isSlot : MethodName := ⟨RX10, "isSlot", "(II)Z"⟩
abbrev cX10_inSlot : ByteArray := prog_12_method_70_code
def yX10_inSlot : MethodName := ⟨RX10, "inSlot", "(II)I"⟩
abbrev cX10_isHolderOut : ByteArray := prog_12_method_71_code
def yX10_isHolderOut : MethodName := ⟨RX10, "isHolderOut", "(I)Z"⟩
abbrev cX10_deepWith : ByteArray := prog_12_method_72_code
def yX10_deepWith : MethodName := ⟨RX10, "deepWith", "(II)I"⟩
abbrev cX10_keeps : ByteArray := prog_12_method_73_code
def yX10_keeps : MethodName := ⟨RX10, "keeps", "()V"⟩
abbrev cX10_undo : ByteArray := prog_12_method_74_code
def yX10_undo : MethodName := ⟨RX10, "undo", "()Z"⟩
abbrev cX10_notes : ByteArray := prog_12_method_75_code
def yX10_notes : MethodName := ⟨RX10, "notes", "(II)V"⟩
abbrev cX10_put : ByteArray := prog_12_method_76_code
def yX10_put : MethodName := ⟨RX10, "put", "(III)Z"⟩
abbrev cX10_laysDown : ByteArray := prog_12_method_77_code
def yX10_laysDown : MethodName := ⟨RX10, "laysDown", "(I)V"⟩
abbrev cX10_take : ByteArray := prog_12_method_78_code
def yX10_take : MethodName := ⟨RX10, "take", "(II)I"⟩
abbrev cX10_goalOf : ByteArray := prog_12_method_79_code
def yX10_goalOf : MethodName := ⟨RX10, "goalOf", "(III)I"⟩
abbrev cX10_costBy : ByteArray := prog_12_method_80_code
def yX10_costBy : MethodName := ⟨RX10, "costBy", "(II)I"⟩
abbrev cX10_fitsTo : ByteArray := prog_12_method_81_code
def yX10_fitsTo : MethodName := ⟨RX10, "fitsTo", "(II)I"⟩
abbrev cX10_alter : ByteArray := prog_12_method_82_code
def yX10_alter : MethodName := ⟨RX10, "alter", "(II)I"⟩
abbrev cX10_care : ByteArray := prog_12_method_83_code
def yX10_care : MethodName := ⟨RX10, "care", "(IZ)Z"⟩
abbrev cX10_hire : ByteArray := prog_12_method_84_code
def yX10_hire : MethodName := ⟨RX10, "hire", "(III)I"⟩
abbrev cX10_back : ByteArray := prog_12_method_85_code
def yX10_back : MethodName := ⟨RX10, "back", "(II)I"⟩
abbrev cX10_isWornOut : ByteArray := prog_12_method_86_code
def yX10_isWornOut : MethodName := ⟨RX10, "isWornOut", "(I)Z"⟩
abbrev cX10_days : ByteArray := prog_12_method_87_code
def yX10_days : MethodName := ⟨RX10, "days", "(I)I"⟩
abbrev cX10_of : ByteArray := prog_12_method_88_code
def yX10_of : MethodName := ⟨RX10, "of", "(II)I"⟩
abbrev cX10_at : ByteArray := prog_12_method_89_code
def yX10_at : MethodName := ⟨RX10, "at", "(III)I"⟩
abbrev cX10_body : ByteArray := prog_12_method_90_code
def yX10_body : MethodName := ⟨RX10, "body", "(II)I"⟩
abbrev cX10_slot : ByteArray := prog_12_method_91_code
def yX10_slot : MethodName := ⟨RX10, "slot", "(II)I"⟩
abbrev cX10_book : ByteArray := prog_12_method_92_code
def yX10_book : MethodName := ⟨RX10, "book", "(II)I"⟩
abbrev cX10_canFit : ByteArray := prog_12_method_93_code
def yX10_canFit : MethodName := ⟨RX10, "canFit", "(II)Z"⟩
abbrev cX10_fits : ByteArray := prog_12_method_94_code
def yX10_fits : MethodName := ⟨RX10, "fits", "(II)I"⟩
abbrev cX10_cost : ByteArray := prog_12_method_95_code
def yX10_cost : MethodName := ⟨RX10, "cost", "(II)I"⟩
abbrev cX10_isOfKind : ByteArray := prog_12_method_96_code
def yX10_isOfKind : MethodName := ⟨RX10, "isOfKind", "(II)Z"⟩
abbrev cX10_suits : ByteArray := prog_12_method_97_code
def yX10_suits : MethodName := ⟨RX10, "suits", "(II)I"⟩
abbrev cX10_ofWear : ByteArray := prog_12_method_98_code
def yX10_ofWear : MethodName := ⟨RX10, "ofWear", "(II)I"⟩
abbrev cX10_wear : ByteArray := prog_12_method_99_code
def yX10_wear : MethodName := ⟨RX10, "wear", "(II)I"⟩
abbrev cX10_canWear : ByteArray := prog_12_method_100_code
def yX10_canWear : MethodName := ⟨RX10, "canWear", "(II)Z"⟩
abbrev cX10_leastOf : ByteArray := prog_12_method_101_code
def yX10_leastOf : MethodName := ⟨RX10, "leastOf", "(I)I"⟩
abbrev cX10_laysBounds : ByteArray := prog_12_method_102_code
def yX10_laysBounds : MethodName := ⟨RX10, "laysBounds", "()V"⟩
abbrev cX10_goTogether : ByteArray := prog_12_method_103_code
def yX10_goTogether : MethodName := ⟨RX10, "goTogether", "(IIII)Z"⟩
abbrev cX10_plans : ByteArray := prog_12_method_104_code
def yX10_plans : MethodName := ⟨RX10, "plans", "(II)V"⟩
abbrev cX10_changes : ByteArray := prog_12_method_105_code
def yX10_changes : MethodName := ⟨RX10, "changes", "()I"⟩
abbrev cX10_isInstead : ByteArray := prog_12_method_106_code
def yX10_isInstead : MethodName := ⟨RX10, "isInstead", "(II)Z"⟩
abbrev cX10_instead : ByteArray := prog_12_method_107_code
def yX10_instead : MethodName := ⟨RX10, "instead", "(I)I"⟩
abbrev cX10_laysPlan : ByteArray := prog_12_method_108_code
def yX10_laysPlan : MethodName := ⟨RX10, "laysPlan", "()Z"⟩
abbrev cX10_elseOf : ByteArray := prog_12_method_109_code
def yX10_elseOf : MethodName := ⟨RX10, "elseOf", "(I)I"⟩
abbrev cX10_uses : ByteArray := prog_12_method_110_code
def yX10_uses : MethodName := ⟨RX10, "uses", "(I)I"⟩
abbrev cX10_ofPlan : ByteArray := prog_12_method_111_code
def yX10_ofPlan : MethodName := ⟨RX10, "ofPlan", "(I)I"⟩
abbrev cX10_plan : ByteArray := prog_12_method_112_code
def yX10_plan : MethodName := ⟨RX10, "plan", "(I)I"⟩
abbrev cX10_best : ByteArray := prog_12_method_113_code
def yX10_best : MethodName := ⟨RX10, "best", "(II)I"⟩
abbrev cX10_dresses : ByteArray := prog_12_method_114_code
def yX10_dresses : MethodName := ⟨RX10, "dresses", "(I)I"⟩
abbrev cX10_rackOf : ByteArray := prog_12_method_115_code
def yX10_rackOf : MethodName := ⟨RX10, "rackOf", "(I)I"⟩
abbrev cX10_holds : ByteArray := prog_12_method_116_code
def yX10_holds : MethodName := ⟨RX10, "holds", "(II)I"⟩
abbrev cX10_path : ByteArray := prog_12_method_117_code
def yX10_path : MethodName := ⟨RX10, "path", "(II)I"⟩
abbrev cX10_laysDressed : ByteArray := prog_12_method_118_code
def yX10_laysDressed : MethodName := ⟨RX10, "laysDressed", "()V"⟩
abbrev cX10_count : ByteArray := prog_12_method_119_code
def yX10_count : MethodName := ⟨RX10, "count", "(I)I"⟩
abbrev cX10_dressedBy : ByteArray := prog_12_method_120_code
def yX10_dressedBy : MethodName := ⟨RX10, "dressedBy", "(I)I"⟩
abbrev cX10_tour : ByteArray := prog_12_method_121_code
def yX10_tour : MethodName := ⟨RX10, "tour", "(I)I"⟩
abbrev cX10_alone : ByteArray := prog_12_method_122_code
def yX10_alone : MethodName := ⟨RX10, "alone", "(I)I"⟩
abbrev cX10_mendAll : ByteArray := prog_12_method_123_code
def yX10_mendAll : MethodName := ⟨RX10, "mendAll", "(I)I"⟩
abbrev cX10_cheapest : ByteArray := prog_12_method_124_code
def yX10_cheapest : MethodName := ⟨RX10, "cheapest", "(I)I"⟩
abbrev cX10_mends : ByteArray := prog_12_method_125_code
def yX10_mends : MethodName := ⟨RX10, "mends", "(II)I"⟩
abbrev cX10_wornAt : ByteArray := prog_12_method_126_code
def yX10_wornAt : MethodName := ⟨RX10, "wornAt", "(III)I"⟩
abbrev cX10_canSwap : ByteArray := prog_12_method_127_code
def yX10_canSwap : MethodName := ⟨RX10, "canSwap", "(II)Z"⟩
abbrev cX10_swapCost : ByteArray := prog_12_method_128_code
def yX10_swapCost : MethodName := ⟨RX10, "swapCost", "(II)I"⟩
abbrev cX10_swaps : ByteArray := prog_12_method_129_code
def yX10_swaps : MethodName := ⟨RX10, "swaps", "(I)I"⟩
abbrev cX10_wish : ByteArray := prog_12_method_130_code
def yX10_wish : MethodName := ⟨RX10, "wish", "(IIII)I"⟩
abbrev cX10_areBoth : ByteArray := prog_12_method_131_code
def yX10_areBoth : MethodName := ⟨RX10, "areBoth", "(II)Z"⟩
abbrev cX10_paysFor : ByteArray := prog_12_method_132_code
def yX10_paysFor : MethodName := ⟨RX10, "paysFor", "(I)I"⟩
abbrev cX10_earns : ByteArray := prog_12_method_133_code
def yX10_earns : MethodName := ⟨RX10, "earns", "(I)I"⟩
abbrev cX10_late : ByteArray := prog_12_method_134_code
def yX10_late : MethodName := ⟨RX10, "late", "()I"⟩
abbrev cX10_share : ByteArray := prog_12_method_135_code
def yX10_share : MethodName := ⟨RX10, "share", "(II)I"⟩
abbrev cX10_image : ByteArray := prog_12_method_136_code
def yX10_image : MethodName := ⟨RX10, "image", "(Z)Z"⟩
abbrev cX10_look : ByteArray := prog_12_method_137_code
def yX10_look : MethodName := ⟨RX10, "look", "(I)I"⟩
def RJ11 : String := "java/lang/Character"
abbrev cJ11_isValidCodePoint_9a6ad : ByteArray := prog_13_method_11_code
def yJ11_isValidCodePoint_9a6ad : MethodName := ⟨RJ11, "isValidCodePoint", "(I)Z"⟩
abbrev cJ11_highSurrogate_5068e : ByteArray := prog_13_method_28_code
def yJ11_highSurrogate_5068e : MethodName := ⟨RJ11, "highSurrogate", "(I)C"⟩
abbrev cJ11_lowSurrogate_5068e : ByteArray := prog_13_method_29_code
def yJ11_lowSurrogate_5068e : MethodName := ⟨RJ11, "lowSurrogate", "(I)C"⟩
def RJ6 : String := "java/lang/Integer"
abbrev cJ6_bitCount_0f7a4 : ByteArray := prog_14_method_49_code
def yJ6_bitCount_0f7a4 : MethodName := ⟨RJ6, "bitCount", "(I)I"⟩
def RJ9 : String := "java/lang/Math"
abbrev cJ9_floorDiv_7cf53 : ByteArray := prog_15_method_47_code
def yJ9_floorDiv_7cf53 : MethodName := ⟨RJ9, "floorDiv", "(II)I"⟩
abbrev cJ9_floorMod_7cf53 : ByteArray := prog_15_method_50_code
def yJ9_floorMod_7cf53 : MethodName := ⟨RJ9, "floorMod", "(II)I"⟩
abbrev cJ9_abs_0f7a4 : ByteArray := prog_15_method_59_code
def yJ9_abs_0f7a4 : MethodName := ⟨RJ9, "abs", "(I)I"⟩
abbrev cJ9_max_7cf53 : ByteArray := prog_15_method_65_code
def yJ9_max_7cf53 : MethodName := ⟨RJ9, "max", "(II)I"⟩
abbrev cJ9_min_7cf53 : ByteArray := prog_15_method_69_code
def yJ9_min_7cf53 : MethodName := ⟨RJ9, "min", "(II)I"⟩
def RJ0 : String := "java/lang/String"
abbrev cJ0_length_8abf5 : ByteArray := prog_16_method_54_code
def yJ0_length_8abf5 : MethodName := ⟨RJ0, "length", "()I"⟩
abbrev cJ0_charAt_5068e : ByteArray := prog_16_method_56_code
def yJ0_charAt_5068e : MethodName := ⟨RJ0, "charAt", "(I)C"⟩
abbrev cJ0_indexOf_0f7a4 : ByteArray := prog_16_method_79_code
def yJ0_indexOf_0f7a4 : MethodName := ⟨RJ0, "indexOf", "(I)I"⟩
abbrev cJ0_indexOf_7cf53 : ByteArray := prog_16_method_80_code
def yJ0_indexOf_7cf53 : MethodName := ⟨RJ0, "indexOf", "(II)I"⟩
abbrev cJ0_coder_7d493 : ByteArray := prog_16_method_152_code
def yJ0_coder_7d493 : MethodName := ⟨RJ0, "coder", "()B"⟩
abbrev cJ0_isLatin1_aae02 : ByteArray := prog_16_method_154_code
def yJ0_isLatin1_aae02 : MethodName := ⟨RJ0, "isLatin1", "()Z"⟩
abbrev cJ0_checkIndex_df160 : ByteArray := prog_16_method_155_code
def yJ0_checkIndex_df160 : MethodName := ⟨RJ0, "checkIndex", "(II)V"⟩
abbrev cJ0_checkBoundsBeginEnd_23922 : ByteArray := prog_16_method_158_code
def yJ0_checkBoundsBeginEnd_23922 : MethodName := ⟨RJ0, "checkBoundsBeginEnd", "(III)V"⟩
def RJ1 : String := "java/lang/StringLatin1"
abbrev cJ1_charAt_3b067 : ByteArray := prog_17_method_2_code
def yJ1_charAt_3b067 : MethodName := ⟨RJ1, "charAt", "([BI)C"⟩
abbrev cJ1_canEncode_9a6ad : ByteArray := prog_17_method_4_code
def yJ1_canEncode_9a6ad : MethodName := ⟨RJ1, "canEncode", "(I)Z"⟩
abbrev cJ1_indexOf_4cfef : ByteArray := prog_17_method_22_code
def yJ1_indexOf_4cfef : MethodName := ⟨RJ1, "indexOf", "([BIII)I"⟩
abbrev cJ1_indexOfChar_4cfef : ByteArray := prog_17_method_23_code
def yJ1_indexOfChar_4cfef : MethodName := ⟨RJ1, "indexOfChar", "([BIII)I"⟩
def RJ2 : String := "java/lang/StringUTF16"
abbrev cJ2_getChar_3b067 : ByteArray := prog_18_method_5_code
def yJ2_getChar_3b067 : MethodName := ⟨RJ2, "getChar", "([BI)C"⟩
abbrev cJ2_length_9d52b : ByteArray := prog_18_method_6_code
def yJ2_length_9d52b : MethodName := ⟨RJ2, "length", "([B)I"⟩
abbrev cJ2_indexOf_4cfef : ByteArray := prog_18_method_40_code
def yJ2_indexOf_4cfef : MethodName := ⟨RJ2, "indexOf", "([BIII)I"⟩
abbrev cJ2_indexOfChar_4cfef : ByteArray := prog_18_method_47_code
def yJ2_indexOfChar_4cfef : MethodName := ⟨RJ2, "indexOfChar", "([BIII)I"⟩
abbrev cJ2_indexOfCharUnsafe_4cfef : ByteArray := prog_18_method_48_code
def yJ2_indexOfCharUnsafe_4cfef : MethodName := ⟨RJ2, "indexOfCharUnsafe", "([BIII)I"⟩
abbrev cJ2_indexOfSupplementary_4cfef : ByteArray := prog_18_method_49_code
def yJ2_indexOfSupplementary_4cfef : MethodName := ⟨RJ2, "indexOfSupplementary", "([BIII)I"⟩
abbrev cJ2_charAt_3b067 : ByteArray := prog_18_method_83_code
def yJ2_charAt_3b067 : MethodName := ⟨RJ2, "charAt", "([BI)C"⟩
abbrev cJ2_checkIndex_2214a : ByteArray := prog_18_method_91_code
def yJ2_checkIndex_2214a : MethodName := ⟨RJ2, "checkIndex", "(I[B)V"⟩
abbrev cJ2_checkBoundsBeginEnd_d044e : ByteArray := prog_18_method_93_code
def yJ2_checkBoundsBeginEnd_d044e : MethodName := ⟨RJ2, "checkBoundsBeginEnd", "(II[B)V"⟩
def RJ10 : String := "java/lang/System"
def RJ3 : String := "jdk/internal/util/Preconditions"
abbrev cJ3_checkIndex_8e157 : ByteArray := prog_20_method_11_code
def yJ3_checkIndex_8e157 : MethodName := ⟨RJ3, "checkIndex", "(IILjava/util/function/BiFunction;)I"⟩
abbrev cJ3_checkFromToIndex_8c36e : ByteArray := prog_20_method_12_code
def yJ3_checkFromToIndex_8c36e : MethodName := ⟨RJ3, "checkFromToIndex", "(IIILjava/util/function/BiFunction;)I"⟩
def RL : String := "CostumeStockLaw"
abbrev cL_law : ByteArray := code
def yL_law : MethodName := ⟨RL, "law", "([I)Z"⟩
abbrev vwCl : List vw_C := [(RX0, TX0, 3), (RX1, TX1, 17), (RX2, TX2, 3), (RX3, TX3, 8), (RX4, TX4, 15), (RX5, TX5, 11), (RX6, TX6, 6), (RX7, TX7, 12), (RX8, TX8, 5), (RX9, TX9, 8), (RX10, TX10, 38)]
