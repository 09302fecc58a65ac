section
-- ===== PART A: goes FIRST, ahead of the names: the tables' words, and 'selects' of the private methods out of them =====
/-- a private method of a class that the tables say can be made, by its rows of tables_1 -/
def lw_okq (q : MethodName × Nat) : Prop := (q.1.cls ≠ "java/lang/invoke/MethodHandle" ∧ q.1.cls ≠ "java/lang/invoke/VarHandle") ∧ Cond.instantiable q.1.cls q.2 ∈ tables_1 ∧ Cond.privateMethod q.1 ∈ tables_1 ∧ Cond.instanceMethod q.1 ∈ tables_1
theorem lw_p0 : lw_okq (⟨"java/util/ArrayList", "add", "(Ljava/lang/Object;[Ljava/lang/Object;I)V"⟩, 3) := ⟨⟨by decide +kernel, by decide +kernel⟩, List.mem_of_getElem? (i := 34) (by decide +kernel), List.mem_of_getElem? (i := 331) (by decide +kernel), List.mem_of_getElem? (i := 332) (by decide +kernel)⟩
theorem lw_p1 : lw_okq (⟨"java/util/ArrayList", "grow", "()[Ljava/lang/Object;"⟩, 3) := ⟨⟨by decide +kernel, by decide +kernel⟩, List.mem_of_getElem? (i := 34) (by decide +kernel), List.mem_of_getElem? (i := 335) (by decide +kernel), List.mem_of_getElem? (i := 336) (by decide +kernel)⟩
theorem lw_p2 : lw_okq (⟨"java/util/ArrayList", "grow", "(I)[Ljava/lang/Object;"⟩, 3) := ⟨⟨by decide +kernel, by decide +kernel⟩, List.mem_of_getElem? (i := 34) (by decide +kernel), List.mem_of_getElem? (i := 339) (by decide +kernel), List.mem_of_getElem? (i := 340) (by decide +kernel)⟩
theorem lw_p3 : lw_okq (⟨"KeptPages", "pageAt", "(I)LKeptPages$Page;"⟩, 12) := ⟨⟨by decide +kernel, by decide +kernel⟩, List.mem_of_getElem? (i := 26) (by decide +kernel), List.mem_of_getElem? (i := 389) (by decide +kernel), List.mem_of_getElem? (i := 390) (by decide +kernel)⟩
theorem lw_p4 : lw_okq (⟨"KeptPages", "keep", "(LKeptPages$Look;)V"⟩, 12) := ⟨⟨by decide +kernel, by decide +kernel⟩, List.mem_of_getElem? (i := 26) (by decide +kernel), List.mem_of_getElem? (i := 464) (by decide +kernel), List.mem_of_getElem? (i := 465) (by decide +kernel)⟩
theorem lw_p5 : lw_okq (⟨"KeptPages", "lookAt", "(I)LKeptPages$Look;"⟩, 12) := ⟨⟨by decide +kernel, by decide +kernel⟩, List.mem_of_getElem? (i := 26) (by decide +kernel), List.mem_of_getElem? (i := 480) (by decide +kernel), List.mem_of_getElem? (i := 481) (by decide +kernel)⟩
theorem lw_p6 : lw_okq (⟨"java/util/ArrayList", "fastRemove", "([Ljava/lang/Object;I)V"⟩, 3) := ⟨⟨by decide +kernel, by decide +kernel⟩, List.mem_of_getElem? (i := 34) (by decide +kernel), List.mem_of_getElem? (i := 501) (by decide +kernel), List.mem_of_getElem? (i := 502) (by decide +kernel)⟩
theorem lw_p7 : lw_okq (⟨"KeptPages", "holes", "()I"⟩, 12) := ⟨⟨by decide +kernel, by decide +kernel⟩, List.mem_of_getElem? (i := 26) (by decide +kernel), List.mem_of_getElem? (i := 544) (by decide +kernel), List.mem_of_getElem? (i := 545) (by decide +kernel)⟩
theorem lw_p8 : lw_okq (⟨"KeptPages", "allViews", "()I"⟩, 12) := ⟨⟨by decide +kernel, by decide +kernel⟩, List.mem_of_getElem? (i := 26) (by decide +kernel), List.mem_of_getElem? (i := 548) (by decide +kernel), List.mem_of_getElem? (i := 549) (by decide +kernel)⟩
theorem lw_p9 : lw_okq (⟨"KeptPages", "piecesEver", "()J"⟩, 12) := ⟨⟨by decide +kernel, by decide +kernel⟩, List.mem_of_getElem? (i := 26) (by decide +kernel), List.mem_of_getElem? (i := 556) (by decide +kernel), List.mem_of_getElem? (i := 557) (by decide +kernel)⟩
theorem lw_p10 : lw_okq (⟨"KeptPages$Rights", "becomeFirst", "()V"⟩, 7) := ⟨⟨by decide +kernel, by decide +kernel⟩, List.mem_of_getElem? (i := 182) (by decide +kernel), List.mem_of_getElem? (i := 586) (by decide +kernel), List.mem_of_getElem? (i := 587) (by decide +kernel)⟩
theorem lw_p11 : lw_okq (⟨"KeptPages$Text", "byteAt", "(I)I"⟩, 5) := ⟨⟨by decide +kernel, by decide +kernel⟩, List.mem_of_getElem? (i := 60) (by decide +kernel), List.mem_of_getElem? (i := 598) (by decide +kernel), List.mem_of_getElem? (i := 599) (by decide +kernel)⟩
theorem lw_p12 : lw_okq (⟨"KeptPages$Rights", "readClause", "(LKeptPages$Text;)V"⟩, 7) := ⟨⟨by decide +kernel, by decide +kernel⟩, List.mem_of_getElem? (i := 182) (by decide +kernel), List.mem_of_getElem? (i := 602) (by decide +kernel), List.mem_of_getElem? (i := 603) (by decide +kernel)⟩
theorem lw_p13 : lw_okq (⟨"KeptPages$Text", "isLetter", "(I)Z"⟩, 5) := ⟨⟨by decide +kernel, by decide +kernel⟩, List.mem_of_getElem? (i := 60) (by decide +kernel), List.mem_of_getElem? (i := 658) (by decide +kernel), List.mem_of_getElem? (i := 659) (by decide +kernel)⟩
theorem lw_p14 : lw_okq (⟨"KeptPages$Text", "isFigure", "(I)Z"⟩, 5) := ⟨⟨by decide +kernel, by decide +kernel⟩, List.mem_of_getElem? (i := 60) (by decide +kernel), List.mem_of_getElem? (i := 669) (by decide +kernel), List.mem_of_getElem? (i := 670) (by decide +kernel)⟩
theorem lw_p15 : lw_okq (⟨"KeptPages$Rights", "readLet", "(LKeptPages$Text;)V"⟩, 7) := ⟨⟨by decide +kernel, by decide +kernel⟩, List.mem_of_getElem? (i := 182) (by decide +kernel), List.mem_of_getElem? (i := 680) (by decide +kernel), List.mem_of_getElem? (i := 681) (by decide +kernel)⟩
def lw_privs_1 : List (MethodName × Nat) := [(⟨"java/util/ArrayList", "add", "(Ljava/lang/Object;[Ljava/lang/Object;I)V"⟩, 3), (⟨"java/util/ArrayList", "grow", "()[Ljava/lang/Object;"⟩, 3), (⟨"java/util/ArrayList", "grow", "(I)[Ljava/lang/Object;"⟩, 3), (⟨"KeptPages", "pageAt", "(I)LKeptPages$Page;"⟩, 12), (⟨"KeptPages", "keep", "(LKeptPages$Look;)V"⟩, 12), (⟨"KeptPages", "lookAt", "(I)LKeptPages$Look;"⟩, 12), (⟨"java/util/ArrayList", "fastRemove", "([Ljava/lang/Object;I)V"⟩, 3), (⟨"KeptPages", "holes", "()I"⟩, 12), (⟨"KeptPages", "allViews", "()I"⟩, 12), (⟨"KeptPages", "piecesEver", "()J"⟩, 12), (⟨"KeptPages$Rights", "becomeFirst", "()V"⟩, 7), (⟨"KeptPages$Text", "byteAt", "(I)I"⟩, 5), (⟨"KeptPages$Rights", "readClause", "(LKeptPages$Text;)V"⟩, 7), (⟨"KeptPages$Text", "isLetter", "(I)Z"⟩, 5), (⟨"KeptPages$Text", "isFigure", "(I)Z"⟩, 5), (⟨"KeptPages$Rights", "readLet", "(LKeptPages$Text;)V"⟩, 7)]
theorem lw_r1 : ∀ q ∈ lw_privs_1, lw_okq q := List.forall_mem_cons.mpr ⟨lw_p0, List.forall_mem_cons.mpr ⟨lw_p1, List.forall_mem_cons.mpr ⟨lw_p2, List.forall_mem_cons.mpr ⟨lw_p3, List.forall_mem_cons.mpr ⟨lw_p4, List.forall_mem_cons.mpr ⟨lw_p5, List.forall_mem_cons.mpr ⟨lw_p6, List.forall_mem_cons.mpr ⟨lw_p7, List.forall_mem_cons.mpr ⟨lw_p8, List.forall_mem_cons.mpr ⟨lw_p9, List.forall_mem_cons.mpr ⟨lw_p10, List.forall_mem_cons.mpr ⟨lw_p11, List.forall_mem_cons.mpr ⟨lw_p12, List.forall_mem_cons.mpr ⟨lw_p13, List.forall_mem_cons.mpr ⟨lw_p14, List.forall_mem_cons.mpr ⟨lw_p15, fun _ h => absurd h List.not_mem_nil⟩⟩⟩⟩⟩⟩⟩⟩⟩⟩⟩⟩⟩⟩⟩⟩
theorem lw_p16 : lw_okq (⟨"KeptPages$Rights", "tellOnce", "(IILKeptPages$Text;)V"⟩, 7) := ⟨⟨by decide +kernel, by decide +kernel⟩, List.mem_of_getElem? (i := 182) (by decide +kernel), List.mem_of_getElem? (i := 691) (by decide +kernel), List.mem_of_getElem? (i := 692) (by decide +kernel)⟩
theorem lw_p17 : lw_okq (⟨"KeptPages$Rights", "readClothes", "(LKeptPages$Text;)V"⟩, 7) := ⟨⟨by decide +kernel, by decide +kernel⟩, List.mem_of_getElem? (i := 182) (by decide +kernel), List.mem_of_getElem? (i := 697) (by decide +kernel), List.mem_of_getElem? (i := 698) (by decide +kernel)⟩
theorem lw_p18 : lw_okq (⟨"KeptPages", "closeText", "(I)I"⟩, 12) := ⟨⟨by decide +kernel, by decide +kernel⟩, List.mem_of_getElem? (i := 26) (by decide +kernel), List.mem_of_getElem? (i := 710) (by decide +kernel), List.mem_of_getElem? (i := 711) (by decide +kernel)⟩
theorem lw_p19 : lw_okq (⟨"KeptPages$Program", "readClause", "(LKeptPages$Text;)V"⟩, 5) := ⟨⟨by decide +kernel, by decide +kernel⟩, List.mem_of_getElem? (i := 215) (by decide +kernel), List.mem_of_getElem? (i := 724) (by decide +kernel), List.mem_of_getElem? (i := 725) (by decide +kernel)⟩
theorem lw_p20 : lw_okq (⟨"KeptPages$Program", "put", "(III)V"⟩, 5) := ⟨⟨by decide +kernel, by decide +kernel⟩, List.mem_of_getElem? (i := 215) (by decide +kernel), List.mem_of_getElem? (i := 732) (by decide +kernel), List.mem_of_getElem? (i := 733) (by decide +kernel)⟩
theorem lw_p21 : lw_okq (⟨"KeptPages", "viewAt", "(I)LKeptPages$Look;"⟩, 12) := ⟨⟨by decide +kernel, by decide +kernel⟩, List.mem_of_getElem? (i := 26) (by decide +kernel), List.mem_of_getElem? (i := 762) (by decide +kernel), List.mem_of_getElem? (i := 763) (by decide +kernel)⟩
theorem lw_p22 : lw_okq (⟨"KeptPages", "isHour", "(I)Z"⟩, 12) := ⟨⟨by decide +kernel, by decide +kernel⟩, List.mem_of_getElem? (i := 26) (by decide +kernel), List.mem_of_getElem? (i := 779) (by decide +kernel), List.mem_of_getElem? (i := 780) (by decide +kernel)⟩
theorem lw_p23 : lw_okq (⟨"KeptPages$Page", "claims", "(IILKeptPages$Rights;)Z"⟩, 4) := ⟨⟨by decide +kernel, by decide +kernel⟩, List.mem_of_getElem? (i := 293) (by decide +kernel), List.mem_of_getElem? (i := 787) (by decide +kernel), List.mem_of_getElem? (i := 788) (by decide +kernel)⟩
theorem lw_p24 : lw_okq (⟨"KeptPages$Page", "couldUnclaimed", "(LKeptPages$Look;ILKeptPages$Rights;)Z"⟩, 4) := ⟨⟨by decide +kernel, by decide +kernel⟩, List.mem_of_getElem? (i := 293) (by decide +kernel), List.mem_of_getElem? (i := 805) (by decide +kernel), List.mem_of_getElem? (i := 806) (by decide +kernel)⟩
theorem lw_p25 : lw_okq (⟨"KeptPages", "isSpan", "(II)Z"⟩, 12) := ⟨⟨by decide +kernel, by decide +kernel⟩, List.mem_of_getElem? (i := 26) (by decide +kernel), List.mem_of_getElem? (i := 821) (by decide +kernel), List.mem_of_getElem? (i := 822) (by decide +kernel)⟩
theorem lw_p26 : lw_okq (⟨"KeptPages$Whole", "stepTo", "(ILKeptPages$Rights;)I"⟩, 10) := ⟨⟨by decide +kernel, by decide +kernel⟩, List.mem_of_getElem? (i := 86) (by decide +kernel), List.mem_of_getElem? (i := 877) (by decide +kernel), List.mem_of_getElem? (i := 878) (by decide +kernel)⟩
theorem lw_p27 : lw_okq (⟨"KeptPages$Whole", "weighHours", "(II)V"⟩, 10) := ⟨⟨by decide +kernel, by decide +kernel⟩, List.mem_of_getElem? (i := 86) (by decide +kernel), List.mem_of_getElem? (i := 885) (by decide +kernel), List.mem_of_getElem? (i := 886) (by decide +kernel)⟩
theorem lw_p28 : lw_okq (⟨"KeptPages", "arePages", "(I)Z"⟩, 12) := ⟨⟨by decide +kernel, by decide +kernel⟩, List.mem_of_getElem? (i := 26) (by decide +kernel), List.mem_of_getElem? (i := 906) (by decide +kernel), List.mem_of_getElem? (i := 907) (by decide +kernel)⟩
theorem lw_p29 : lw_okq (⟨"KeptPages$Planner", "search", "(III)V"⟩, 12) := ⟨⟨by decide +kernel, by decide +kernel⟩, List.mem_of_getElem? (i := 126) (by decide +kernel), List.mem_of_getElem? (i := 954) (by decide +kernel), List.mem_of_getElem? (i := 955) (by decide +kernel)⟩
theorem lw_p30 : lw_okq (⟨"KeptPages$Planner", "keepIfBetter", "(I)V"⟩, 12) := ⟨⟨by decide +kernel, by decide +kernel⟩, List.mem_of_getElem? (i := 126) (by decide +kernel), List.mem_of_getElem? (i := 958) (by decide +kernel), List.mem_of_getElem? (i := 959) (by decide +kernel)⟩
theorem lw_p31 : lw_okq (⟨"KeptPages$Planner", "mostFrom", "(II)I"⟩, 12) := ⟨⟨by decide +kernel, by decide +kernel⟩, List.mem_of_getElem? (i := 126) (by decide +kernel), List.mem_of_getElem? (i := 963) (by decide +kernel), List.mem_of_getElem? (i := 964) (by decide +kernel)⟩
def lw_privs_2 : List (MethodName × Nat) := [(⟨"KeptPages$Rights", "tellOnce", "(IILKeptPages$Text;)V"⟩, 7), (⟨"KeptPages$Rights", "readClothes", "(LKeptPages$Text;)V"⟩, 7), (⟨"KeptPages", "closeText", "(I)I"⟩, 12), (⟨"KeptPages$Program", "readClause", "(LKeptPages$Text;)V"⟩, 5), (⟨"KeptPages$Program", "put", "(III)V"⟩, 5), (⟨"KeptPages", "viewAt", "(I)LKeptPages$Look;"⟩, 12), (⟨"KeptPages", "isHour", "(I)Z"⟩, 12), (⟨"KeptPages$Page", "claims", "(IILKeptPages$Rights;)Z"⟩, 4), (⟨"KeptPages$Page", "couldUnclaimed", "(LKeptPages$Look;ILKeptPages$Rights;)Z"⟩, 4), (⟨"KeptPages", "isSpan", "(II)Z"⟩, 12), (⟨"KeptPages$Whole", "stepTo", "(ILKeptPages$Rights;)I"⟩, 10), (⟨"KeptPages$Whole", "weighHours", "(II)V"⟩, 10), (⟨"KeptPages", "arePages", "(I)Z"⟩, 12), (⟨"KeptPages$Planner", "search", "(III)V"⟩, 12), (⟨"KeptPages$Planner", "keepIfBetter", "(I)V"⟩, 12), (⟨"KeptPages$Planner", "mostFrom", "(II)I"⟩, 12)]
theorem lw_r2 : ∀ q ∈ lw_privs_2, lw_okq q := List.forall_mem_cons.mpr ⟨lw_p16, List.forall_mem_cons.mpr ⟨lw_p17, List.forall_mem_cons.mpr ⟨lw_p18, List.forall_mem_cons.mpr ⟨lw_p19, List.forall_mem_cons.mpr ⟨lw_p20, List.forall_mem_cons.mpr ⟨lw_p21, List.forall_mem_cons.mpr ⟨lw_p22, List.forall_mem_cons.mpr ⟨lw_p23, List.forall_mem_cons.mpr ⟨lw_p24, List.forall_mem_cons.mpr ⟨lw_p25, List.forall_mem_cons.mpr ⟨lw_p26, List.forall_mem_cons.mpr ⟨lw_p27, List.forall_mem_cons.mpr ⟨lw_p28, List.forall_mem_cons.mpr ⟨lw_p29, List.forall_mem_cons.mpr ⟨lw_p30, List.forall_mem_cons.mpr ⟨lw_p31, fun _ h => absurd h List.not_mem_nil⟩⟩⟩⟩⟩⟩⟩⟩⟩⟩⟩⟩⟩⟩⟩⟩
theorem lw_p32 : lw_okq (⟨"KeptPages$Planner", "isBehindBetter", "(II)Z"⟩, 12) := ⟨⟨by decide +kernel, by decide +kernel⟩, List.mem_of_getElem? (i := 126) (by decide +kernel), List.mem_of_getElem? (i := 968) (by decide +kernel), List.mem_of_getElem? (i := 969) (by decide +kernel)⟩
theorem lw_p33 : lw_okq (⟨"KeptPages$Planner", "searchWith", "(IIII)V"⟩, 12) := ⟨⟨by decide +kernel, by decide +kernel⟩, List.mem_of_getElem? (i := 126) (by decide +kernel), List.mem_of_getElem? (i := 972) (by decide +kernel), List.mem_of_getElem? (i := 973) (by decide +kernel)⟩
theorem lw_p34 : lw_okq (⟨"KeptPages$Planner", "upToOfDoor", "(I)I"⟩, 12) := ⟨⟨by decide +kernel, by decide +kernel⟩, List.mem_of_getElem? (i := 126) (by decide +kernel), List.mem_of_getElem? (i := 976) (by decide +kernel), List.mem_of_getElem? (i := 977) (by decide +kernel)⟩
theorem lw_p35 : lw_okq (⟨"KeptPagesModel", "beginRights", "()V"⟩, 50) := ⟨⟨by decide +kernel, by decide +kernel⟩, List.mem_of_getElem? (i := 1085) (by decide +kernel), List.mem_of_getElem? (i := 1091) (by decide +kernel), List.mem_of_getElem? (i := 1092) (by decide +kernel)⟩
theorem lw_p36 : lw_okq (⟨"KeptPagesModel", "useRights", "()V"⟩, 50) := ⟨⟨by decide +kernel, by decide +kernel⟩, List.mem_of_getElem? (i := 1085) (by decide +kernel), List.mem_of_getElem? (i := 1095) (by decide +kernel), List.mem_of_getElem? (i := 1096) (by decide +kernel)⟩
theorem lw_p37 : lw_okq (⟨"KeptPagesModel", "noPage", "(I)Z"⟩, 50) := ⟨⟨by decide +kernel, by decide +kernel⟩, List.mem_of_getElem? (i := 1085) (by decide +kernel), List.mem_of_getElem? (i := 1268) (by decide +kernel), List.mem_of_getElem? (i := 1269) (by decide +kernel)⟩
theorem lw_p38 : lw_okq (⟨"KeptPagesModel", "isLet", "(I)Z"⟩, 50) := ⟨⟨by decide +kernel, by decide +kernel⟩, List.mem_of_getElem? (i := 1085) (by decide +kernel), List.mem_of_getElem? (i := 1274) (by decide +kernel), List.mem_of_getElem? (i := 1275) (by decide +kernel)⟩
theorem lw_p39 : lw_okq (⟨"KeptPagesModel", "noLook", "(I)Z"⟩, 50) := ⟨⟨by decide +kernel, by decide +kernel⟩, List.mem_of_getElem? (i := 1085) (by decide +kernel), List.mem_of_getElem? (i := 1282) (by decide +kernel), List.mem_of_getElem? (i := 1283) (by decide +kernel)⟩
theorem lw_p40 : lw_okq (⟨"KeptPagesModel", "findViews", "(I)V"⟩, 50) := ⟨⟨by decide +kernel, by decide +kernel⟩, List.mem_of_getElem? (i := 1085) (by decide +kernel), List.mem_of_getElem? (i := 1305) (by decide +kernel), List.mem_of_getElem? (i := 1306) (by decide +kernel)⟩
theorem lw_p41 : lw_okq (⟨"KeptPagesModel", "isView", "(I)Z"⟩, 50) := ⟨⟨by decide +kernel, by decide +kernel⟩, List.mem_of_getElem? (i := 1085) (by decide +kernel), List.mem_of_getElem? (i := 1309) (by decide +kernel), List.mem_of_getElem? (i := 1310) (by decide +kernel)⟩
theorem lw_p42 : lw_okq (⟨"KeptPagesModel", "allViews", "(Z)I"⟩, 50) := ⟨⟨by decide +kernel, by decide +kernel⟩, List.mem_of_getElem? (i := 1085) (by decide +kernel), List.mem_of_getElem? (i := 1317) (by decide +kernel), List.mem_of_getElem? (i := 1318) (by decide +kernel)⟩
theorem lw_p43 : lw_okq (⟨"KeptPagesModel", "allPieces", "()J"⟩, 50) := ⟨⟨by decide +kernel, by decide +kernel⟩, List.mem_of_getElem? (i := 1085) (by decide +kernel), List.mem_of_getElem? (i := 1321) (by decide +kernel), List.mem_of_getElem? (i := 1322) (by decide +kernel)⟩
theorem lw_p44 : lw_okq (⟨"KeptPagesModel", "startText", "()V"⟩, 50) := ⟨⟨by decide +kernel, by decide +kernel⟩, List.mem_of_getElem? (i := 1085) (by decide +kernel), List.mem_of_getElem? (i := 1335) (by decide +kernel), List.mem_of_getElem? (i := 1336) (by decide +kernel)⟩
theorem lw_p45 : lw_okq (⟨"KeptPagesModel", "peek", "()I"⟩, 50) := ⟨⟨by decide +kernel, by decide +kernel⟩, List.mem_of_getElem? (i := 1085) (by decide +kernel), List.mem_of_getElem? (i := 1339) (by decide +kernel), List.mem_of_getElem? (i := 1340) (by decide +kernel)⟩
theorem lw_p46 : lw_okq (⟨"KeptPagesModel", "readRight", "()V"⟩, 50) := ⟨⟨by decide +kernel, by decide +kernel⟩, List.mem_of_getElem? (i := 1085) (by decide +kernel), List.mem_of_getElem? (i := 1343) (by decide +kernel), List.mem_of_getElem? (i := 1344) (by decide +kernel)⟩
theorem lw_p47 : lw_okq (⟨"KeptPagesModel", "takeWord", "()V"⟩, 50) := ⟨⟨by decide +kernel, by decide +kernel⟩, List.mem_of_getElem? (i := 1085) (by decide +kernel), List.mem_of_getElem? (i := 1347) (by decide +kernel), List.mem_of_getElem? (i := 1348) (by decide +kernel)⟩
def lw_privs_3 : List (MethodName × Nat) := [(⟨"KeptPages$Planner", "isBehindBetter", "(II)Z"⟩, 12), (⟨"KeptPages$Planner", "searchWith", "(IIII)V"⟩, 12), (⟨"KeptPages$Planner", "upToOfDoor", "(I)I"⟩, 12), (⟨"KeptPagesModel", "beginRights", "()V"⟩, 50), (⟨"KeptPagesModel", "useRights", "()V"⟩, 50), (⟨"KeptPagesModel", "noPage", "(I)Z"⟩, 50), (⟨"KeptPagesModel", "isLet", "(I)Z"⟩, 50), (⟨"KeptPagesModel", "noLook", "(I)Z"⟩, 50), (⟨"KeptPagesModel", "findViews", "(I)V"⟩, 50), (⟨"KeptPagesModel", "isView", "(I)Z"⟩, 50), (⟨"KeptPagesModel", "allViews", "(Z)I"⟩, 50), (⟨"KeptPagesModel", "allPieces", "()J"⟩, 50), (⟨"KeptPagesModel", "startText", "()V"⟩, 50), (⟨"KeptPagesModel", "peek", "()I"⟩, 50), (⟨"KeptPagesModel", "readRight", "()V"⟩, 50), (⟨"KeptPagesModel", "takeWord", "()V"⟩, 50)]
theorem lw_r3 : ∀ q ∈ lw_privs_3, lw_okq q := List.forall_mem_cons.mpr ⟨lw_p32, List.forall_mem_cons.mpr ⟨lw_p33, List.forall_mem_cons.mpr ⟨lw_p34, List.forall_mem_cons.mpr ⟨lw_p35, List.forall_mem_cons.mpr ⟨lw_p36, List.forall_mem_cons.mpr ⟨lw_p37, List.forall_mem_cons.mpr ⟨lw_p38, List.forall_mem_cons.mpr ⟨lw_p39, List.forall_mem_cons.mpr ⟨lw_p40, List.forall_mem_cons.mpr ⟨lw_p41, List.forall_mem_cons.mpr ⟨lw_p42, List.forall_mem_cons.mpr ⟨lw_p43, List.forall_mem_cons.mpr ⟨lw_p44, List.forall_mem_cons.mpr ⟨lw_p45, List.forall_mem_cons.mpr ⟨lw_p46, List.forall_mem_cons.mpr ⟨lw_p47, fun _ h => absurd h List.not_mem_nil⟩⟩⟩⟩⟩⟩⟩⟩⟩⟩⟩⟩⟩⟩⟩⟩
theorem lw_p48 : lw_okq (⟨"KeptPagesModel", "isWord", "(IIIIIIIII)Z"⟩, 50) := ⟨⟨by decide +kernel, by decide +kernel⟩, List.mem_of_getElem? (i := 1085) (by decide +kernel), List.mem_of_getElem? (i := 1353) (by decide +kernel), List.mem_of_getElem? (i := 1354) (by decide +kernel)⟩
theorem lw_p49 : lw_okq (⟨"KeptPagesModel", "readNever", "()V"⟩, 50) := ⟨⟨by decide +kernel, by decide +kernel⟩, List.mem_of_getElem? (i := 1085) (by decide +kernel), List.mem_of_getElem? (i := 1357) (by decide +kernel), List.mem_of_getElem? (i := 1358) (by decide +kernel)⟩
theorem lw_p50 : lw_okq (⟨"KeptPagesModel", "takeNumber", "(II)I"⟩, 50) := ⟨⟨by decide +kernel, by decide +kernel⟩, List.mem_of_getElem? (i := 1085) (by decide +kernel), List.mem_of_getElem? (i := 1361) (by decide +kernel), List.mem_of_getElem? (i := 1362) (by decide +kernel)⟩
theorem lw_p51 : lw_okq (⟨"KeptPagesModel", "want", "(ZII)Z"⟩, 50) := ⟨⟨by decide +kernel, by decide +kernel⟩, List.mem_of_getElem? (i := 1085) (by decide +kernel), List.mem_of_getElem? (i := 1367) (by decide +kernel), List.mem_of_getElem? (i := 1368) (by decide +kernel)⟩
theorem lw_p52 : lw_okq (⟨"KeptPagesModel", "once", "(II)Z"⟩, 50) := ⟨⟨by decide +kernel, by decide +kernel⟩, List.mem_of_getElem? (i := 1085) (by decide +kernel), List.mem_of_getElem? (i := 1371) (by decide +kernel), List.mem_of_getElem? (i := 1372) (by decide +kernel)⟩
theorem lw_p53 : lw_okq (⟨"KeptPagesModel", "readLet", "()V"⟩, 50) := ⟨⟨by decide +kernel, by decide +kernel⟩, List.mem_of_getElem? (i := 1085) (by decide +kernel), List.mem_of_getElem? (i := 1375) (by decide +kernel), List.mem_of_getElem? (i := 1376) (by decide +kernel)⟩
theorem lw_p54 : lw_okq (⟨"KeptPagesModel", "readClothes", "()V"⟩, 50) := ⟨⟨by decide +kernel, by decide +kernel⟩, List.mem_of_getElem? (i := 1085) (by decide +kernel), List.mem_of_getElem? (i := 1379) (by decide +kernel), List.mem_of_getElem? (i := 1380) (by decide +kernel)⟩
theorem lw_p55 : lw_okq (⟨"KeptPagesModel", "takeEnd", "()V"⟩, 50) := ⟨⟨by decide +kernel, by decide +kernel⟩, List.mem_of_getElem? (i := 1085) (by decide +kernel), List.mem_of_getElem? (i := 1383) (by decide +kernel), List.mem_of_getElem? (i := 1384) (by decide +kernel)⟩
theorem lw_p56 : lw_okq (⟨"KeptPagesModel", "isClause", "()Z"⟩, 50) := ⟨⟨by decide +kernel, by decide +kernel⟩, List.mem_of_getElem? (i := 1085) (by decide +kernel), List.mem_of_getElem? (i := 1391) (by decide +kernel), List.mem_of_getElem? (i := 1392) (by decide +kernel)⟩
theorem lw_p57 : lw_okq (⟨"KeptPagesModel", "readClause", "(I)V"⟩, 50) := ⟨⟨by decide +kernel, by decide +kernel⟩, List.mem_of_getElem? (i := 1085) (by decide +kernel), List.mem_of_getElem? (i := 1395) (by decide +kernel), List.mem_of_getElem? (i := 1396) (by decide +kernel)⟩
theorem lw_p58 : lw_okq (⟨"KeptPagesModel", "takeBy", "(I)V"⟩, 50) := ⟨⟨by decide +kernel, by decide +kernel⟩, List.mem_of_getElem? (i := 1085) (by decide +kernel), List.mem_of_getElem? (i := 1399) (by decide +kernel), List.mem_of_getElem? (i := 1400) (by decide +kernel)⟩
theorem lw_p59 : lw_okq (⟨"KeptPagesModel", "areAlike", "(II)Z"⟩, 50) := ⟨⟨by decide +kernel, by decide +kernel⟩, List.mem_of_getElem? (i := 1085) (by decide +kernel), List.mem_of_getElem? (i := 1415) (by decide +kernel), List.mem_of_getElem? (i := 1416) (by decide +kernel)⟩
theorem lw_p60 : lw_okq (⟨"KeptPagesModel", "isTime", "(I)Z"⟩, 50) := ⟨⟨by decide +kernel, by decide +kernel⟩, List.mem_of_getElem? (i := 1085) (by decide +kernel), List.mem_of_getElem? (i := 1423) (by decide +kernel), List.mem_of_getElem? (i := 1424) (by decide +kernel)⟩
theorem lw_p61 : lw_okq (⟨"KeptPagesModel", "sureAt", "(I)I"⟩, 50) := ⟨⟨by decide +kernel, by decide +kernel⟩, List.mem_of_getElem? (i := 1085) (by decide +kernel), List.mem_of_getElem? (i := 1427) (by decide +kernel), List.mem_of_getElem? (i := 1428) (by decide +kernel)⟩
theorem lw_p62 : lw_okq (⟨"KeptPagesModel", "claims", "(II)Z"⟩, 50) := ⟨⟨by decide +kernel, by decide +kernel⟩, List.mem_of_getElem? (i := 1085) (by decide +kernel), List.mem_of_getElem? (i := 1431) (by decide +kernel), List.mem_of_getElem? (i := 1432) (by decide +kernel)⟩
theorem lw_p63 : lw_okq (⟨"KeptPagesModel", "stateAt", "(II)I"⟩, 50) := ⟨⟨by decide +kernel, by decide +kernel⟩, List.mem_of_getElem? (i := 1085) (by decide +kernel), List.mem_of_getElem? (i := 1439) (by decide +kernel), List.mem_of_getElem? (i := 1440) (by decide +kernel)⟩
def lw_privs_4 : List (MethodName × Nat) := [(⟨"KeptPagesModel", "isWord", "(IIIIIIIII)Z"⟩, 50), (⟨"KeptPagesModel", "readNever", "()V"⟩, 50), (⟨"KeptPagesModel", "takeNumber", "(II)I"⟩, 50), (⟨"KeptPagesModel", "want", "(ZII)Z"⟩, 50), (⟨"KeptPagesModel", "once", "(II)Z"⟩, 50), (⟨"KeptPagesModel", "readLet", "()V"⟩, 50), (⟨"KeptPagesModel", "readClothes", "()V"⟩, 50), (⟨"KeptPagesModel", "takeEnd", "()V"⟩, 50), (⟨"KeptPagesModel", "isClause", "()Z"⟩, 50), (⟨"KeptPagesModel", "readClause", "(I)V"⟩, 50), (⟨"KeptPagesModel", "takeBy", "(I)V"⟩, 50), (⟨"KeptPagesModel", "areAlike", "(II)Z"⟩, 50), (⟨"KeptPagesModel", "isTime", "(I)Z"⟩, 50), (⟨"KeptPagesModel", "sureAt", "(I)I"⟩, 50), (⟨"KeptPagesModel", "claims", "(II)Z"⟩, 50), (⟨"KeptPagesModel", "stateAt", "(II)I"⟩, 50)]
theorem lw_r4 : ∀ q ∈ lw_privs_4, lw_okq q := List.forall_mem_cons.mpr ⟨lw_p48, List.forall_mem_cons.mpr ⟨lw_p49, List.forall_mem_cons.mpr ⟨lw_p50, List.forall_mem_cons.mpr ⟨lw_p51, List.forall_mem_cons.mpr ⟨lw_p52, List.forall_mem_cons.mpr ⟨lw_p53, List.forall_mem_cons.mpr ⟨lw_p54, List.forall_mem_cons.mpr ⟨lw_p55, List.forall_mem_cons.mpr ⟨lw_p56, List.forall_mem_cons.mpr ⟨lw_p57, List.forall_mem_cons.mpr ⟨lw_p58, List.forall_mem_cons.mpr ⟨lw_p59, List.forall_mem_cons.mpr ⟨lw_p60, List.forall_mem_cons.mpr ⟨lw_p61, List.forall_mem_cons.mpr ⟨lw_p62, List.forall_mem_cons.mpr ⟨lw_p63, fun _ h => absurd h List.not_mem_nil⟩⟩⟩⟩⟩⟩⟩⟩⟩⟩⟩⟩⟩⟩⟩⟩
theorem lw_p64 : lw_okq (⟨"KeptPagesModel", "could", "(IIZ)Z"⟩, 50) := ⟨⟨by decide +kernel, by decide +kernel⟩, List.mem_of_getElem? (i := 1085) (by decide +kernel), List.mem_of_getElem? (i := 1443) (by decide +kernel), List.mem_of_getElem? (i := 1444) (by decide +kernel)⟩
theorem lw_p65 : lw_okq (⟨"KeptPagesModel", "findWhole", "()V"⟩, 50) := ⟨⟨by decide +kernel, by decide +kernel⟩, List.mem_of_getElem? (i := 1085) (by decide +kernel), List.mem_of_getElem? (i := 1463) (by decide +kernel), List.mem_of_getElem? (i := 1464) (by decide +kernel)⟩
theorem lw_p66 : lw_okq (⟨"KeptPagesModel", "isBothWays", "(IIII)Z"⟩, 50) := ⟨⟨by decide +kernel, by decide +kernel⟩, List.mem_of_getElem? (i := 1085) (by decide +kernel), List.mem_of_getElem? (i := 1471) (by decide +kernel), List.mem_of_getElem? (i := 1472) (by decide +kernel)⟩
theorem lw_p67 : lw_okq (⟨"KeptPagesModel", "rateOf", "(I)I"⟩, 50) := ⟨⟨by decide +kernel, by decide +kernel⟩, List.mem_of_getElem? (i := 1085) (by decide +kernel), List.mem_of_getElem? (i := 1479) (by decide +kernel), List.mem_of_getElem? (i := 1480) (by decide +kernel)⟩
theorem lw_p68 : lw_okq (⟨"KeptPagesModel", "worthOf", "(I)I"⟩, 50) := ⟨⟨by decide +kernel, by decide +kernel⟩, List.mem_of_getElem? (i := 1085) (by decide +kernel), List.mem_of_getElem? (i := 1488) (by decide +kernel), List.mem_of_getElem? (i := 1489) (by decide +kernel)⟩
theorem lw_p69 : lw_okq (⟨"KeptPagesModel", "findPlan", "()I"⟩, 50) := ⟨⟨by decide +kernel, by decide +kernel⟩, List.mem_of_getElem? (i := 1085) (by decide +kernel), List.mem_of_getElem? (i := 1492) (by decide +kernel), List.mem_of_getElem? (i := 1493) (by decide +kernel)⟩
theorem lw_p70 : lw_okq (⟨"KeptPagesModel", "mayKnock", "(II)Z"⟩, 50) := ⟨⟨by decide +kernel, by decide +kernel⟩, List.mem_of_getElem? (i := 1085) (by decide +kernel), List.mem_of_getElem? (i := 1496) (by decide +kernel), List.mem_of_getElem? (i := 1497) (by decide +kernel)⟩
theorem lw_p71 : lw_okq (⟨"KeptPagesModel", "hasUpTo", "(I)I"⟩, 50) := ⟨⟨by decide +kernel, by decide +kernel⟩, List.mem_of_getElem? (i := 1085) (by decide +kernel), List.mem_of_getElem? (i := 1500) (by decide +kernel), List.mem_of_getElem? (i := 1501) (by decide +kernel)⟩
theorem lw_p72 : lw_okq (⟨"KeptPagesModel", "usedUpTo", "(I)I"⟩, 50) := ⟨⟨by decide +kernel, by decide +kernel⟩, List.mem_of_getElem? (i := 1085) (by decide +kernel), List.mem_of_getElem? (i := 1504) (by decide +kernel), List.mem_of_getElem? (i := 1505) (by decide +kernel)⟩
theorem lw_p73 : lw_okq (⟨"KeptPagesModel", "moreFrom", "(I)I"⟩, 50) := ⟨⟨by decide +kernel, by decide +kernel⟩, List.mem_of_getElem? (i := 1085) (by decide +kernel), List.mem_of_getElem? (i := 1508) (by decide +kernel), List.mem_of_getElem? (i := 1509) (by decide +kernel)⟩
theorem lw_p74 : lw_okq (⟨"KeptPagesModel", "linkMany", "(II)I"⟩, 50) := ⟨⟨by decide +kernel, by decide +kernel⟩, List.mem_of_getElem? (i := 1085) (by decide +kernel), List.mem_of_getElem? (i := 1517) (by decide +kernel), List.mem_of_getElem? (i := 1518) (by decide +kernel)⟩
theorem lw_p75 : lw_okq (⟨"KeptPagesModel", "linkAt", "(II)I"⟩, 50) := ⟨⟨by decide +kernel, by decide +kernel⟩, List.mem_of_getElem? (i := 1085) (by decide +kernel), List.mem_of_getElem? (i := 1521) (by decide +kernel), List.mem_of_getElem? (i := 1522) (by decide +kernel)⟩
theorem lw_p76 : lw_okq (⟨"KeptPagesModel", "isTrap", "(I)Z"⟩, 50) := ⟨⟨by decide +kernel, by decide +kernel⟩, List.mem_of_getElem? (i := 1085) (by decide +kernel), List.mem_of_getElem? (i := 1529) (by decide +kernel), List.mem_of_getElem? (i := 1530) (by decide +kernel)⟩
theorem lw_p77 : lw_okq (⟨"KeptPagesModel", "isSeen", "(I)Z"⟩, 50) := ⟨⟨by decide +kernel, by decide +kernel⟩, List.mem_of_getElem? (i := 1085) (by decide +kernel), List.mem_of_getElem? (i := 1537) (by decide +kernel), List.mem_of_getElem? (i := 1538) (by decide +kernel)⟩
theorem lw_p78 : lw_okq (⟨"KeptPagesModel", "likenessOf", "(II)I"⟩, 50) := ⟨⟨by decide +kernel, by decide +kernel⟩, List.mem_of_getElem? (i := 1085) (by decide +kernel), List.mem_of_getElem? (i := 1541) (by decide +kernel), List.mem_of_getElem? (i := 1542) (by decide +kernel)⟩
theorem lw_p79 : lw_okq (⟨"KeptPagesModel", "lastView", "(I)I"⟩, 50) := ⟨⟨by decide +kernel, by decide +kernel⟩, List.mem_of_getElem? (i := 1085) (by decide +kernel), List.mem_of_getElem? (i := 1549) (by decide +kernel), List.mem_of_getElem? (i := 1550) (by decide +kernel)⟩
def lw_privs_5 : List (MethodName × Nat) := [(⟨"KeptPagesModel", "could", "(IIZ)Z"⟩, 50), (⟨"KeptPagesModel", "findWhole", "()V"⟩, 50), (⟨"KeptPagesModel", "isBothWays", "(IIII)Z"⟩, 50), (⟨"KeptPagesModel", "rateOf", "(I)I"⟩, 50), (⟨"KeptPagesModel", "worthOf", "(I)I"⟩, 50), (⟨"KeptPagesModel", "findPlan", "()I"⟩, 50), (⟨"KeptPagesModel", "mayKnock", "(II)Z"⟩, 50), (⟨"KeptPagesModel", "hasUpTo", "(I)I"⟩, 50), (⟨"KeptPagesModel", "usedUpTo", "(I)I"⟩, 50), (⟨"KeptPagesModel", "moreFrom", "(I)I"⟩, 50), (⟨"KeptPagesModel", "linkMany", "(II)I"⟩, 50), (⟨"KeptPagesModel", "linkAt", "(II)I"⟩, 50), (⟨"KeptPagesModel", "isTrap", "(I)Z"⟩, 50), (⟨"KeptPagesModel", "isSeen", "(I)Z"⟩, 50), (⟨"KeptPagesModel", "likenessOf", "(II)I"⟩, 50), (⟨"KeptPagesModel", "lastView", "(I)I"⟩, 50)]
theorem lw_r5 : ∀ q ∈ lw_privs_5, lw_okq q := List.forall_mem_cons.mpr ⟨lw_p64, List.forall_mem_cons.mpr ⟨lw_p65, List.forall_mem_cons.mpr ⟨lw_p66, List.forall_mem_cons.mpr ⟨lw_p67, List.forall_mem_cons.mpr ⟨lw_p68, List.forall_mem_cons.mpr ⟨lw_p69, List.forall_mem_cons.mpr ⟨lw_p70, List.forall_mem_cons.mpr ⟨lw_p71, List.forall_mem_cons.mpr ⟨lw_p72, List.forall_mem_cons.mpr ⟨lw_p73, List.forall_mem_cons.mpr ⟨lw_p74, List.forall_mem_cons.mpr ⟨lw_p75, List.forall_mem_cons.mpr ⟨lw_p76, List.forall_mem_cons.mpr ⟨lw_p77, List.forall_mem_cons.mpr ⟨lw_p78, List.forall_mem_cons.mpr ⟨lw_p79, fun _ h => absurd h List.not_mem_nil⟩⟩⟩⟩⟩⟩⟩⟩⟩⟩⟩⟩⟩⟩⟩⟩
theorem lw_p80 : lw_okq (⟨"KeptPagesModel", "has", "(II)Z"⟩, 50) := ⟨⟨by decide +kernel, by decide +kernel⟩, List.mem_of_getElem? (i := 1085) (by decide +kernel), List.mem_of_getElem? (i := 1577) (by decide +kernel), List.mem_of_getElem? (i := 1578) (by decide +kernel)⟩
theorem lw_p81 : lw_okq (⟨"KeptPagesModel", "earliestBy", "(I)I"⟩, 50) := ⟨⟨by decide +kernel, by decide +kernel⟩, List.mem_of_getElem? (i := 1085) (by decide +kernel), List.mem_of_getElem? (i := 1581) (by decide +kernel), List.mem_of_getElem? (i := 1582) (by decide +kernel)⟩
theorem lw_p82 : lw_okq (⟨"KeptPagesModel", "latestBy", "(I)I"⟩, 50) := ⟨⟨by decide +kernel, by decide +kernel⟩, List.mem_of_getElem? (i := 1085) (by decide +kernel), List.mem_of_getElem? (i := 1585) (by decide +kernel), List.mem_of_getElem? (i := 1586) (by decide +kernel)⟩
theorem lw_p83 : lw_okq (⟨"KeptPagesModel", "firstWith", "(II)I"⟩, 50) := ⟨⟨by decide +kernel, by decide +kernel⟩, List.mem_of_getElem? (i := 1085) (by decide +kernel), List.mem_of_getElem? (i := 1593) (by decide +kernel), List.mem_of_getElem? (i := 1594) (by decide +kernel)⟩
def lw_privs_6 : List (MethodName × Nat) := [(⟨"KeptPagesModel", "has", "(II)Z"⟩, 50), (⟨"KeptPagesModel", "earliestBy", "(I)I"⟩, 50), (⟨"KeptPagesModel", "latestBy", "(I)I"⟩, 50), (⟨"KeptPagesModel", "firstWith", "(II)I"⟩, 50)]
theorem lw_r6 : ∀ q ∈ lw_privs_6, lw_okq q := List.forall_mem_cons.mpr ⟨lw_p80, List.forall_mem_cons.mpr ⟨lw_p81, List.forall_mem_cons.mpr ⟨lw_p82, List.forall_mem_cons.mpr ⟨lw_p83, fun _ h => absurd h List.not_mem_nil⟩⟩⟩⟩
def lw_privs : List (MethodName × Nat) := lw_privs_1 ++ (lw_privs_2 ++ (lw_privs_3 ++ (lw_privs_4 ++ (lw_privs_5 ++ (lw_privs_6)))))
def lw_tbl : List Cond := k2_sels lw_privs ++ tables_1
theorem lw_privs_ok : ∀ q ∈ lw_privs, lw_okq q := by
  show ∀ q ∈ lw_privs_1 ++ (lw_privs_2 ++ (lw_privs_3 ++ (lw_privs_4 ++ (lw_privs_5 ++ (lw_privs_6))))), lw_okq q
  exact List.forall_mem_append.mpr ⟨lw_r1, List.forall_mem_append.mpr ⟨lw_r2, List.forall_mem_append.mpr ⟨lw_r3, List.forall_mem_append.mpr ⟨lw_r4, List.forall_mem_append.mpr ⟨lw_r5, lw_r6⟩⟩⟩⟩⟩
end
section
def RX0 : String := "KeptPages$Houses"
def TX0 : u_T := fun k => match k with
  | _ => ("KeptPages$Houses", "kept", "[J", true)
def tyX0 : Nat → FieldType := fun k => match k with
  | _ => .array .long
abbrev wsX00 : List Cond := u_ws RX0 TX0 1
theorem nmX0 : ∀ a, a < 1 → ∀ b, b < 1 → a ≠ b → (TX0 a).2.1 ≠ (TX0 b).2.1 := by decide +kernel
theorem tyX0_ok : ∀ k, k < 1 → parseFieldDescriptor (TX0 k).2.2.1 = some (tyX0 k) := by decide +kernel
abbrev cX0_init : ByteArray := prog_2_method_1_code
def yX0_init : MethodName := ⟨RX0, "<init>", "()V"⟩
abbrev cX0_bring : ByteArray := prog_2_method_2_code
def yX0_bring : MethodName := ⟨RX0, "bring", "(J)V"⟩
abbrev cX0_keptIn : ByteArray := prog_2_method_3_code
def yX0_keptIn : MethodName := ⟨RX0, "keptIn", "(I)J"⟩
abbrev cX0_keptInAny : ByteArray := prog_2_method_4_code
def yX0_keptInAny : MethodName := ⟨RX0, "keptInAny", "()J"⟩
abbrev cX0_drop : ByteArray := prog_2_method_5_code
def yX0_drop : MethodName := ⟨RX0, "drop", "(II)Z"⟩
abbrev cX0_sentBetween : ByteArray := prog_2_method_6_code
def yX0_sentBetween : MethodName := ⟨RX0, "sentBetween", "(II)I"⟩
abbrev cX0_level : ByteArray := prog_2_method_7_code
def yX0_level : MethodName := ⟨RX0, "level", "()I"⟩
def RX1 : String := "KeptPages$Look"
def TX1 : u_T := fun k => match k with
  | 0 => ("KeptPages$Look", "number", "I", true)
  | 1 => ("KeptPages$Look", "home", "LKeptPages$Page;", true)
  | 2 => ("KeptPages$Look", "hour", "I", true)
  | 3 => ("KeptPages$Look", "kind", "I", false)
  | 4 => ("KeptPages$Look", "date", "I", false)
  | 5 => ("KeptPages$Look", "pieces", "J", false)
  | _ => ("KeptPages$Look", "out", "Z", false)
def tyX1 : Nat → FieldType := fun k => match k with
  | 0 => .int
  | 1 => .object "KeptPages$Page"
  | 2 => .int
  | 3 => .int
  | 4 => .int
  | 5 => .long
  | _ => .boolean
abbrev wsX10 : List Cond := u_ws RX1 TX1 7
theorem nmX1 : ∀ a, a < 7 → ∀ b, b < 7 → a ≠ b → (TX1 a).2.1 ≠ (TX1 b).2.1 := by decide +kernel
theorem tyX1_ok : ∀ k, k < 7 → parseFieldDescriptor (TX1 k).2.2.1 = some (tyX1 k) := by decide +kernel
abbrev cX1_init : ByteArray := prog_3_method_1_code
def yX1_init : MethodName := ⟨RX1, "<init>", "(ILKeptPages$Page;I)V"⟩
abbrev cX1_tell : ByteArray := prog_3_method_2_code
def yX1_tell : MethodName := ⟨RX1, "tell", "(IJI)V"⟩
abbrev cX1_takeOut : ByteArray := prog_3_method_3_code
def yX1_takeOut : MethodName := ⟨RX1, "takeOut", "()V"⟩
abbrev cX1_isView : ByteArray := prog_3_method_4_code
def yX1_isView : MethodName := ⟨RX1, "isView", "()Z"⟩
abbrev cX1_isSeen : ByteArray := prog_3_method_5_code
def yX1_isSeen : MethodName := ⟨RX1, "isSeen", "()Z"⟩
abbrev cX1_has : ByteArray := prog_3_method_6_code
def yX1_has : MethodName := ⟨RX1, "has", "(I)Z"⟩
abbrev cX1_start : ByteArray := prog_3_method_7_code
def yX1_start : MethodName := ⟨RX1, "start", "()I"⟩
abbrev cX1_form : ByteArray := prog_3_method_8_code
def yX1_form : MethodName := ⟨RX1, "form", "(J)J"⟩
def RX2 : String := "KeptPages$Page"
def TX2 : u_T := fun k => match k with
  | 0 => ("KeptPages$Page", "number", "I", true)
  | 1 => ("KeptPages$Page", "door", "I", true)
  | 2 => ("KeptPages$Page", "views", "Ljava/util/List;", true)
  | _ => ("KeptPages$Page", "program", "LKeptPages$Program;", false)
def tyX2 : Nat → FieldType := fun k => match k with
  | 0 => .int
  | 1 => .int
  | 2 => .object "java/util/List"
  | _ => .object "KeptPages$Program"
abbrev wsX20 : List Cond := u_ws RX2 TX2 4
theorem nmX2 : ∀ a, a < 4 → ∀ b, b < 4 → a ≠ b → (TX2 a).2.1 ≠ (TX2 b).2.1 := by decide +kernel
theorem tyX2_ok : ∀ k, k < 4 → parseFieldDescriptor (TX2 k).2.2.1 = some (tyX2 k) := by decide +kernel
abbrev cX2_init : ByteArray := prog_4_method_1_code
def yX2_init : MethodName := ⟨RX2, "<init>", "(II)V"⟩
abbrev cX2_drop : ByteArray := prog_4_method_2_code
def yX2_drop : MethodName := ⟨RX2, "drop", "(LKeptPages$Look;)V"⟩
abbrev cX2_lastView : ByteArray := prog_4_method_3_code
def yX2_lastView : MethodName := ⟨RX2, "lastView", "()LKeptPages$Look;"⟩
abbrev cX2_lastSeen : ByteArray := prog_4_method_4_code
def yX2_lastSeen : MethodName := ⟨RX2, "lastSeen", "()LKeptPages$Look;"⟩
abbrev cX2_lastUpTo : ByteArray := prog_4_method_5_code
def yX2_lastUpTo : MethodName := ⟨RX2, "lastUpTo", "(I)LKeptPages$Look;"⟩
abbrev cX2_firstFrom : ByteArray := prog_4_method_6_code
def yX2_firstFrom : MethodName := ⟨RX2, "firstFrom", "(I)LKeptPages$Look;"⟩
abbrev cX2_claims : ByteArray := prog_4_method_7_code
def yX2_claims : MethodName := ⟨RX2, "claims", "(IILKeptPages$Rights;)Z"⟩
abbrev cX2_sureAt : ByteArray := prog_4_method_8_code
def yX2_sureAt : MethodName := ⟨RX2, "sureAt", "(ILKeptPages$Rights;)I"⟩
abbrev cX2_stateAt : ByteArray := prog_4_method_9_code
def yX2_stateAt : MethodName := ⟨RX2, "stateAt", "(LKeptPages$Look;ILKeptPages$Rights;)I"⟩
abbrev cX2_couldUnclaimed : ByteArray := prog_4_method_10_code
def yX2_couldUnclaimed : MethodName := ⟨RX2, "couldUnclaimed", "(LKeptPages$Look;ILKeptPages$Rights;)Z"⟩
abbrev cX2_nextChange : ByteArray := prog_4_method_11_code
def yX2_nextChange : MethodName := ⟨RX2, "nextChange", "(I)I"⟩
abbrev cX2_sooner : ByteArray := prog_4_method_12_code
def yX2_sooner : MethodName := ⟨RX2, "sooner", "(III)I"⟩
abbrev cX2_alikeWithin : ByteArray := prog_4_method_13_code
def yX2_alikeWithin : MethodName := ⟨RX2, "alikeWithin", "(IILKeptPages$Rights;)Z"⟩
abbrev cX2_changeRate : ByteArray := prog_4_method_14_code
def yX2_changeRate : MethodName := ⟨RX2, "changeRate", "(LKeptPages$Rights;)I"⟩
abbrev cX2_worthAt : ByteArray := prog_4_method_15_code
def yX2_worthAt : MethodName := ⟨RX2, "worthAt", "(ILKeptPages$Rights;)I"⟩
abbrev cX2_sayingFrom : ByteArray := prog_4_method_16_code
def yX2_sayingFrom : MethodName := ⟨RX2, "sayingFrom", "(I)I"⟩
abbrev cX2_firstWith : ByteArray := prog_4_method_17_code
def yX2_firstWith : MethodName := ⟨RX2, "firstWith", "(I)I"⟩
abbrev cX2_latest : ByteArray := prog_4_method_18_code
def yX2_latest : MethodName := ⟨RX2, "latest", "(I)I"⟩
abbrev cX2_earliest : ByteArray := prog_4_method_19_code
def yX2_earliest : MethodName := ⟨RX2, "earliest", "(I)I"⟩
def RX3 : String := "KeptPages$Planner"
def TX3 : u_T := fun k => match k with
  | 0 => ("KeptPages$Planner", "numbers", "[I", true)
  | 1 => ("KeptPages$Planner", "doors", "[I", true)
  | 2 => ("KeptPages$Planner", "worths", "[I", true)
  | 3 => ("KeptPages$Planner", "byWorth", "[I", true)
  | 4 => ("KeptPages$Planner", "lets", "[I", true)
  | 5 => ("KeptPages$Planner", "freeFrom", "[I", true)
  | 6 => ("KeptPages$Planner", "room", "[I", true)
  | 7 => ("KeptPages$Planner", "tried", "[I", true)
  | 8 => ("KeptPages$Planner", "best", "[I", true)
  | 9 => ("KeptPages$Planner", "bestWorth", "I", false)
  | 10 => ("KeptPages$Planner", "size", "I", false)
  | _ => ("KeptPages$Planner", "night", "I", false)
def tyX3 : Nat → FieldType := fun k => match k with
  | 0 => .array .int
  | 1 => .array .int
  | 2 => .array .int
  | 3 => .array .int
  | 4 => .array .int
  | 5 => .array .int
  | 6 => .array .int
  | 7 => .array .int
  | 8 => .array .int
  | 9 => .int
  | 10 => .int
  | _ => .int
abbrev wsX30 : List Cond := u_ws RX3 TX3 12
theorem nmX3 : ∀ a, a < 12 → ∀ b, b < 12 → a ≠ b → (TX3 a).2.1 ≠ (TX3 b).2.1 := by decide +kernel
theorem tyX3_ok : ∀ k, k < 12 → parseFieldDescriptor (TX3 k).2.2.1 = some (tyX3 k) := by decide +kernel
abbrev cX3_init : ByteArray := prog_5_method_1_code
def yX3_init : MethodName := ⟨RX3, "<init>", "()V"⟩
abbrev cX3_open : ByteArray := prog_5_method_2_code
def yX3_open : MethodName := ⟨RX3, "open", "(LKeptPages$Rights;)V"⟩
abbrev cX3_offer : ByteArray := prog_5_method_3_code
def yX3_offer : MethodName := ⟨RX3, "offer", "(LKeptPages$Page;ILKeptPages$Rights;)V"⟩
abbrev cX3_settle : ByteArray := prog_5_method_4_code
def yX3_settle : MethodName := ⟨RX3, "settle", "()V"⟩
abbrev cX3_search : ByteArray := prog_5_method_5_code
def yX3_search : MethodName := ⟨RX3, "search", "(III)V"⟩
abbrev cX3_searchWith : ByteArray := prog_5_method_6_code
def yX3_searchWith : MethodName := ⟨RX3, "searchWith", "(IIII)V"⟩
abbrev cX3_keepIfBetter : ByteArray := prog_5_method_7_code
def yX3_keepIfBetter : MethodName := ⟨RX3, "keepIfBetter", "(I)V"⟩
abbrev cX3_isBehindBetter : ByteArray := prog_5_method_8_code
def yX3_isBehindBetter : MethodName := ⟨RX3, "isBehindBetter", "(II)Z"⟩
abbrev cX3_upToOfDoor : ByteArray := prog_5_method_9_code
def yX3_upToOfDoor : MethodName := ⟨RX3, "upToOfDoor", "(I)I"⟩
abbrev cX3_mostFrom : ByteArray := prog_5_method_10_code
def yX3_mostFrom : MethodName := ⟨RX3, "mostFrom", "(II)I"⟩
def RX4 : String := "KeptPages$Program"
def TX4 : u_T := fun k => match k with
  | 0 => ("KeptPages$Program", "starts", "[I", true)
  | 1 => ("KeptPages$Program", "steps", "[I", true)
  | 2 => ("KeptPages$Program", "times", "[I", true)
  | 3 => ("KeptPages$Program", "size", "I", false)
  | _ => ("KeptPages$Program", "endless", "Z", false)
def tyX4 : Nat → FieldType := fun k => match k with
  | 0 => .array .int
  | 1 => .array .int
  | 2 => .array .int
  | 3 => .int
  | _ => .boolean
abbrev wsX40 : List Cond := u_ws RX4 TX4 5
theorem nmX4 : ∀ a, a < 5 → ∀ b, b < 5 → a ≠ b → (TX4 a).2.1 ≠ (TX4 b).2.1 := by decide +kernel
theorem tyX4_ok : ∀ k, k < 5 → parseFieldDescriptor (TX4 k).2.2.1 = some (tyX4 k) := by decide +kernel
abbrev cX4_init : ByteArray := prog_6_method_1_code
def yX4_init : MethodName := ⟨RX4, "<init>", "()V"⟩
abbrev cX4_readFrom : ByteArray := prog_6_method_2_code
def yX4_readFrom : MethodName := ⟨RX4, "readFrom", "(LKeptPages$Text;)I"⟩
abbrev cX4_readClause : ByteArray := prog_6_method_3_code
def yX4_readClause : MethodName := ⟨RX4, "readClause", "(LKeptPages$Text;)V"⟩
abbrev cX4_takeBehind : ByteArray := prog_6_method_4_code
def yX4_takeBehind : MethodName := ⟨RX4, "takeBehind", "(Ljava/lang/String;LKeptPages$Text;)I"⟩
abbrev cX4_put : ByteArray := prog_6_method_5_code
def yX4_put : MethodName := ⟨RX4, "put", "(III)V"⟩
abbrev cX4_failBehindLast : ByteArray := prog_6_method_6_code
def yX4_failBehindLast : MethodName := ⟨RX4, "failBehindLast", "(LKeptPages$Text;)V"⟩
abbrev cX4_total : ByteArray := prog_6_method_7_code
def yX4_total : MethodName := ⟨RX4, "total", "()I"⟩
abbrev cX4_linkAt : ByteArray := prog_6_method_8_code
def yX4_linkAt : MethodName := ⟨RX4, "linkAt", "(I)I"⟩
def RX5 : String := "KeptPages$Rights"
def TX5 : u_T := fun k => match k with
  | 0 => ("KeptPages$Rights", "lets", "[I", true)
  | 1 => ("KeptPages$Rights", "nevers", "I", false)
  | 2 => ("KeptPages$Rights", "letsTold", "I", false)
  | 3 => ("KeptPages$Rights", "clausesTold", "I", false)
  | 4 => ("KeptPages$Rights", "night", "I", false)
  | 5 => ("KeptPages$Rights", "patience", "I", false)
  | _ => ("KeptPages$Rights", "clothes", "J", false)
def tyX5 : Nat → FieldType := fun k => match k with
  | 0 => .array .int
  | 1 => .int
  | 2 => .int
  | 3 => .int
  | 4 => .int
  | 5 => .int
  | _ => .long
abbrev wsX50 : List Cond := u_ws RX5 TX5 7
theorem nmX5 : ∀ a, a < 7 → ∀ b, b < 7 → a ≠ b → (TX5 a).2.1 ≠ (TX5 b).2.1 := by decide +kernel
theorem tyX5_ok : ∀ k, k < 7 → parseFieldDescriptor (TX5 k).2.2.1 = some (tyX5 k) := by decide +kernel
abbrev cX5_init : ByteArray := prog_7_method_1_code
def yX5_init : MethodName := ⟨RX5, "<init>", "()V"⟩
abbrev cX5_becomeFirst : ByteArray := prog_7_method_2_code
def yX5_becomeFirst : MethodName := ⟨RX5, "becomeFirst", "()V"⟩
abbrev cX5_readFrom : ByteArray := prog_7_method_3_code
def yX5_readFrom : MethodName := ⟨RX5, "readFrom", "(LKeptPages$Text;)I"⟩
abbrev cX5_readClause : ByteArray := prog_7_method_4_code
def yX5_readClause : MethodName := ⟨RX5, "readClause", "(LKeptPages$Text;)V"⟩
abbrev cX5_tellOnce : ByteArray := prog_7_method_5_code
def yX5_tellOnce : MethodName := ⟨RX5, "tellOnce", "(IILKeptPages$Text;)V"⟩
abbrev cX5_readDoor : ByteArray := prog_7_method_6_code
def yX5_readDoor : MethodName := ⟨RX5, "readDoor", "(LKeptPages$Text;I)I"⟩
abbrev cX5_readLet : ByteArray := prog_7_method_7_code
def yX5_readLet : MethodName := ⟨RX5, "readLet", "(LKeptPages$Text;)V"⟩
abbrev cX5_readClothes : ByteArray := prog_7_method_8_code
def yX5_readClothes : MethodName := ⟨RX5, "readClothes", "(LKeptPages$Text;)V"⟩
abbrev cX5_letOf : ByteArray := prog_7_method_9_code
def yX5_letOf : MethodName := ⟨RX5, "letOf", "(I)I"⟩
abbrev cX5_allow : ByteArray := prog_7_method_10_code
def yX5_allow : MethodName := ⟨RX5, "allow", "(II)Z"⟩
abbrev cX5_sameForm : ByteArray := prog_7_method_11_code
def yX5_sameForm : MethodName := ⟨RX5, "sameForm", "(LKeptPages$Look;LKeptPages$Look;)Z"⟩
abbrev cX5_likenessOf : ByteArray := prog_7_method_12_code
def yX5_likenessOf : MethodName := ⟨RX5, "likenessOf", "(LKeptPages$Look;LKeptPages$Look;)I"⟩
def RX6 : String := "KeptPages$Text"
def TX6 : u_T := fun k => match k with
  | 0 => ("KeptPages$Text", "bytes", "[I", true)
  | 1 => ("KeptPages$Text", "length", "I", false)
  | 2 => ("KeptPages$Text", "place", "I", false)
  | 3 => ("KeptPages$Text", "faultKind", "I", false)
  | _ => ("KeptPages$Text", "faultPlace", "I", false)
def tyX6 : Nat → FieldType := fun k => match k with
  | 0 => .array .int
  | 1 => .int
  | 2 => .int
  | 3 => .int
  | _ => .int
abbrev wsX60 : List Cond := u_ws RX6 TX6 5
theorem nmX6 : ∀ a, a < 5 → ∀ b, b < 5 → a ≠ b → (TX6 a).2.1 ≠ (TX6 b).2.1 := by decide +kernel
theorem tyX6_ok : ∀ k, k < 5 → parseFieldDescriptor (TX6 k).2.2.1 = some (tyX6 k) := by decide +kernel
abbrev cX6_init : ByteArray := prog_8_method_1_code
def yX6_init : MethodName := ⟨RX6, "<init>", "()V"⟩
abbrev cX6_append : ByteArray := prog_8_method_2_code
def yX6_append : MethodName := ⟨RX6, "append", "(IJ)Z"⟩
abbrev cX6_open : ByteArray := prog_8_method_3_code
def yX6_open : MethodName := ⟨RX6, "open", "()V"⟩
abbrev cX6_fail : ByteArray := prog_8_method_4_code
def yX6_fail : MethodName := ⟨RX6, "fail", "(II)V"⟩
abbrev cX6_byteAt : ByteArray := prog_8_method_5_code
def yX6_byteAt : MethodName := ⟨RX6, "byteAt", "(I)I"⟩
abbrev cX6_isLetter : ByteArray := prog_8_method_6_code
def yX6_isLetter : MethodName := ⟨RX6, "isLetter", "(I)Z"⟩
abbrev cX6_isFigure : ByteArray := prog_8_method_7_code
def yX6_isFigure : MethodName := ⟨RX6, "isFigure", "(I)Z"⟩
abbrev cX6_nextPlace : ByteArray := prog_8_method_8_code
def yX6_nextPlace : MethodName := ⟨RX6, "nextPlace", "()I"⟩
abbrev cX6_goesOn : ByteArray := prog_8_method_9_code
def yX6_goesOn : MethodName := ⟨RX6, "goesOn", "()Z"⟩
abbrev cX6_passWord : ByteArray := prog_8_method_10_code
def yX6_passWord : MethodName := ⟨RX6, "passWord", "(Ljava/lang/String;)Z"⟩
abbrev cX6_passSign : ByteArray := prog_8_method_11_code
def yX6_passSign : MethodName := ⟨RX6, "passSign", "(C)Z"⟩
abbrev cX6_takeWord : ByteArray := prog_8_method_12_code
def yX6_takeWord : MethodName := ⟨RX6, "takeWord", "(Ljava/lang/String;)V"⟩
abbrev cX6_takeSign : ByteArray := prog_8_method_13_code
def yX6_takeSign : MethodName := ⟨RX6, "takeSign", "(C)V"⟩
abbrev cX6_takeNumber : ByteArray := prog_8_method_14_code
def yX6_takeNumber : MethodName := ⟨RX6, "takeNumber", "(II)I"⟩
def RX7 : String := "KeptPages$Whole"
def TX7 : u_T := fun k => match k with
  | 0 => ("KeptPages$Whole", "row", "Ljava/util/List;", true)
  | 1 => ("KeptPages$Whole", "states", "[I", true)
  | 2 => ("KeptPages$Whole", "statesUntil", "[I", true)
  | 3 => ("KeptPages$Whole", "firstStood", "I", false)
  | 4 => ("KeptPages$Whole", "hoursStood", "I", false)
  | 5 => ("KeptPages$Whole", "firstCould", "I", false)
  | 6 => ("KeptPages$Whole", "fewest", "I", false)
  | 7 => ("KeptPages$Whole", "nearest", "I", false)
  | 8 => ("KeptPages$Whole", "mostSure", "I", false)
  | _ => ("KeptPages$Whole", "leastNot", "I", false)
def tyX7 : Nat → FieldType := fun k => match k with
  | 0 => .object "java/util/List"
  | 1 => .array .int
  | 2 => .array .int
  | 3 => .int
  | 4 => .int
  | 5 => .int
  | 6 => .int
  | 7 => .int
  | 8 => .int
  | _ => .int
abbrev wsX70 : List Cond := u_ws RX7 TX7 10
theorem nmX7 : ∀ a, a < 10 → ∀ b, b < 10 → a ≠ b → (TX7 a).2.1 ≠ (TX7 b).2.1 := by decide +kernel
theorem tyX7_ok : ∀ k, k < 10 → parseFieldDescriptor (TX7 k).2.2.1 = some (tyX7 k) := by decide +kernel
abbrev cX7_init : ByteArray := prog_9_method_1_code
def yX7_init : MethodName := ⟨RX7, "<init>", "()V"⟩
abbrev cX7_hasPage : ByteArray := prog_9_method_2_code
def yX7_hasPage : MethodName := ⟨RX7, "hasPage", "(LKeptPages$Page;)Z"⟩
abbrev cX7_drop : ByteArray := prog_9_method_3_code
def yX7_drop : MethodName := ⟨RX7, "drop", "(LKeptPages$Look;)V"⟩
abbrev cX7_weigh : ByteArray := prog_9_method_4_code
def yX7_weigh : MethodName := ⟨RX7, "weigh", "(ILKeptPages$Rights;)V"⟩
abbrev cX7_stepTo : ByteArray := prog_9_method_5_code
def yX7_stepTo : MethodName := ⟨RX7, "stepTo", "(ILKeptPages$Rights;)I"⟩
abbrev cX7_weighHours : ByteArray := prog_9_method_6_code
def yX7_weighHours : MethodName := ⟨RX7, "weighHours", "(II)V"⟩
abbrev cX7_isFewer : ByteArray := prog_9_method_7_code
def yX7_isFewer : MethodName := ⟨RX7, "isFewer", "(II)Z"⟩
abbrev cX7_answer : ByteArray := prog_9_method_8_code
def yX7_answer : MethodName := ⟨RX7, "answer", "(I)I"⟩
def RX8 : String := "KeptPages"
def TX8 : u_T := fun k => match k with
  | 0 => ("KeptPages", "pages", "Ljava/util/List;", true)
  | 1 => ("KeptPages", "looks", "Ljava/util/List;", true)
  | 2 => ("KeptPages", "knocked", "[I", true)
  | 3 => ("KeptPages", "text", "LKeptPages$Text;", true)
  | 4 => ("KeptPages", "together", "LKeptPages$Whole;", true)
  | 5 => ("KeptPages", "planner", "LKeptPages$Planner;", true)
  | 6 => ("KeptPages", "houses", "LKeptPages$Houses;", true)
  | 7 => ("KeptPages", "rights", "LKeptPages$Rights;", false)
  | 8 => ("KeptPages", "spareRights", "LKeptPages$Rights;", false)
  | 9 => ("KeptPages", "spareProgram", "LKeptPages$Program;", false)
  | 10 => ("KeptPages", "now", "I", false)
  | _ => ("KeptPages", "faultPlace", "I", false)
def tyX8 : Nat → FieldType := fun k => match k with
  | 0 => .object "java/util/List"
  | 1 => .object "java/util/List"
  | 2 => .array .int
  | 3 => .object "KeptPages$Text"
  | 4 => .object "KeptPages$Whole"
  | 5 => .object "KeptPages$Planner"
  | 6 => .object "KeptPages$Houses"
  | 7 => .object "KeptPages$Rights"
  | 8 => .object "KeptPages$Rights"
  | 9 => .object "KeptPages$Program"
  | 10 => .int
  | _ => .int
abbrev wsX80 : List Cond := u_ws RX8 TX8 12
theorem nmX8 : ∀ a, a < 12 → ∀ b, b < 12 → a ≠ b → (TX8 a).2.1 ≠ (TX8 b).2.1 := by decide +kernel
theorem tyX8_ok : ∀ k, k < 12 → parseFieldDescriptor (TX8 k).2.2.1 = some (tyX8 k) := by decide +kernel
abbrev cX8_init : ByteArray := prog_1_method_1_code
def yX8_init : MethodName := ⟨RX8, "<init>", "()V"⟩
abbrev cX8_go : ByteArray := prog_1_method_2_code
def yX8_go : MethodName := ⟨RX8, "go", "(I)I"⟩
abbrev cX8_page : ByteArray := prog_1_method_3_code
def yX8_page : MethodName := ⟨RX8, "page", "(I)I"⟩
abbrev cX8_look : ByteArray := prog_1_method_4_code
def yX8_look : MethodName := ⟨RX8, "look", "(IIJI)I"⟩
abbrev cX8_take : ByteArray := prog_1_method_5_code
def yX8_take : MethodName := ⟨RX8, "take", "(I)I"⟩
abbrev cX8_told : ByteArray := prog_1_method_6_code
def yX8_told : MethodName := ⟨RX8, "told", "(II)I"⟩
abbrev cX8_pieces : ByteArray := prog_1_method_7_code
def yX8_pieces : MethodName := ⟨RX8, "pieces", "(I)J"⟩
abbrev cX8_view : ByteArray := prog_1_method_8_code
def yX8_view : MethodName := ⟨RX8, "view", "(II)I"⟩
abbrev cX8_count : ByteArray := prog_1_method_9_code
def yX8_count : MethodName := ⟨RX8, "count", "(I)I"⟩
abbrev cX8_feed : ByteArray := prog_1_method_10_code
def yX8_feed : MethodName := ⟨RX8, "feed", "(IJ)I"⟩
abbrev cX8_read : ByteArray := prog_1_method_11_code
def yX8_read : MethodName := ⟨RX8, "read", "()I"⟩
abbrev cX8_program : ByteArray := prog_1_method_12_code
def yX8_program : MethodName := ⟨RX8, "program", "(I)I"⟩
abbrev cX8_fault : ByteArray := prog_1_method_13_code
def yX8_fault : MethodName := ⟨RX8, "fault", "()I"⟩
abbrev cX8_right : ByteArray := prog_1_method_14_code
def yX8_right : MethodName := ⟨RX8, "right", "(I)I"⟩
abbrev cX8_alike : ByteArray := prog_1_method_15_code
def yX8_alike : MethodName := ⟨RX8, "alike", "(II)I"⟩
abbrev cX8_sure : ByteArray := prog_1_method_16_code
def yX8_sure : MethodName := ⟨RX8, "sure", "(II)I"⟩
abbrev cX8_state : ByteArray := prog_1_method_17_code
def yX8_state : MethodName := ⟨RX8, "state", "(II)I"⟩
abbrev cX8_hours : ByteArray := prog_1_method_18_code
def yX8_hours : MethodName := ⟨RX8, "hours", "(IIII)I"⟩
abbrev cX8_part : ByteArray := prog_1_method_19_code
def yX8_part : MethodName := ⟨RX8, "part", "(I)I"⟩
abbrev cX8_wipe : ByteArray := prog_1_method_20_code
def yX8_wipe : MethodName := ⟨RX8, "wipe", "()I"⟩
abbrev cX8_whole : ByteArray := prog_1_method_21_code
def yX8_whole : MethodName := ⟨RX8, "whole", "(I)I"⟩
abbrev cX8_bothWays : ByteArray := prog_1_method_22_code
def yX8_bothWays : MethodName := ⟨RX8, "bothWays", "(III)I"⟩
abbrev cX8_rate : ByteArray := prog_1_method_23_code
def yX8_rate : MethodName := ⟨RX8, "rate", "(I)I"⟩
abbrev cX8_plan : ByteArray := prog_1_method_24_code
def yX8_plan : MethodName := ⟨RX8, "plan", "(II)I"⟩
abbrev cX8_links : ByteArray := prog_1_method_25_code
def yX8_links : MethodName := ⟨RX8, "links", "(III)I"⟩
abbrev cX8_more : ByteArray := prog_1_method_26_code
def yX8_more : MethodName := ⟨RX8, "more", "(II)I"⟩
abbrev cX8_likeness : ByteArray := prog_1_method_27_code
def yX8_likeness : MethodName := ⟨RX8, "likeness", "(II)I"⟩
abbrev cX8_moved : ByteArray := prog_1_method_28_code
def yX8_moved : MethodName := ⟨RX8, "moved", "(I)I"⟩
abbrev cX8_lose : ByteArray := prog_1_method_29_code
def yX8_lose : MethodName := ⟨RX8, "lose", "(II)I"⟩
abbrev cX8_words : ByteArray := prog_1_method_30_code
def yX8_words : MethodName := ⟨RX8, "words", "(II)I"⟩
abbrev cX8_mend : ByteArray := prog_1_method_31_code
def yX8_mend : MethodName := ⟨RX8, "mend", "()I"⟩
abbrev cX8_shown : ByteArray := prog_1_method_32_code
def yX8_shown : MethodName := ⟨RX8, "shown", "(III)I"⟩
abbrev cX8_since : ByteArray := prog_1_method_33_code
def yX8_since : MethodName := ⟨RX8, "since", "(III)I"⟩
abbrev cX8_first : ByteArray := prog_1_method_34_code
def yX8_first : MethodName := ⟨RX8, "first", "(I)I"⟩
abbrev cX8_nowhere : ByteArray := prog_1_method_35_code
def yX8_nowhere : MethodName := ⟨RX8, "nowhere", "()J"⟩
abbrev cX8_pageAt : ByteArray := prog_1_method_36_code
def yX8_pageAt : MethodName := ⟨RX8, "pageAt", "(I)LKeptPages$Page;"⟩
abbrev cX8_lookAt : ByteArray := prog_1_method_37_code
def yX8_lookAt : MethodName := ⟨RX8, "lookAt", "(I)LKeptPages$Look;"⟩
abbrev cX8_viewAt : ByteArray := prog_1_method_38_code
def yX8_viewAt : MethodName := ⟨RX8, "viewAt", "(I)LKeptPages$Look;"⟩
abbrev cX8_arePages : ByteArray := prog_1_method_39_code
def yX8_arePages : MethodName := ⟨RX8, "arePages", "(I)Z"⟩
abbrev cX8_isHour : ByteArray := prog_1_method_40_code
def yX8_isHour : MethodName := ⟨RX8, "isHour", "(I)Z"⟩
abbrev cX8_isSpan : ByteArray := prog_1_method_41_code
def yX8_isSpan : MethodName := ⟨RX8, "isSpan", "(II)Z"⟩
abbrev cX8_isPiece : ByteArray := prog_1_method_42_code
def yX8_isPiece : MethodName := ⟨RX8, "isPiece", "(I)Z"⟩
abbrev cX8_keep : ByteArray := prog_1_method_43_code
def yX8_keep : MethodName := ⟨RX8, "keep", "(LKeptPages$Look;)V"⟩
abbrev cX8_holes : ByteArray := prog_1_method_44_code
def yX8_holes : MethodName := ⟨RX8, "holes", "()I"⟩
abbrev cX8_allViews : ByteArray := prog_1_method_45_code
def yX8_allViews : MethodName := ⟨RX8, "allViews", "()I"⟩
abbrev cX8_piecesEver : ByteArray := prog_1_method_46_code
def yX8_piecesEver : MethodName := ⟨RX8, "piecesEver", "()J"⟩
abbrev cX8_closeText : ByteArray := prog_1_method_47_code
def yX8_closeText : MethodName := ⟨RX8, "closeText", "(I)I"⟩
def RX9 : String := "KeptPagesModel"
def TX9 : u_T := fun k => match k with
  | 0 => ("KeptPagesModel", "now", "I", false)
  | 1 => ("KeptPagesModel", "pages", "I", false)
  | 2 => ("KeptPagesModel", "door", "[I", true)
  | 3 => ("KeptPagesModel", "looks", "I", false)
  | 4 => ("KeptPagesModel", "pageOf", "[I", true)
  | 5 => ("KeptPagesModel", "hour", "[I", true)
  | 6 => ("KeptPagesModel", "kind", "[I", true)
  | 7 => ("KeptPagesModel", "set", "[J", true)
  | 8 => ("KeptPagesModel", "date", "[I", true)
  | 9 => ("KeptPagesModel", "house", "[J", true)
  | 10 => ("KeptPagesModel", "isNever", "[Z", true)
  | 11 => ("KeptPagesModel", "let", "[I", true)
  | 12 => ("KeptPagesModel", "night", "I", false)
  | 13 => ("KeptPagesModel", "patience", "I", false)
  | 14 => ("KeptPagesModel", "clothes", "J", false)
  | 15 => ("KeptPagesModel", "row", "[I", true)
  | 16 => ("KeptPagesModel", "views", "I", false)
  | 17 => ("KeptPagesModel", "text", "[I", true)
  | 18 => ("KeptPagesModel", "textSize", "I", false)
  | 19 => ("KeptPagesModel", "here", "I", false)
  | 20 => ("KeptPagesModel", "faultOf", "I", false)
  | 21 => ("KeptPagesModel", "place", "I", false)
  | 22 => ("KeptPagesModel", "begin", "I", false)
  | 23 => ("KeptPagesModel", "letters", "I", false)
  | 24 => ("KeptPagesModel", "newNever", "[Z", true)
  | 25 => ("KeptPagesModel", "newLet", "[I", true)
  | 26 => ("KeptPagesModel", "newNight", "I", false)
  | 27 => ("KeptPagesModel", "newPatience", "I", false)
  | 28 => ("KeptPagesModel", "newClothes", "J", false)
  | 29 => ("KeptPagesModel", "toldRights", "I", false)
  | 30 => ("KeptPagesModel", "clauses", "[I", true)
  | 31 => ("KeptPagesModel", "first", "[I", true)
  | 32 => ("KeptPagesModel", "by", "[I", true)
  | 33 => ("KeptPagesModel", "times", "[I", true)
  | 34 => ("KeptPagesModel", "newFirst", "[I", true)
  | 35 => ("KeptPagesModel", "newBy", "[I", true)
  | 36 => ("KeptPagesModel", "newTimes", "[I", true)
  | 37 => ("KeptPagesModel", "parts", "I", false)
  | 38 => ("KeptPagesModel", "part", "[I", true)
  | 39 => ("KeptPagesModel", "stood", "I", false)
  | 40 => ("KeptPagesModel", "stoodMany", "I", false)
  | 41 => ("KeptPagesModel", "couldFirst", "I", false)
  | 42 => ("KeptPagesModel", "leave", "I", false)
  | 43 => ("KeptPagesModel", "nearest", "I", false)
  | 44 => ("KeptPagesModel", "nearestTwos", "I", false)
  | 45 => ("KeptPagesModel", "member", "[I", true)
  | 46 => ("KeptPagesModel", "worth", "[I", true)
  | 47 => ("KeptPagesModel", "members", "I", false)
  | 48 => ("KeptPagesModel", "knock", "[I", true)
  | _ => ("KeptPagesModel", "bestKnock", "[I", true)
def tyX9 : Nat → FieldType := fun k => match k with
  | 0 => .int
  | 1 => .int
  | 2 => .array .int
  | 3 => .int
  | 4 => .array .int
  | 5 => .array .int
  | 6 => .array .int
  | 7 => .array .long
  | 8 => .array .int
  | 9 => .array .long
  | 10 => .array .boolean
  | 11 => .array .int
  | 12 => .int
  | 13 => .int
  | 14 => .long
  | 15 => .array .int
  | 16 => .int
  | 17 => .array .int
  | 18 => .int
  | 19 => .int
  | 20 => .int
  | 21 => .int
  | 22 => .int
  | 23 => .int
  | 24 => .array .boolean
  | 25 => .array .int
  | 26 => .int
  | 27 => .int
  | 28 => .long
  | 29 => .int
  | 30 => .array .int
  | 31 => .array .int
  | 32 => .array .int
  | 33 => .array .int
  | 34 => .array .int
  | 35 => .array .int
  | 36 => .array .int
  | 37 => .int
  | 38 => .array .int
  | 39 => .int
  | 40 => .int
  | 41 => .int
  | 42 => .int
  | 43 => .int
  | 44 => .int
  | 45 => .array .int
  | 46 => .array .int
  | 47 => .int
  | 48 => .array .int
  | _ => .array .int
abbrev wsX90 : List Cond := u_ws RX9 TX9 50
theorem nmX9 : ∀ a, a < 50 → ∀ b, b < 50 → a ≠ b → (TX9 a).2.1 ≠ (TX9 b).2.1 := by decide +kernel
theorem tyX9_ok : ∀ k, k < 50 → parseFieldDescriptor (TX9 k).2.2.1 = some (tyX9 k) := by decide +kernel
abbrev cX9_init : ByteArray := prog_11_method_1_code
def yX9_init : MethodName := ⟨RX9, "<init>", "()V"⟩
abbrev cX9_in : ByteArray := prog_11_method_3_code
def yX9_in : MethodName := ⟨RX9, "in", "(JJJ)Z"⟩
abbrev cX9_one : ByteArray := prog_11_method_4_code
def yX9_one : MethodName := ⟨RX9, "one", "(Z)I"⟩
abbrev cX9_ones : ByteArray := prog_11_method_5_code
def yX9_ones : MethodName := ⟨RX9, "ones", "(J)I"⟩
abbrev cX9_noPage : ByteArray := prog_11_method_6_code
def yX9_noPage : MethodName := ⟨RX9, "noPage", "(I)Z"⟩
abbrev cX9_noLook : ByteArray := prog_11_method_7_code
def yX9_noLook : MethodName := ⟨RX9, "noLook", "(I)Z"⟩
abbrev cX9_isView : ByteArray := prog_11_method_8_code
def yX9_isView : MethodName := ⟨RX9, "isView", "(I)Z"⟩
abbrev cX9_isSeen : ByteArray := prog_11_method_9_code
def yX9_isSeen : MethodName := ⟨RX9, "isSeen", "(I)Z"⟩
abbrev cX9_go : ByteArray := prog_11_method_10_code
def yX9_go : MethodName := ⟨RX9, "go", "(I)I"⟩
abbrev cX9_page : ByteArray := prog_11_method_11_code
def yX9_page : MethodName := ⟨RX9, "page", "(I)I"⟩
abbrev cX9_isLet : ByteArray := prog_11_method_12_code
def yX9_isLet : MethodName := ⟨RX9, "isLet", "(I)Z"⟩
abbrev cX9_look : ByteArray := prog_11_method_13_code
def yX9_look : MethodName := ⟨RX9, "look", "(IIJI)I"⟩
abbrev cX9_take : ByteArray := prog_11_method_14_code
def yX9_take : MethodName := ⟨RX9, "take", "(I)I"⟩
abbrev cX9_told : ByteArray := prog_11_method_15_code
def yX9_told : MethodName := ⟨RX9, "told", "(II)I"⟩
abbrev cX9_pieces : ByteArray := prog_11_method_16_code
def yX9_pieces : MethodName := ⟨RX9, "pieces", "(I)J"⟩
abbrev cX9_findViews : ByteArray := prog_11_method_17_code
def yX9_findViews : MethodName := ⟨RX9, "findViews", "(I)V"⟩
abbrev cX9_view : ByteArray := prog_11_method_19_code
def yX9_view : MethodName := ⟨RX9, "view", "(II)I"⟩
abbrev cX9_allPieces : ByteArray := prog_11_method_20_code
def yX9_allPieces : MethodName := ⟨RX9, "allPieces", "()J"⟩
abbrev cX9_allViews : ByteArray := prog_11_method_21_code
def yX9_allViews : MethodName := ⟨RX9, "allViews", "(Z)I"⟩
abbrev cX9_count : ByteArray := prog_11_method_22_code
def yX9_count : MethodName := ⟨RX9, "count", "(I)I"⟩
abbrev cX9_feed : ByteArray := prog_11_method_23_code
def yX9_feed : MethodName := ⟨RX9, "feed", "(IJ)I"⟩
abbrev cX9_peek : ByteArray := prog_11_method_24_code
def yX9_peek : MethodName := ⟨RX9, "peek", "()I"⟩
abbrev cX9_want : ByteArray := prog_11_method_25_code
def yX9_want : MethodName := ⟨RX9, "want", "(ZII)Z"⟩
abbrev cX9_takeWord : ByteArray := prog_11_method_26_code
def yX9_takeWord : MethodName := ⟨RX9, "takeWord", "()V"⟩
abbrev cX9_isWord : ByteArray := prog_11_method_27_code
def yX9_isWord : MethodName := ⟨RX9, "isWord", "(IIIIIIIII)Z"⟩
abbrev cX9_takeNumber : ByteArray := prog_11_method_28_code
def yX9_takeNumber : MethodName := ⟨RX9, "takeNumber", "(II)I"⟩
abbrev cX9_takeEnd : ByteArray := prog_11_method_29_code
def yX9_takeEnd : MethodName := ⟨RX9, "takeEnd", "()V"⟩
abbrev cX9_startText : ByteArray := prog_11_method_30_code
def yX9_startText : MethodName := ⟨RX9, "startText", "()V"⟩
abbrev cX9_beginRights : ByteArray := prog_11_method_31_code
def yX9_beginRights : MethodName := ⟨RX9, "beginRights", "()V"⟩
abbrev cX9_useRights : ByteArray := prog_11_method_32_code
def yX9_useRights : MethodName := ⟨RX9, "useRights", "()V"⟩
abbrev cX9_once : ByteArray := prog_11_method_33_code
def yX9_once : MethodName := ⟨RX9, "once", "(II)Z"⟩
abbrev cX9_readNever : ByteArray := prog_11_method_34_code
def yX9_readNever : MethodName := ⟨RX9, "readNever", "()V"⟩
abbrev cX9_readLet : ByteArray := prog_11_method_35_code
def yX9_readLet : MethodName := ⟨RX9, "readLet", "()V"⟩
abbrev cX9_readClothes : ByteArray := prog_11_method_36_code
def yX9_readClothes : MethodName := ⟨RX9, "readClothes", "()V"⟩
abbrev cX9_readRight : ByteArray := prog_11_method_37_code
def yX9_readRight : MethodName := ⟨RX9, "readRight", "()V"⟩
abbrev cX9_read : ByteArray := prog_11_method_38_code
def yX9_read : MethodName := ⟨RX9, "read", "()I"⟩
abbrev cX9_takeBy : ByteArray := prog_11_method_39_code
def yX9_takeBy : MethodName := ⟨RX9, "takeBy", "(I)V"⟩
abbrev cX9_readClause : ByteArray := prog_11_method_40_code
def yX9_readClause : MethodName := ⟨RX9, "readClause", "(I)V"⟩
abbrev cX9_isClause : ByteArray := prog_11_method_41_code
def yX9_isClause : MethodName := ⟨RX9, "isClause", "()Z"⟩
abbrev cX9_program : ByteArray := prog_11_method_42_code
def yX9_program : MethodName := ⟨RX9, "program", "(I)I"⟩
abbrev cX9_fault : ByteArray := prog_11_method_43_code
def yX9_fault : MethodName := ⟨RX9, "fault", "()I"⟩
abbrev cX9_right : ByteArray := prog_11_method_44_code
def yX9_right : MethodName := ⟨RX9, "right", "(I)I"⟩
abbrev cX9_areAlike : ByteArray := prog_11_method_45_code
def yX9_areAlike : MethodName := ⟨RX9, "areAlike", "(II)Z"⟩
abbrev cX9_alike : ByteArray := prog_11_method_46_code
def yX9_alike : MethodName := ⟨RX9, "alike", "(II)I"⟩
abbrev cX9_claims : ByteArray := prog_11_method_47_code
def yX9_claims : MethodName := ⟨RX9, "claims", "(II)Z"⟩
abbrev cX9_sureAt : ByteArray := prog_11_method_48_code
def yX9_sureAt : MethodName := ⟨RX9, "sureAt", "(I)I"⟩
abbrev cX9_isTime : ByteArray := prog_11_method_49_code
def yX9_isTime : MethodName := ⟨RX9, "isTime", "(I)Z"⟩
abbrev cX9_sure : ByteArray := prog_11_method_50_code
def yX9_sure : MethodName := ⟨RX9, "sure", "(II)I"⟩
abbrev cX9_could : ByteArray := prog_11_method_51_code
def yX9_could : MethodName := ⟨RX9, "could", "(IIZ)Z"⟩
abbrev cX9_stateAt : ByteArray := prog_11_method_52_code
def yX9_stateAt : MethodName := ⟨RX9, "stateAt", "(II)I"⟩
abbrev cX9_state : ByteArray := prog_11_method_53_code
def yX9_state : MethodName := ⟨RX9, "state", "(II)I"⟩
abbrev cX9_hours : ByteArray := prog_11_method_54_code
def yX9_hours : MethodName := ⟨RX9, "hours", "(IIII)I"⟩
abbrev cX9_part : ByteArray := prog_11_method_55_code
def yX9_part : MethodName := ⟨RX9, "part", "(I)I"⟩
abbrev cX9_wipe : ByteArray := prog_11_method_56_code
def yX9_wipe : MethodName := ⟨RX9, "wipe", "()I"⟩
abbrev cX9_findWhole : ByteArray := prog_11_method_57_code
def yX9_findWhole : MethodName := ⟨RX9, "findWhole", "()V"⟩
abbrev cX9_whole : ByteArray := prog_11_method_58_code
def yX9_whole : MethodName := ⟨RX9, "whole", "(I)I"⟩
abbrev cX9_isBothWays : ByteArray := prog_11_method_59_code
def yX9_isBothWays : MethodName := ⟨RX9, "isBothWays", "(IIII)Z"⟩
abbrev cX9_bothWays : ByteArray := prog_11_method_60_code
def yX9_bothWays : MethodName := ⟨RX9, "bothWays", "(III)I"⟩
abbrev cX9_rateOf : ByteArray := prog_11_method_61_code
def yX9_rateOf : MethodName := ⟨RX9, "rateOf", "(I)I"⟩
abbrev cX9_rate : ByteArray := prog_11_method_62_code
def yX9_rate : MethodName := ⟨RX9, "rate", "(I)I"⟩
abbrev cX9_worthOf : ByteArray := prog_11_method_63_code
def yX9_worthOf : MethodName := ⟨RX9, "worthOf", "(I)I"⟩
abbrev cX9_mayKnock : ByteArray := prog_11_method_64_code
def yX9_mayKnock : MethodName := ⟨RX9, "mayKnock", "(II)Z"⟩
abbrev cX9_usedUpTo : ByteArray := prog_11_method_65_code
def yX9_usedUpTo : MethodName := ⟨RX9, "usedUpTo", "(I)I"⟩
abbrev cX9_hasUpTo : ByteArray := prog_11_method_66_code
def yX9_hasUpTo : MethodName := ⟨RX9, "hasUpTo", "(I)I"⟩
abbrev cX9_moreFrom : ByteArray := prog_11_method_67_code
def yX9_moreFrom : MethodName := ⟨RX9, "moreFrom", "(I)I"⟩
abbrev cX9_findPlan : ByteArray := prog_11_method_68_code
def yX9_findPlan : MethodName := ⟨RX9, "findPlan", "()I"⟩
abbrev cX9_plan : ByteArray := prog_11_method_69_code
def yX9_plan : MethodName := ⟨RX9, "plan", "(II)I"⟩
abbrev cX9_isTrap : ByteArray := prog_11_method_70_code
def yX9_isTrap : MethodName := ⟨RX9, "isTrap", "(I)Z"⟩
abbrev cX9_linkMany : ByteArray := prog_11_method_71_code
def yX9_linkMany : MethodName := ⟨RX9, "linkMany", "(II)I"⟩
abbrev cX9_linkAt : ByteArray := prog_11_method_72_code
def yX9_linkAt : MethodName := ⟨RX9, "linkAt", "(II)I"⟩
abbrev cX9_links : ByteArray := prog_11_method_73_code
def yX9_links : MethodName := ⟨RX9, "links", "(III)I"⟩
abbrev cX9_more : ByteArray := prog_11_method_74_code
def yX9_more : MethodName := ⟨RX9, "more", "(II)I"⟩
abbrev cX9_likenessOf : ByteArray := prog_11_method_75_code
def yX9_likenessOf : MethodName := ⟨RX9, "likenessOf", "(II)I"⟩
abbrev cX9_likeness : ByteArray := prog_11_method_76_code
def yX9_likeness : MethodName := ⟨RX9, "likeness", "(II)I"⟩
abbrev cX9_lastView : ByteArray := prog_11_method_77_code
def yX9_lastView : MethodName := ⟨RX9, "lastView", "(I)I"⟩
abbrev cX9_moved : ByteArray := prog_11_method_78_code
def yX9_moved : MethodName := ⟨RX9, "moved", "(I)I"⟩
abbrev cX9_isHouse : ByteArray := prog_11_method_79_code
def yX9_isHouse : MethodName := ⟨RX9, "isHouse", "(I)Z"⟩
abbrev cX9_lose : ByteArray := prog_11_method_80_code
def yX9_lose : MethodName := ⟨RX9, "lose", "(II)I"⟩
abbrev cX9_words : ByteArray := prog_11_method_81_code
def yX9_words : MethodName := ⟨RX9, "words", "(II)I"⟩
abbrev cX9_mend : ByteArray := prog_11_method_82_code
def yX9_mend : MethodName := ⟨RX9, "mend", "()I"⟩
abbrev cX9_shown : ByteArray := prog_11_method_83_code
def yX9_shown : MethodName := ⟨RX9, "shown", "(III)I"⟩
abbrev cX9_has : ByteArray := prog_11_method_84_code
def yX9_has : MethodName := ⟨RX9, "has", "(II)Z"⟩
abbrev cX9_latestBy : ByteArray := prog_11_method_85_code
def yX9_latestBy : MethodName := ⟨RX9, "latestBy", "(I)I"⟩
abbrev cX9_earliestBy : ByteArray := prog_11_method_86_code
def yX9_earliestBy : MethodName := ⟨RX9, "earliestBy", "(I)I"⟩
abbrev cX9_since : ByteArray := prog_11_method_87_code
def yX9_since : MethodName := ⟨RX9, "since", "(III)I"⟩
abbrev cX9_firstWith : ByteArray := prog_11_method_88_code
def yX9_firstWith : MethodName := ⟨RX9, "firstWith", "(II)I"⟩
abbrev cX9_first : ByteArray := prog_11_method_89_code
def yX9_first : MethodName := ⟨RX9, "first", "(I)I"⟩
abbrev cX9_nowhere : ByteArray := prog_11_method_90_code
def yX9_nowhere : MethodName := ⟨RX9, "nowhere", "()J"⟩
def RJx145de : String := "java/io/Serializable"
def TJx145de : u_T := fun k => match k with
  | _ => ("", "", "", false)
def tyJx145de : Nat → FieldType := fun k => match k with
  | _ => .int
abbrev wsJx145de0 : List Cond := u_ws RJx145de TJx145de 0
def RJx8e188 : String := "java/lang/Cloneable"
def TJx8e188 : u_T := fun k => match k with
  | _ => ("", "", "", false)
def tyJx8e188 : Nat → FieldType := fun k => match k with
  | _ => .int
abbrev wsJx8e1880 : List Cond := u_ws RJx8e188 TJx8e188 0
def RJ6 : String := "java/lang/Integer"
def TJ6 : u_T := fun k => match k with
  | _ => ("", "", "", false)
def tyJ6 : Nat → FieldType := fun k => match k with
  | _ => .int
abbrev wsJ60 : List Cond := u_ws RJ6 TJ6 0
abbrev cJ6_bitCount_0f7a4 : ByteArray := prog_14_method_49_code
def yJ6_bitCount_0f7a4 : MethodName := ⟨RJ6, "bitCount", "(I)I"⟩
def RJxab1ab : String := "java/lang/Iterable"
def TJxab1ab : u_T := fun k => match k with
  | _ => ("", "", "", false)
def tyJxab1ab : Nat → FieldType := fun k => match k with
  | _ => .int
abbrev wsJxab1ab0 : List Cond := u_ws RJxab1ab TJxab1ab 0
def RJ13 : String := "java/lang/Long"
def TJ13 : u_T := fun k => match k with
  | _ => ("", "", "", false)
def tyJ13 : Nat → FieldType := fun k => match k with
  | _ => .int
abbrev wsJ130 : List Cond := u_ws RJ13 TJ13 0
abbrev cJ13_bitCount_95d88 : ByteArray := prog_16_method_50_code
def yJ13_bitCount_95d88 : MethodName := ⟨RJ13, "bitCount", "(J)I"⟩
def RJ9 : String := "java/lang/Math"
def TJ9 : u_T := fun k => match k with
  | _ => ("", "", "", false)
def tyJ9 : Nat → FieldType := fun k => match k with
  | _ => .int
abbrev wsJ90 : List Cond := u_ws RJ9 TJ9 0
abbrev cJ9_max_7cf53 : ByteArray := prog_17_method_65_code
def yJ9_max_7cf53 : MethodName := ⟨RJ9, "max", "(II)I"⟩
abbrev cJ9_min_7cf53 : ByteArray := prog_17_method_69_code
def yJ9_min_7cf53 : MethodName := ⟨RJ9, "min", "(II)I"⟩
def RJ0 : String := "java/lang/String"
def TJ0 : u_T := fun k => match k with
  | _ => ("", "", "", false)
def tyJ0 : Nat → FieldType := fun k => match k with
  | _ => .int
abbrev wsJ00 : List Cond := u_ws RJ0 TJ0 0
abbrev cJ0_length_8abf5 : ByteArray := prog_18_method_54_code
def yJ0_length_8abf5 : MethodName := ⟨RJ0, "length", "()I"⟩
abbrev cJ0_charAt_5068e : ByteArray := prog_18_method_56_code
def yJ0_charAt_5068e : MethodName := ⟨RJ0, "charAt", "(I)C"⟩
abbrev cJ0_coder_7d493 : ByteArray := prog_18_method_152_code
def yJ0_coder_7d493 : MethodName := ⟨RJ0, "coder", "()B"⟩
abbrev cJ0_isLatin1_aae02 : ByteArray := prog_18_method_154_code
def yJ0_isLatin1_aae02 : MethodName := ⟨RJ0, "isLatin1", "()Z"⟩
abbrev cJ0_checkIndex_df160 : ByteArray := prog_18_method_155_code
def yJ0_checkIndex_df160 : MethodName := ⟨RJ0, "checkIndex", "(II)V"⟩
def RJ1 : String := "java/lang/StringLatin1"
def TJ1 : u_T := fun k => match k with
  | _ => ("", "", "", false)
def tyJ1 : Nat → FieldType := fun k => match k with
  | _ => .int
abbrev wsJ10 : List Cond := u_ws RJ1 TJ1 0
abbrev cJ1_charAt_3b067 : ByteArray := prog_19_method_2_code
def yJ1_charAt_3b067 : MethodName := ⟨RJ1, "charAt", "([BI)C"⟩
def RJ2 : String := "java/lang/StringUTF16"
def TJ2 : u_T := fun k => match k with
  | _ => ("", "", "", false)
def tyJ2 : Nat → FieldType := fun k => match k with
  | _ => .int
abbrev wsJ20 : List Cond := u_ws RJ2 TJ2 0
abbrev cJ2_getChar_3b067 : ByteArray := prog_20_method_5_code
def yJ2_getChar_3b067 : MethodName := ⟨RJ2, "getChar", "([BI)C"⟩
abbrev cJ2_length_9d52b : ByteArray := prog_20_method_6_code
def yJ2_length_9d52b : MethodName := ⟨RJ2, "length", "([B)I"⟩
abbrev cJ2_charAt_3b067 : ByteArray := prog_20_method_83_code
def yJ2_charAt_3b067 : MethodName := ⟨RJ2, "charAt", "([BI)C"⟩
abbrev cJ2_checkIndex_2214a : ByteArray := prog_20_method_91_code
def yJ2_checkIndex_2214a : MethodName := ⟨RJ2, "checkIndex", "(I[B)V"⟩
def RJ10 : String := "java/lang/System"
def TJ10 : u_T := fun k => match k with
  | _ => ("", "", "", false)
def tyJ10 : Nat → FieldType := fun k => match k with
  | _ => .int
abbrev wsJ100 : List Cond := u_ws RJ10 TJ10 0
def RJxa1e45 : String := "java/util/AbstractCollection"
def TJxa1e45 : u_T := fun k => match k with
  | _ => ("", "", "", false)
def tyJxa1e45 : Nat → FieldType := fun k => match k with
  | _ => .int
abbrev wsJxa1e450 : List Cond := u_ws RJxa1e45 TJxa1e45 0
abbrev cJxa1e45_init_da8c8 : ByteArray := prog_22_method_1_code
def yJxa1e45_init_da8c8 : MethodName := ⟨RJxa1e45, "<init>", "()V"⟩
def RJxc12de : String := "java/util/AbstractList"
def TJxc12de : u_T := fun k => match k with
  | _ => ("", "", "", false)
def tyJxc12de : Nat → FieldType := fun k => match k with
  | _ => .int
abbrev wsJxc12de0 : List Cond := u_ws RJxc12de TJxc12de 0
abbrev cJxc12de_init_da8c8 : ByteArray := prog_23_method_1_code
def yJxc12de_init_da8c8 : MethodName := ⟨RJxc12de, "<init>", "()V"⟩
def RJx4a65c : String := "java/util/ArrayList"
def TJx4a65c : u_T := fun k => match k with
  | 0 => ("java/util/AbstractList", "modCount", "I", false)
  | 1 => ("java/util/ArrayList", "elementData", "[Ljava/lang/Object;", false)
  | _ => ("java/util/ArrayList", "size", "I", false)
def tyJx4a65c : Nat → FieldType := fun k => match k with
  | 0 => .int
  | 1 => .array (.object "java/lang/Object")
  | _ => .int
abbrev wsJx4a65c0 : List Cond := u_ws RJx4a65c TJx4a65c 3
theorem nmJx4a65c : ∀ a, a < 3 → ∀ b, b < 3 → a ≠ b → (TJx4a65c a).2.1 ≠ (TJx4a65c b).2.1 := by decide +kernel
theorem tyJx4a65c_ok : ∀ k, k < 3 → parseFieldDescriptor (TJx4a65c k).2.2.1 = some (tyJx4a65c k) := by decide +kernel
abbrev cJx4a65c_init_da8c8 : ByteArray := prog_24_method_2_code
def yJx4a65c_init_da8c8 : MethodName := ⟨RJx4a65c, "<init>", "()V"⟩
abbrev cJx4a65c_grow_92f84 : ByteArray := prog_24_method_6_code
def yJx4a65c_grow_92f84 : MethodName := ⟨RJx4a65c, "grow", "(I)[Ljava/lang/Object;"⟩
abbrev cJx4a65c_grow_d5877 : ByteArray := prog_24_method_7_code
def yJx4a65c_grow_d5877 : MethodName := ⟨RJx4a65c, "grow", "()[Ljava/lang/Object;"⟩
abbrev cJx4a65c_size_8abf5 : ByteArray := prog_24_method_8_code
def yJx4a65c_size_8abf5 : MethodName := ⟨RJx4a65c, "size", "()I"⟩
abbrev cJx4a65c_isEmpty_aae02 : ByteArray := prog_24_method_9_code
def yJx4a65c_isEmpty_aae02 : MethodName := ⟨RJx4a65c, "isEmpty", "()Z"⟩
abbrev cJx4a65c_elementData_915e3 : ByteArray := prog_24_method_18_code
def yJx4a65c_elementData_915e3 : MethodName := ⟨RJx4a65c, "elementData", "(I)Ljava/lang/Object;"⟩
abbrev cJx4a65c_get_915e3 : ByteArray := prog_24_method_20_code
def yJx4a65c_get_915e3 : MethodName := ⟨RJx4a65c, "get", "(I)Ljava/lang/Object;"⟩
abbrev cJx4a65c_add_72be8 : ByteArray := prog_24_method_24_code
def yJx4a65c_add_72be8 : MethodName := ⟨RJx4a65c, "add", "(Ljava/lang/Object;[Ljava/lang/Object;I)V"⟩
abbrev cJx4a65c_add_9ea2d : ByteArray := prog_24_method_25_code
def yJx4a65c_add_9ea2d : MethodName := ⟨RJx4a65c, "add", "(Ljava/lang/Object;)Z"⟩
abbrev cJx4a65c_remove_915e3 : ByteArray := prog_24_method_29_code
def yJx4a65c_remove_915e3 : MethodName := ⟨RJx4a65c, "remove", "(I)Ljava/lang/Object;"⟩
abbrev cJx4a65c_fastRemove_b59b0 : ByteArray := prog_24_method_39_code
def yJx4a65c_fastRemove_b59b0 : MethodName := ⟨RJx4a65c, "fastRemove", "([Ljava/lang/Object;I)V"⟩
abbrev cJx4a65c_clear_da8c8 : ByteArray := prog_24_method_40_code
def yJx4a65c_clear_da8c8 : MethodName := ⟨RJx4a65c, "clear", "()V"⟩
def RJ7 : String := "java/util/Arrays"
def TJ7 : u_T := fun k => match k with
  | _ => ("", "", "", false)
def tyJ7 : Nat → FieldType := fun k => match k with
  | _ => .int
abbrev wsJ70 : List Cond := u_ws RJ7 TJ7 0
abbrev cJ7_copyOf_1904c : ByteArray := prog_25_method_119_code
def yJ7_copyOf_1904c : MethodName := ⟨RJ7, "copyOf", "([Ljava/lang/Object;I)[Ljava/lang/Object;"⟩
abbrev cJ7_copyOf_6403c : ByteArray := prog_25_method_120_code
def yJ7_copyOf_6403c : MethodName := ⟨RJ7, "copyOf", "([Ljava/lang/Object;ILjava/lang/Class;)[Ljava/lang/Object;"⟩
def RJx5ef63 : String := "java/util/Collection"
def TJx5ef63 : u_T := fun k => match k with
  | _ => ("", "", "", false)
def tyJx5ef63 : Nat → FieldType := fun k => match k with
  | _ => .int
abbrev wsJx5ef630 : List Cond := u_ws RJx5ef63 TJx5ef63 0
def RJxbd725 : String := "java/util/List"
def TJxbd725 : u_T := fun k => match k with
  | _ => ("", "", "", false)
def tyJxbd725 : Nat → FieldType := fun k => match k with
  | _ => .int
abbrev wsJxbd7250 : List Cond := u_ws RJxbd725 TJxbd725 0
def RJ15 : String := "java/util/Objects"
def TJ15 : u_T := fun k => match k with
  | _ => ("", "", "", false)
def tyJ15 : Nat → FieldType := fun k => match k with
  | _ => .int
abbrev wsJ150 : List Cond := u_ws RJ15 TJ15 0
abbrev cJ15_checkIndex_7cf53 : ByteArray := prog_28_method_17_code
def yJ15_checkIndex_7cf53 : MethodName := ⟨RJ15, "checkIndex", "(II)I"⟩
def RJxf0a74 : String := "java/util/RandomAccess"
def TJxf0a74 : u_T := fun k => match k with
  | _ => ("", "", "", false)
def tyJxf0a74 : Nat → FieldType := fun k => match k with
  | _ => .int
abbrev wsJxf0a740 : List Cond := u_ws RJxf0a74 TJxf0a74 0
def RJxa66e6 : String := "java/util/SequencedCollection"
def TJxa66e6 : u_T := fun k => match k with
  | _ => ("", "", "", false)
def tyJxa66e6 : Nat → FieldType := fun k => match k with
  | _ => .int
abbrev wsJxa66e60 : List Cond := u_ws RJxa66e6 TJxa66e6 0
def RJ8 : String := "jdk/internal/util/ArraysSupport"
def TJ8 : u_T := fun k => match k with
  | _ => ("", "", "", false)
def tyJ8 : Nat → FieldType := fun k => match k with
  | _ => .int
abbrev wsJ80 : List Cond := u_ws RJ8 TJ8 0
abbrev cJ8_newLength_cabcc : ByteArray := prog_31_method_27_code
def yJ8_newLength_cabcc : MethodName := ⟨RJ8, "newLength", "(III)I"⟩
abbrev cJ8_hugeLength_7cf53 : ByteArray := prog_31_method_28_code
def yJ8_hugeLength_7cf53 : MethodName := ⟨RJ8, "hugeLength", "(II)I"⟩
def RJ3 : String := "jdk/internal/util/Preconditions"
def TJ3 : u_T := fun k => match k with
  | _ => ("", "", "", false)
def tyJ3 : Nat → FieldType := fun k => match k with
  | _ => .int
abbrev wsJ30 : List Cond := u_ws RJ3 TJ3 0
abbrev cJ3_checkIndex_8e157 : ByteArray := prog_32_method_11_code
def yJ3_checkIndex_8e157 : MethodName := ⟨RJ3, "checkIndex", "(IILjava/util/function/BiFunction;)I"⟩
def RL : String := "KeptPagesLaw"
abbrev cL_law : ByteArray := code
def yL_law : MethodName := ⟨RL, "law", "([I)Z"⟩
abbrev vwCl : List vw_C := [(RJx4a65c, TJx4a65c, 3), (RX0, TX0, 1), (RX1, TX1, 7), (RX2, TX2, 4), (RX3, TX3, 12), (RX4, TX4, 5), (RX5, TX5, 7), (RX6, TX6, 5), (RX7, TX7, 10), (RX8, TX8, 12), (RX9, TX9, 50)]
end
section
/-! ===== the small machine: values, heaps, instructions as predicates ===== -/
abbrev AV : Type := Int32 ⊕ Int64 ⊕ Nat
abbrev AH : Type := (Nat → Nat) × (Nat → Nat → Int32) × (Nat → Nat → Int64) × (Nat → Nat → Nat) × (Nat → List Int32) × (Nat → List Int64) × (Nat → List Nat) × Nat
def hC (h : AH) : Nat → Nat := h.1
def hI (h : AH) : Nat → Nat → Int32 := h.2.1
def hL (h : AH) : Nat → Nat → Int64 := h.2.2.1
def hR (h : AH) : Nat → Nat → Nat := h.2.2.2.1
def aI (h : AH) : Nat → List Int32 := h.2.2.2.2.1
def aL (h : AH) : Nat → List Int64 := h.2.2.2.2.2.1
def aR (h : AH) : Nat → List Nat := h.2.2.2.2.2.2.1
def hZ (h : AH) : Nat := h.2.2.2.2.2.2.2
def up2 {α : Type} (f : Nat → Nat → α) (k a : Nat) (v : α) : Nat → Nat → α := fun g b => if g = k ∧ b = a then v else f g b
def up1 {α : Type} (f : Nat → α) (a : Nat) (v : α) : Nat → α := fun b => if b = a then v else f b
def sI (h : AH) (f a : Nat) (v : Int32) : AH := (hC h, up2 (hI h) f a v, hL h, hR h, aI h, aL h, aR h, hZ h)
def sL (h : AH) (f a : Nat) (v : Int64) : AH := (hC h, hI h, up2 (hL h) f a v, hR h, aI h, aL h, aR h, hZ h)
def sR (h : AH) (f a : Nat) (v : Nat) : AH := (hC h, hI h, hL h, up2 (hR h) f a v, aI h, aL h, aR h, hZ h)
def tI (h : AH) (a : Nat) (v : List Int32) : AH := (hC h, hI h, hL h, hR h, up1 (aI h) a v, aL h, aR h, hZ h)
def tL (h : AH) (a : Nat) (v : List Int64) : AH := (hC h, hI h, hL h, hR h, aI h, up1 (aL h) a v, aR h, hZ h)
def tR (h : AH) (a : Nat) (v : List Nat) : AH := (hC h, hI h, hL h, hR h, aI h, aL h, up1 (aR h) a v, hZ h)
/-- a new cell: of tag t, its fields 0, its row empty -/
def nW (h : AH) (t : Nat) : AH := (up1 (hC h) (hZ h) t, fun f b => if b = hZ h then 0 else hI h f b, fun f b => if b = hZ h then 0 else hL h f b, fun f b => if b = hZ h then 0 else hR h f b, up1 (aI h) (hZ h) [], up1 (aL h) (hZ h) [], up1 (aR h) (hZ h) [], hZ h + 1)
/-- a method's head: name, bytes, locals, what it returns -/
abbrev MH : Type := MethodName × ByteArray × Nat × Option FieldType
/-- an instruction: pc, itself, length, the next pc, the target, an int, a long, whether a loop's head -/
abbrev CE : Type := Nat × Instr × Nat × Nat × Nat × Int32 × Int64 × Bool
/-- a constant pool: fields (index, number, place, kind, key), methods (index, kind, tag, parameters, head), loads (index, kind, ref), classes (index, tag), statics (index, kind), String's fields (index, which), ints, longs -/
abbrev PL : Type := List (Nat × Nat × Nat × Nat × Nat) × List (Nat × Nat × Nat × Nat × MH) × List (Nat × Nat × Nat) × List (Nat × Nat) × List (Nat × Nat) × List (Nat × Nat) × List (Nat × Int32) × List (Nat × Int64)
abbrev MD : Type := MH × List CE × PL
def lk {α : Type} : List (Nat × α) → Nat → Option α
  | [], _ => none
  | (i, a) :: r, k => match Nat.beq i k with
    | true => some a
    | false => lk r k
def sfx : List CE → Nat → List CE
  | [], _ => []
  | e :: r, k => match Nat.beq e.1 k with
    | true => e :: r
    | false => sfx r k
def setK {α : Type} : List α → Nat → α → (List α → Prop) → Prop
  | [], _, _, _ => False
  | _ :: r, 0, v, K => K (v :: r)
  | a :: r, k + 1, v, K => setK r k v (fun r' => K (a :: r'))
/-- behind a store at k the half of a long ahead of it is gone -/
def cutK (l : List (Option AV)) (k : Nat) (K : List (Option AV) → Prop) : Prop := match k with
  | 0 => K l
  | j + 1 => match l[j]? with
    | some (some (.inr (.inl _))) => setK l j none K
    | _ => K l
def st1 (l : List (Option AV)) (k : Nat) (v : AV) (K : List (Option AV) → Prop) : Prop := cutK l k (fun l1 => setK l1 k (some v) K)
def st2 (l : List (Option AV)) (k : Nat) (v : AV) (K : List (Option AV) → Prop) : Prop := cutK l k (fun l1 => setK l1 k (some v) (fun l2 => setK l2 (k + 1) none K))
def ldI (l : List (Option AV)) (k : Nat) (K : AV → Prop) : Prop := match l[k]? with
  | some (some (.inl x)) => K (.inl x)
  | _ => False
def ldL (l : List (Option AV)) (k : Nat) (K : AV → Prop) : Prop := match l[k]? with
  | some (some (.inr (.inl x))) => K (.inr (.inl x))
  | _ => False
def ldR (l : List (Option AV)) (k : Nat) (K : AV → Prop) : Prop := match l[k]? with
  | some (some (.inr (.inr x))) => K (.inr (.inr x))
  | _ => False
def oI (st : List AV) (K : Int32 → List AV → Prop) : Prop := match st with
  | .inl x :: r => K x r
  | _ => False
def oL (st : List AV) (K : Int64 → List AV → Prop) : Prop := match st with
  | .inr (.inl x) :: r => K x r
  | _ => False
def oR (st : List AV) (K : Nat → List AV → Prop) : Prop := match st with
  | .inr (.inr x) :: r => K x r
  | _ => False
def oII (st : List AV) (K : Int32 → Int32 → List AV → Prop) : Prop := oI st (fun y r => oI r (fun x r => K x y r))
def oLL (st : List AV) (K : Int64 → Int64 → List AV → Prop) : Prop := oL st (fun y r => oL r (fun x r => K x y r))
def oLI (st : List AV) (K : Int64 → Int32 → List AV → Prop) : Prop := oI st (fun y r => oL r (fun x r => K x y r))
def oRR (st : List AV) (K : Nat → Nat → List AV → Prop) : Prop := oR st (fun y r => oR r (fun x r => K x y r))
def oRI (st : List AV) (K : Nat → Int32 → List AV → Prop) : Prop := oI st (fun j r => oR r (fun a r => K a j r))
def cw (v : AV) : Nat := match v with
  | .inr (.inl _) => 2
  | _ => 1
def cws : List AV → Nat
  | [] => 0
  | v :: r => cw v + cws r
/-- the last n of a stack, in the order of the call -/
def popK : Nat → List AV → List AV → (List AV → List AV → Prop) → Prop
  | 0, st, as, K => K as st
  | _ + 1, [], _, _ => False
  | n + 1, v :: r, as, K => popK n r (v :: as) K
def swc (x : Int32) : Int → List Int → (Int → Prop) → Prop
  | _, [], _ => True
  | v, o :: r, K => (x.toInt = v → K o) ∧ swc x (v + 1) r K
/-- an index within a row -/
def ixIn (j : Int32) (n : Nat) : Prop := ¬ (j < 0 ∨ n ≤ j.toNatClampNeg)
def cpy {α : Type} (s d : List α) (sp dp n : Nat) : List α := d.take dp ++ (s.drop sp).take n ++ d.drop (dp + n)
/-! ===== the world: class numbers, slots, array classes, the addresses of what was there before, the first own address ===== -/
abbrev WD : Type := (Nat → ClassId) × (Nat → Nat → Nat) × (Nat → ClassId) × (Nat → Nat) × Nat × List Int32
def wX (w : WD) : Nat → Nat := w.2.2.2.1
def wB (w : WD) : Nat := w.2.2.2.2.1
/-- the law's script -/
def wS (w : WD) : List Int32 := w.2.2.2.2.2
def wA (w : WD) : Nat → ClassId := w.2.2.1
def rho (w : WD) (n : Nat) : Nat := if n < 32 then wX w n else wB w + (n - 32)
def rvo (w : WD) (n : Nat) : Option Nat := if n = 0 then none else some (rho w n)
def rvr (w : WD) (n : Nat) : Value := va_rf (rvo w n)
def rv (w : WD) : AV → Value
  | .inl x => .int x
  | .inr (.inl x) => .long x
  | .inr (.inr n) => rvr w n
def fT (ci : Nat) : Nat → FieldType := match ci with
  | 0 => tyJx4a65c
  | 1 => tyX0
  | 2 => tyX1
  | 3 => tyX2
  | 4 => tyX3
  | 5 => tyX4
  | 6 => tyX5
  | 7 => tyX6
  | 8 => tyX7
  | 9 => tyX8
  | _ => tyX9
/-- a field's kind: 0 int, 1 long, 2 a reference, 3 boolean -/
def fK (t : FieldType) : Nat := match t with
  | .int => 0
  | .long => 1
  | .boolean => 3
  | .object _ => 2
  | .array _ => 2
  | _ => 9
def fV (w : WD) (h : AH) (kd key n : Nat) : Value := match kd with
  | 1 => .long (hL h key n)
  | 2 => rvr w (hR h key n)
  | _ => .int (hI h key n)
def arrL (cA : ClassId) (vs : List Value) : Cell := { cls := cA, slots := vs.toArray, vm := .none }
/-- an own cell -/
def cOK (w : WD) (h : AH) (n : Nat) (H : Heap) : Prop :=
  (∃ (ci : Nat) (r : vw_C), hC h n = ci + 1 ∧ vwCl[ci]? = some r ∧ t_OB (rho w n) (w.1 ci) r.2.2 (w.2.1 ci) H (fun k => fV w h (fK (fT ci k)) (64 * ci + k) n)) ∨
  (hC h n = 101 ∧ H[rho w n]? = some (arrL (wA w 0) ((aI h n).map Value.int))) ∨
  (hC h n = 102 ∧ H[rho w n]? = some (arrL (wA w 1) ((aL h n).map Value.long))) ∨
  (hC h n = 103 ∧ H[rho w n]? = some (arrL (wA w 2) ((aI h n).map Value.int))) ∨
  (hC h n = 104 ∧ H[rho w n]? = some (arrL (wA w 3) ((aR h n).map (rvr w))))
def sNames : List String := ["never", "let", "each", "night", "patience", "clothes", "link", "row", "by", "times", "ever"]
def sBytes : List (List Int32) := [[110, 101, 118, 101, 114], [108, 101, 116], [101, 97, 99, 104], [110, 105, 103, 104, 116], [112, 97, 116, 105, 101, 110, 99, 101], [99, 108, 111, 116, 104, 101, 115], [108, 105, 110, 107], [114, 111, 119], [98, 121], [116, 105, 109, 101, 115], [101, 118, 101, 114]]
def sLens : List Nat := [5, 3, 4, 5, 8, 7, 4, 3, 2, 5, 4]
/-- where the texts stand: class, index, text -/
def sAt : List (String × Nat × String) := [("KeptPages$Rights", 52, "never"), ("KeptPages$Rights", 62, "let"), ("KeptPages$Rights", 89, "each"), ("KeptPages$Rights", 67, "night"), ("KeptPages$Rights", 76, "patience"), ("KeptPages$Rights", 77, "clothes"), ("KeptPages$Program", 46, "link"), ("KeptPages$Program", 60, "row"), ("KeptPages$Program", 62, "by"), ("KeptPages$Program", 68, "times"), ("KeptPages$Program", 69, "ever")]
/-- what was there before, as the small heap tells it -/
def xOK (w : WD) (h : AH) (n : Nat) : Prop :=
  (n = 26 ∧ hC h n = 106 ∧ aI h n = wS w) ∨
  (n = 1 ∧ hC h n = 104 ∧ aR h n = []) ∨
  (2 ≤ n ∧ n < 13 ∧ hC h n = 12 ∧ hR h 704 n = n + 11 ∧ hI h 705 n = 0) ∨
  (13 ≤ n ∧ n < 24 ∧ hC h n = 105 ∧ aI h n = sBytes.getD (n - 13) [])
/-! ===== the fixed cells: what stands once both objects are made ===== -/
def layC : List (Nat × Nat) := [(32, 10), (33, 1), (34, 1), (35, 101), (36, 8), (37, 101), (38, 9), (39, 1), (40, 101), (41, 101), (42, 5), (43, 101), (44, 101), (45, 101), (46, 101), (47, 101), (48, 101), (49, 101), (50, 101), (51, 101), (52, 2), (53, 102), (54, 7), (55, 101), (56, 7), (57, 101), (58, 6), (59, 101), (60, 101), (61, 101), (62, 11), (63, 101), (64, 101), (65, 101), (66, 101), (67, 102), (68, 101), (69, 102), (70, 103), (71, 101), (72, 101), (73, 101), (74, 103), (75, 101), (76, 101), (77, 101), (78, 101), (79, 101), (80, 101), (81, 101), (82, 101), (83, 101), (84, 101), (85, 101), (86, 101), (87, 101)]
def layR : List (Nat × Nat × Nat) := [(576, 32, 33), (577, 32, 34), (578, 32, 35), (579, 32, 36), (448, 36, 37), (580, 32, 38), (512, 38, 39), (513, 38, 40), (514, 38, 41), (581, 32, 42), (256, 42, 43), (257, 42, 44), (258, 42, 45), (259, 42, 46), (260, 42, 47), (261, 42, 48), (262, 42, 49), (263, 42, 50), (264, 42, 51), (582, 32, 52), (64, 52, 53), (384, 54, 55), (384, 56, 57), (320, 58, 59), (321, 58, 60), (322, 58, 61), (642, 62, 63), (644, 62, 64), (645, 62, 65), (646, 62, 66), (647, 62, 67), (648, 62, 68), (649, 62, 69), (650, 62, 70), (651, 62, 71), (655, 62, 72), (657, 62, 73), (664, 62, 74), (665, 62, 75), (670, 62, 76), (671, 62, 77), (672, 62, 78), (673, 62, 79), (674, 62, 80), (675, 62, 81), (676, 62, 82), (678, 62, 83), (685, 62, 84), (686, 62, 85), (688, 62, 86), (689, 62, 87)]
def layI : List (Nat × Nat) := [(35, 6), (37, 200), (40, 8), (41, 8), (43, 7), (44, 7), (45, 7), (46, 7), (47, 6), (48, 6), (49, 6), (50, 12), (51, 12), (55, 6), (57, 6), (59, 8), (60, 8), (61, 8), (63, 12), (64, 100), (65, 100), (66, 100), (68, 100), (70, 6), (71, 6), (72, 100), (73, 200), (74, 6), (75, 6), (76, 12), (77, 96), (78, 96), (79, 96), (80, 8), (81, 8), (82, 8), (83, 8), (84, 7), (85, 7), (86, 12), (87, 12)]
def layJ : List (Nat × Nat) := [(53, 3), (67, 100), (69, 3)]
/-- a class's only object (0: there may be more) -/
def sing (ci : Nat) : Nat := match ci with
  | 1 => 52
  | 4 => 42
  | 7 => 36
  | 8 => 38
  | 9 => 32
  | 10 => 62
  | _ => 0
def finR : List (Nat × Nat) := [(576, 33), (577, 34), (578, 35), (579, 36), (448, 37), (580, 38), (512, 39), (513, 40), (514, 41), (581, 42), (256, 43), (257, 44), (258, 45), (259, 46), (260, 47), (261, 48), (262, 49), (263, 50), (264, 51), (582, 52), (64, 53), (642, 63), (644, 64), (645, 65), (646, 66), (647, 67), (648, 68), (649, 69), (650, 70), (651, 71), (655, 72), (657, 73), (664, 74), (665, 75), (670, 76), (671, 77), (672, 78), (673, 79), (674, 80), (675, 81), (676, 82), (678, 83), (685, 84), (686, 85), (688, 86), (689, 87)]
def Lay (h : AH) : Prop := 88 ≤ hZ h ∧ (∀ q ∈ layC, hC h q.1 = q.2) ∧ (∀ q ∈ layR, hR h q.1 q.2.1 = q.2.2) ∧ (∀ q ∈ layI, (aI h q.1).length = q.2) ∧ (∀ q ∈ layJ, (aL h q.1).length = q.2)
def Sim (w : WD) (lm : Bool) (h : AH) (H : Heap) : Prop :=
  H.size + 32 = wB w + hZ h ∧ 32 ≤ hZ h ∧ (∀ n, hC h n ≠ 0 → (32 ≤ n ∧ n < hZ h ∧ cOK w h n H) ∨ (n < 32 ∧ xOK w h n)) ∧ (lm = true → Lay h)
def wO (w : WD) : Nat → Prop := fun q => wB w ≤ q
def tysW (w : WD) : List (ClassId × FieldType) := [(wA w 0, .int), (wA w 1, .long), (wA w 2, .boolean), (wA w 3, .object "java/lang/Object")]
/-- words that a state's tables keep, each kind by a row of its own -/
def bw : Cond → Bool
  | .methodLinkNest .. => true
  | .castable .. => true
  | .declares .. => true
  | _ => false
def fwN : List MethodName := [⟨"java/util/ArrayList", "size", "()I"⟩, ⟨"java/util/ArrayList", "add", "(Ljava/lang/Object;)Z"⟩, ⟨"java/util/ArrayList", "get", "(I)Ljava/lang/Object;"⟩, ⟨"java/util/ArrayList", "isEmpty", "()Z"⟩, ⟨"java/util/ArrayList", "remove", "(I)Ljava/lang/Object;"⟩, ⟨"java/util/ArrayList", "clear", "()V"⟩]
def lw_g : List Cond := lw_tbl.filter goodWord
theorem lw_in {q : Cond} (h : q ∈ lw_tbl) (hg : goodWord q = true) : q ∈ lw_g := List.mem_filter.mpr ⟨h, hg⟩
/-- what the machine's tables and what was there before say, at a state -/
def WK (w : WD) (U : State) : Prop :=
  va_K (w.1, w.2.1) vwCl (tysW w) U ∧
  vk_S 11 sLens sBytes (fun i => wX w (2 + i)) (fun i => wX w (13 + i)) (wO w) U U.heap ∧
  (∀ (i : Nat) (q : String × Nat × String), sAt[i]? = some q → vk_R q.1 q.2.1 q.2.2 (wX w (2 + i)) U) ∧
  va_Z "java/util/ArrayList" "DEFAULTCAPACITY_EMPTY_ELEMENTDATA" "[Ljava/lang/Object;" (.ref (wX w 1)) (wO w) U U.heap ∧
  (U.heap[wX w 1]? = some (arrL (wA w 3) []) ∧ wX w 1 < wB w) ∧
  va_Z "java/lang/String" "COMPACT_STRINGS" "Z" (.int 1) (wO w) U U.heap ∧
  (∃ r : Nat, va_Z "jdk/internal/util/Preconditions" "SIOOBE_FORMATTER" "Ljava/util/function/BiFunction;" (rvr w r) (wO w) U U.heap ∧ r < 32) ∧
  va_Mi "[Ljava/lang/Object;" (wX w 24) U ∧ va_Dc U ∧ va_AO "java/lang/Object" U ∧
  (∀ q ∈ lw_tbl, bw q = true → va_Nw q U) ∧
  (∀ y ∈ fwN, va_Fw "java/util/ArrayList" ⟨"java/util/List", y.name, y.desc⟩ y U) ∧
  (∀ n, n < 32 → wX w n < wB w) ∧ wB w ≤ U.heap.size ∧ ((wS w).length < 2 ^ 31 ∧ va_X (wX w 26) (wS w).length (fun j => (wS w).getD j 0) U U.heap)
/-! ===== the judgements ===== -/
def rmD (d c s : Nat) : Room := { frames := d, cells := c, slots := s, locals := 64 * d }
def pcD (w : WD) (lm : Bool) (as : List AV) (h : AH) : Array Value → State → Prop := fun v U => v = (as.map (rv w)).toArray ∧ WK w U ∧ Sim w lm h U.heap
def qcD (w : WD) (lm : Bool) (Q : Option AV → AH → Prop) : Array Value → State → Outcome → State → Prop := fun _ st o t => ∃ (v : Option AV) (h' : AH), o = .returned (v.map (rv w)) ∧ Q v h' ∧ Sim w lm h' t.heap ∧ st.heap.size ≤ t.heap.size ∧ ∀ q : Nat, q < wB w → t.heap[q]? = st.heap[q]?
def wsD (M : MH) : List Cond := Cond.code M.1 M.2.1 M.2.2.1 M.2.2.2 :: lw_g
/-- a call: any heap that h tells of; it returns, and Q of the answer and the heap behind it; c cells of s slots at most are new -/
def Con (l : Launch) (w : WD) (lm : Bool) (d : Nat) (M : MH) (as : List AV) (h : AH) (c s : Nat) (Q : Option AV → AH → Prop) : Prop :=
  Met l M.1 (wsD M) (rmD d c s) (pcD w lm as h) (qcD w lm Q) c s (wO w)
def Cal (l : Launch) (w : WD) (lm : Bool) (d : Nat) (M : MH) (as : List AV) (h : AH) (bc bs : Nat) (K : Option AV → AH → Nat → Nat → Prop) : Prop :=
  ∃ c1 s1 c2 s2 : Nat, bc = c1 + c2 ∧ bs = s1 + s2 ∧ Con l w lm d M as h c1 s1 (fun v h' => K v h' c2 s2)
def LOK (w : WD) (ls : Array Slot) (l : List (Option AV)) : Prop := ls.size = l.length ∧ lv_wf ls ∧ ∀ (i : Nat) (v : AV), l[i]? = some (some v) → ls[i]? = some (.val (rv w v))
def Cx (w : WD) (X : MD) (p : Program) (s : State) (m : MethodId) (args : Array Value) (meth : Method) (c : Code) : Prop :=
  p.tables.exec = Jvm.exec ∧ c.code = X.1.2.1 ∧ c.maxLocals = X.1.2.2.1 ∧ s.vm.findClass X.1.1.cls = some m.cls ∧ (∀ q ∈ lw_g, q.before args s = true) ∧ meth.sig.returnType = X.1.2.2.2 ∧ meth.locks = false ∧ meth.name = X.1.1.name ∧ WK w s
/-- the machine stands at pc of X, with these locals, this stack, a heap that h tells of, c cells of s slots left: it returns with Q -/
def Ex (l : Launch) (w : WD) (lm : Bool) (X : MD) (d : Nat) (Q : Option AV → AH → Prop) (pc : Nat) (ll : List (Option AV)) (st : List AV) (h : AH) (bc bs : Nat) : Prop :=
  ∀ (p : Program) (e : Env) (R : Room) (s : State) (m : MethodId) (args : Array Value) (below : List Frame) (meth : Method) (c : Code) (H : Heap) (locs : List Loc) (cells slots : Nat) (ls : Array Slot),
    Cx w X p s m args meth c → R.frames = d → R.locals = 64 * d → cells + bc ≤ R.cells → slots + bs ≤ R.slots → Sim w lm h H → LOK w ls ll → ll.length = X.1.2.2.1 → va_S (wO w) s.heap H locs →
    W p l e R s m args below meth c H locs cells slots (MQ below (qcD w lm Q) args s R.cells R.slots (wO w)) (F0 m pc ls (st.map (rv w)))
end
section
/-! ===== an instruction as a predicate: N goes on at the next one, J at a target (Ex both ways) ===== -/
def cI1 (k : ClassFile.Cond) (x : Int32) (A B : Prop) : Prop := match k with
  | .eq => (x = 0 → A) ∧ (¬ x = 0 → B)
  | .ne => (¬ x = 0 → A) ∧ (x = 0 → B)
  | .lt => (x < 0 → A) ∧ (¬ x < 0 → B)
  | .ge => (0 ≤ x → A) ∧ (¬ 0 ≤ x → B)
  | .gt => (0 < x → A) ∧ (¬ 0 < x → B)
  | .le => (x ≤ 0 → A) ∧ (¬ x ≤ 0 → B)
def cI2 (k : ClassFile.Cond) (x y : Int32) (A B : Prop) : Prop := match k with
  | .eq => (x = y → A) ∧ (¬ x = y → B)
  | .ne => (¬ x = y → A) ∧ (x = y → B)
  | .lt => (x < y → A) ∧ (¬ x < y → B)
  | .ge => (y ≤ x → A) ∧ (¬ y ≤ x → B)
  | .gt => (y < x → A) ∧ (¬ y < x → B)
  | .le => (x ≤ y → A) ∧ (¬ x ≤ y → B)
/-- a look by program -/
def ifB (b : Bool) (A : Prop) : Prop := match b with
  | true => A
  | false => False
def nz (d : Nat) (A : Prop) : Prop := match d with
  | 0 => False
  | _ + 1 => A
/-- a reference that compares by its number: null, what was there, or an own one -/
def rOK (r : Nat) : Prop := r < 2 ∨ 32 ≤ r
section
variable (l : Launch) (w : WD) (X : MD) (d : Nat) (Q : Option AV → AH → Prop)
/-- the cell is of the class: by the layout where a class has one object, else asked -/
def isC (lm : Bool) (ci a : Nat) (h : AH) (A : Prop) : Prop := match lm with
  | false => hC h a = ci + 1 ∧ A
  | true => match sing ci with
    | 0 => hC h a = ci + 1 ∧ A
    | s + 1 => ifB (Nat.beq a (s + 1)) A
/-- a reference field: by the layout where it is fixed -/
def rF (lm : Bool) (ci key a : Nat) (h : AH) (N : Nat → Prop) : Prop := match lm with
  | false => N (hR h key a)
  | true => match sing ci with
    | 0 => N (hR h key a)
    | _ + 1 => match lk finR key with
      | some v => N v
      | none => N (hR h key a)
def aGet (lm : Bool) (N : List AV → Prop) (idx : Nat) (st : List AV) (h : AH) : Prop := match lk X.2.2.1 idx with
  | some (ci, _, kd, key) => oR st (fun a r => isC lm ci a h (match kd with
      | 1 => N (.inr (.inl (hL h key a)) :: r)
      | 2 => rF lm ci key a h (fun v => N (.inr (.inr v) :: r))
      | _ => N (.inl (hI h key a) :: r)))
  | none => match lk X.2.2.2.2.2.2.2.1 idx with
    | some 0 => oR st (fun a r => hC h a = 12 ∧ N (.inr (.inr (hR h 704 a)) :: r))
    | some _ => oR st (fun a r => hC h a = 12 ∧ N (.inl (hI h 705 a) :: r))
    | none => False
def noFin (lm : Bool) (key : Nat) : Bool := match lm with
  | false => true
  | true => layR.all (fun q => !Nat.beq q.1 key)
def aPut (lm : Bool) (N : List AV → AH → Prop) (idx : Nat) (st : List AV) (h : AH) : Prop := match lk X.2.2.1 idx with
  | some (ci, _, kd, key) => (match kd with
      | 0 => oI st (fun x r => oR r (fun a r => isC lm ci a h (N r (sI h key a x))))
      | 1 => oL st (fun x r => oR r (fun a r => isC lm ci a h (N r (sL h key a x))))
      | 2 => oR st (fun x r => oR r (fun a r => isC lm ci a h (ifB (noFin lm key) (N r (sR h key a x)))))
      | _ => oI st (fun x r => oR r (fun a r => isC lm ci a h ((x = 0 ∨ x = 1) ∧ N r (sI h key a x)))))
  | none => False
/-- an element that a row of references may hold -/
def eOK (h : AH) (r : Nat) : Prop := r = 0 ∨ (32 ≤ r ∧ (hC h r = 3 ∨ hC h r = 4))
def aCopy (N : List AV → AH → Prop) (st : List AV) (h : AH) : Prop :=
  oI st (fun n r => oI r (fun dp r => oR r (fun b r => oI r (fun sp r => oR r (fun a r =>
    nz d (ifB (Nat.ble (cws r) 8) ((0 ≤ n ∧ 0 ≤ dp ∧ 0 ≤ sp ∧ 32 ≤ b) ∧
    ((hC h a = 101 ∧ hC h b = 101 ∧ sp.toNatClampNeg + n.toNatClampNeg ≤ (aI h a).length ∧ dp.toNatClampNeg + n.toNatClampNeg ≤ (aI h b).length ∧ N r (tI h b (cpy (aI h a) (aI h b) sp.toNatClampNeg dp.toNatClampNeg n.toNatClampNeg))) ∨
     (hC h a = 104 ∧ hC h b = 104 ∧ sp.toNatClampNeg + n.toNatClampNeg ≤ (aR h a).length ∧ dp.toNatClampNeg + n.toNatClampNeg ≤ (aR h b).length ∧ (∀ r ∈ aR h a, eOK h r) ∧ N r (tR h b (cpy (aR h a) (aR h b) sp.toNatClampNeg dp.toNatClampNeg n.toNatClampNeg)))))))))))
/-- the receiver's class -/
def isT (lm : Bool) (tag a : Nat) (h : AH) (A : Prop) : Prop := match tag with
  | 0 => False
  | ci + 1 => isC lm ci a h A
/-- a call; E is where it goes on -/
def aCall (lm : Bool) (N : List AV → Prop) (NH : List AV → AH → Prop) (E : Option AV → List AV → AH → Nat → Nat → Prop) (idx : Nat) (st : List AV) (h : AH) (bc bs : Nat) : Prop := match lk X.2.2.2.1 idx with
  | some (kd, tag, np, M) => (match kd with
      | 5 => oR st (fun a r => nz d (ifB (Nat.ble (cws r) 8) (a ≠ 0 ∧ N r)))
      | 6 => aCopy d NH st h
      | 7 => oR st (fun a r => nz d (ifB (Nat.ble (cws r) 8) (hC h a = 104 ∧ N (.inr (.inr 24) :: r))))
      | 8 => oII st (fun x y r => nz d (ifB (Nat.ble (cws r) 8) (N (.inl (if x < y then y else x) :: r))))
      | 9 => oII st (fun x y r => nz d (ifB (Nat.ble (cws r) 8) (N (.inl (if y < x then y else x) :: r))))
      | 1 => popK np st [] (fun as r => ifB (Nat.ble (cws r) 8) (match d with
          | 0 => False
          | d' + 1 => Cal l w lm d' M as h bc bs (fun v h' c s => E v r h' c s)))
      | _ => popK np st [] (fun as r => oR r (fun a r => isT lm tag a h (ifB (Nat.ble (cws r) 8) (match d with
          | 0 => False
          | d' + 1 => Cal l w lm d' M (.inr (.inr a) :: as) h bc bs (fun v h' c s => E v r h' c s))))))
  | none => False
def aStat (N : List AV → Prop) (idx : Nat) (st : List AV) : Prop := match lk X.2.2.2.2.2.2.1 idx with
  | some 0 => N (.inr (.inr 1) :: st)
  | some 1 => N (.inl 1 :: st)
  | some 2 => ∀ r : Nat, N (.inr (.inr r) :: st)
  | _ => False
def aLdc (N : List AV → Prop) (idx : Nat) (st : List AV) : Prop := match lk X.2.2.2.2.1 idx with
  | some (_, r) => N (.inr (.inr r) :: st)
  | none => match lk X.2.2.2.2.2.2.2.2.1 idx with
    | some v => N (.inl v :: st)
    | none => False
def aNew (N : List AV → AH → Nat → Nat → Prop) (idx : Nat) (st : List AV) (h : AH) (bc bs : Nat) : Prop := match lk X.2.2.2.2.2.1 idx with
  | some ci => (match vwCl[ci]? with
    | some q => (∃ b2 s2 : Nat, bc = b2 + 1 ∧ bs = s2 + q.2.2 ∧ N (.inr (.inr (hZ h)) :: st) (nW h (ci + 1)) b2 s2)
    | none => False)
  | none => False
def aArr (N : List AV → AH → Nat → Nat → Prop) (t : ArrayType) (st : List AV) (h : AH) (bc bs : Nat) : Prop := oI st (fun n r => ¬ n < 0 ∧ n.toNatClampNeg ≤ 60000 ∧ ∃ b2 s2 : Nat, bc = b2 + 1 ∧ bs = s2 + n.toNatClampNeg ∧ (match t with
  | .int => N (.inr (.inr (hZ h)) :: r) (tI (nW h 101) (hZ h) (List.replicate n.toNatClampNeg 0)) b2 s2
  | .long => N (.inr (.inr (hZ h)) :: r) (tL (nW h 102) (hZ h) (List.replicate n.toNatClampNeg 0)) b2 s2
  | .boolean => N (.inr (.inr (hZ h)) :: r) (tI (nW h 103) (hZ h) (List.replicate n.toNatClampNeg 0)) b2 s2
  | _ => False))
end
/-- a place of a row -/
def ixI (h : AH) (a : Nat) (j : Int32) : Prop := (hC h a = 101 ∨ hC h a = 106) ∧ ixIn j (aI h a).length
def jxI (h : AH) (a : Nat) (j : Int32) : Prop := hC h a = 101 ∧ ixIn j (aI h a).length
def ixZ (h : AH) (a : Nat) (j : Int32) : Prop := (hC h a = 103 ∨ hC h a = 105) ∧ ixIn j (aI h a).length
def jxZ (h : AH) (a : Nat) (j : Int32) : Prop := hC h a = 103 ∧ ixIn j (aI h a).length
def ixL (h : AH) (a : Nat) (j : Int32) : Prop := hC h a = 102 ∧ ixIn j (aL h a).length
def ixR (h : AH) (a : Nat) (j : Int32) : Prop := hC h a = 104 ∧ ixIn j (aR h a).length
def aop (l : Launch) (w : WD) (lm : Bool) (X : MD) (d : Nat) (Q : Option AV → AH → Prop) (N J : List (Option AV) → List AV → AH → Nat → Nat → Prop) (G : Nat → List (Option AV) → List AV → AH → Nat → Nat → Prop) (E : List (Option AV) → List AV → AH → Nat → Nat → Prop)
    (i : Instr) (pc : Nat) (cv : Int32) (cl : Int64) (ll : List (Option AV)) (st : List AV) (h : AH) (bc bs : Nat) : Prop :=
  match i with
  | .iconst _ => N ll (.inl cv :: st) h bc bs
  | .bipush _ => N ll (.inl cv :: st) h bc bs
  | .sipush _ => N ll (.inl cv :: st) h bc bs
  | .lconst _ => N ll (.inr (.inl cl) :: st) h bc bs
  | .ldc2_w _ => N ll (.inr (.inl cl) :: st) h bc bs
  | .ldc_w _ => N ll (.inl cv :: st) h bc bs
  | .ldc idx => aLdc X (fun st => N ll st h bc bs) idx st
  | .aconst_null => N ll (.inr (.inr 0) :: st) h bc bs
  | .iload k => ldI ll k (fun v => N ll (v :: st) h bc bs)
  | .iload_n k => ldI ll k.val (fun v => N ll (v :: st) h bc bs)
  | .lload k => ldL ll k (fun v => N ll (v :: st) h bc bs)
  | .lload_n k => ldL ll k.val (fun v => N ll (v :: st) h bc bs)
  | .aload k => ldR ll k (fun v => N ll (v :: st) h bc bs)
  | .aload_n k => ldR ll k.val (fun v => N ll (v :: st) h bc bs)
  | .istore k => oI st (fun x r => st1 ll k (.inl x) (fun l2 => N l2 r h bc bs))
  | .istore_n k => oI st (fun x r => st1 ll k.val (.inl x) (fun l2 => N l2 r h bc bs))
  | .lstore k => oL st (fun x r => st2 ll k (.inr (.inl x)) (fun l2 => N l2 r h bc bs))
  | .lstore_n k => oL st (fun x r => st2 ll k.val (.inr (.inl x)) (fun l2 => N l2 r h bc bs))
  | .astore k => oR st (fun x r => st1 ll k (.inr (.inr x)) (fun l2 => N l2 r h bc bs))
  | .astore_n k => oR st (fun x r => st1 ll k.val (.inr (.inr x)) (fun l2 => N l2 r h bc bs))
  | .iinc k _ => ldI ll k (fun v => oI [v] (fun x _ => st1 ll k (.inl (x + cv)) (fun l2 => N l2 st h bc bs)))
  | .iadd => oII st (fun x y r => N ll (.inl (x + y) :: r) h bc bs)
  | .isub => oII st (fun x y r => N ll (.inl (x - y) :: r) h bc bs)
  | .imul => oII st (fun x y r => N ll (.inl (x * y) :: r) h bc bs)
  | .idiv => oII st (fun x y r => ¬ y = 0 ∧ N ll (.inl (x / y) :: r) h bc bs)
  | .iand => oII st (fun x y r => N ll (.inl (x &&& y) :: r) h bc bs)
  | .ior => oII st (fun x y r => N ll (.inl (x ||| y) :: r) h bc bs)
  | .ixor => oII st (fun x y r => N ll (.inl (x ^^^ y) :: r) h bc bs)
  | .ishl => oII st (fun x y r => N ll (.inl (x <<< (y &&& 31)) :: r) h bc bs)
  | .ishr => oII st (fun x y r => N ll (.inl (x >>> (y &&& 31)) :: r) h bc bs)
  | .iushr => oII st (fun x y r => N ll (.inl (x.toUInt32 >>> (y.toUInt32 &&& Int32.toUInt32 31)).toInt32 :: r) h bc bs)
  | .ladd => oLL st (fun x y r => N ll (.inr (.inl (x + y)) :: r) h bc bs)
  | .lsub => oLL st (fun x y r => N ll (.inr (.inl (x - y)) :: r) h bc bs)
  | .land => oLL st (fun x y r => N ll (.inr (.inl (x &&& y)) :: r) h bc bs)
  | .lor => oLL st (fun x y r => N ll (.inr (.inl (x ||| y)) :: r) h bc bs)
  | .lxor => oLL st (fun x y r => N ll (.inr (.inl (x ^^^ y)) :: r) h bc bs)
  | .lshl => oLI st (fun x y r => N ll (.inr (.inl (x <<< (y.toInt64 &&& 63))) :: r) h bc bs)
  | .lshr => oLI st (fun x y r => N ll (.inr (.inl (x >>> (y.toInt64 &&& 63))) :: r) h bc bs)
  | .lushr => oLI st (fun x y r => N ll (.inr (.inl (x.toUInt64 >>> (y.toInt64.toUInt64 &&& Int64.toUInt64 63)).toInt64) :: r) h bc bs)
  | .lcmp => oLL st (fun x y r => N ll (.inl (lg_cmp x y) :: r) h bc bs)
  | .i2l => oI st (fun x r => N ll (.inr (.inl x.toInt64) :: r) h bc bs)
  | .l2i => oL st (fun x r => N ll (.inl x.toInt32 :: r) h bc bs)
  | .i2c => oI st (fun x r => N ll (.inl (x.toUInt32 % 65536).toInt32 :: r) h bc bs)
  | .pop => (match st with
    | v :: r => ifB (Nat.beq (cw v) 1) (N ll r h bc bs)
    | _ => False)
  | .dup => (match st with
    | v :: r => ifB (Nat.beq (cw v) 1) (N ll (v :: v :: r) h bc bs)
    | _ => False)
  | .dup_x1 => (match st with
    | v :: u :: r => ifB (Nat.beq (cw v) 1) (ifB (Nat.beq (cw u) 1) (N ll (v :: u :: v :: r) h bc bs))
    | _ => False)
  | .dup2 => (match st with
    | .inr (.inl v) :: r => N ll (.inr (.inl v) :: .inr (.inl v) :: r) h bc bs
    | v :: u :: r => ifB (Nat.beq (cw v) 1) (ifB (Nat.beq (cw u) 1) (N ll (v :: u :: v :: u :: r) h bc bs))
    | _ => False)
  | .ifCond k _ => oI st (fun x r => cI1 k x (J ll r h bc bs) (E ll r h bc bs))
  | .if_icmp k _ => oII st (fun x y r => cI2 k x y (J ll r h bc bs) (E ll r h bc bs))
  | .if_acmp k _ => oRR st (fun x y r => ((x = 24 ∧ y = 24) ∨ (rOK x ∧ rOK y)) ∧ (match k with
    | .eq => (x = y → J ll r h bc bs) ∧ (¬ x = y → E ll r h bc bs)
    | .ne => (¬ x = y → J ll r h bc bs) ∧ (x = y → E ll r h bc bs)))
  | .ifnull _ => oR st (fun x r => (x = 0 → J ll r h bc bs) ∧ (¬ x = 0 → E ll r h bc bs))
  | .ifnonnull _ => oR st (fun x r => (¬ x = 0 → J ll r h bc bs) ∧ (x = 0 → E ll r h bc bs))
  | .goto _ => J ll st h bc bs
  | .tableswitch dflt lo hi offs => oI st (fun x r => swc x lo offs.toList (fun o => G ((pc : Int) + o).toNat ll r h bc bs) ∧ ((x.toInt < lo ∨ hi < x.toInt) → G ((pc : Int) + dflt).toNat ll r h bc bs))
  | .getfield idx => aGet X lm (fun st => N ll st h bc bs) idx st h
  | .putfield idx => aPut X lm (fun st h => N ll st h bc bs) idx st h
  | .getstatic idx => aStat X (fun st => N ll st h bc bs) idx st
  | .new idx => aNew X (fun st h bc bs => N ll st h bc bs) idx st h bc bs
  | .newarray t => aArr (fun st h bc bs => N ll st h bc bs) t st h bc bs
  | .anewarray _ => oI st (fun n r => ¬ n < 0 ∧ n.toNatClampNeg ≤ 60000 ∧ ∃ b2 s2 : Nat, bc = b2 + 1 ∧ bs = s2 + n.toNatClampNeg ∧ N ll (.inr (.inr (hZ h)) :: r) (tR (nW h 104) (hZ h) (List.replicate n.toNatClampNeg 0)) b2 s2)
  | .arraylength => oR st (fun a r => (hC h a = 101 ∧ N ll (.inl (nI (aI h a).length) :: r) h bc bs) ∨ (hC h a = 104 ∧ N ll (.inl (nI (aR h a).length) :: r) h bc bs) ∨ ((hC h a = 105 ∨ hC h a = 106) ∧ N ll (.inl (nI (aI h a).length) :: r) h bc bs))
  | .iaload => oRI st (fun a j r => ixI h a j ∧ N ll (.inl ((aI h a).getD j.toNatClampNeg 0) :: r) h bc bs)
  | .baload => oRI st (fun a j r => ixZ h a j ∧ N ll (.inl ((aI h a).getD j.toNatClampNeg 0) :: r) h bc bs)
  | .laload => oRI st (fun a j r => ixL h a j ∧ N ll (.inr (.inl ((aL h a).getD j.toNatClampNeg 0)) :: r) h bc bs)
  | .aaload => oRI st (fun a j r => ixR h a j ∧ N ll (.inr (.inr ((aR h a).getD j.toNatClampNeg 0)) :: r) h bc bs)
  | .iastore => oI st (fun x r => oRI r (fun a j r => jxI h a j ∧ N ll r (tI h a ((aI h a).set j.toNatClampNeg x)) bc bs))
  | .bastore => oI st (fun x r => oRI r (fun a j r => jxZ h a j ∧ (x = 0 ∨ x = 1) ∧ N ll r (tI h a ((aI h a).set j.toNatClampNeg x)) bc bs))
  | .lastore => oL st (fun x r => oRI r (fun a j r => ixL h a j ∧ N ll r (tL h a ((aL h a).set j.toNatClampNeg x)) bc bs))
  | .aastore => oR st (fun x r => oRI r (fun a j r => (ixR h a j ∧ 32 ≤ a ∧ eOK h x) ∧ N ll r (tR h a ((aR h a).set j.toNatClampNeg x)) bc bs))
  | .checkcast idx => oR st (fun a r => (match lk X.2.2.2.2.2.1 idx with
    | some ci => a = 0 ∨ hC h a = ci + 1
    | none => hC h a = 104) ∧ N ll st h bc bs)
  | .invokevirtual idx => aCall l w X d lm (fun st => N ll st h bc bs) (fun st h => N ll st h bc bs) (fun v r h c s => E ll (v.toList ++ r) h c s) idx st h bc bs
  | .invokestatic idx => aCall l w X d lm (fun st => N ll st h bc bs) (fun st h => N ll st h bc bs) (fun v r h c s => E ll (v.toList ++ r) h c s) idx st h bc bs
  | .invokespecial idx => aCall l w X d lm (fun st => N ll st h bc bs) (fun st h => N ll st h bc bs) (fun v r h c s => E ll (v.toList ++ r) h c s) idx st h bc bs
  | .invokeinterface idx _ => aCall l w X d lm (fun st => N ll st h bc bs) (fun st h => N ll st h bc bs) (fun v r h c s => E ll (v.toList ++ r) h c s) idx st h bc bs
  | .ireturn => oI st (fun x r => (match r with
    | [] => (match X.1.2.2.2 with
      | some .int => Q (some (.inl x)) h
      | some .char => (x.toUInt32 % 65536).toInt32 = x ∧ Q (some (.inl x)) h
      | some .byte => x = 0 ∧ Q (some (.inl x)) h
      | some .boolean => (x = 0 ∨ x = 1) ∧ Q (some (.inl x)) h
      | _ => False)
    | _ => False))
  | .lreturn => oL st (fun x r => (match r with
    | [] => Q (some (.inr (.inl x))) h
    | _ => False))
  | .areturn => oR st (fun x r => (match r with
    | [] => Q (some (.inr (.inr x))) h
    | _ => False))
  | .return_ => (match st with
    | [] => Q none h
    | _ => False)
  | _ => False
/-- goes on as long as there is no choice; ends at a branch, a call, a return, a loop's head -/
def awp (l : Launch) (w : WD) (lm : Bool) (X : MD) (d : Nat) (Q : Option AV → AH → Prop) : Nat → List CE → List (Option AV) → List AV → AH → Nat → Nat → Prop
  | _, [], _, _, _, _, _ => False
  | 0, e :: _, ll, st, h, bc, bs => Ex l w lm X d Q e.1 ll st h bc bs
  | k + 1, (pc, i, _, nx, tg, cv, cl, _) :: cs, ll, st, h, bc, bs => match i with
    | .goto _ => (match sfx X.2.1 tg with
      | [] => False
      | e :: cs' => match e.2.2.2.2.2.2.2 with
        | false => awp l w lm X d Q k (e :: cs') ll st h bc bs
        | true => Ex l w lm X d Q tg ll st h bc bs)
    | i => aop l w lm X d Q
      (fun ll st h bc bs => match cs with
        | [] => False
        | e :: cs' => match Nat.beq e.1 nx, e.2.2.2.2.2.2.2 with
          | true, false => awp l w lm X d Q k (e :: cs') ll st h bc bs
          | _, _ => Ex l w lm X d Q nx ll st h bc bs)
      (fun ll st h bc bs => Ex l w lm X d Q tg ll st h bc bs)
      (fun t ll st h bc bs => Ex l w lm X d Q t ll st h bc bs)
      (fun ll st h bc bs => Ex l w lm X d Q nx ll st h bc bs)
      i pc cv cl ll st h bc bs

def ilen (i : Instr) (n : Nat) : Nat := match i with
  | .iload _ | .lload _ | .aload _ | .istore _ | .lstore _ | .astore _ | .bipush _ | .ldc _ | .newarray _ => 2
  | .sipush _ | .iinc _ _ | .goto _ | .ifCond _ _ | .if_icmp _ _ | .if_acmp _ _ | .ifnull _ | .ifnonnull _ | .getfield _ | .putfield _ | .getstatic _ | .ldc_w _ | .ldc2_w _ | .new _ | .anewarray _ | .checkcast _ | .invokevirtual _ | .invokestatic _ | .invokespecial _ => 3
  | .invokeinterface _ _ => 5
  | .tableswitch _ _ _ _ => n
  | _ => 1
/-- what a program looks at: the decoded instruction, where it goes, its number -/
def ceB (X : MD) (e : CE) : Bool := decide (decode X.1.2.1 e.1 = .ok (e.2.1, e.2.2.1)) && (Nat.beq e.2.2.2.1 (e.1 + e.2.2.1) && (Nat.beq (ilen e.2.1 e.2.2.1) e.2.2.1 && (match e.2.1 with
  | .iconst v => decide (Int32.ofInt v = e.2.2.2.2.2.1)
  | .bipush v => decide ((Int8.ofInt v).toInt32 = e.2.2.2.2.2.1)
  | .sipush v => decide ((Int16.ofInt v).toInt32 = e.2.2.2.2.2.1)
  | .lconst k => decide (Int64.ofNat k.val = e.2.2.2.2.2.2.1)
  | .iinc _ v => decide (Int32.ofInt v = e.2.2.2.2.2.1)
  | .ldc2_w idx => decide (lk X.2.2.2.2.2.2.2.2.2 idx = some e.2.2.2.2.2.2.1)
  | .ldc_w idx => decide (lk X.2.2.2.2.2.2.2.2.1 idx = some e.2.2.2.2.2.1)
  | .goto o => decide ((e.1 : Int) + o = (e.2.2.2.2.1 : Int))
  | .ifCond _ o => decide ((e.1 : Int) + o = (e.2.2.2.2.1 : Int))
  | .if_icmp _ o => decide ((e.1 : Int) + o = (e.2.2.2.2.1 : Int))
  | .if_acmp _ o => decide ((e.1 : Int) + o = (e.2.2.2.2.1 : Int))
  | .ifnull o => decide ((e.1 : Int) + o = (e.2.2.2.2.1 : Int))
  | .ifnonnull o => decide ((e.1 : Int) + o = (e.2.2.2.2.1 : Int))
  | .tableswitch dflt lo hi offs => decide (hi + 1 = lo + offs.toList.length) && decide (0 ≤ (e.1 : Int) + dflt) && offs.toList.all (fun o => decide (0 ≤ (e.1 : Int) + o))
  | .putfield idx => (match lk X.2.2.1 idx with
    | some (ci, k, _) => (match vwCl[ci]? with
      | some q => !(q.2.1 k).2.2.2 || (decide (X.1.1.name = "<init>") && decide ((q.2.1 k).1 = X.1.1.cls))
      | none => false)
    | none => true)
  | .lreturn => decide (X.1.2.2.2 = some .long)
  | .return_ => decide (X.1.2.2.2 = none)
  | .areturn => (match X.1.2.2.2 with
    | some (.object _) => true
    | some (.array _) => true
    | _ => false)
  | .anewarray idx => (decide (X.1.1.cls = "java/util/ArrayList") && Nat.beq idx 7) || (decide (X.1.1.cls = "java/util/Arrays") && Nat.beq idx 2)
  | .checkcast idx => (lk X.2.2.2.2.2.1 idx).isSome || (decide (X.1.1.cls = "java/util/Arrays") && Nat.beq idx 110)
  | .invokevirtual idx => (match lk X.2.2.2.1 idx with
    | some (kd, _) => Nat.beq kd 0 || Nat.beq kd 7
    | none => true)
  | .invokestatic idx => (match lk X.2.2.2.1 idx with
    | some (kd, _) => Nat.beq kd 1 || Nat.beq kd 6 || Nat.beq kd 8 || Nat.beq kd 9
    | none => true)
  | .invokespecial idx => (match lk X.2.2.2.1 idx with
    | some (kd, _) => Nat.beq kd 2 || Nat.beq kd 3 || Nat.beq kd 5
    | none => true)
  | .invokeinterface idx _ => (match lk X.2.2.2.1 idx with
    | some (kd, _) => Nat.beq kd 4
    | none => true)
  | _ => true)))
def tagN (t : Nat) : String := if t = 12 then "java/lang/String" else match vwCl[t - 1]? with
  | some q => q.1
  | none => ""
/-- what a pool's rows say by the tables -/
def plF (own : String) (q : Nat × Nat × Nat × Nat × Nat) : Prop := ∃ (r : vw_C) (ref : String), vwCl[q.2.1]? = some r ∧ q.2.2.1 < r.2.2 ∧ q.2.2.2.2 = 64 * q.2.1 + q.2.2.1 ∧ q.2.2.2.1 = fK (fT q.2.1 q.2.2.1) ∧ Cond.fieldLink own q.1 ref (r.2.1 q.2.2.1).2.1 (r.2.1 q.2.2.1).2.2.1 ∈ lw_tbl ∧ (ref = (r.2.1 q.2.2.1).1 ∨ Cond.sameField ref (r.2.1 q.2.2.1).1 (r.2.1 q.2.2.1).2.1 (r.2.1 q.2.2.1).2.2.1 ∈ lw_tbl)
def plHead (np : Nat) (M : MH) : Prop := Cond.code M.1 M.2.1 M.2.2.1 M.2.2.2 ∈ lw_tbl ∧ Cond.initialized M.1.cls ∈ lw_tbl ∧ M.2.2.1 ≤ 13 ∧ M.1.cls ≠ "java/lang/invoke/MethodHandle" ∧ M.1.cls ≠ "java/lang/invoke/VarHandle" ∧ (parseMethodDescriptor M.1.desc).map (fun d => d.parameters.length) = some np
def lName (M : MH) : MethodName := ⟨"java/util/List", M.1.name, M.1.desc⟩
def plM (own : String) (q : Nat × Nat × Nat × Nat × MH) : Prop := match q.2.1 with
  | 0 => plHead q.2.2.2.1 q.2.2.2.2 ∧ Cond.methodLink own q.1 q.2.2.2.2.1 ∈ lw_tbl ∧ Cond.instanceMethod q.2.2.2.2.1 ∈ lw_tbl ∧ Cond.selects (tagN q.2.2.1) q.2.2.2.2.1 q.2.2.2.2.1 ∈ lw_tbl ∧ q.2.2.2.2.1.cls = tagN q.2.2.1 ∧ (q.2.2.1 = 12 ∨ ∃ ci r, q.2.2.1 = ci + 1 ∧ vwCl[ci]? = some r)
  | 1 => plHead q.2.2.2.1 q.2.2.2.2 ∧ Cond.methodLink own q.1 q.2.2.2.2.1 ∈ lw_tbl ∧ Cond.static q.2.2.2.2.1 ∈ lw_tbl
  | 2 => plHead q.2.2.2.1 q.2.2.2.2 ∧ Cond.methodLink own q.1 q.2.2.2.2.1 ∈ lw_tbl ∧ Cond.instanceMethod q.2.2.2.2.1 ∈ lw_tbl ∧ q.2.2.2.2.1.name = "<init>" ∧ q.2.2.2.2.2.2.2 = none ∧ ∃ ci r, q.2.2.1 = ci + 1 ∧ vwCl[ci]? = some r
  | 3 => plHead q.2.2.2.1 q.2.2.2.2 ∧ (∃ host, Cond.methodLinkNest own q.1 q.2.2.2.2.1 host ∈ lw_tbl) ∧ Cond.instanceMethod q.2.2.2.2.1 ∈ lw_tbl ∧ q.2.2.2.2.1.name = "<init>" ∧ q.2.2.2.2.2.2.2 = none ∧ ∃ ci r, q.2.2.1 = ci + 1 ∧ vwCl[ci]? = some r
  | 4 => plHead q.2.2.2.1 q.2.2.2.2 ∧ q.2.2.1 = 1 ∧ Cond.methodLink own q.1 (lName q.2.2.2.2) ∈ lw_tbl ∧ Cond.selects "java/util/ArrayList" (lName q.2.2.2.2) q.2.2.2.2.1 ∈ lw_tbl ∧ Cond.instanceMethod q.2.2.2.2.1 ∈ lw_tbl ∧ q.2.2.2.2.1 ∈ fwN ∧ q.2.2.2.2.1.cls = "java/util/ArrayList"
  | 5 => Cond.methodLink own q.1 Lib.objectInit ∈ lw_tbl
  | 6 => Cond.methodLink own q.1 arraycopyName ∈ lw_tbl
  | 7 => Cond.methodLink own q.1 ⟨"java/lang/Object", "getClass", "()Ljava/lang/Class;"⟩ ∈ lw_tbl
  | 8 => Cond.methodLink own q.1 ⟨"java/lang/Math", "max", "(II)I"⟩ ∈ lw_tbl
  | 9 => Cond.methodLink own q.1 ⟨"java/lang/Math", "min", "(II)I"⟩ ∈ lw_tbl
  | _ => False
def plOK (own : String) (P : PL) : Prop :=
  (∀ q ∈ P.1, plF own q) ∧ (∀ q ∈ P.2.1, plM own q) ∧
  (∀ q ∈ P.2.2.1, (q.2.1 = 1 ∧ ∃ i tx, q.2.2 = 2 + i ∧ sAt[i]? = some (own, q.1, tx)) ∨ (q.2.1 = 2 ∧ q.2.2 = 24 ∧ Cond.classLink own q.1 "[Ljava/lang/Object;" ∈ lw_tbl)) ∧
  (∀ q ∈ P.2.2.2.1, ∃ r : vw_C, vwCl[q.2]? = some r ∧ Cond.classLink own q.1 r.1 ∈ lw_tbl ∧ Cond.instantiable r.1 r.2.2 ∈ lw_tbl ∧ Cond.initialized r.1 ∈ lw_tbl) ∧
  (∀ q ∈ P.2.2.2.2.1, (q.2 = 0 ∧ Cond.fieldLink own q.1 "java/util/ArrayList" "DEFAULTCAPACITY_EMPTY_ELEMENTDATA" "[Ljava/lang/Object;" ∈ lw_tbl) ∨ (q.2 = 1 ∧ Cond.fieldLink own q.1 "java/lang/String" "COMPACT_STRINGS" "Z" ∈ lw_tbl) ∨ (q.2 = 2 ∧ Cond.fieldLink own q.1 "jdk/internal/util/Preconditions" "SIOOBE_FORMATTER" "Ljava/util/function/BiFunction;" ∈ lw_tbl)) ∧
  (∀ q ∈ P.2.2.2.2.2.1, (q.2 = 0 ∧ Cond.fieldLink own q.1 "java/lang/String" "value" "[B" ∈ lw_tbl) ∨ (q.2 = 1 ∧ Cond.fieldLink own q.1 "java/lang/String" "coder" "B" ∈ lw_tbl)) ∧
  (∀ q ∈ P.2.2.2.2.2.2.1, Cond.constant own q.1 q.2 ∈ lw_tbl) ∧ (∀ q ∈ P.2.2.2.2.2.2.2, Cond.constantLong own q.1 q.2 ∈ lw_tbl)
def mdOK (X : MD) : Prop := (X.2.1.all (ceB X) = true) ∧ plOK X.1.1.cls X.2.2 ∧ X.1.2.2.1 ≤ 13 ∧ plainName X.1.1.cls = true
end
section
/-! ===== words of the tables, by their places ===== -/
theorem tw_14 : (Cond.initialized "java/lang/Math") ∈ lw_tbl := List.mem_append_right _ (List.mem_append_left _ (List.mem_of_getElem? (i := 14) rfl))
theorem tw_16 : (Cond.initialized "java/lang/System") ∈ lw_tbl := List.mem_append_right _ (List.mem_append_left _ (List.mem_of_getElem? (i := 16) rfl))
theorem tw_30 : (Cond.methodLink "KeptPages" (3 : Nat) ({ cls := "java/lang/Object", name := "<init>", desc := "()V" } : MethodName)) ∈ lw_tbl := List.mem_append_right _ (List.mem_append_left _ (List.mem_of_getElem? (i := 30) rfl))
theorem tw_31 : (Cond.instanceMethod ({ cls := "java/lang/Object", name := "<init>", desc := "()V" } : MethodName)) ∈ lw_tbl := List.mem_append_right _ (List.mem_append_left _ (List.mem_of_getElem? (i := 31) rfl))
theorem tw_32 : (Cond.code ({ cls := "java/lang/Object", name := "<init>", desc := "()V" } : MethodName) object_method_1_code (1 : Nat) (Option.none : Option FieldType)) ∈ lw_tbl := List.mem_append_right _ (List.mem_append_left _ (List.mem_of_getElem? (i := 32) rfl))
theorem tw_44 : (Cond.methodLink "java/util/AbstractCollection" (1 : Nat) ({ cls := "java/lang/Object", name := "<init>", desc := "()V" } : MethodName)) ∈ lw_tbl := List.mem_append_right _ (List.mem_append_left _ (List.mem_of_getElem? (i := 44) rfl))
theorem tw_52 : (Cond.lays "java/util/ArrayList" "java/util/ArrayList" "elementData" "[Ljava/lang/Object;") ∈ lw_tbl := List.mem_append_right _ (List.mem_append_left _ (List.mem_of_getElem? (i := 52) rfl))
theorem tw_54 : (Cond.lays "java/util/ArrayList" "java/util/ArrayList" "size" "I") ∈ lw_tbl := List.mem_append_right _ (List.mem_append_left _ (List.mem_of_getElem? (i := 54) rfl))
theorem tw_56 : (Cond.lays "java/util/ArrayList" "java/util/AbstractList" "modCount" "I") ∈ lw_tbl := List.mem_append_right _ (List.mem_append_left _ (List.mem_of_getElem? (i := 56) rfl))
theorem tw_64 : (Cond.methodLink "KeptPages$Text" (3 : Nat) ({ cls := "java/lang/Object", name := "<init>", desc := "()V" } : MethodName)) ∈ lw_tbl := List.mem_append_right _ (List.mem_append_left _ (List.mem_of_getElem? (i := 64) rfl))
theorem tw_73 : (Cond.laysFinal "KeptPages$Text" "KeptPages$Text" "bytes" "[I") ∈ lw_tbl := List.mem_append_right _ (List.mem_append_left _ (List.mem_of_getElem? (i := 73) rfl))
theorem tw_75 : (Cond.lays "KeptPages$Text" "KeptPages$Text" "length" "I") ∈ lw_tbl := List.mem_append_right _ (List.mem_append_left _ (List.mem_of_getElem? (i := 75) rfl))
theorem tw_77 : (Cond.lays "KeptPages$Text" "KeptPages$Text" "place" "I") ∈ lw_tbl := List.mem_append_right _ (List.mem_append_left _ (List.mem_of_getElem? (i := 77) rfl))
theorem tw_79 : (Cond.lays "KeptPages$Text" "KeptPages$Text" "faultKind" "I") ∈ lw_tbl := List.mem_append_right _ (List.mem_append_left _ (List.mem_of_getElem? (i := 79) rfl))
theorem tw_81 : (Cond.lays "KeptPages$Text" "KeptPages$Text" "faultPlace" "I") ∈ lw_tbl := List.mem_append_right _ (List.mem_append_left _ (List.mem_of_getElem? (i := 81) rfl))
theorem tw_84 : (Cond.arrayClass FieldType.int) ∈ lw_tbl := List.mem_append_right _ (List.mem_append_left _ (List.mem_of_getElem? (i := 84) rfl))
theorem tw_90 : (Cond.methodLink "KeptPages$Whole" (3 : Nat) ({ cls := "java/lang/Object", name := "<init>", desc := "()V" } : MethodName)) ∈ lw_tbl := List.mem_append_right _ (List.mem_append_left _ (List.mem_of_getElem? (i := 90) rfl))
theorem tw_104 : (Cond.laysFinal "KeptPages$Whole" "KeptPages$Whole" "row" "Ljava/util/List;") ∈ lw_tbl := List.mem_append_right _ (List.mem_append_left _ (List.mem_of_getElem? (i := 104) rfl))
theorem tw_106 : (Cond.laysFinal "KeptPages$Whole" "KeptPages$Whole" "states" "[I") ∈ lw_tbl := List.mem_append_right _ (List.mem_append_left _ (List.mem_of_getElem? (i := 106) rfl))
theorem tw_108 : (Cond.laysFinal "KeptPages$Whole" "KeptPages$Whole" "statesUntil" "[I") ∈ lw_tbl := List.mem_append_right _ (List.mem_append_left _ (List.mem_of_getElem? (i := 108) rfl))
theorem tw_110 : (Cond.lays "KeptPages$Whole" "KeptPages$Whole" "firstStood" "I") ∈ lw_tbl := List.mem_append_right _ (List.mem_append_left _ (List.mem_of_getElem? (i := 110) rfl))
theorem tw_112 : (Cond.lays "KeptPages$Whole" "KeptPages$Whole" "hoursStood" "I") ∈ lw_tbl := List.mem_append_right _ (List.mem_append_left _ (List.mem_of_getElem? (i := 112) rfl))
theorem tw_114 : (Cond.lays "KeptPages$Whole" "KeptPages$Whole" "firstCould" "I") ∈ lw_tbl := List.mem_append_right _ (List.mem_append_left _ (List.mem_of_getElem? (i := 114) rfl))
theorem tw_116 : (Cond.lays "KeptPages$Whole" "KeptPages$Whole" "fewest" "I") ∈ lw_tbl := List.mem_append_right _ (List.mem_append_left _ (List.mem_of_getElem? (i := 116) rfl))
theorem tw_118 : (Cond.lays "KeptPages$Whole" "KeptPages$Whole" "nearest" "I") ∈ lw_tbl := List.mem_append_right _ (List.mem_append_left _ (List.mem_of_getElem? (i := 118) rfl))
theorem tw_120 : (Cond.lays "KeptPages$Whole" "KeptPages$Whole" "mostSure" "I") ∈ lw_tbl := List.mem_append_right _ (List.mem_append_left _ (List.mem_of_getElem? (i := 120) rfl))
theorem tw_122 : (Cond.lays "KeptPages$Whole" "KeptPages$Whole" "leastNot" "I") ∈ lw_tbl := List.mem_append_right _ (List.mem_append_left _ (List.mem_of_getElem? (i := 122) rfl))
theorem tw_130 : (Cond.methodLink "KeptPages$Planner" (3 : Nat) ({ cls := "java/lang/Object", name := "<init>", desc := "()V" } : MethodName)) ∈ lw_tbl := List.mem_append_right _ (List.mem_append_left _ (List.mem_of_getElem? (i := 130) rfl))
theorem tw_145 : (Cond.laysFinal "KeptPages$Planner" "KeptPages$Planner" "numbers" "[I") ∈ lw_tbl := List.mem_append_right _ (List.mem_append_left _ (List.mem_of_getElem? (i := 145) rfl))
theorem tw_147 : (Cond.laysFinal "KeptPages$Planner" "KeptPages$Planner" "doors" "[I") ∈ lw_tbl := List.mem_append_right _ (List.mem_append_left _ (List.mem_of_getElem? (i := 147) rfl))
theorem tw_149 : (Cond.laysFinal "KeptPages$Planner" "KeptPages$Planner" "worths" "[I") ∈ lw_tbl := List.mem_append_right _ (List.mem_append_left _ (List.mem_of_getElem? (i := 149) rfl))
theorem tw_151 : (Cond.laysFinal "KeptPages$Planner" "KeptPages$Planner" "byWorth" "[I") ∈ lw_tbl := List.mem_append_right _ (List.mem_append_left _ (List.mem_of_getElem? (i := 151) rfl))
theorem tw_153 : (Cond.laysFinal "KeptPages$Planner" "KeptPages$Planner" "lets" "[I") ∈ lw_tbl := List.mem_append_right _ (List.mem_append_left _ (List.mem_of_getElem? (i := 153) rfl))
theorem tw_155 : (Cond.laysFinal "KeptPages$Planner" "KeptPages$Planner" "freeFrom" "[I") ∈ lw_tbl := List.mem_append_right _ (List.mem_append_left _ (List.mem_of_getElem? (i := 155) rfl))
theorem tw_157 : (Cond.laysFinal "KeptPages$Planner" "KeptPages$Planner" "room" "[I") ∈ lw_tbl := List.mem_append_right _ (List.mem_append_left _ (List.mem_of_getElem? (i := 157) rfl))
theorem tw_159 : (Cond.laysFinal "KeptPages$Planner" "KeptPages$Planner" "tried" "[I") ∈ lw_tbl := List.mem_append_right _ (List.mem_append_left _ (List.mem_of_getElem? (i := 159) rfl))
theorem tw_161 : (Cond.laysFinal "KeptPages$Planner" "KeptPages$Planner" "best" "[I") ∈ lw_tbl := List.mem_append_right _ (List.mem_append_left _ (List.mem_of_getElem? (i := 161) rfl))
theorem tw_163 : (Cond.lays "KeptPages$Planner" "KeptPages$Planner" "bestWorth" "I") ∈ lw_tbl := List.mem_append_right _ (List.mem_append_left _ (List.mem_of_getElem? (i := 163) rfl))
theorem tw_165 : (Cond.lays "KeptPages$Planner" "KeptPages$Planner" "size" "I") ∈ lw_tbl := List.mem_append_right _ (List.mem_append_left _ (List.mem_of_getElem? (i := 165) rfl))
theorem tw_167 : (Cond.lays "KeptPages$Planner" "KeptPages$Planner" "night" "I") ∈ lw_tbl := List.mem_append_right _ (List.mem_append_left _ (List.mem_of_getElem? (i := 167) rfl))
theorem tw_175 : (Cond.methodLink "KeptPages$Houses" (3 : Nat) ({ cls := "java/lang/Object", name := "<init>", desc := "()V" } : MethodName)) ∈ lw_tbl := List.mem_append_right _ (List.mem_append_left _ (List.mem_of_getElem? (i := 175) rfl))
theorem tw_177 : (Cond.laysFinal "KeptPages$Houses" "KeptPages$Houses" "kept" "[J") ∈ lw_tbl := List.mem_append_right _ (List.mem_append_left _ (List.mem_of_getElem? (i := 177) rfl))
theorem tw_180 : (Cond.arrayClass FieldType.long) ∈ lw_tbl := List.mem_append_right _ (List.mem_append_left _ (List.mem_of_getElem? (i := 180) rfl))
theorem tw_186 : (Cond.methodLink "KeptPages$Rights" (3 : Nat) ({ cls := "java/lang/Object", name := "<init>", desc := "()V" } : MethodName)) ∈ lw_tbl := List.mem_append_right _ (List.mem_append_left _ (List.mem_of_getElem? (i := 186) rfl))
theorem tw_199 : (Cond.laysFinal "KeptPages$Rights" "KeptPages$Rights" "lets" "[I") ∈ lw_tbl := List.mem_append_right _ (List.mem_append_left _ (List.mem_of_getElem? (i := 199) rfl))
theorem tw_201 : (Cond.lays "KeptPages$Rights" "KeptPages$Rights" "nevers" "I") ∈ lw_tbl := List.mem_append_right _ (List.mem_append_left _ (List.mem_of_getElem? (i := 201) rfl))
theorem tw_203 : (Cond.lays "KeptPages$Rights" "KeptPages$Rights" "letsTold" "I") ∈ lw_tbl := List.mem_append_right _ (List.mem_append_left _ (List.mem_of_getElem? (i := 203) rfl))
theorem tw_205 : (Cond.lays "KeptPages$Rights" "KeptPages$Rights" "clausesTold" "I") ∈ lw_tbl := List.mem_append_right _ (List.mem_append_left _ (List.mem_of_getElem? (i := 205) rfl))
theorem tw_207 : (Cond.lays "KeptPages$Rights" "KeptPages$Rights" "night" "I") ∈ lw_tbl := List.mem_append_right _ (List.mem_append_left _ (List.mem_of_getElem? (i := 207) rfl))
theorem tw_209 : (Cond.lays "KeptPages$Rights" "KeptPages$Rights" "patience" "I") ∈ lw_tbl := List.mem_append_right _ (List.mem_append_left _ (List.mem_of_getElem? (i := 209) rfl))
theorem tw_211 : (Cond.lays "KeptPages$Rights" "KeptPages$Rights" "clothes" "J") ∈ lw_tbl := List.mem_append_right _ (List.mem_append_left _ (List.mem_of_getElem? (i := 211) rfl))
theorem tw_219 : (Cond.methodLink "KeptPages$Program" (3 : Nat) ({ cls := "java/lang/Object", name := "<init>", desc := "()V" } : MethodName)) ∈ lw_tbl := List.mem_append_right _ (List.mem_append_left _ (List.mem_of_getElem? (i := 219) rfl))
theorem tw_226 : (Cond.laysFinal "KeptPages$Program" "KeptPages$Program" "starts" "[I") ∈ lw_tbl := List.mem_append_right _ (List.mem_append_left _ (List.mem_of_getElem? (i := 226) rfl))
theorem tw_228 : (Cond.laysFinal "KeptPages$Program" "KeptPages$Program" "steps" "[I") ∈ lw_tbl := List.mem_append_right _ (List.mem_append_left _ (List.mem_of_getElem? (i := 228) rfl))
theorem tw_230 : (Cond.laysFinal "KeptPages$Program" "KeptPages$Program" "times" "[I") ∈ lw_tbl := List.mem_append_right _ (List.mem_append_left _ (List.mem_of_getElem? (i := 230) rfl))
theorem tw_232 : (Cond.lays "KeptPages$Program" "KeptPages$Program" "size" "I") ∈ lw_tbl := List.mem_append_right _ (List.mem_append_left _ (List.mem_of_getElem? (i := 232) rfl))
theorem tw_234 : (Cond.lays "KeptPages$Program" "KeptPages$Program" "endless" "Z") ∈ lw_tbl := List.mem_append_right _ (List.mem_append_left _ (List.mem_of_getElem? (i := 234) rfl))
theorem tw_249 : (Cond.laysFinal "KeptPages" "KeptPages" "pages" "Ljava/util/List;") ∈ lw_tbl := List.mem_append_right _ (List.mem_append_right _ (List.mem_append_left _ (List.mem_of_getElem? (i := 9) rfl)))
theorem tw_251 : (Cond.laysFinal "KeptPages" "KeptPages" "looks" "Ljava/util/List;") ∈ lw_tbl := List.mem_append_right _ (List.mem_append_right _ (List.mem_append_left _ (List.mem_of_getElem? (i := 11) rfl)))
theorem tw_253 : (Cond.laysFinal "KeptPages" "KeptPages" "knocked" "[I") ∈ lw_tbl := List.mem_append_right _ (List.mem_append_right _ (List.mem_append_left _ (List.mem_of_getElem? (i := 13) rfl)))
theorem tw_255 : (Cond.laysFinal "KeptPages" "KeptPages" "text" "LKeptPages$Text;") ∈ lw_tbl := List.mem_append_right _ (List.mem_append_right _ (List.mem_append_left _ (List.mem_of_getElem? (i := 15) rfl)))
theorem tw_257 : (Cond.laysFinal "KeptPages" "KeptPages" "together" "LKeptPages$Whole;") ∈ lw_tbl := List.mem_append_right _ (List.mem_append_right _ (List.mem_append_left _ (List.mem_of_getElem? (i := 17) rfl)))
theorem tw_259 : (Cond.laysFinal "KeptPages" "KeptPages" "planner" "LKeptPages$Planner;") ∈ lw_tbl := List.mem_append_right _ (List.mem_append_right _ (List.mem_append_left _ (List.mem_of_getElem? (i := 19) rfl)))
theorem tw_261 : (Cond.laysFinal "KeptPages" "KeptPages" "houses" "LKeptPages$Houses;") ∈ lw_tbl := List.mem_append_right _ (List.mem_append_right _ (List.mem_append_left _ (List.mem_of_getElem? (i := 21) rfl)))
theorem tw_263 : (Cond.lays "KeptPages" "KeptPages" "rights" "LKeptPages$Rights;") ∈ lw_tbl := List.mem_append_right _ (List.mem_append_right _ (List.mem_append_left _ (List.mem_of_getElem? (i := 23) rfl)))
theorem tw_265 : (Cond.lays "KeptPages" "KeptPages" "spareRights" "LKeptPages$Rights;") ∈ lw_tbl := List.mem_append_right _ (List.mem_append_right _ (List.mem_append_left _ (List.mem_of_getElem? (i := 25) rfl)))
theorem tw_267 : (Cond.lays "KeptPages" "KeptPages" "spareProgram" "LKeptPages$Program;") ∈ lw_tbl := List.mem_append_right _ (List.mem_append_right _ (List.mem_append_left _ (List.mem_of_getElem? (i := 27) rfl)))
theorem tw_269 : (Cond.lays "KeptPages" "KeptPages" "now" "I") ∈ lw_tbl := List.mem_append_right _ (List.mem_append_right _ (List.mem_append_left _ (List.mem_of_getElem? (i := 29) rfl)))
theorem tw_271 : (Cond.lays "KeptPages" "KeptPages" "faultPlace" "I") ∈ lw_tbl := List.mem_append_right _ (List.mem_append_right _ (List.mem_append_left _ (List.mem_of_getElem? (i := 31) rfl)))
theorem tw_286 : (Cond.castable "java/util/ArrayList" "java/util/List") ∈ lw_tbl := List.mem_append_right _ (List.mem_append_right _ (List.mem_append_left _ (List.mem_of_getElem? (i := 46) rfl)))
theorem tw_297 : (Cond.methodLink "KeptPages$Page" (3 : Nat) ({ cls := "java/lang/Object", name := "<init>", desc := "()V" } : MethodName)) ∈ lw_tbl := List.mem_append_right _ (List.mem_append_right _ (List.mem_append_left _ (List.mem_of_getElem? (i := 57) rfl)))
theorem tw_312 : (Cond.laysFinal "KeptPages$Page" "KeptPages$Page" "number" "I") ∈ lw_tbl := List.mem_append_right _ (List.mem_append_right _ (List.mem_append_left _ (List.mem_of_getElem? (i := 72) rfl)))
theorem tw_314 : (Cond.laysFinal "KeptPages$Page" "KeptPages$Page" "door" "I") ∈ lw_tbl := List.mem_append_right _ (List.mem_append_right _ (List.mem_append_left _ (List.mem_of_getElem? (i := 74) rfl)))
theorem tw_316 : (Cond.laysFinal "KeptPages$Page" "KeptPages$Page" "views" "Ljava/util/List;") ∈ lw_tbl := List.mem_append_right _ (List.mem_append_right _ (List.mem_append_left _ (List.mem_of_getElem? (i := 76) rfl)))
theorem tw_318 : (Cond.lays "KeptPages$Page" "KeptPages$Page" "program" "LKeptPages$Program;") ∈ lw_tbl := List.mem_append_right _ (List.mem_append_right _ (List.mem_append_left _ (List.mem_of_getElem? (i := 78) rfl)))
theorem tw_345 : (Cond.methodLink "jdk/internal/util/ArraysSupport" (194 : Nat) ({ cls := "java/lang/Math", name := "max", desc := "(II)I" } : MethodName)) ∈ lw_tbl := List.mem_append_right _ (List.mem_append_right _ (List.mem_append_left _ (List.mem_of_getElem? (i := 105) rfl)))
theorem tw_346 : (Cond.static ({ cls := "java/lang/Math", name := "max", desc := "(II)I" } : MethodName)) ∈ lw_tbl := List.mem_append_right _ (List.mem_append_right _ (List.mem_append_left _ (List.mem_of_getElem? (i := 106) rfl)))
theorem tw_347 : (Cond.code ({ cls := "java/lang/Math", name := "max", desc := "(II)I" } : MethodName) prog_17_method_65_code (2 : Nat) (Option.some FieldType.int)) ∈ lw_tbl := List.mem_append_right _ (List.mem_append_right _ (List.mem_append_left _ (List.mem_of_getElem? (i := 107) rfl)))
theorem tw_355 : (Cond.methodLink "java/util/Arrays" (86 : Nat) ({ cls := "java/lang/Object", name := "getClass", desc := "()Ljava/lang/Class;" } : MethodName)) ∈ lw_tbl := List.mem_append_right _ (List.mem_append_right _ (List.mem_append_left _ (List.mem_of_getElem? (i := 115) rfl)))
theorem tw_356 : (Cond.instanceMethod ({ cls := "java/lang/Object", name := "getClass", desc := "()Ljava/lang/Class;" } : MethodName)) ∈ lw_tbl := List.mem_append_right _ (List.mem_append_right _ (List.mem_append_left _ (List.mem_of_getElem? (i := 116) rfl)))
theorem tw_357 : (Cond.sameMethod "java/lang/Object" "java/lang/Object" "getClass" "()Ljava/lang/Class;") ∈ lw_tbl := List.mem_append_right _ (List.mem_append_right _ (List.mem_append_left _ (List.mem_of_getElem? (i := 117) rfl)))
theorem tw_358 : (Cond.selects "KeptPages" ({ cls := "java/lang/Object", name := "getClass", desc := "()Ljava/lang/Class;" } : MethodName) ({ cls := "java/lang/Object", name := "getClass", desc := "()Ljava/lang/Class;" } : MethodName)) ∈ lw_tbl := List.mem_append_right _ (List.mem_append_right _ (List.mem_append_left _ (List.mem_of_getElem? (i := 118) rfl)))
theorem tw_359 : (Cond.selects "KeptPages$Houses" ({ cls := "java/lang/Object", name := "getClass", desc := "()Ljava/lang/Class;" } : MethodName) ({ cls := "java/lang/Object", name := "getClass", desc := "()Ljava/lang/Class;" } : MethodName)) ∈ lw_tbl := List.mem_append_right _ (List.mem_append_right _ (List.mem_append_left _ (List.mem_of_getElem? (i := 119) rfl)))
theorem tw_360 : (Cond.selects "KeptPages$Look" ({ cls := "java/lang/Object", name := "getClass", desc := "()Ljava/lang/Class;" } : MethodName) ({ cls := "java/lang/Object", name := "getClass", desc := "()Ljava/lang/Class;" } : MethodName)) ∈ lw_tbl := List.mem_append_right _ (List.mem_append_right _ (List.mem_append_left _ (List.mem_of_getElem? (i := 120) rfl)))
theorem tw_361 : (Cond.selects "KeptPages$Page" ({ cls := "java/lang/Object", name := "getClass", desc := "()Ljava/lang/Class;" } : MethodName) ({ cls := "java/lang/Object", name := "getClass", desc := "()Ljava/lang/Class;" } : MethodName)) ∈ lw_tbl := List.mem_append_right _ (List.mem_append_right _ (List.mem_append_left _ (List.mem_of_getElem? (i := 121) rfl)))
theorem tw_362 : (Cond.selects "KeptPages$Planner" ({ cls := "java/lang/Object", name := "getClass", desc := "()Ljava/lang/Class;" } : MethodName) ({ cls := "java/lang/Object", name := "getClass", desc := "()Ljava/lang/Class;" } : MethodName)) ∈ lw_tbl := List.mem_append_right _ (List.mem_append_right _ (List.mem_append_left _ (List.mem_of_getElem? (i := 122) rfl)))
theorem tw_363 : (Cond.selects "KeptPages$Program" ({ cls := "java/lang/Object", name := "getClass", desc := "()Ljava/lang/Class;" } : MethodName) ({ cls := "java/lang/Object", name := "getClass", desc := "()Ljava/lang/Class;" } : MethodName)) ∈ lw_tbl := List.mem_append_right _ (List.mem_append_right _ (List.mem_append_left _ (List.mem_of_getElem? (i := 123) rfl)))
theorem tw_364 : (Cond.selects "KeptPages$Rights" ({ cls := "java/lang/Object", name := "getClass", desc := "()Ljava/lang/Class;" } : MethodName) ({ cls := "java/lang/Object", name := "getClass", desc := "()Ljava/lang/Class;" } : MethodName)) ∈ lw_tbl := List.mem_append_right _ (List.mem_append_right _ (List.mem_append_left _ (List.mem_of_getElem? (i := 124) rfl)))
theorem tw_365 : (Cond.selects "KeptPages$Text" ({ cls := "java/lang/Object", name := "getClass", desc := "()Ljava/lang/Class;" } : MethodName) ({ cls := "java/lang/Object", name := "getClass", desc := "()Ljava/lang/Class;" } : MethodName)) ∈ lw_tbl := List.mem_append_right _ (List.mem_append_right _ (List.mem_append_left _ (List.mem_of_getElem? (i := 125) rfl)))
theorem tw_366 : (Cond.selects "KeptPages$Whole" ({ cls := "java/lang/Object", name := "getClass", desc := "()Ljava/lang/Class;" } : MethodName) ({ cls := "java/lang/Object", name := "getClass", desc := "()Ljava/lang/Class;" } : MethodName)) ∈ lw_tbl := List.mem_append_right _ (List.mem_append_right _ (List.mem_append_left _ (List.mem_of_getElem? (i := 126) rfl)))
theorem tw_367 : (Cond.selects "KeptPagesModel" ({ cls := "java/lang/Object", name := "getClass", desc := "()Ljava/lang/Class;" } : MethodName) ({ cls := "java/lang/Object", name := "getClass", desc := "()Ljava/lang/Class;" } : MethodName)) ∈ lw_tbl := List.mem_append_right _ (List.mem_append_right _ (List.mem_append_left _ (List.mem_of_getElem? (i := 127) rfl)))
theorem tw_368 : (Cond.selects "java/util/ArrayList" ({ cls := "java/lang/Object", name := "getClass", desc := "()Ljava/lang/Class;" } : MethodName) ({ cls := "java/lang/Object", name := "getClass", desc := "()Ljava/lang/Class;" } : MethodName)) ∈ lw_tbl := List.mem_append_right _ (List.mem_append_right _ (List.mem_append_left _ (List.mem_of_getElem? (i := 128) rfl)))
theorem tw_369 : (Cond.native ({ cls := "java/lang/Object", name := "getClass", desc := "()Ljava/lang/Class;" } : MethodName)) ∈ lw_tbl := List.mem_append_right _ (List.mem_append_right _ (List.mem_append_left _ (List.mem_of_getElem? (i := 129) rfl)))
theorem tw_373 : (Cond.classLink "java/util/Arrays" (110 : Nat) "[Ljava/lang/Object;") ∈ lw_tbl := List.mem_append_right _ (List.mem_append_right _ (List.mem_append_left _ (List.mem_of_getElem? (i := 133) rfl)))
theorem tw_374 : (Cond.arrayOver (FieldType.object "java/lang/Object")) ∈ lw_tbl := List.mem_append_right _ (List.mem_append_right _ (List.mem_append_left _ (List.mem_of_getElem? (i := 134) rfl)))
theorem tw_375 : (Cond.classLink "java/util/Arrays" (2 : Nat) "java/lang/Object") ∈ lw_tbl := List.mem_append_right _ (List.mem_append_right _ (List.mem_append_left _ (List.mem_of_getElem? (i := 135) rfl)))
theorem tw_376 : (Cond.methodLink "java/util/Arrays" (304 : Nat) ({ cls := "java/lang/Math", name := "min", desc := "(II)I" } : MethodName)) ∈ lw_tbl := List.mem_append_right _ (List.mem_append_right _ (List.mem_append_left _ (List.mem_of_getElem? (i := 136) rfl)))
theorem tw_377 : (Cond.static ({ cls := "java/lang/Math", name := "min", desc := "(II)I" } : MethodName)) ∈ lw_tbl := List.mem_append_right _ (List.mem_append_right _ (List.mem_append_left _ (List.mem_of_getElem? (i := 137) rfl)))
theorem tw_378 : (Cond.code ({ cls := "java/lang/Math", name := "min", desc := "(II)I" } : MethodName) prog_17_method_69_code (2 : Nat) (Option.some FieldType.int)) ∈ lw_tbl := List.mem_append_right _ (List.mem_append_right _ (List.mem_append_left _ (List.mem_of_getElem? (i := 138) rfl)))
theorem tw_379 : (Cond.methodLink "java/util/Arrays" (150 : Nat) ({ cls := "java/lang/System", name := "arraycopy", desc := "(Ljava/lang/Object;ILjava/lang/Object;II)V" } : MethodName)) ∈ lw_tbl := List.mem_append_right _ (List.mem_append_right _ (List.mem_append_left _ (List.mem_of_getElem? (i := 139) rfl)))
theorem tw_380 : (Cond.static ({ cls := "java/lang/System", name := "arraycopy", desc := "(Ljava/lang/Object;ILjava/lang/Object;II)V" } : MethodName)) ∈ lw_tbl := List.mem_append_right _ (List.mem_append_right _ (List.mem_append_left _ (List.mem_of_getElem? (i := 140) rfl)))
theorem tw_381 : (Cond.native ({ cls := "java/lang/System", name := "arraycopy", desc := "(Ljava/lang/Object;ILjava/lang/Object;II)V" } : MethodName)) ∈ lw_tbl := List.mem_append_right _ (List.mem_append_right _ (List.mem_append_left _ (List.mem_of_getElem? (i := 141) rfl)))
theorem tw_382 : (Cond.methodLink "java/util/ArrayList" (79 : Nat) ({ cls := "java/lang/Math", name := "max", desc := "(II)I" } : MethodName)) ∈ lw_tbl := List.mem_append_right _ (List.mem_append_right _ (List.mem_append_left _ (List.mem_of_getElem? (i := 142) rfl)))
theorem tw_383 : (Cond.classLink "java/util/ArrayList" (7 : Nat) "java/lang/Object") ∈ lw_tbl := List.mem_append_right _ (List.mem_append_right _ (List.mem_append_left _ (List.mem_of_getElem? (i := 143) rfl)))
theorem tw_425 : (Cond.methodLink "KeptPages$Look" (3 : Nat) ({ cls := "java/lang/Object", name := "<init>", desc := "()V" } : MethodName)) ∈ lw_tbl := List.mem_append_right _ (List.mem_append_right _ (List.mem_append_left _ (List.mem_of_getElem? (i := 185) rfl)))
theorem tw_444 : (Cond.laysFinal "KeptPages$Look" "KeptPages$Look" "number" "I") ∈ lw_tbl := List.mem_append_right _ (List.mem_append_right _ (List.mem_append_left _ (List.mem_of_getElem? (i := 204) rfl)))
theorem tw_446 : (Cond.laysFinal "KeptPages$Look" "KeptPages$Look" "home" "LKeptPages$Page;") ∈ lw_tbl := List.mem_append_right _ (List.mem_append_right _ (List.mem_append_left _ (List.mem_of_getElem? (i := 206) rfl)))
theorem tw_448 : (Cond.laysFinal "KeptPages$Look" "KeptPages$Look" "hour" "I") ∈ lw_tbl := List.mem_append_right _ (List.mem_append_right _ (List.mem_append_left _ (List.mem_of_getElem? (i := 208) rfl)))
theorem tw_450 : (Cond.lays "KeptPages$Look" "KeptPages$Look" "kind" "I") ∈ lw_tbl := List.mem_append_right _ (List.mem_append_right _ (List.mem_append_left _ (List.mem_of_getElem? (i := 210) rfl)))
theorem tw_452 : (Cond.lays "KeptPages$Look" "KeptPages$Look" "date" "I") ∈ lw_tbl := List.mem_append_right _ (List.mem_append_right _ (List.mem_append_left _ (List.mem_of_getElem? (i := 212) rfl)))
theorem tw_454 : (Cond.lays "KeptPages$Look" "KeptPages$Look" "pieces" "J") ∈ lw_tbl := List.mem_append_right _ (List.mem_append_right _ (List.mem_append_left _ (List.mem_of_getElem? (i := 214) rfl)))
theorem tw_456 : (Cond.lays "KeptPages$Look" "KeptPages$Look" "out" "Z") ∈ lw_tbl := List.mem_append_right _ (List.mem_append_right _ (List.mem_append_left _ (List.mem_of_getElem? (i := 216) rfl)))
theorem tw_504 : (Cond.methodLink "java/util/ArrayList" (112 : Nat) ({ cls := "java/lang/System", name := "arraycopy", desc := "(Ljava/lang/Object;ILjava/lang/Object;II)V" } : MethodName)) ∈ lw_tbl := List.mem_append_right _ (List.mem_append_right _ (List.mem_append_right _ (List.mem_append_left _ (List.mem_of_getElem? (i := 24) rfl))))
theorem tw_672 : (Cond.methodLink "KeptPages$Text" (65 : Nat) ({ cls := "java/lang/Math", name := "min", desc := "(II)I" } : MethodName)) ∈ lw_tbl := List.mem_append_right _ (List.mem_append_right _ (List.mem_append_right _ (List.mem_append_left _ (List.mem_of_getElem? (i := 192) rfl))))
theorem tw_713 : (Cond.arrayClass FieldType.byte) ∈ lw_tbl := List.mem_append_right _ (List.mem_append_right _ (List.mem_append_right _ (List.mem_append_left _ (List.mem_of_getElem? (i := 233) rfl))))
theorem tw_831 : (Cond.methodLink "KeptPages" (251 : Nat) ({ cls := "java/lang/Math", name := "min", desc := "(II)I" } : MethodName)) ∈ lw_tbl := List.mem_append_right _ (List.mem_append_right _ (List.mem_append_right _ (List.mem_append_right _ (List.mem_append_left _ (List.mem_of_getElem? (i := 111) rfl)))))
theorem tw_832 : (Cond.methodLink "KeptPages" (257 : Nat) ({ cls := "java/lang/Math", name := "max", desc := "(II)I" } : MethodName)) ∈ lw_tbl := List.mem_append_right _ (List.mem_append_right _ (List.mem_append_right _ (List.mem_append_right _ (List.mem_append_left _ (List.mem_of_getElem? (i := 112) rfl)))))
theorem tw_882 : (Cond.methodLink "KeptPages$Whole" (70 : Nat) ({ cls := "java/lang/Math", name := "min", desc := "(II)I" } : MethodName)) ∈ lw_tbl := List.mem_append_right _ (List.mem_append_right _ (List.mem_append_right _ (List.mem_append_right _ (List.mem_append_left _ (List.mem_of_getElem? (i := 162) rfl)))))
theorem tw_883 : (Cond.methodLink "KeptPages$Whole" (76 : Nat) ({ cls := "java/lang/Math", name := "max", desc := "(II)I" } : MethodName)) ∈ lw_tbl := List.mem_append_right _ (List.mem_append_right _ (List.mem_append_right _ (List.mem_append_right _ (List.mem_append_left _ (List.mem_of_getElem? (i := 163) rfl)))))
theorem tw_944 : (Cond.methodLink "KeptPages$Page" (97 : Nat) ({ cls := "java/lang/Math", name := "max", desc := "(II)I" } : MethodName)) ∈ lw_tbl := List.mem_append_right _ (List.mem_append_right _ (List.mem_append_right _ (List.mem_append_right _ (List.mem_append_left _ (List.mem_of_getElem? (i := 224) rfl)))))
theorem tw_961 : (Cond.methodLink "KeptPages$Planner" (87 : Nat) ({ cls := "java/lang/System", name := "arraycopy", desc := "(Ljava/lang/Object;ILjava/lang/Object;II)V" } : MethodName)) ∈ lw_tbl := List.mem_append_right _ (List.mem_append_right _ (List.mem_append_right _ (List.mem_append_right _ (List.mem_append_right _ (List.mem_append_left _ (List.mem_of_getElem? (i := 1) rfl))))))
theorem tw_966 : (Cond.methodLink "KeptPages$Planner" (93 : Nat) ({ cls := "java/lang/Math", name := "max", desc := "(II)I" } : MethodName)) ∈ lw_tbl := List.mem_append_right _ (List.mem_append_right _ (List.mem_append_right _ (List.mem_append_right _ (List.mem_append_right _ (List.mem_append_left _ (List.mem_of_getElem? (i := 6) rfl))))))
theorem tw_1070 : (Cond.methodLink "KeptPages$Page" (111 : Nat) ({ cls := "java/lang/Math", name := "min", desc := "(II)I" } : MethodName)) ∈ lw_tbl := List.mem_append_right _ (List.mem_append_right _ (List.mem_append_right _ (List.mem_append_right _ (List.mem_append_right _ (List.mem_append_left _ (List.mem_of_getElem? (i := 110) rfl))))))
theorem tw_1089 : (Cond.methodLink "KeptPagesModel" (1 : Nat) ({ cls := "java/lang/Object", name := "<init>", desc := "()V" } : MethodName)) ∈ lw_tbl := List.mem_append_right _ (List.mem_append_right _ (List.mem_append_right _ (List.mem_append_right _ (List.mem_append_right _ (List.mem_append_left _ (List.mem_of_getElem? (i := 129) rfl))))))
theorem tw_1148 : (Cond.lays "KeptPagesModel" "KeptPagesModel" "now" "I") ∈ lw_tbl := List.mem_append_right _ (List.mem_append_right _ (List.mem_append_right _ (List.mem_append_right _ (List.mem_append_right _ (List.mem_append_left _ (List.mem_of_getElem? (i := 188) rfl))))))
theorem tw_1150 : (Cond.lays "KeptPagesModel" "KeptPagesModel" "pages" "I") ∈ lw_tbl := List.mem_append_right _ (List.mem_append_right _ (List.mem_append_right _ (List.mem_append_right _ (List.mem_append_right _ (List.mem_append_left _ (List.mem_of_getElem? (i := 190) rfl))))))
theorem tw_1152 : (Cond.laysFinal "KeptPagesModel" "KeptPagesModel" "door" "[I") ∈ lw_tbl := List.mem_append_right _ (List.mem_append_right _ (List.mem_append_right _ (List.mem_append_right _ (List.mem_append_right _ (List.mem_append_left _ (List.mem_of_getElem? (i := 192) rfl))))))
theorem tw_1154 : (Cond.lays "KeptPagesModel" "KeptPagesModel" "looks" "I") ∈ lw_tbl := List.mem_append_right _ (List.mem_append_right _ (List.mem_append_right _ (List.mem_append_right _ (List.mem_append_right _ (List.mem_append_left _ (List.mem_of_getElem? (i := 194) rfl))))))
theorem tw_1156 : (Cond.laysFinal "KeptPagesModel" "KeptPagesModel" "pageOf" "[I") ∈ lw_tbl := List.mem_append_right _ (List.mem_append_right _ (List.mem_append_right _ (List.mem_append_right _ (List.mem_append_right _ (List.mem_append_left _ (List.mem_of_getElem? (i := 196) rfl))))))
theorem tw_1158 : (Cond.laysFinal "KeptPagesModel" "KeptPagesModel" "hour" "[I") ∈ lw_tbl := List.mem_append_right _ (List.mem_append_right _ (List.mem_append_right _ (List.mem_append_right _ (List.mem_append_right _ (List.mem_append_left _ (List.mem_of_getElem? (i := 198) rfl))))))
theorem tw_1160 : (Cond.laysFinal "KeptPagesModel" "KeptPagesModel" "kind" "[I") ∈ lw_tbl := List.mem_append_right _ (List.mem_append_right _ (List.mem_append_right _ (List.mem_append_right _ (List.mem_append_right _ (List.mem_append_left _ (List.mem_of_getElem? (i := 200) rfl))))))
theorem tw_1162 : (Cond.laysFinal "KeptPagesModel" "KeptPagesModel" "set" "[J") ∈ lw_tbl := List.mem_append_right _ (List.mem_append_right _ (List.mem_append_right _ (List.mem_append_right _ (List.mem_append_right _ (List.mem_append_left _ (List.mem_of_getElem? (i := 202) rfl))))))
theorem tw_1164 : (Cond.laysFinal "KeptPagesModel" "KeptPagesModel" "date" "[I") ∈ lw_tbl := List.mem_append_right _ (List.mem_append_right _ (List.mem_append_right _ (List.mem_append_right _ (List.mem_append_right _ (List.mem_append_left _ (List.mem_of_getElem? (i := 204) rfl))))))
theorem tw_1166 : (Cond.laysFinal "KeptPagesModel" "KeptPagesModel" "house" "[J") ∈ lw_tbl := List.mem_append_right _ (List.mem_append_right _ (List.mem_append_right _ (List.mem_append_right _ (List.mem_append_right _ (List.mem_append_left _ (List.mem_of_getElem? (i := 206) rfl))))))
theorem tw_1168 : (Cond.laysFinal "KeptPagesModel" "KeptPagesModel" "isNever" "[Z") ∈ lw_tbl := List.mem_append_right _ (List.mem_append_right _ (List.mem_append_right _ (List.mem_append_right _ (List.mem_append_right _ (List.mem_append_left _ (List.mem_of_getElem? (i := 208) rfl))))))
theorem tw_1170 : (Cond.laysFinal "KeptPagesModel" "KeptPagesModel" "let" "[I") ∈ lw_tbl := List.mem_append_right _ (List.mem_append_right _ (List.mem_append_right _ (List.mem_append_right _ (List.mem_append_right _ (List.mem_append_left _ (List.mem_of_getElem? (i := 210) rfl))))))
theorem tw_1172 : (Cond.lays "KeptPagesModel" "KeptPagesModel" "night" "I") ∈ lw_tbl := List.mem_append_right _ (List.mem_append_right _ (List.mem_append_right _ (List.mem_append_right _ (List.mem_append_right _ (List.mem_append_left _ (List.mem_of_getElem? (i := 212) rfl))))))
theorem tw_1174 : (Cond.lays "KeptPagesModel" "KeptPagesModel" "patience" "I") ∈ lw_tbl := List.mem_append_right _ (List.mem_append_right _ (List.mem_append_right _ (List.mem_append_right _ (List.mem_append_right _ (List.mem_append_left _ (List.mem_of_getElem? (i := 214) rfl))))))
theorem tw_1176 : (Cond.lays "KeptPagesModel" "KeptPagesModel" "clothes" "J") ∈ lw_tbl := List.mem_append_right _ (List.mem_append_right _ (List.mem_append_right _ (List.mem_append_right _ (List.mem_append_right _ (List.mem_append_left _ (List.mem_of_getElem? (i := 216) rfl))))))
theorem tw_1178 : (Cond.laysFinal "KeptPagesModel" "KeptPagesModel" "row" "[I") ∈ lw_tbl := List.mem_append_right _ (List.mem_append_right _ (List.mem_append_right _ (List.mem_append_right _ (List.mem_append_right _ (List.mem_append_left _ (List.mem_of_getElem? (i := 218) rfl))))))
theorem tw_1180 : (Cond.lays "KeptPagesModel" "KeptPagesModel" "views" "I") ∈ lw_tbl := List.mem_append_right _ (List.mem_append_right _ (List.mem_append_right _ (List.mem_append_right _ (List.mem_append_right _ (List.mem_append_left _ (List.mem_of_getElem? (i := 220) rfl))))))
theorem tw_1182 : (Cond.laysFinal "KeptPagesModel" "KeptPagesModel" "text" "[I") ∈ lw_tbl := List.mem_append_right _ (List.mem_append_right _ (List.mem_append_right _ (List.mem_append_right _ (List.mem_append_right _ (List.mem_append_left _ (List.mem_of_getElem? (i := 222) rfl))))))
theorem tw_1184 : (Cond.lays "KeptPagesModel" "KeptPagesModel" "textSize" "I") ∈ lw_tbl := List.mem_append_right _ (List.mem_append_right _ (List.mem_append_right _ (List.mem_append_right _ (List.mem_append_right _ (List.mem_append_left _ (List.mem_of_getElem? (i := 224) rfl))))))
theorem tw_1186 : (Cond.lays "KeptPagesModel" "KeptPagesModel" "here" "I") ∈ lw_tbl := List.mem_append_right _ (List.mem_append_right _ (List.mem_append_right _ (List.mem_append_right _ (List.mem_append_right _ (List.mem_append_left _ (List.mem_of_getElem? (i := 226) rfl))))))
theorem tw_1188 : (Cond.lays "KeptPagesModel" "KeptPagesModel" "faultOf" "I") ∈ lw_tbl := List.mem_append_right _ (List.mem_append_right _ (List.mem_append_right _ (List.mem_append_right _ (List.mem_append_right _ (List.mem_append_left _ (List.mem_of_getElem? (i := 228) rfl))))))
theorem tw_1190 : (Cond.lays "KeptPagesModel" "KeptPagesModel" "place" "I") ∈ lw_tbl := List.mem_append_right _ (List.mem_append_right _ (List.mem_append_right _ (List.mem_append_right _ (List.mem_append_right _ (List.mem_append_left _ (List.mem_of_getElem? (i := 230) rfl))))))
theorem tw_1192 : (Cond.lays "KeptPagesModel" "KeptPagesModel" "begin" "I") ∈ lw_tbl := List.mem_append_right _ (List.mem_append_right _ (List.mem_append_right _ (List.mem_append_right _ (List.mem_append_right _ (List.mem_append_left _ (List.mem_of_getElem? (i := 232) rfl))))))
theorem tw_1194 : (Cond.lays "KeptPagesModel" "KeptPagesModel" "letters" "I") ∈ lw_tbl := List.mem_append_right _ (List.mem_append_right _ (List.mem_append_right _ (List.mem_append_right _ (List.mem_append_right _ (List.mem_append_left _ (List.mem_of_getElem? (i := 234) rfl))))))
theorem tw_1196 : (Cond.laysFinal "KeptPagesModel" "KeptPagesModel" "newNever" "[Z") ∈ lw_tbl := List.mem_append_right _ (List.mem_append_right _ (List.mem_append_right _ (List.mem_append_right _ (List.mem_append_right _ (List.mem_append_left _ (List.mem_of_getElem? (i := 236) rfl))))))
theorem tw_1198 : (Cond.laysFinal "KeptPagesModel" "KeptPagesModel" "newLet" "[I") ∈ lw_tbl := List.mem_append_right _ (List.mem_append_right _ (List.mem_append_right _ (List.mem_append_right _ (List.mem_append_right _ (List.mem_append_left _ (List.mem_of_getElem? (i := 238) rfl))))))
theorem tw_1200 : (Cond.lays "KeptPagesModel" "KeptPagesModel" "newNight" "I") ∈ lw_tbl := List.mem_append_right _ (List.mem_append_right _ (List.mem_append_right _ (List.mem_append_right _ (List.mem_append_right _ (List.mem_append_right _ (List.mem_append_left _ (List.mem_of_getElem? (i := 0) rfl)))))))
theorem tw_1202 : (Cond.lays "KeptPagesModel" "KeptPagesModel" "newPatience" "I") ∈ lw_tbl := List.mem_append_right _ (List.mem_append_right _ (List.mem_append_right _ (List.mem_append_right _ (List.mem_append_right _ (List.mem_append_right _ (List.mem_append_left _ (List.mem_of_getElem? (i := 2) rfl)))))))
theorem tw_1204 : (Cond.lays "KeptPagesModel" "KeptPagesModel" "newClothes" "J") ∈ lw_tbl := List.mem_append_right _ (List.mem_append_right _ (List.mem_append_right _ (List.mem_append_right _ (List.mem_append_right _ (List.mem_append_right _ (List.mem_append_left _ (List.mem_of_getElem? (i := 4) rfl)))))))
theorem tw_1206 : (Cond.lays "KeptPagesModel" "KeptPagesModel" "toldRights" "I") ∈ lw_tbl := List.mem_append_right _ (List.mem_append_right _ (List.mem_append_right _ (List.mem_append_right _ (List.mem_append_right _ (List.mem_append_right _ (List.mem_append_left _ (List.mem_of_getElem? (i := 6) rfl)))))))
theorem tw_1208 : (Cond.laysFinal "KeptPagesModel" "KeptPagesModel" "clauses" "[I") ∈ lw_tbl := List.mem_append_right _ (List.mem_append_right _ (List.mem_append_right _ (List.mem_append_right _ (List.mem_append_right _ (List.mem_append_right _ (List.mem_append_left _ (List.mem_of_getElem? (i := 8) rfl)))))))
theorem tw_1210 : (Cond.laysFinal "KeptPagesModel" "KeptPagesModel" "first" "[I") ∈ lw_tbl := List.mem_append_right _ (List.mem_append_right _ (List.mem_append_right _ (List.mem_append_right _ (List.mem_append_right _ (List.mem_append_right _ (List.mem_append_left _ (List.mem_of_getElem? (i := 10) rfl)))))))
theorem tw_1212 : (Cond.laysFinal "KeptPagesModel" "KeptPagesModel" "by" "[I") ∈ lw_tbl := List.mem_append_right _ (List.mem_append_right _ (List.mem_append_right _ (List.mem_append_right _ (List.mem_append_right _ (List.mem_append_right _ (List.mem_append_left _ (List.mem_of_getElem? (i := 12) rfl)))))))
theorem tw_1214 : (Cond.laysFinal "KeptPagesModel" "KeptPagesModel" "times" "[I") ∈ lw_tbl := List.mem_append_right _ (List.mem_append_right _ (List.mem_append_right _ (List.mem_append_right _ (List.mem_append_right _ (List.mem_append_right _ (List.mem_append_left _ (List.mem_of_getElem? (i := 14) rfl)))))))
theorem tw_1216 : (Cond.laysFinal "KeptPagesModel" "KeptPagesModel" "newFirst" "[I") ∈ lw_tbl := List.mem_append_right _ (List.mem_append_right _ (List.mem_append_right _ (List.mem_append_right _ (List.mem_append_right _ (List.mem_append_right _ (List.mem_append_left _ (List.mem_of_getElem? (i := 16) rfl)))))))
theorem tw_1218 : (Cond.laysFinal "KeptPagesModel" "KeptPagesModel" "newBy" "[I") ∈ lw_tbl := List.mem_append_right _ (List.mem_append_right _ (List.mem_append_right _ (List.mem_append_right _ (List.mem_append_right _ (List.mem_append_right _ (List.mem_append_left _ (List.mem_of_getElem? (i := 18) rfl)))))))
theorem tw_1220 : (Cond.laysFinal "KeptPagesModel" "KeptPagesModel" "newTimes" "[I") ∈ lw_tbl := List.mem_append_right _ (List.mem_append_right _ (List.mem_append_right _ (List.mem_append_right _ (List.mem_append_right _ (List.mem_append_right _ (List.mem_append_left _ (List.mem_of_getElem? (i := 20) rfl)))))))
theorem tw_1222 : (Cond.lays "KeptPagesModel" "KeptPagesModel" "parts" "I") ∈ lw_tbl := List.mem_append_right _ (List.mem_append_right _ (List.mem_append_right _ (List.mem_append_right _ (List.mem_append_right _ (List.mem_append_right _ (List.mem_append_left _ (List.mem_of_getElem? (i := 22) rfl)))))))
theorem tw_1224 : (Cond.laysFinal "KeptPagesModel" "KeptPagesModel" "part" "[I") ∈ lw_tbl := List.mem_append_right _ (List.mem_append_right _ (List.mem_append_right _ (List.mem_append_right _ (List.mem_append_right _ (List.mem_append_right _ (List.mem_append_left _ (List.mem_of_getElem? (i := 24) rfl)))))))
theorem tw_1226 : (Cond.lays "KeptPagesModel" "KeptPagesModel" "stood" "I") ∈ lw_tbl := List.mem_append_right _ (List.mem_append_right _ (List.mem_append_right _ (List.mem_append_right _ (List.mem_append_right _ (List.mem_append_right _ (List.mem_append_left _ (List.mem_of_getElem? (i := 26) rfl)))))))
theorem tw_1228 : (Cond.lays "KeptPagesModel" "KeptPagesModel" "stoodMany" "I") ∈ lw_tbl := List.mem_append_right _ (List.mem_append_right _ (List.mem_append_right _ (List.mem_append_right _ (List.mem_append_right _ (List.mem_append_right _ (List.mem_append_left _ (List.mem_of_getElem? (i := 28) rfl)))))))
theorem tw_1230 : (Cond.lays "KeptPagesModel" "KeptPagesModel" "couldFirst" "I") ∈ lw_tbl := List.mem_append_right _ (List.mem_append_right _ (List.mem_append_right _ (List.mem_append_right _ (List.mem_append_right _ (List.mem_append_right _ (List.mem_append_left _ (List.mem_of_getElem? (i := 30) rfl)))))))
theorem tw_1232 : (Cond.lays "KeptPagesModel" "KeptPagesModel" "leave" "I") ∈ lw_tbl := List.mem_append_right _ (List.mem_append_right _ (List.mem_append_right _ (List.mem_append_right _ (List.mem_append_right _ (List.mem_append_right _ (List.mem_append_left _ (List.mem_of_getElem? (i := 32) rfl)))))))
theorem tw_1234 : (Cond.lays "KeptPagesModel" "KeptPagesModel" "nearest" "I") ∈ lw_tbl := List.mem_append_right _ (List.mem_append_right _ (List.mem_append_right _ (List.mem_append_right _ (List.mem_append_right _ (List.mem_append_right _ (List.mem_append_left _ (List.mem_of_getElem? (i := 34) rfl)))))))
theorem tw_1236 : (Cond.lays "KeptPagesModel" "KeptPagesModel" "nearestTwos" "I") ∈ lw_tbl := List.mem_append_right _ (List.mem_append_right _ (List.mem_append_right _ (List.mem_append_right _ (List.mem_append_right _ (List.mem_append_right _ (List.mem_append_left _ (List.mem_of_getElem? (i := 36) rfl)))))))
theorem tw_1238 : (Cond.laysFinal "KeptPagesModel" "KeptPagesModel" "member" "[I") ∈ lw_tbl := List.mem_append_right _ (List.mem_append_right _ (List.mem_append_right _ (List.mem_append_right _ (List.mem_append_right _ (List.mem_append_right _ (List.mem_append_left _ (List.mem_of_getElem? (i := 38) rfl)))))))
theorem tw_1240 : (Cond.laysFinal "KeptPagesModel" "KeptPagesModel" "worth" "[I") ∈ lw_tbl := List.mem_append_right _ (List.mem_append_right _ (List.mem_append_right _ (List.mem_append_right _ (List.mem_append_right _ (List.mem_append_right _ (List.mem_append_left _ (List.mem_of_getElem? (i := 40) rfl)))))))
theorem tw_1242 : (Cond.lays "KeptPagesModel" "KeptPagesModel" "members" "I") ∈ lw_tbl := List.mem_append_right _ (List.mem_append_right _ (List.mem_append_right _ (List.mem_append_right _ (List.mem_append_right _ (List.mem_append_right _ (List.mem_append_left _ (List.mem_of_getElem? (i := 42) rfl)))))))
theorem tw_1244 : (Cond.laysFinal "KeptPagesModel" "KeptPagesModel" "knock" "[I") ∈ lw_tbl := List.mem_append_right _ (List.mem_append_right _ (List.mem_append_right _ (List.mem_append_right _ (List.mem_append_right _ (List.mem_append_right _ (List.mem_append_left _ (List.mem_of_getElem? (i := 44) rfl)))))))
theorem tw_1246 : (Cond.laysFinal "KeptPagesModel" "KeptPagesModel" "bestKnock" "[I") ∈ lw_tbl := List.mem_append_right _ (List.mem_append_right _ (List.mem_append_right _ (List.mem_append_right _ (List.mem_append_right _ (List.mem_append_right _ (List.mem_append_left _ (List.mem_of_getElem? (i := 46) rfl)))))))
theorem tw_1249 : (Cond.arrayClass FieldType.boolean) ∈ lw_tbl := List.mem_append_right _ (List.mem_append_right _ (List.mem_append_right _ (List.mem_append_right _ (List.mem_append_right _ (List.mem_append_right _ (List.mem_append_left _ (List.mem_of_getElem? (i := 49) rfl)))))))
theorem tw_1601 : (Cond.castable "KeptPages" "java/lang/Object") ∈ lw_tbl := List.mem_append_right _ (List.mem_append_right _ (List.mem_append_right _ (List.mem_append_right _ (List.mem_append_right _ (List.mem_append_right _ (List.mem_append_right _ (List.mem_of_getElem? (i := 161) rfl)))))))
theorem tw_1602 : (Cond.castable "java/util/ArrayList" "java/lang/Object") ∈ lw_tbl := List.mem_append_right _ (List.mem_append_right _ (List.mem_append_right _ (List.mem_append_right _ (List.mem_append_right _ (List.mem_append_right _ (List.mem_append_right _ (List.mem_of_getElem? (i := 162) rfl)))))))
theorem tw_1603 : (Cond.castable "KeptPages$Text" "java/lang/Object") ∈ lw_tbl := List.mem_append_right _ (List.mem_append_right _ (List.mem_append_right _ (List.mem_append_right _ (List.mem_append_right _ (List.mem_append_right _ (List.mem_append_right _ (List.mem_of_getElem? (i := 163) rfl)))))))
theorem tw_1604 : (Cond.castable "KeptPages$Whole" "java/lang/Object") ∈ lw_tbl := List.mem_append_right _ (List.mem_append_right _ (List.mem_append_right _ (List.mem_append_right _ (List.mem_append_right _ (List.mem_append_right _ (List.mem_append_right _ (List.mem_of_getElem? (i := 164) rfl)))))))
theorem tw_1605 : (Cond.castable "KeptPages$Planner" "java/lang/Object") ∈ lw_tbl := List.mem_append_right _ (List.mem_append_right _ (List.mem_append_right _ (List.mem_append_right _ (List.mem_append_right _ (List.mem_append_right _ (List.mem_append_right _ (List.mem_of_getElem? (i := 165) rfl)))))))
theorem tw_1606 : (Cond.castable "KeptPages$Houses" "java/lang/Object") ∈ lw_tbl := List.mem_append_right _ (List.mem_append_right _ (List.mem_append_right _ (List.mem_append_right _ (List.mem_append_right _ (List.mem_append_right _ (List.mem_append_right _ (List.mem_of_getElem? (i := 166) rfl)))))))
theorem tw_1607 : (Cond.castable "KeptPages$Rights" "java/lang/Object") ∈ lw_tbl := List.mem_append_right _ (List.mem_append_right _ (List.mem_append_right _ (List.mem_append_right _ (List.mem_append_right _ (List.mem_append_right _ (List.mem_append_right _ (List.mem_of_getElem? (i := 167) rfl)))))))
theorem tw_1608 : (Cond.castable "KeptPages$Program" "java/lang/Object") ∈ lw_tbl := List.mem_append_right _ (List.mem_append_right _ (List.mem_append_right _ (List.mem_append_right _ (List.mem_append_right _ (List.mem_append_right _ (List.mem_append_right _ (List.mem_of_getElem? (i := 168) rfl)))))))
theorem tw_1609 : (Cond.castable "KeptPagesModel" "java/lang/Object") ∈ lw_tbl := List.mem_append_right _ (List.mem_append_right _ (List.mem_append_right _ (List.mem_append_right _ (List.mem_append_right _ (List.mem_append_right _ (List.mem_append_right _ (List.mem_of_getElem? (i := 169) rfl)))))))
theorem tw_1610 : (Cond.castable "KeptPages$Page" "java/lang/Object") ∈ lw_tbl := List.mem_append_right _ (List.mem_append_right _ (List.mem_append_right _ (List.mem_append_right _ (List.mem_append_right _ (List.mem_append_right _ (List.mem_append_right _ (List.mem_of_getElem? (i := 170) rfl)))))))
theorem tw_1611 : (Cond.castable "KeptPages$Look" "java/lang/Object") ∈ lw_tbl := List.mem_append_right _ (List.mem_append_right _ (List.mem_append_right _ (List.mem_append_right _ (List.mem_append_right _ (List.mem_append_right _ (List.mem_append_right _ (List.mem_of_getElem? (i := 171) rfl)))))))
theorem tw_1612 : (Cond.castable "java/lang/String" "java/lang/Object") ∈ lw_tbl := List.mem_append_right _ (List.mem_append_right _ (List.mem_append_right _ (List.mem_append_right _ (List.mem_append_right _ (List.mem_append_right _ (List.mem_append_right _ (List.mem_of_getElem? (i := 172) rfl)))))))
theorem tw_1613 : (Cond.sameMethod "[Ljava/lang/Object;" "java/lang/Object" "getClass" "()Ljava/lang/Class;") ∈ lw_tbl := List.mem_append_right _ (List.mem_append_right _ (List.mem_append_right _ (List.mem_append_right _ (List.mem_append_right _ (List.mem_append_right _ (List.mem_append_right _ (List.mem_of_getElem? (i := 173) rfl)))))))
theorem tw_1614 : (Cond.selects "[Ljava/lang/Object;" ({ cls := "java/lang/Object", name := "getClass", desc := "()Ljava/lang/Class;" } : MethodName) ({ cls := "java/lang/Object", name := "getClass", desc := "()Ljava/lang/Class;" } : MethodName)) ∈ lw_tbl := List.mem_append_right _ (List.mem_append_right _ (List.mem_append_right _ (List.mem_append_right _ (List.mem_append_right _ (List.mem_append_right _ (List.mem_append_right _ (List.mem_of_getElem? (i := 174) rfl)))))))
theorem tw_1615 : (Cond.declares ({ cls := "java/lang/Object", name := "getClass", desc := "()Ljava/lang/Class;" } : MethodName)) ∈ lw_tbl := List.mem_append_right _ (List.mem_append_right _ (List.mem_append_right _ (List.mem_append_right _ (List.mem_append_right _ (List.mem_append_right _ (List.mem_append_right _ (List.mem_of_getElem? (i := 175) rfl)))))))
theorem tw_1616 : (Cond.castable "[I" "java/lang/Object") ∈ lw_tbl := List.mem_append_right _ (List.mem_append_right _ (List.mem_append_right _ (List.mem_append_right _ (List.mem_append_right _ (List.mem_append_right _ (List.mem_append_right _ (List.mem_of_getElem? (i := 176) rfl)))))))
theorem tw_1617 : (Cond.castable "[J" "java/lang/Object") ∈ lw_tbl := List.mem_append_right _ (List.mem_append_right _ (List.mem_append_right _ (List.mem_append_right _ (List.mem_append_right _ (List.mem_append_right _ (List.mem_append_right _ (List.mem_of_getElem? (i := 177) rfl)))))))
theorem tw_1618 : (Cond.castable "[Ljava/lang/Object;" "java/lang/Object") ∈ lw_tbl := List.mem_append_right _ (List.mem_append_right _ (List.mem_append_right _ (List.mem_append_right _ (List.mem_append_right _ (List.mem_append_right _ (List.mem_append_right _ (List.mem_of_getElem? (i := 178) rfl)))))))
theorem tw_1619 : (Cond.castable "[B" "java/lang/Object") ∈ lw_tbl := List.mem_append_right _ (List.mem_append_right _ (List.mem_append_right _ (List.mem_append_right _ (List.mem_append_right _ (List.mem_append_right _ (List.mem_append_right _ (List.mem_of_getElem? (i := 179) rfl)))))))
theorem tw_1620 : (Cond.castable "[Z" "java/lang/Object") ∈ lw_tbl := List.mem_append_right _ (List.mem_append_right _ (List.mem_append_right _ (List.mem_append_right _ (List.mem_append_right _ (List.mem_append_right _ (List.mem_append_right _ (List.mem_of_getElem? (i := 180) rfl)))))))
theorem la_Jx4a65c : ∀ w ∈ u_ws RJx4a65c TJx4a65c 3, w ∈ lw_tbl := List.forall_mem_cons.mpr ⟨tw_56, List.forall_mem_cons.mpr ⟨tw_52, List.forall_mem_cons.mpr ⟨tw_54, fun q h => absurd h List.not_mem_nil⟩⟩⟩
theorem la_X0 : ∀ w ∈ u_ws RX0 TX0 1, w ∈ lw_tbl := List.forall_mem_cons.mpr ⟨tw_177, fun q h => absurd h List.not_mem_nil⟩
theorem la_X1 : ∀ w ∈ u_ws RX1 TX1 7, w ∈ lw_tbl := List.forall_mem_cons.mpr ⟨tw_444, List.forall_mem_cons.mpr ⟨tw_446, List.forall_mem_cons.mpr ⟨tw_448, List.forall_mem_cons.mpr ⟨tw_450, List.forall_mem_cons.mpr ⟨tw_452, List.forall_mem_cons.mpr ⟨tw_454, List.forall_mem_cons.mpr ⟨tw_456, fun q h => absurd h List.not_mem_nil⟩⟩⟩⟩⟩⟩⟩
theorem la_X2 : ∀ w ∈ u_ws RX2 TX2 4, w ∈ lw_tbl := List.forall_mem_cons.mpr ⟨tw_312, List.forall_mem_cons.mpr ⟨tw_314, List.forall_mem_cons.mpr ⟨tw_316, List.forall_mem_cons.mpr ⟨tw_318, fun q h => absurd h List.not_mem_nil⟩⟩⟩⟩
theorem la_X3 : ∀ w ∈ u_ws RX3 TX3 12, w ∈ lw_tbl := List.forall_mem_cons.mpr ⟨tw_145, List.forall_mem_cons.mpr ⟨tw_147, List.forall_mem_cons.mpr ⟨tw_149, List.forall_mem_cons.mpr ⟨tw_151, List.forall_mem_cons.mpr ⟨tw_153, List.forall_mem_cons.mpr ⟨tw_155, List.forall_mem_cons.mpr ⟨tw_157, List.forall_mem_cons.mpr ⟨tw_159, List.forall_mem_cons.mpr ⟨tw_161, List.forall_mem_cons.mpr ⟨tw_163, List.forall_mem_cons.mpr ⟨tw_165, List.forall_mem_cons.mpr ⟨tw_167, fun q h => absurd h List.not_mem_nil⟩⟩⟩⟩⟩⟩⟩⟩⟩⟩⟩⟩
theorem la_X4 : ∀ w ∈ u_ws RX4 TX4 5, w ∈ lw_tbl := List.forall_mem_cons.mpr ⟨tw_226, List.forall_mem_cons.mpr ⟨tw_228, List.forall_mem_cons.mpr ⟨tw_230, List.forall_mem_cons.mpr ⟨tw_232, List.forall_mem_cons.mpr ⟨tw_234, fun q h => absurd h List.not_mem_nil⟩⟩⟩⟩⟩
theorem la_X5 : ∀ w ∈ u_ws RX5 TX5 7, w ∈ lw_tbl := List.forall_mem_cons.mpr ⟨tw_199, List.forall_mem_cons.mpr ⟨tw_201, List.forall_mem_cons.mpr ⟨tw_203, List.forall_mem_cons.mpr ⟨tw_205, List.forall_mem_cons.mpr ⟨tw_207, List.forall_mem_cons.mpr ⟨tw_209, List.forall_mem_cons.mpr ⟨tw_211, fun q h => absurd h List.not_mem_nil⟩⟩⟩⟩⟩⟩⟩
theorem la_X6 : ∀ w ∈ u_ws RX6 TX6 5, w ∈ lw_tbl := List.forall_mem_cons.mpr ⟨tw_73, List.forall_mem_cons.mpr ⟨tw_75, List.forall_mem_cons.mpr ⟨tw_77, List.forall_mem_cons.mpr ⟨tw_79, List.forall_mem_cons.mpr ⟨tw_81, fun q h => absurd h List.not_mem_nil⟩⟩⟩⟩⟩
theorem la_X7 : ∀ w ∈ u_ws RX7 TX7 10, w ∈ lw_tbl := List.forall_mem_cons.mpr ⟨tw_104, List.forall_mem_cons.mpr ⟨tw_106, List.forall_mem_cons.mpr ⟨tw_108, List.forall_mem_cons.mpr ⟨tw_110, List.forall_mem_cons.mpr ⟨tw_112, List.forall_mem_cons.mpr ⟨tw_114, List.forall_mem_cons.mpr ⟨tw_116, List.forall_mem_cons.mpr ⟨tw_118, List.forall_mem_cons.mpr ⟨tw_120, List.forall_mem_cons.mpr ⟨tw_122, fun q h => absurd h List.not_mem_nil⟩⟩⟩⟩⟩⟩⟩⟩⟩⟩
theorem la_X8 : ∀ w ∈ u_ws RX8 TX8 12, w ∈ lw_tbl := List.forall_mem_cons.mpr ⟨tw_249, List.forall_mem_cons.mpr ⟨tw_251, List.forall_mem_cons.mpr ⟨tw_253, List.forall_mem_cons.mpr ⟨tw_255, List.forall_mem_cons.mpr ⟨tw_257, List.forall_mem_cons.mpr ⟨tw_259, List.forall_mem_cons.mpr ⟨tw_261, List.forall_mem_cons.mpr ⟨tw_263, List.forall_mem_cons.mpr ⟨tw_265, List.forall_mem_cons.mpr ⟨tw_267, List.forall_mem_cons.mpr ⟨tw_269, List.forall_mem_cons.mpr ⟨tw_271, fun q h => absurd h List.not_mem_nil⟩⟩⟩⟩⟩⟩⟩⟩⟩⟩⟩⟩
theorem la_X9 : ∀ w ∈ u_ws RX9 TX9 50, w ∈ lw_tbl := List.forall_mem_cons.mpr ⟨tw_1148, List.forall_mem_cons.mpr ⟨tw_1150, List.forall_mem_cons.mpr ⟨tw_1152, List.forall_mem_cons.mpr ⟨tw_1154, List.forall_mem_cons.mpr ⟨tw_1156, List.forall_mem_cons.mpr ⟨tw_1158, List.forall_mem_cons.mpr ⟨tw_1160, List.forall_mem_cons.mpr ⟨tw_1162, List.forall_mem_cons.mpr ⟨tw_1164, List.forall_mem_cons.mpr ⟨tw_1166, List.forall_mem_cons.mpr ⟨tw_1168, List.forall_mem_cons.mpr ⟨tw_1170, List.forall_mem_cons.mpr ⟨tw_1172, List.forall_mem_cons.mpr ⟨tw_1174, List.forall_mem_cons.mpr ⟨tw_1176, List.forall_mem_cons.mpr ⟨tw_1178, List.forall_mem_cons.mpr ⟨tw_1180, List.forall_mem_cons.mpr ⟨tw_1182, List.forall_mem_cons.mpr ⟨tw_1184, List.forall_mem_cons.mpr ⟨tw_1186, List.forall_mem_cons.mpr ⟨tw_1188, List.forall_mem_cons.mpr ⟨tw_1190, List.forall_mem_cons.mpr ⟨tw_1192, List.forall_mem_cons.mpr ⟨tw_1194, List.forall_mem_cons.mpr ⟨tw_1196, List.forall_mem_cons.mpr ⟨tw_1198, List.forall_mem_cons.mpr ⟨tw_1200, List.forall_mem_cons.mpr ⟨tw_1202, List.forall_mem_cons.mpr ⟨tw_1204, List.forall_mem_cons.mpr ⟨tw_1206, List.forall_mem_cons.mpr ⟨tw_1208, List.forall_mem_cons.mpr ⟨tw_1210, List.forall_mem_cons.mpr ⟨tw_1212, List.forall_mem_cons.mpr ⟨tw_1214, List.forall_mem_cons.mpr ⟨tw_1216, List.forall_mem_cons.mpr ⟨tw_1218, List.forall_mem_cons.mpr ⟨tw_1220, List.forall_mem_cons.mpr ⟨tw_1222, List.forall_mem_cons.mpr ⟨tw_1224, List.forall_mem_cons.mpr ⟨tw_1226, List.forall_mem_cons.mpr ⟨tw_1228, List.forall_mem_cons.mpr ⟨tw_1230, List.forall_mem_cons.mpr ⟨tw_1232, List.forall_mem_cons.mpr ⟨tw_1234, List.forall_mem_cons.mpr ⟨tw_1236, List.forall_mem_cons.mpr ⟨tw_1238, List.forall_mem_cons.mpr ⟨tw_1240, List.forall_mem_cons.mpr ⟨tw_1242, List.forall_mem_cons.mpr ⟨tw_1244, List.forall_mem_cons.mpr ⟨tw_1246, fun q h => absurd h List.not_mem_nil⟩⟩⟩⟩⟩⟩⟩⟩⟩⟩⟩⟩⟩⟩⟩⟩⟩⟩⟩⟩⟩⟩⟩⟩⟩⟩⟩⟩⟩⟩⟩⟩⟩⟩⟩⟩⟩⟩⟩⟩⟩⟩⟩⟩⟩⟩⟩⟩⟩⟩
theorem castLook : (Cond.castable "KeptPages$Look" "java/lang/Object") ∈ lw_tbl := tw_1611
theorem castPage : (Cond.castable "KeptPages$Page" "java/lang/Object") ∈ lw_tbl := tw_1610
theorem objInst : (Cond.instanceMethod ({ cls := "java/lang/Object", name := "<init>", desc := "()V" } : MethodName)) ∈ lw_tbl := tw_31
theorem objCode : (Cond.code ({ cls := "java/lang/Object", name := "<init>", desc := "()V" } : MethodName) object_method_1_code (1 : Nat) (Option.none : Option FieldType)) ∈ lw_tbl := tw_32
theorem sysInit : (Cond.initialized "java/lang/System") ∈ lw_tbl := tw_16
theorem acStatic : (Cond.static ({ cls := "java/lang/System", name := "arraycopy", desc := "(Ljava/lang/Object;ILjava/lang/Object;II)V" } : MethodName)) ∈ lw_tbl := tw_380
theorem acNative : (Cond.native ({ cls := "java/lang/System", name := "arraycopy", desc := "(Ljava/lang/Object;ILjava/lang/Object;II)V" } : MethodName)) ∈ lw_tbl := tw_381
theorem mathInit : (Cond.initialized "java/lang/Math") ∈ lw_tbl := tw_14
theorem maxStatic : (Cond.static ({ cls := "java/lang/Math", name := "max", desc := "(II)I" } : MethodName)) ∈ lw_tbl := tw_346
theorem maxCode : (Cond.code ({ cls := "java/lang/Math", name := "max", desc := "(II)I" } : MethodName) prog_17_method_65_code (2 : Nat) (Option.some FieldType.int)) ∈ lw_tbl := tw_347
theorem minStatic : (Cond.static ({ cls := "java/lang/Math", name := "min", desc := "(II)I" } : MethodName)) ∈ lw_tbl := tw_377
theorem minCode : (Cond.code ({ cls := "java/lang/Math", name := "min", desc := "(II)I" } : MethodName) prog_17_method_69_code (2 : Nat) (Option.some FieldType.int)) ∈ lw_tbl := tw_378
theorem gcInst : (Cond.instanceMethod ({ cls := "java/lang/Object", name := "getClass", desc := "()Ljava/lang/Class;" } : MethodName)) ∈ lw_tbl := tw_356
theorem gcNative : (Cond.native ({ cls := "java/lang/Object", name := "getClass", desc := "()Ljava/lang/Class;" } : MethodName)) ∈ lw_tbl := tw_369
theorem gcDecl : (Cond.declares ({ cls := "java/lang/Object", name := "getClass", desc := "()Ljava/lang/Class;" } : MethodName)) ∈ lw_tbl := tw_1615
theorem gcSel : (Cond.selects "[Ljava/lang/Object;" ({ cls := "java/lang/Object", name := "getClass", desc := "()Ljava/lang/Class;" } : MethodName) ({ cls := "java/lang/Object", name := "getClass", desc := "()Ljava/lang/Class;" } : MethodName)) ∈ lw_tbl := tw_1614
theorem arrInt : (Cond.arrayClass FieldType.int) ∈ lw_tbl := tw_84
theorem arrLong : (Cond.arrayClass FieldType.long) ∈ lw_tbl := tw_180
theorem arrBool : (Cond.arrayClass FieldType.boolean) ∈ lw_tbl := tw_1249
theorem clAL7 : (Cond.classLink "java/util/ArrayList" (7 : Nat) "java/lang/Object") ∈ lw_tbl := tw_383
theorem clAr2 : (Cond.classLink "java/util/Arrays" (2 : Nat) "java/lang/Object") ∈ lw_tbl := tw_375
theorem clAr110 : (Cond.classLink "java/util/Arrays" (110 : Nat) "[Ljava/lang/Object;") ∈ lw_tbl := tw_373
end
section
/-! ===== the small machine's steps are the machine's ===== -/
theorem oI_inv {st : List AV} {K : Int32 → List AV → Prop} (h : oI st K) : ∃ x r, st = .inl x :: r ∧ K x r := by
  unfold oI at h
  split at h
  · exact ⟨_, _, rfl, h⟩
  · exact h.elim
theorem oL_inv {st : List AV} {K : Int64 → List AV → Prop} (h : oL st K) : ∃ x r, st = .inr (.inl x) :: r ∧ K x r := by
  unfold oL at h
  split at h
  · exact ⟨_, _, rfl, h⟩
  · exact h.elim
theorem oR_inv {st : List AV} {K : Nat → List AV → Prop} (h : oR st K) : ∃ x r, st = .inr (.inr x) :: r ∧ K x r := by
  unfold oR at h
  split at h
  · exact ⟨_, _, rfl, h⟩
  · exact h.elim
theorem oII_inv {st : List AV} {K : Int32 → Int32 → List AV → Prop} (h : oII st K) : ∃ x y r, st = .inl y :: .inl x :: r ∧ K x y r := by
  obtain ⟨y, r1, rfl, h1⟩ := oI_inv h
  obtain ⟨x, r, rfl, h2⟩ := oI_inv h1
  exact ⟨x, y, r, rfl, h2⟩
theorem oLL_inv {st : List AV} {K : Int64 → Int64 → List AV → Prop} (h : oLL st K) : ∃ x y r, st = .inr (.inl y) :: .inr (.inl x) :: r ∧ K x y r := by
  obtain ⟨y, r1, rfl, h1⟩ := oL_inv h
  obtain ⟨x, r, rfl, h2⟩ := oL_inv h1
  exact ⟨x, y, r, rfl, h2⟩
theorem oLI_inv {st : List AV} {K : Int64 → Int32 → List AV → Prop} (h : oLI st K) : ∃ x y r, st = .inl y :: .inr (.inl x) :: r ∧ K x y r := by
  obtain ⟨y, r1, rfl, h1⟩ := oI_inv h
  obtain ⟨x, r, rfl, h2⟩ := oL_inv h1
  exact ⟨x, y, r, rfl, h2⟩
theorem oRR_inv {st : List AV} {K : Nat → Nat → List AV → Prop} (h : oRR st K) : ∃ x y r, st = .inr (.inr y) :: .inr (.inr x) :: r ∧ K x y r := by
  obtain ⟨y, r1, rfl, h1⟩ := oR_inv h
  obtain ⟨x, r, rfl, h2⟩ := oR_inv h1
  exact ⟨x, y, r, rfl, h2⟩
theorem oRI_inv {st : List AV} {K : Nat → Int32 → List AV → Prop} (h : oRI st K) : ∃ a j r, st = .inl j :: .inr (.inr a) :: r ∧ K a j r := by
  obtain ⟨y, r1, rfl, h1⟩ := oI_inv h
  obtain ⟨x, r, rfl, h2⟩ := oR_inv h1
  exact ⟨x, y, r, rfl, h2⟩
theorem ldI_inv {l : List (Option AV)} {k : Nat} {K : AV → Prop} (h : ldI l k K) : ∃ x, l[k]? = some (some (.inl x)) ∧ K (.inl x) := by
  unfold ldI at h
  split at h
  · rename_i x e
    exact ⟨x, e, h⟩
  · exact h.elim
theorem ldL_inv {l : List (Option AV)} {k : Nat} {K : AV → Prop} (h : ldL l k K) : ∃ x, l[k]? = some (some (.inr (.inl x))) ∧ K (.inr (.inl x)) := by
  unfold ldL at h
  split at h
  · rename_i x e
    exact ⟨x, e, h⟩
  · exact h.elim
theorem ldR_inv {l : List (Option AV)} {k : Nat} {K : AV → Prop} (h : ldR l k K) : ∃ x, l[k]? = some (some (.inr (.inr x))) ∧ K (.inr (.inr x)) := by
  unfold ldR at h
  split at h
  · rename_i x e
    exact ⟨x, e, h⟩
  · exact h.elim
theorem setK_inv {α : Type} : ∀ {l : List α} {k : Nat} {v : α} {K : List α → Prop}, setK l k v K → k < l.length ∧ K (l.set k v)
  | [], _, _, _, h => h.elim
  | _ :: r, 0, v, K, h => ⟨Nat.succ_pos _, h⟩
  | a :: r, k + 1, v, K, h => by
    have h2 := setK_inv (l := r) (k := k) (v := v) (K := fun r' => K (a :: r')) h
    exact ⟨Nat.succ_lt_succ h2.1, h2.2⟩
theorem popK_inv : ∀ {n : Nat} {st as : List AV} {K : List AV → List AV → Prop}, popK n st as K → ∃ as' r, as'.length = n ∧ st = as'.reverse ++ r ∧ K (as' ++ as) r
  | 0, st, as, K, h => ⟨[], st, rfl, rfl, h⟩
  | n + 1, [], _, _, h => h.elim
  | n + 1, v :: r, as, K, h => by
    obtain ⟨as', r', h1, h2, h3⟩ := popK_inv (n := n) (st := r) (as := v :: as) (K := K) h
    refine ⟨as' ++ [v], r', by simp [h1], by simp [h2], by simpa using h3⟩
theorem rv_cat (w : WD) (v : AV) : (rv w v).category = cw v := by
  rcases v with x | x | n
  · rfl
  · rfl
  · show (rvr w n).category = 1
    unfold rvr rvo
    split <;> rfl
theorem rv_cats (w : WD) : ∀ st : List AV, ((st.map (rv w)).map fun v => v.category).sum = cws st
  | [] => rfl
  | v :: r => by
    rw [List.map_cons, List.map_cons, List.sum_cons, rv_cat, rv_cats w r]
    rfl
theorem rvr_pos (w : WD) {n : Nat} (h : n ≠ 0) : rvr w n = .ref (rho w n) := by unfold rvr rvo; rw [if_neg h]; rfl
theorem rvr_zero (w : WD) : rvr w 0 = .null := rfl
section Sound
variable {l : Launch} {w : WD} {lm : Bool} {X : MD} {d : Nat} {Q : Option AV → AH → Prop} {pc : Nat}
theorem Ex.pure {pc' : Nat} {ll : List (Option AV)} {st st' : List AV} {h : AH} {bc bs : Nat}
    (row : ∀ (p : Program) (e : Env) (R : Room) (s : State) (m : MethodId) (args : Array Value) (below : List Frame) (meth : Method) (c : Code) (H : Heap) (locs : List Loc) (cells slots : Nat) (Z : State → Prop) (ls : Array Slot), Cx w X p s m args meth c → LOK w ls ll → R.frames = d → R.locals = 64 * d → cells ≤ R.cells → slots ≤ R.slots → Sim w lm h H → va_S (wO w) s.heap H locs → ll.length = X.1.2.2.1 →
      W p l e R s m args below meth c H locs cells slots Z (F0 m pc' ls (st'.map (rv w))) → W p l e R s m args below meth c H locs cells slots Z (F0 m pc ls (st.map (rv w))))
    (k : Ex l w lm X d Q pc' ll st' h bc bs) : Ex l w lm X d Q pc ll st h bc bs := by
  intro p e R s m args below meth c H locs cells slots ls hC hf hl hc hs hS hL hn hva
  exact row p e R s m args below meth c H locs cells slots _ ls hC hL hf hl (by omega) (by omega) hS hva hn (k p e R s m args below meth c H locs cells slots ls hC hf hl hc hs hS hL hn hva)
theorem so_push {i : Instr} {n : Nat} {v : AV} {ll : List (Option AV)} {st : List AV} {h : AH} {bc bs : Nat}
    (row : ∀ (p : Program) (e : Env) (R : Room) (s : State) (m : MethodId) (args : Array Value) (below : List Frame) (meth : Method) (c : Code) (H : Heap) (locs : List Loc) (cells slots : Nat) (Z : State → Prop) (ls : Array Slot), Cx w X p s m args meth c → LOK w ls ll →
      W p l e R s m args below meth c H locs cells slots Z (F0 m (pc + n) ls (rv w v :: st.map (rv w))) → W p l e R s m args below meth c H locs cells slots Z (F0 m pc ls (st.map (rv w))))
    (k : Ex l w lm X d Q (pc + n) ll (v :: st) h bc bs) : Ex l w lm X d Q pc ll st h bc bs :=
  Ex.pure (fun p e R s m args below meth c H locs cells slots Z ls hC hL _ _ _ _ _ _ _ k => row p e R s m args below meth c H locs cells slots Z ls hC hL k) k
/-- a store of one word -/
theorem LOK.store1 {ls : Array Slot} {ll l2 : List (Option AV)} {k : Nat} {v : AV} (hL : LOK w ls ll) (hv : cw v = 1) (hs : st1 ll k v (fun l => l = l2)) : ∃ ls', storeLocals ls k (rv w v) = some ls' ∧ LOK w ls' l2 ∧ l2.length = ll.length := by
  obtain ⟨h1, h2, h3⟩ := hL
  have hcat : (rv w v).category = 1 := by rw [rv_cat]; exact hv
  have key : ∃ l1 : List (Option AV), l1.length = ll.length ∧ l2 = l1.set k (some v) ∧ k < ll.length ∧ (∀ (j : Nat) (u : AV), l1[j]? = some (some u) → ll[j]? = some (some u)) ∧ (∀ (j : Nat) (u : AV), j + 1 = k → l1[j]? = some (some u) → cw u = 1) := by
    unfold st1 cutK at hs
    split at hs
    · obtain ⟨a, b⟩ := setK_inv hs
      exact ⟨ll, rfl, b.symm, a, fun j u hu => hu, fun j u hj => by omega⟩
    · rename_i j
      split at hs
      · rename_i x e
        obtain ⟨a, b⟩ := setK_inv hs
        obtain ⟨a2, b2⟩ := setK_inv b
        refine ⟨ll.set j none, by simp, b2.symm, by simpa using a2, fun i u hu => ?_, fun i u hi hu => ?_⟩
        · rw [List.getElem?_set] at hu
          split at hu
          · first
            | exact absurd hu (by simp)
            | (split at hu <;> exact absurd hu (by simp))
          · exact hu
        · have : i = j := by omega
          subst this
          rw [List.getElem?_set] at hu
          simp [a] at hu
      · rename_i hne
        obtain ⟨a, b⟩ := setK_inv hs
        refine ⟨ll, rfl, b.symm, a, fun i u hu => hu, fun i u hi hu => ?_⟩
        have : i = j := by omega
        subst this
        rcases u with x | x | x
        · rfl
        · exact absurd hu (hne x)
        · rfl
  obtain ⟨l1, e1, rfl, hk, hsub, hone⟩ := key
  have hnL : k < ls.size := by rw [h1]; exact hk
  obtain ⟨ls', e', h'⟩ := lv_store1 (ls := ls) (nL := ls.size) (l := []) (i := k) (v := rv w v) ⟨rfl, h2, fun q hq => absurd hq List.not_mem_nil⟩ hnL hcat
  refine ⟨ls', e', ⟨by rw [h'.1, h1]; simp [e1], h'.2.1, fun i u hu => ?_⟩, by simp [e1]⟩
  rw [List.getElem?_set] at hu
  split at hu
  · rename_i hik
    subst hik
    have e5 : v = u := by
      have h9 : k < l1.length := by rw [e1]; exact hk
      simpa [h9] using hu
    subst e5
    exact h'.2.2 (k, rv w v) List.mem_cons_self
  · rename_i hik
    have h0 := hsub i u hu
    obtain ⟨ls'', e'', h''⟩ := lv_store1 (ls := ls) (nL := ls.size) (l := [(i, rv w u)]) (i := k) (v := rv w v) ⟨rfl, h2, fun q hq => by rw [List.mem_singleton] at hq; subst hq; exact h3 i u h0⟩ hnL hcat
    have e3 : ls'' = ls' := Option.some.inj (e''.symm.trans e')
    subst e3
    refine h''.2.2 (i, rv w u) (List.mem_cons_of_mem _ ?_)
    rw [List.mem_filter]
    refine ⟨List.mem_singleton.mpr rfl, ?_⟩
    have a1 : (i == k) = false := by simpa using fun h => hik h.symm
    simp only [a1, Bool.not_false, Bool.true_and]
    by_cases hj : i + 1 = k
    · have := hone i u hj hu
      simp [rv_cat, this]
    · simp [hj]
theorem LOK.store2 {ls : Array Slot} {ll l2 : List (Option AV)} {k : Nat} {v : AV} (hL : LOK w ls ll) (hv : cw v = 2) (hs : st2 ll k v (fun l => l = l2)) : ∃ ls', storeLocals ls k (rv w v) = some ls' ∧ LOK w ls' l2 ∧ l2.length = ll.length := by
  obtain ⟨h1, h2, h3⟩ := hL
  have hcat : (rv w v).category = 2 := by rw [rv_cat]; exact hv
  have key : ∃ l1 : List (Option AV), l1.length = ll.length ∧ l2 = (l1.set k (some v)).set (k + 1) none ∧ k + 1 < ll.length ∧ (∀ (j : Nat) (u : AV), l1[j]? = some (some u) → ll[j]? = some (some u)) ∧ (∀ (j : Nat) (u : AV), j + 1 = k → l1[j]? = some (some u) → cw u = 1) := by
    unfold st2 cutK at hs
    split at hs
    · obtain ⟨a, b⟩ := setK_inv hs
      obtain ⟨a2, b2⟩ := setK_inv b
      exact ⟨ll, rfl, b2.symm, by simpa using a2, fun j u hu => hu, fun j u hj => by omega⟩
    · rename_i j
      split at hs
      · rename_i x e
        obtain ⟨a, b⟩ := setK_inv hs
        obtain ⟨a2, b2⟩ := setK_inv b
        obtain ⟨a3, b3⟩ := setK_inv b2
        refine ⟨ll.set j none, by simp, b3.symm, by simpa using a3, fun i u hu => ?_, fun i u hi hu => ?_⟩
        · rw [List.getElem?_set] at hu
          split at hu
          · first
            | exact absurd hu (by simp)
            | (split at hu <;> exact absurd hu (by simp))
          · exact hu
        · have : i = j := by omega
          subst this
          rw [List.getElem?_set] at hu
          simp [a] at hu
      · rename_i hne
        obtain ⟨a, b⟩ := setK_inv hs
        obtain ⟨a2, b2⟩ := setK_inv b
        refine ⟨ll, rfl, b2.symm, by simpa using a2, fun i u hu => hu, fun i u hi hu => ?_⟩
        have : i = j := by omega
        subst this
        rcases u with x | x | x
        · rfl
        · exact absurd hu (hne x)
        · rfl
  obtain ⟨l1, e1, rfl, hk, hsub, hone⟩ := key
  have hnL : k + 1 < ls.size := by rw [h1]; exact hk
  obtain ⟨ls', e', h'⟩ := lv_store2 (ls := ls) (nL := ls.size) (l := []) (i := k) (v := rv w v) ⟨rfl, h2, fun q hq => absurd hq List.not_mem_nil⟩ hnL hcat
  refine ⟨ls', e', ⟨by rw [h'.1, h1]; simp [e1], h'.2.1, fun i u hu => ?_⟩, by simp [e1]⟩
  rw [List.getElem?_set] at hu
  split at hu
  · first
    | exact absurd hu (by simp)
    | (split at hu <;> exact absurd hu (by simp))
  · rename_i hik2
    rw [List.getElem?_set] at hu
    split at hu
    · rename_i hik
      subst hik
      have e5 : v = u := by
        have h9 : k < l1.length := by rw [e1]; omega
        simpa [h9] using hu
      subst e5
      exact h'.2.2 (k, rv w v) List.mem_cons_self
    · rename_i hik
      have h0 := hsub i u hu
      obtain ⟨ls'', e'', h''⟩ := lv_store2 (ls := ls) (nL := ls.size) (l := [(i, rv w u)]) (i := k) (v := rv w v) ⟨rfl, h2, fun q hq => by rw [List.mem_singleton] at hq; subst hq; exact h3 i u h0⟩ hnL hcat
      have e3 : ls'' = ls' := Option.some.inj (e''.symm.trans e')
      subst e3
      refine h''.2.2 (i, rv w u) (List.mem_cons_of_mem _ ?_)
      rw [List.mem_filter]
      refine ⟨List.mem_singleton.mpr rfl, ?_⟩
      have a1 : (i == k) = false := by simpa using fun h => hik h.symm
      have a2 : (i == k + 1) = false := by simpa using fun h => hik2 h.symm
      simp only [a1, a2, Bool.not_false, Bool.true_and]
      by_cases hj : i + 1 = k
      · have := hone i u hj hu
        simp [rv_cat, this]
      · simp [hj]
end Sound
end
section
/-! ===== what the small heap tells, and how it changes ===== -/
theorem vw_lt {ci : Nat} {r : vw_C} (h : vwCl[ci]? = some r) : ci < 11 := by
  have := (List.getElem?_eq_some_iff.mp h).1
  exact this
theorem la_all {ci : Nat} {r : vw_C} (h : vwCl[ci]? = some r) : ∀ q ∈ u_ws r.1 r.2.1 r.2.2, q ∈ lw_tbl := by
  have hl := vw_lt h
  match ci, hl, h with
  | 0, _, h => cases h; exact la_Jx4a65c
  | 1, _, h => cases h; exact la_X0
  | 2, _, h => cases h; exact la_X1
  | 3, _, h => cases h; exact la_X2
  | 4, _, h => cases h; exact la_X3
  | 5, _, h => cases h; exact la_X4
  | 6, _, h => cases h; exact la_X5
  | 7, _, h => cases h; exact la_X6
  | 8, _, h => cases h; exact la_X7
  | 9, _, h => cases h; exact la_X8
  | 10, _, h => cases h; exact la_X9
theorem ty_all {ci : Nat} {r : vw_C} (h : vwCl[ci]? = some r) : ∀ k, k < r.2.2 → parseFieldDescriptor (r.2.1 k).2.2.1 = some (fT ci k) := by
  have hl := vw_lt h
  match ci, hl, h with
  | 0, _, h => cases h; exact tyJx4a65c_ok
  | 1, _, h => cases h; exact tyX0_ok
  | 2, _, h => cases h; exact tyX1_ok
  | 3, _, h => cases h; exact tyX2_ok
  | 4, _, h => cases h; exact tyX3_ok
  | 5, _, h => cases h; exact tyX4_ok
  | 6, _, h => cases h; exact tyX5_ok
  | 7, _, h => cases h; exact tyX6_ok
  | 8, _, h => cases h; exact tyX7_ok
  | 9, _, h => cases h; exact tyX8_ok
  | 10, _, h => cases h; exact tyX9_ok
theorem nm_all {ci : Nat} {r : vw_C} (h : vwCl[ci]? = some r) : ∀ a, a < r.2.2 → ∀ b, b < r.2.2 → a ≠ b → (r.2.1 a).2.1 ≠ (r.2.1 b).2.1 := by
  have hl := vw_lt h
  match ci, hl, h with
  | 0, _, h => cases h; exact nmJx4a65c
  | 1, _, h => cases h; exact nmX0
  | 2, _, h => cases h; exact nmX1
  | 3, _, h => cases h; exact nmX2
  | 4, _, h => cases h; exact nmX3
  | 5, _, h => cases h; exact nmX4
  | 6, _, h => cases h; exact nmX5
  | 7, _, h => cases h; exact nmX6
  | 8, _, h => cases h; exact nmX7
  | 9, _, h => cases h; exact nmX8
  | 10, _, h => cases h; exact nmX9
theorem kd_all : ∀ ci, ci < 11 → ∀ k, k < 50 → fK (fT ci k) = 0 ∨ fK (fT ci k) = 1 ∨ fK (fT ci k) = 2 ∨ fK (fT ci k) = 3 := by decide +kernel
theorem n_all {ci : Nat} {r : vw_C} (h : vwCl[ci]? = some r) : r.2.2 ≤ 50 := by
  have hl := vw_lt h
  match ci, hl, h with
  | 0, _, h => cases h; decide
  | 1, _, h => cases h; decide
  | 2, _, h => cases h; decide
  | 3, _, h => cases h; decide
  | 4, _, h => cases h; decide
  | 5, _, h => cases h; decide
  | 6, _, h => cases h; decide
  | 7, _, h => cases h; decide
  | 8, _, h => cases h; decide
  | 9, _, h => cases h; decide
  | 10, _, h => cases h; decide
theorem rho_own (w : WD) {n : Nat} (h : 32 ≤ n) : rho w n = wB w + (n - 32) := by unfold rho; rw [if_neg (by omega)]
theorem rho_ext (w : WD) {n : Nat} (h : n < 32) : rho w n = wX w n := by unfold rho; rw [if_pos h]
theorem rho_ne (w : WD) {n a : Nat} (hn : 32 ≤ n) (ha : 32 ≤ a) (h : n ≠ a) : rho w n ≠ rho w a := by rw [rho_own w hn, rho_own w ha]; omega
theorem t_OB.keep {o : Nat} {cC : ClassId} {N : Nat} {iS : Nat → Nat} {H H' : Heap} {V V' : Nat → Value} (h : t_OB o cC N iS H V) (hq : H'[o]? = H[o]?) (hv : ∀ k, k < N → V' k = V k) : t_OB o cC N iS H' V' := by
  obtain ⟨cell, a, b, c, e⟩ := h
  exact ⟨cell, hq.trans a, b, c, fun k hk => by rw [hv k hk]; exact e k hk⟩
theorem lk_mem {α : Type} : ∀ {L : List (Nat × α)} {k : Nat} {a : α}, lk L k = some a → (k, a) ∈ L
  | [], _, _, h => by cases h
  | (i, b) :: r, k, a, h => by
    unfold lk at h
    split at h
    · rename_i e
      cases h
      rw [Nat.eq_of_beq_eq_true e]
      exact List.mem_cons_self
    · exact List.mem_cons_of_mem _ (lk_mem h)
theorem lay_small : (∀ q ∈ layC, q.1 < 88) ∧ (∀ q ∈ layR, q.2.1 < 88) ∧ (∀ q ∈ layI, q.1 < 88) ∧ (∀ q ∈ layJ, q.1 < 88) := by decide
theorem lay_sI {h : AH} {f a : Nat} {v : Int32} (hy : Lay h) : Lay (sI h f a v) := hy
theorem lay_sL {h : AH} {f a : Nat} {v : Int64} (hy : Lay h) : Lay (sL h f a v) := hy
theorem lay_tR {h : AH} {a : Nat} {v : List Nat} (hy : Lay h) : Lay (tR h a v) := hy
theorem lay_sR {h : AH} {f a : Nat} {v : Nat} (hf : noFin true f = true) (hy : Lay h) : Lay (sR h f a v) := by
  refine ⟨hy.1, hy.2.1, fun q hq => ?_, hy.2.2.2⟩
  have h1 := List.all_eq_true.mp hf q hq
  have h2 : q.1 ≠ f := fun e => by rw [e] at h1; simp at h1
  show up2 (hR h) f a v q.1 q.2.1 = q.2.2
  unfold up2
  rw [if_neg (fun z => h2 z.1)]
  exact hy.2.2.1 q hq
theorem lay_tI {h : AH} {a : Nat} {v : List Int32} (hl : v.length = (aI h a).length) (hy : Lay h) : Lay (tI h a v) := by
  refine ⟨hy.1, hy.2.1, hy.2.2.1, fun q hq => ?_, hy.2.2.2.2⟩
  show (up1 (aI h) a v q.1).length = q.2
  unfold up1
  split
  · rename_i e
    rw [hl, ← e]
    exact hy.2.2.2.1 q hq
  · exact hy.2.2.2.1 q hq
theorem lay_tL {h : AH} {a : Nat} {v : List Int64} (hl : v.length = (aL h a).length) (hy : Lay h) : Lay (tL h a v) := by
  refine ⟨hy.1, hy.2.1, hy.2.2.1, hy.2.2.2.1, fun q hq => ?_⟩
  show (up1 (aL h) a v q.1).length = q.2
  unfold up1
  split
  · rename_i e
    rw [hl, ← e]
    exact hy.2.2.2.2 q hq
  · exact hy.2.2.2.2 q hq
/-- what holds of the fixed cells holds behind a new one -/
theorem Lay.grow {h h' : AH} (hy : Lay h) (hz : hZ h ≤ hZ h') (hc : ∀ n, n < 88 → hC h' n = hC h n) (hr : ∀ f n, n < 88 → hR h' f n = hR h f n) (hi : ∀ n, n < 88 → aI h' n = aI h n) (hl : ∀ n, n < 88 → aL h' n = aL h n) : Lay h' := by
  refine ⟨Nat.le_trans hy.1 hz, fun q hq => ?_, fun q hq => ?_, fun q hq => ?_, fun q hq => ?_⟩
  · rw [hc _ (lay_small.1 q hq)]; exact hy.2.1 q hq
  · rw [hr _ _ (lay_small.2.1 q hq)]; exact hy.2.2.1 q hq
  · rw [hi _ (lay_small.2.2.1 q hq)]; exact hy.2.2.2.1 q hq
  · rw [hl _ (lay_small.2.2.2 q hq)]; exact hy.2.2.2.2 q hq
theorem sing_in : ∀ ci, ci < 11 → sing ci ≠ 0 → (sing ci, ci + 1) ∈ layC := by decide
theorem fin_in : ∀ q ∈ finR, (q.1, sing (q.1 / 64), q.2) ∈ layR := by decide
theorem ifB_inv {b : Bool} {A : Prop} (h : ifB b A) : b = true ∧ A := by
  cases b
  · exact h.elim
  · exact ⟨rfl, h⟩
theorem nz_inv {d : Nat} {A : Prop} (h : nz d A) : d ≠ 0 ∧ A := by
  cases d
  · exact h.elim
  · exact ⟨by omega, h⟩
theorem isC_inv {lm : Bool} {ci a : Nat} {h : AH} {A : Prop} (hy : lm = true → Lay h) (hci : ci < 11 ∨ ci = 11) (hh : isC lm ci a h A) : hC h a = ci + 1 ∧ A := by
  unfold isC at hh
  split at hh
  · exact hh
  · split at hh
    · exact hh
    · rename_i s e
      obtain ⟨h1, h2⟩ := ifB_inv hh
      have h3 := Nat.eq_of_beq_eq_true h1
      refine ⟨?_, h2⟩
      rcases hci with hci | hci
      · have h4 := (hy rfl).2.1 _ (sing_in ci hci (by rw [e]; omega))
        dsimp only at h4
        rw [e] at h4
        rw [h3]
        exact h4
      · subst hci
        cases e
theorem rF_inv {lm : Bool} {ci key a k : Nat} {h : AH} {N : Nat → Prop} (hy : lm = true → Lay h) (hkey : key = 64 * ci + k) (hk : k < 64) (ha : lm = true → sing ci ≠ 0 → a = sing ci) (hh : rF lm ci key a h N) : N (hR h key a) := by
  unfold rF at hh
  split at hh
  · exact hh
  · split at hh
    · exact hh
    · rename_i s e
      split at hh
      · rename_i v e2
        have h3 := (hy rfl).2.2.1 _ (fin_in _ (lk_mem e2))
        dsimp only at h3
        have h5 : key / 64 = ci := by omega
        rw [h5] at h3
        rw [ha rfl (by rw [e]; omega), h3]
        exact hh
      · exact hh
theorem isC_A {lm : Bool} {ci a : Nat} {h : AH} {A : Prop} (hh : isC lm ci a h A) : A := by
  unfold isC at hh
  split at hh
  · exact hh.2
  · split at hh
    · exact hh.2
    · exact (ifB_inv hh).2
theorem isC_sing {lm : Bool} {ci a : Nat} {h : AH} {A : Prop} (hh : isC lm ci a h A) : lm = true → sing ci ≠ 0 → a = sing ci := by
  intro h1 h2
  subst h1
  unfold isC at hh
  dsimp only at hh
  split at hh
  · rename_i e; exact absurd e h2
  · rename_i s e
    rw [e]
    exact Nat.eq_of_beq_eq_true (ifB_inv hh).1
section Heap
variable {w : WD} {lm : Bool} {h h' : AH} {H H' : Heap} {a n ci : Nat} {r : vw_C}
/-- two heaps tell the same of a place -/
def same1 (h h' : AH) (n : Nat) : Prop := (∀ f, hI h' f n = hI h f n) ∧ (∀ f, hL h' f n = hL h f n) ∧ (∀ f, hR h' f n = hR h f n) ∧ aI h' n = aI h n ∧ aL h' n = aL h n ∧ aR h' n = aR h n
theorem fV_same {kd key : Nat} (hs : same1 h h' n) : fV w h' kd key n = fV w h kd key n := by
  unfold fV
  split
  · rw [hs.2.1]
  · rw [hs.2.2.1]
  · rw [hs.1]
theorem cOK.keep (hc : cOK w h n H) (hs : same1 h h' n) (ht : hC h' n = hC h n) (hq : H'[rho w n]? = H[rho w n]?) : cOK w h' n H' := by
  rcases hc with ⟨ci, r, h1, h2, h3⟩ | ⟨h1, h2⟩ | ⟨h1, h2⟩ | ⟨h1, h2⟩ | ⟨h1, h2⟩
  · exact Or.inl ⟨ci, r, ht.trans h1, h2, h3.keep hq (fun k _ => fV_same hs)⟩
  · exact Or.inr (Or.inl ⟨ht.trans h1, by rw [hq, hs.2.2.2.1]; exact h2⟩)
  · exact Or.inr (Or.inr (Or.inl ⟨ht.trans h1, by rw [hq, hs.2.2.2.2.1]; exact h2⟩))
  · exact Or.inr (Or.inr (Or.inr (Or.inl ⟨ht.trans h1, by rw [hq, hs.2.2.2.1]; exact h2⟩)))
  · exact Or.inr (Or.inr (Or.inr (Or.inr ⟨ht.trans h1, by rw [hq, hs.2.2.2.2.2]; exact h2⟩)))
theorem xOK.keep (hx : xOK w h n) (hs : same1 h h' n) (ht : hC h' n = hC h n) : xOK w h' n := by
  unfold xOK at *
  rw [ht, hs.1, hs.2.2.1, hs.2.2.2.1, hs.2.2.2.2.2]
  exact hx
theorem Sim.upd (hS : Sim w lm h H) (hy : lm = true → Lay h → Lay h') (ha : 32 ≤ a) (hz : hZ h' = hZ h) (hc : ∀ n, hC h' n = hC h n) (hsz : H'.size = H.size) (hoth : ∀ q, q ≠ rho w a → H'[q]? = H[q]?) (hsame : ∀ n, n ≠ a → same1 h h' n) (hcell : cOK w h' a H') : Sim w lm h' H' := by
  obtain ⟨h1, h2, h3, h4⟩ := hS
  refine ⟨by rw [hsz, hz]; exact h1, by rw [hz]; exact h2, fun n hn => ?_, fun z => hy z (h4 z)⟩
  rw [hc] at hn
  by_cases hna : n = a
  · subst hna
    rcases h3 n hn with ⟨b1, b2, -⟩ | ⟨b1, -⟩
    · exact Or.inl ⟨b1, by rw [hz]; exact b2, hcell⟩
    · omega
  · rcases h3 n hn with ⟨b1, b2, b3⟩ | ⟨b1, b2⟩
    · exact Or.inl ⟨b1, by rw [hz]; exact b2, b3.keep (hsame n hna) (hc n) (hoth _ (rho_ne w b1 ha hna))⟩
    · exact Or.inr ⟨b1, b2.keep (hsame n hna) (hc n)⟩
/-- a new cell at the end -/
theorem Sim.push {t : Nat} {c : Cell} (hS : Sim w lm h H) (hy : lm = true → Lay h → Lay h') (hz : hZ h' = hZ h + 1) (ht : t ≠ 0) (hc : ∀ n, hC h' n = if n = hZ h then t else hC h n) (hH : H' = H.push c) (hsame : ∀ n, n ≠ hZ h → same1 h h' n) (hcell : cOK w h' (hZ h) H') : Sim w lm h' H' := by
  obtain ⟨h1, h2, h3, h4⟩ := hS
  subst hH
  refine ⟨by rw [Array.size_push, hz]; omega, by omega, fun n hn => ?_, fun z => hy z (h4 z)⟩
  rw [hc] at hn
  by_cases hna : n = hZ h
  · subst hna
    exact Or.inl ⟨h2, by omega, hcell⟩
  · rw [if_neg hna] at hn
    have hcn : hC h' n = hC h n := by rw [hc, if_neg hna]
    rcases h3 n hn with ⟨b1, b2, b3⟩ | ⟨b1, b2⟩
    · refine Or.inl ⟨b1, by omega, b3.keep (hsame n hna) hcn ?_⟩
      rw [Array.getElem?_push, if_neg]
      rw [rho_own w b1]
      omega
    · exact Or.inr ⟨b1, b2.keep (hsame n hna) hcn⟩
theorem Sim.newAt (hS : Sim w lm h H) : rho w (hZ h) = H.size := by rw [rho_own w hS.2.1]; have := hS.1; have := hS.2.1; omega
theorem Sim.obj (hS : Sim w lm h H) (hc : hC h a = ci + 1) (hr : vwCl[ci]? = some r) : 32 ≤ a ∧ a < hZ h ∧ t_OB (rho w a) (w.1 ci) r.2.2 (w.2.1 ci) H (fun k => fV w h (fK (fT ci k)) (64 * ci + k) a) := by
  have hl := vw_lt hr
  rcases hS.2.2.1 a (by omega) with ⟨b1, b2, b3⟩ | ⟨b1, b2⟩
  · refine ⟨b1, b2, ?_⟩
    rcases b3 with ⟨ci', r', g1, g2, g3⟩ | ⟨g1, g2⟩ | ⟨g1, g2⟩ | ⟨g1, g2⟩ | ⟨g1, g2⟩
    · have : ci' = ci := by omega
      subst this
      cases hr.symm.trans g2
      exact g3
    all_goals omega
  · rcases b2 with ⟨g1, g2, g3⟩ | ⟨g1, g2, g3⟩ | ⟨g1, g2, g3, g4⟩ | ⟨g1, g2, g3, g4⟩ <;> omega
theorem Sim.arrI (hS : Sim w lm h H) (hc : hC h a = 101) : 32 ≤ a ∧ a < hZ h ∧ H[rho w a]? = some (arrL (wA w 0) ((aI h a).map Value.int)) := by
  rcases hS.2.2.1 a (by omega) with ⟨b1, b2, b3⟩ | ⟨b1, b2⟩
  · refine ⟨b1, b2, ?_⟩
    rcases b3 with ⟨ci', r', g1, g2, g3⟩ | ⟨g1, g2⟩ | ⟨g1, g2⟩ | ⟨g1, g2⟩ | ⟨g1, g2⟩
    · have := vw_lt g2
      omega
    · exact g2
    all_goals omega
  · rcases b2 with ⟨g1, g2, g3⟩ | ⟨g1, g2, g3⟩ | ⟨g1, g2, g3, g4⟩ | ⟨g1, g2, g3, g4⟩ <;> omega
theorem Sim.arrJ (hS : Sim w lm h H) (hc : hC h a = 102) : 32 ≤ a ∧ a < hZ h ∧ H[rho w a]? = some (arrL (wA w 1) ((aL h a).map Value.long)) := by
  rcases hS.2.2.1 a (by omega) with ⟨b1, b2, b3⟩ | ⟨b1, b2⟩
  · refine ⟨b1, b2, ?_⟩
    rcases b3 with ⟨ci', r', g1, g2, g3⟩ | ⟨g1, g2⟩ | ⟨g1, g2⟩ | ⟨g1, g2⟩ | ⟨g1, g2⟩
    · have := vw_lt g2
      omega
    · omega
    · exact g2
    all_goals omega
  · rcases b2 with ⟨g1, g2, g3⟩ | ⟨g1, g2, g3⟩ | ⟨g1, g2, g3, g4⟩ | ⟨g1, g2, g3, g4⟩ <;> omega
theorem Sim.arrB (hS : Sim w lm h H) (hc : hC h a = 103) : 32 ≤ a ∧ a < hZ h ∧ H[rho w a]? = some (arrL (wA w 2) ((aI h a).map Value.int)) := by
  rcases hS.2.2.1 a (by omega) with ⟨b1, b2, b3⟩ | ⟨b1, b2⟩
  · refine ⟨b1, b2, ?_⟩
    rcases b3 with ⟨ci', r', g1, g2, g3⟩ | ⟨g1, g2⟩ | ⟨g1, g2⟩ | ⟨g1, g2⟩ | ⟨g1, g2⟩
    · have := vw_lt g2
      omega
    · omega
    · omega
    · exact g2
    · omega
  · rcases b2 with ⟨g1, g2, g3⟩ | ⟨g1, g2, g3⟩ | ⟨g1, g2, g3, g4⟩ | ⟨g1, g2, g3, g4⟩ <;> omega
/-- a row of references: an own one, or the empty one that was there -/
theorem Sim.arrO (hS : Sim w lm h H) (hc : hC h a = 104) : (32 ≤ a ∧ a < hZ h ∧ H[rho w a]? = some (arrL (wA w 3) ((aR h a).map (rvr w)))) ∨ (a = 1 ∧ aR h a = []) := by
  rcases hS.2.2.1 a (by omega) with ⟨b1, b2, b3⟩ | ⟨b1, b2⟩
  · refine Or.inl ⟨b1, b2, ?_⟩
    rcases b3 with ⟨ci', r', g1, g2, g3⟩ | ⟨g1, g2⟩ | ⟨g1, g2⟩ | ⟨g1, g2⟩ | ⟨g1, g2⟩
    · have := vw_lt g2
      omega
    · omega
    · omega
    · omega
    · exact g2
  · rcases b2 with ⟨g1, g2, g3⟩ | ⟨g1, g2, g3⟩ | ⟨g1, g2, g3, g4⟩ | ⟨g1, g2, g3, g4⟩
    · omega
    · exact Or.inr ⟨g1, g3⟩
    · omega
    · omega
theorem Sim.str (hS : Sim w lm h H) (hc : hC h a = 12) : 2 ≤ a ∧ a < 13 ∧ hR h 704 a = a + 11 ∧ hI h 705 a = 0 := by
  rcases hS.2.2.1 a (by omega) with ⟨b1, b2, b3⟩ | ⟨b1, b2⟩
  · rcases b3 with ⟨ci', r', g1, g2, g3⟩ | ⟨g1, g2⟩ | ⟨g1, g2⟩ | ⟨g1, g2⟩ | ⟨g1, g2⟩
    · have := vw_lt g2
      omega
    all_goals omega
  · rcases b2 with ⟨g1, g2, g3⟩ | ⟨g1, g2, g3⟩ | ⟨g1, g2, g3, g4⟩ | ⟨g1, g2, g3, g4⟩
    · omega
    · omega
    · exact ⟨g1, g2, g4⟩
    · omega
theorem Sim.byt (hS : Sim w lm h H) (hc : hC h a = 105) : 13 ≤ a ∧ a < 24 ∧ aI h a = sBytes.getD (a - 13) [] := by
  rcases hS.2.2.1 a (by omega) with ⟨b1, b2, b3⟩ | ⟨b1, b2⟩
  · rcases b3 with ⟨ci', r', g1, g2, g3⟩ | ⟨g1, g2⟩ | ⟨g1, g2⟩ | ⟨g1, g2⟩ | ⟨g1, g2⟩
    · have := vw_lt g2
      omega
    all_goals omega
  · rcases b2 with ⟨g1, g2, g3⟩ | ⟨g1, g2, g3⟩ | ⟨g1, g2, g3, g4⟩ | ⟨g1, g2, g3, g4⟩
    · omega
    · omega
    · omega
    · exact ⟨g1, g2, g4⟩
theorem Sim.scr (hS : Sim w lm h H) (hc : hC h a = 106) : a = 26 ∧ aI h a = wS w := by
  rcases hS.2.2.1 a (by omega) with ⟨b1, b2, b3⟩ | ⟨b1, b2⟩
  · rcases b3 with ⟨ci', r', g1, g2, g3⟩ | ⟨g1, g2⟩ | ⟨g1, g2⟩ | ⟨g1, g2⟩ | ⟨g1, g2⟩
    · have := vw_lt g2
      omega
    all_goals omega
  · rcases b2 with ⟨g1, g2, g3⟩ | ⟨g1, g2, g3⟩ | ⟨g1, g2, g3, g4⟩ | ⟨g1, g2, g3, g4⟩
    · exact ⟨g1, g3⟩
    all_goals omega
theorem up2_ne {α : Type} {f : Nat → Nat → α} {k a g b : Nat} {v : α} (hb : b ≠ a) : up2 f k a v g b = f g b := by unfold up2; rw [if_neg (fun h => hb h.2)]
theorem up1_ne {α : Type} {f : Nat → α} {a b : Nat} {v : α} (hb : b ≠ a) : up1 f a v b = f b := by unfold up1; rw [if_neg hb]
theorem up1_eq {α : Type} {f : Nat → α} {a : Nat} {v : α} : up1 f a v a = v := by unfold up1; rw [if_pos rfl]
theorem sI_same {f a : Nat} {v : Int32} (hn : n ≠ a) : same1 h (sI h f a v) n := ⟨fun g => up2_ne hn, fun _ => rfl, fun _ => rfl, rfl, rfl, rfl⟩
theorem sL_same {f a : Nat} {v : Int64} (hn : n ≠ a) : same1 h (sL h f a v) n := ⟨fun _ => rfl, fun g => up2_ne hn, fun _ => rfl, rfl, rfl, rfl⟩
theorem sR_same {f a : Nat} {v : Nat} (hn : n ≠ a) : same1 h (sR h f a v) n := ⟨fun _ => rfl, fun _ => rfl, fun g => up2_ne hn, rfl, rfl, rfl⟩
theorem tI_same {a : Nat} {v : List Int32} (hn : n ≠ a) : same1 h (tI h a v) n := ⟨fun _ => rfl, fun _ => rfl, fun _ => rfl, up1_ne hn, rfl, rfl⟩
theorem tL_same {a : Nat} {v : List Int64} (hn : n ≠ a) : same1 h (tL h a v) n := ⟨fun _ => rfl, fun _ => rfl, fun _ => rfl, rfl, up1_ne hn, rfl⟩
theorem tR_same {a : Nat} {v : List Nat} (hn : n ≠ a) : same1 h (tR h a v) n := ⟨fun _ => rfl, fun _ => rfl, fun _ => rfl, rfl, rfl, up1_ne hn⟩
theorem nW_same {t : Nat} (hn : n ≠ hZ h) : same1 h (nW h t) n := ⟨fun _ => if_neg hn, fun _ => if_neg hn, fun _ => if_neg hn, up1_ne hn, up1_ne hn, up1_ne hn⟩
/-- a field's change in the list of a cell's fields -/
theorem fV_set {v : Value} {k : Nat} (hv : fV w h' (fK (fT ci k)) (64 * ci + k) a = v) (ho : ∀ j, j ≠ k → fV w h' (fK (fT ci j)) (64 * ci + j) a = fV w h (fK (fT ci j)) (64 * ci + j) a) (j : Nat) :
    fV w h' (fK (fT ci j)) (64 * ci + j) a = updV (fun k => fV w h (fK (fT ci k)) (64 * ci + k) a) k v j := by
  unfold updV
  by_cases e : j = k
  · subst e
    rw [if_pos rfl]
    exact hv
  · rw [if_neg e]
    exact ho j e
theorem arrL_eq (cA : ClassId) (vs : List Value) : arrL cA vs = arrV cA vs.length (fun j => vs.getD j .null) := by
  unfold arrL arrV
  congr 1
  apply Array.ext
  · simp
  · intro i h1 h2
    simp at h1
    simp [h1]
theorem arrL_set (cA : ClassId) (vs : List Value) (i : Nat) (v : Value) : (arrL cA vs).setSlot i v = arrL cA (vs.set i v) := by
  unfold arrL Cell.setSlot
  simp
theorem arrL_get {cA : ClassId} {vs : List Value} {i : Nat} {v : Value} (hv : vs[i]? = some v) : (arrL cA vs).slots[i]? = some v := by
  unfold arrL
  simpa using hv
theorem arrL_size (cA : ClassId) (vs : List Value) : (arrL cA vs).slots.size = vs.length := by simp [arrL]
end Heap
end
section
/-! ===== each instruction of the small machine ===== -/
theorem setK_mk {α : Type} : ∀ {l : List α} {k : Nat} {v : α}, k < l.length → setK l k v (fun x => x = l.set k v)
  | [], _, _, h => absurd h (Nat.not_lt_zero _)
  | _ :: _, 0, _, _ => rfl
  | a :: r, k + 1, v, h => by
    have h2 := setK_mk (l := r) (k := k) (v := v) (Nat.lt_of_succ_lt_succ h)
    have h3 : ∀ {K K' : List α → Prop} (l : List α) (k : Nat) (v : α), (∀ x, K x → K' x) → setK l k v K → setK l k v K' := by
      intro K K' l
      induction l generalizing K K' with
      | nil => intro k v hk h; exact h.elim
      | cons b r ih =>
        intro k v hk h
        cases k with
        | zero => exact hk _ h
        | succ k => exact ih k v (fun x => hk _) h
    exact h3 r k v (fun x hx => by rw [hx]; rfl) h2
theorem setK_two {α : Type} {l : List α} {k : Nat} {v : α} {K : List α → Prop} (h : setK l k v K) : ∃ l2, setK l k v (fun x => x = l2) ∧ K l2 := by
  obtain ⟨a, b⟩ := setK_inv h
  exact ⟨_, setK_mk a, b⟩
theorem setK_mono {α : Type} {K K' : List α → Prop} {l : List α} {k : Nat} {v : α} (hk : ∀ x, K x → K' x) (h : setK l k v K) : setK l k v K' := by
  obtain ⟨a, b⟩ := setK_inv h
  have h2 := setK_mk (v := v) a
  have h3 : ∀ (l : List α) (k : Nat) (v : α) (K : List α → Prop), k < l.length → K (l.set k v) → setK l k v K := by
    intro l
    induction l with
    | nil => intro k v K h; exact absurd h (Nat.not_lt_zero _)
    | cons b r ih =>
      intro k v K h hK
      cases k with
      | zero => exact hK
      | succ k => exact ih k v _ (Nat.lt_of_succ_lt_succ h) hK
  exact h3 _ _ _ _ a (hk _ b)
theorem st1_two {l : List (Option AV)} {k : Nat} {v : AV} {K : List (Option AV) → Prop} (h : st1 l k v K) : ∃ l2, st1 l k v (fun x => x = l2) ∧ K l2 := by
  unfold st1 cutK at *
  split at h
  · exact setK_two h
  · split at h
    · obtain ⟨a, b⟩ := setK_inv h
      obtain ⟨l2, c, e⟩ := setK_two b
      refine ⟨l2, ?_, e⟩
      obtain ⟨c1, c2⟩ := setK_inv c
      refine setK_mono (fun x hx => ?_) (setK_mk a)
      rw [hx]
      exact c
    · exact setK_two h
theorem st2_two {l : List (Option AV)} {k : Nat} {v : AV} {K : List (Option AV) → Prop} (h : st2 l k v K) : ∃ l2, st2 l k v (fun x => x = l2) ∧ K l2 := by
  unfold st2 cutK at *
  have two : ∀ {l : List (Option AV)} {k : Nat}, setK l k (some v) (fun l2 => setK l2 (k + 1) none K) → ∃ l2, setK l k (some v) (fun l3 => setK l3 (k + 1) none (fun x => x = l2)) ∧ K l2 := by
    intro l k h
    obtain ⟨a, b⟩ := setK_inv h
    obtain ⟨l2, c, e⟩ := setK_two b
    exact ⟨l2, setK_mono (fun x hx => by rw [hx]; exact c) (setK_mk a), e⟩
  split at h
  · exact two h
  · split at h
    · obtain ⟨a, b⟩ := setK_inv h
      obtain ⟨l2, c, e⟩ := two b
      exact ⟨l2, setK_mono (fun x hx => by rw [hx]; exact c) (setK_mk a), e⟩
    · exact two h
section Rows
variable {p : Program} {l : Launch} {e : Env} {R : Room} {s : State} {m : MethodId} {args : Array Value} {below : List Frame} {meth : Method} {c : Code} {H : Heap} {locs : List Loc} {cells slots : Nat} {Z : State → Prop}
variable {cc : ByteArray} {pc : Nat} {ls ls' : Array Slot} {rest : List Value}
theorem w_istore (hexec : p.tables.exec = Jvm.exec) (hb : c.code = cc) {i : Nat} {x : Int32} (hdg : decode cc pc = .ok (.istore i, 2)) (e' : storeLocals ls i (.int x) = some ls')
    (k : W p l e R s m args below meth c H locs cells slots Z (F0 m (pc + 2) ls' rest)) : W p l e R s m args below meth c H locs cells slots Z (F0 m pc ls (.int x :: rest)) := by
  intro T hT X
  obtain ⟨t, a, b⟩ := k T hT X
  refine ⟨t, ?_, b⟩
  jvm_step X.here [X.here.top, ↓top_set X.here.top, hexec, hb, hdg, e']
  exact a
theorem w_istore_n (hexec : p.tables.exec = Jvm.exec) (hb : c.code = cc) {i : Fin 4} {x : Int32} (hdg : decode cc pc = .ok (.istore_n i, 1)) (e' : storeLocals ls i.val (.int x) = some ls')
    (k : W p l e R s m args below meth c H locs cells slots Z (F0 m (pc + 1) ls' rest)) : W p l e R s m args below meth c H locs cells slots Z (F0 m pc ls (.int x :: rest)) := by
  intro T hT X
  obtain ⟨t, a, b⟩ := k T hT X
  refine ⟨t, ?_, b⟩
  jvm_step X.here [X.here.top, ↓top_set X.here.top, hexec, hb, hdg, e']
  exact a
theorem w_lstore (hexec : p.tables.exec = Jvm.exec) (hb : c.code = cc) {i : Nat} {x : Int64} (hdg : decode cc pc = .ok (.lstore i, 2)) (e' : storeLocals ls i (.long x) = some ls')
    (k : W p l e R s m args below meth c H locs cells slots Z (F0 m (pc + 2) ls' rest)) : W p l e R s m args below meth c H locs cells slots Z (F0 m pc ls (.long x :: rest)) := by
  intro T hT X
  obtain ⟨t, a, b⟩ := k T hT X
  refine ⟨t, ?_, b⟩
  jvm_step X.here [X.here.top, ↓top_set X.here.top, hexec, hb, hdg, e']
  exact a
theorem w_lstore_n (hexec : p.tables.exec = Jvm.exec) (hb : c.code = cc) {i : Fin 4} {x : Int64} (hdg : decode cc pc = .ok (.lstore_n i, 1)) (e' : storeLocals ls i.val (.long x) = some ls')
    (k : W p l e R s m args below meth c H locs cells slots Z (F0 m (pc + 1) ls' rest)) : W p l e R s m args below meth c H locs cells slots Z (F0 m pc ls (.long x :: rest)) := by
  intro T hT X
  obtain ⟨t, a, b⟩ := k T hT X
  refine ⟨t, ?_, b⟩
  jvm_step X.here [X.here.top, ↓top_set X.here.top, hexec, hb, hdg, e']
  exact a
theorem w_astore (hexec : p.tables.exec = Jvm.exec) (hb : c.code = cc) {i : Nat} {r : Option Nat} (hdg : decode cc pc = .ok (.astore i, 2)) (e' : storeLocals ls i (va_rf r) = some ls')
    (k : W p l e R s m args below meth c H locs cells slots Z (F0 m (pc + 2) ls' rest)) : W p l e R s m args below meth c H locs cells slots Z (F0 m pc ls (va_rf r :: rest)) := by
  intro T hT X
  obtain ⟨t, a, b⟩ := k T hT X
  refine ⟨t, ?_, b⟩
  cases r with
  | none =>
    jvm_step X.here [X.here.top, ↓top_set X.here.top, hexec, hb, hdg, e', va_rf, Value.isRef]
    exact ⟨ls', e', a⟩
  | some q =>
    jvm_step X.here [X.here.top, ↓top_set X.here.top, hexec, hb, hdg, e', va_rf, Value.isRef]
    exact ⟨ls', e', a⟩
theorem w_astore_n (hexec : p.tables.exec = Jvm.exec) (hb : c.code = cc) {i : Fin 4} {r : Option Nat} (hdg : decode cc pc = .ok (.astore_n i, 1)) (e' : storeLocals ls i.val (va_rf r) = some ls')
    (k : W p l e R s m args below meth c H locs cells slots Z (F0 m (pc + 1) ls' rest)) : W p l e R s m args below meth c H locs cells slots Z (F0 m pc ls (va_rf r :: rest)) := by
  intro T hT X
  obtain ⟨t, a, b⟩ := k T hT X
  refine ⟨t, ?_, b⟩
  cases r with
  | none =>
    jvm_step X.here [X.here.top, ↓top_set X.here.top, hexec, hb, hdg, e', va_rf, Value.isRef]
    exact ⟨ls', e', a⟩
  | some q =>
    jvm_step X.here [X.here.top, ↓top_set X.here.top, hexec, hb, hdg, e', va_rf, Value.isRef]
    exact ⟨ls', e', a⟩
theorem w_aload_n (hexec : p.tables.exec = Jvm.exec) (hb : c.code = cc) {i : Fin 4} {r : Option Nat} (hdg : decode cc pc = .ok (.aload_n i, 1)) (hl : ls[i.val]? = some (.val (va_rf r)))
    (k : W p l e R s m args below meth c H locs cells slots Z (F0 m (pc + 1) ls (va_rf r :: rest))) : W p l e R s m args below meth c H locs cells slots Z (F0 m pc ls rest) := by
  cases r with
  | none => exact lv_aload_nN hexec hb hdg rfl hl k
  | some q => exact lv_aload_n hexec hb hdg rfl hl k
theorem w_aload (hexec : p.tables.exec = Jvm.exec) (hb : c.code = cc) {i : Nat} {r : Option Nat} (hdg : decode cc pc = .ok (.aload i, 2)) (hl : ls[i]? = some (.val (va_rf r)))
    (k : W p l e R s m args below meth c H locs cells slots Z (F0 m (pc + 2) ls (va_rf r :: rest))) : W p l e R s m args below meth c H locs cells slots Z (F0 m pc ls rest) := by
  cases r with
  | none => exact lv_aloadN hexec hb hdg hl k
  | some q => exact lv_aload hexec hb hdg hl k
theorem w_iinc (hexec : p.tables.exec = Jvm.exec) (hb : c.code = cc) {i : Nat} {n : Int} {x v : Int32} (hdg : decode cc pc = .ok (.iinc i n, 3)) (hl : ls[i]? = some (.val (.int x))) (hv : x + Int32.ofInt n = v) (e' : storeLocals ls i (.int v) = some ls')
    (k : W p l e R s m args below meth c H locs cells slots Z (F0 m (pc + 3) ls' rest)) : W p l e R s m args below meth c H locs cells slots Z (F0 m pc ls rest) := by
  intro T hT X
  obtain ⟨t, a, b⟩ := k T hT X
  refine ⟨t, ?_, b⟩
  subst hv
  jvm_step X.here [X.here.top, ↓top_set X.here.top, hexec, hb, hdg, hl, e']
  exact a
end Rows
theorem ixIn_lt {j : Int32} {n : Nat} (h : ixIn j n) : ¬ j < 0 ∧ j.toNatClampNeg < n := ⟨fun g => h (Or.inl g), by have : ¬ n ≤ j.toNatClampNeg := fun g => h (Or.inr g); omega⟩
end
section
/-! ===== the world's knowledge moves with the machine ===== -/
theorem WK.moved {w : WD} {s U : State} (h : WK w s) (hW : s.WarmedH U.vm) (hsz : wB w ≤ U.heap.size) (hq : ∀ q : Nat, q < wB w → U.heap[q]? = s.heap[q]?) : WK w U := by
  obtain ⟨h1, h2, h3, h4, h5, h6, ⟨r, h7, h7r⟩, h8, h9, h10, h11, h12, h13, h14, h15, h16⟩ := h
  have hal := hW.alike
  have hk : ∀ a : Nat, a < s.heap.size → ¬ wO w a → U.heap[a]? = s.heap[a]? := fun a _ ha => hq a (Nat.lt_of_not_le ha)
  refine ⟨va_K.moved hal h1, (vk_S.moved hal h2).kept hk, fun i q hi => vk_R.warm hW (h3 i q hi), (va_Z.moved hal h4).kept hk, ⟨(hq _ h5.2).trans h5.1, h5.2⟩, (va_Z.moved hal h6).kept hk, ⟨r, (va_Z.moved hal h7).kept hk, h7r⟩, va_Mi.moved hal h8, va_Dc.moved hal h9, va_AO.moved hal h10, fun q hq1 hq2 => ?_, fun y hy => ?_, h13, hsz, h15, ?_⟩
  · have hZ := h11 q hq1 hq2
    cases q with
    | methodLinkNest a b c d => exact va_Nw.warmM hW hZ
    | castable a b => exact va_Nw.warmC hW hZ
    | declares a => exact va_Nw.warmD hW hZ
    | _ => exact absurd hq2 (by simp [bw])
  · exact va_Fw.moved ⟨show "java/util/List" ≠ "java/lang/invoke/MethodHandle" by decide, show "java/util/List" ≠ "java/lang/invoke/VarHandle" by decide⟩ hal (h12 y hy)
  · obtain ⟨scr, g1, g2, g3, g4, g5⟩ := h16
    exact ⟨scr, (hq _ (h13 26 (by decide))).trans g1, State.isArrayOf_alike hal g2, g3, g4, g5⟩
section Uses
variable {w : WD} {lm : Bool} {X : MD} {p : Program} {s : State} {m : MethodId} {args : Array Value} {meth : Method} {c : Code}
theorem Cx.x (h : Cx w X p s m args meth c) : p.tables.exec = Jvm.exec := h.1
theorem Cx.b (h : Cx w X p s m args meth c) : c.code = X.1.2.1 := h.2.1
theorem Cx.ml (h : Cx w X p s m args meth c) : c.maxLocals = X.1.2.2.1 := h.2.2.1
theorem Cx.own (h : Cx w X p s m args meth c) : s.vm.findClass X.1.1.cls = some m.cls := h.2.2.2.1
theorem Cx.t (h : Cx w X p s m args meth c) {q : Cond} (hq : q ∈ lw_tbl) (hg : goodWord q = true) : q.before args s = true := h.2.2.2.2.1 q (lw_in hq hg)
theorem Cx.ret (h : Cx w X p s m args meth c) : meth.sig.returnType = X.1.2.2.2 := h.2.2.2.2.2.1
theorem Cx.locks (h : Cx w X p s m args meth c) : meth.locks = false := h.2.2.2.2.2.2.1
theorem Cx.nm (h : Cx w X p s m args meth c) : meth.name = X.1.1.name := h.2.2.2.2.2.2.2.1
theorem Cx.k (h : Cx w X p s m args meth c) : WK w s := h.2.2.2.2.2.2.2.2
end Uses
theorem WK.tab {w : WD} {s : State} (h : WK w s) : va_K (w.1, w.2.1) vwCl (tysW w) s := h.1
theorem WK.ext {w : WD} {s : State} (h : WK w s) {n : Nat} (hn : n < 32) : wX w n < wB w := h.2.2.2.2.2.2.2.2.2.2.2.2.1 n hn
theorem WK.base {w : WD} {s : State} (h : WK w s) : wB w ≤ s.heap.size := h.2.2.2.2.2.2.2.2.2.2.2.2.2.1
theorem WK.scr {w : WD} {s : State} (h : WK w s) : (wS w).length < 2 ^ 31 ∧ va_X (wX w 26) (wS w).length (fun j => (wS w).getD j 0) s s.heap := h.2.2.2.2.2.2.2.2.2.2.2.2.2.2
theorem lay_good {C : String} {T : u_T} {N : Nat} (hin : ∀ q ∈ u_ws C T N, q ∈ lw_tbl) : ∀ q ∈ u_ws C T N, q ∈ lw_g := fun q hq => lw_in (hin q hq) (by
  obtain ⟨k, -, rfl⟩ := List.mem_map.mp hq
  unfold u_lay
  split <;> rfl)
/-- a heap below the first own address is as it was -/
theorem va_S.low {w : WD} {s : State} {H : Heap} {locs : List Loc} (h : va_S (wO w) s.heap H locs) (hb : wB w ≤ s.heap.size) {q : Nat} (hq : q < wB w) : H[q]? = s.heap[q]? := h.2.1 q (Nat.lt_of_lt_of_le hq hb) (Nat.not_le.mpr hq)
theorem Sim.addr {w : WD} {h : AH} {H : Heap} {a : Nat} (ha : 32 ≤ a) : wO w (rho w a) := by rw [rho_own w ha]; exact Nat.le_add_right _ _
theorem isArr {w : WD} {s : State} (hK : va_K (w.1, w.2.1) vwCl (tysW w) s) {k : Nat} {q : ClassId × FieldType} (hk : (tysW w)[k]? = some q) (vs : List Value) : s.isArrayOf (arrL q.1 vs) q.2 := by
  rw [arrL_eq]
  exact (hK.2 k q hk).1 _ _
theorem Sim.recv {w : WD} {lm : Bool} {h : AH} {H : Heap} {s : State} {a ci : Nat} {r : vw_C} (hS : Sim w lm h H) (hK : va_K (w.1, w.2.1) vwCl (tysW w) s) (hc : hC h a = ci + 1) (hr : vwCl[ci]? = some r) : ∃ cell : Cell, H[rho w a]? = some cell ∧ cell.vm.isStatics = false ∧ s.vm.findClass r.1 = some cell.cls := by
  obtain ⟨-, -, cell, g1, g2, g3, -⟩ := hS.obj hc hr
  exact ⟨cell, g1, by rw [g3]; rfl, by rw [g2]; exact (hK.1 ci r hr).2.1⟩
end
section
/-! ===== fields ===== -/
section Fields
variable {l : Launch} {w : WD} {lm : Bool} {X : MD} {d : Nat} {Q : Option AV → AH → Prop} {pc : Nat} {ll : List (Option AV)} {st : List AV} {h : AH} {bc bs : Nat}
theorem fK_cases {ci k : Nat} {r : vw_C} (hr : vwCl[ci]? = some r) (hk : k < r.2.2) : fK (fT ci k) = 0 ∨ fK (fT ci k) = 1 ∨ fK (fT ci k) = 2 ∨ fK (fT ci k) = 3 :=
  kd_all ci (vw_lt hr) k (Nat.lt_of_lt_of_le hk (n_all hr))
theorem so_get (hX : mdOK X) {idx : Nat} (hd : decode X.1.2.1 pc = .ok (.getfield idx, 3)) {N : List AV → Prop} (hN : ∀ st', N st' → Ex l w lm X d Q (pc + 3) ll st' h bc bs) (ha : aGet X lm N idx st h) : Ex l w lm X d Q pc ll st h bc bs := by
  unfold aGet at ha
  split at ha
  · rename_i ci k kd key e
    obtain ⟨r, ref, hr, hk, hkey, hkd, hlink, hsame⟩ := hX.2.1.1 _ (lk_mem e)
    dsimp only at hr hk hkey hkd hlink hsame
    obtain ⟨a, rest, rfl, ha0⟩ := oR_inv ha
    intro p e R s m args below meth c H locs cells slots ls hCx hf hl hcl0 hsl0 hS hL hlen hva
    obtain ⟨hc, ha1⟩ := isC_inv hS.2.2.2 (Or.inl (vw_lt hr)) ha0
    have hv : ∃ v : AV, N (v :: rest) ∧ rv w v = fV w h kd key a := by
      split at ha1
      · exact ⟨_, ha1, rfl⟩
      · exact ⟨_, rF_inv hS.2.2.2 hkey (by have := n_all hr; omega) (isC_sing ha0) ha1, rfl⟩
      · refine ⟨_, ha1, ?_⟩
        rename_i h1 h2
        unfold fV
        split
        · exact absurd rfl h1
        · exact absurd rfl h2
        · rfl
    obtain ⟨v, hNv, hrv⟩ := hv
    have kk := hN _ hNv p e R s m args below meth c H locs cells slots ls hCx hf hl hcl0 hsl0 hS hL hlen hva
    obtain ⟨ha32, haz, cell, g1, g2, g3, g4⟩ := hS.obj hc hr
    obtain ⟨hSl, hfc, kC, hkC, hkind⟩ := hCx.k.tab.1 ci r hr
    obtain ⟨cf, kf, fi, f, hi, hsl⟩ := hSl k hk
    have hst := (u_facts hfc hkC (u_lays (fun q hq => hCx.2.2.2.2.1 q hq) (lay_good (la_all hr)) hk) hi).1
    have hi2 : s.fieldFound? ref (r.2.1 k).2.1 (r.2.1 k).2.2.1 = some (cf, kf, fi, f) := by
      rcases hsame with e2 | e2
      · rw [e2]; exact hi
      · exact u_same (hCx.t e2 rfl) _ hi
    have e1 : (rv w (.inr (.inr a)) : Value) = .ref (rho w a) := rvr_pos w (by omega)
    rw [List.map_cons, e1]
    refine W.getf hCx.x hCx.b hCx.own (hCx.t hlink rfl) hi2 hst g1 (by rw [g3]; exact fun h => by cases h) (by rw [hsl]; exact g4 k hk) rfl rfl hd ?_
    have e3 : rv w v = fV w h (fK (fT ci k)) (64 * ci + k) a := by rw [hrv, hkd, hkey]
    rw [List.map_cons, e3] at kk
    exact kk
  · split at ha
    · rename_i e
      obtain ⟨a, rest, rfl, hc, ha⟩ := oR_inv ha
      have hlink : Cond.fieldLink X.1.1.cls idx "java/lang/String" "value" "[B" ∈ lw_tbl := by
        rcases hX.2.1.2.2.2.2.2.1 _ (lk_mem e) with ⟨-, q⟩ | ⟨q, -⟩
        · exact q
        · cases q
      refine Ex.pure (st' := .inr (.inr (hR h 704 a)) :: rest) (fun p e R s m args below meth c H locs cells slots Z ls hC hL _ _ _ _ hS hva _ kk => ?_) (hN _ ha)
      obtain ⟨b1, b2, b3, b4⟩ := hS.str hc
      have hs := (hC.k.2.1.1 (a - 2) (by omega)).2.2.1
      have e1 : (rv w (.inr (.inr a)) : Value) = .ref (wX w (2 + (a - 2))) := by
        show rvr w a = _
        rw [rvr_pos w (by omega), rho_ext w (by omega)]
        congr 2
        omega
      have e2 : (rv w (.inr (.inr (hR h 704 a))) : Value) = .ref (wX w (13 + (a - 2))) := by
        show rvr w (hR h 704 a) = _
        rw [b3, rvr_pos w (by omega), rho_ext w (by omega)]
        congr 2
        omega
      rw [List.map_cons, e1]
      rw [List.map_cons, e2] at kk
      exact vk_getf hC.x hC.b hs hva hC.own (hC.t hlink rfl) (fun _ h => h) hd kk
    · rename_i k hk0 e
      obtain ⟨a, rest, rfl, hc, ha⟩ := oR_inv ha
      have hlink : Cond.fieldLink X.1.1.cls idx "java/lang/String" "coder" "B" ∈ lw_tbl := by
        rcases hX.2.1.2.2.2.2.2.1 _ (lk_mem e) with ⟨q, -⟩ | ⟨-, q⟩
        · exact absurd q hk0
        · exact q
      refine Ex.pure (st' := .inl (hI h 705 a) :: rest) (fun p e R s m args below meth c H locs cells slots Z ls hC hL _ _ _ _ hS hva _ kk => ?_) (hN _ ha)
      obtain ⟨b1, b2, b3, b4⟩ := hS.str hc
      have hs := (hC.k.2.1.1 (a - 2) (by omega)).2.1
      have e1 : (rv w (.inr (.inr a)) : Value) = .ref (wX w (2 + (a - 2))) := by
        show rvr w a = _
        rw [rvr_pos w (by omega), rho_ext w (by omega)]
        congr 2
        omega
      have e2 : (rv w (.inl (hI h 705 a)) : Value) = .int 0 := by rw [b4]; rfl
      rw [List.map_cons, e1]
      rw [List.map_cons, e2] at kk
      exact vk_getf hC.x hC.b hs hva hC.own (hC.t hlink rfl) (fun _ h => h) hd kk
    · exact ha.elim
/-- a field's change: the machine's, and the small heap's -/
theorem so_put1 {pc idx ci k a : Nat} {r : vw_C} {ref : String} {v : AV} {h' : AH} {rest : List AV} (hfin : (r.2.1 k).2.2.2 = true → X.1.1.name = "<init>" ∧ (r.2.1 k).1 = X.1.1.cls) (hr : vwCl[ci]? = some r) (hk : k < r.2.2) (hlink : Cond.fieldLink X.1.1.cls idx ref (r.2.1 k).2.1 (r.2.1 k).2.2.1 ∈ lw_tbl) (hsame : ref = (r.2.1 k).1 ∨ Cond.sameField ref (r.2.1 k).1 (r.2.1 k).2.1 (r.2.1 k).2.2.1 ∈ lw_tbl)
    (hd : decode X.1.2.1 pc = .ok (.putfield idx, 3)) (hci : (lm = true → Lay h) → hC h a = ci + 1) (hlay : lm = true → Lay h → Lay h') (hcz : hZ h' = hZ h) (hcc : ∀ n, hC h' n = hC h n) (hsm : ∀ n, n ≠ a → same1 h h' n)
    (hnew : fV w h' (fK (fT ci k)) (64 * ci + k) a = rv w v) (hold : ∀ j, j ≠ k → fV w h' (fK (fT ci j)) (64 * ci + j) a = fV w h (fK (fT ci j)) (64 * ci + j) a)
    (hn : narrow (fT ci k) (rv w v) = rv w v) (hft : fits (fT ci k) (rv w v) = true) (kk : Ex l w lm X d Q (pc + 3) ll rest h' bc bs) : Ex l w lm X d Q pc ll (v :: .inr (.inr a) :: rest) h bc bs := by
  intro p e R s m args below meth c H locs cells slots ls hC hf hl hcl hsl0 hS hL hlen hva
  have hc := hci hS.2.2.2
  obtain ⟨ha32, haz, cell, g1, g2, g3, g4⟩ := hS.obj hc hr
  have hK := hC.k.tab
  obtain ⟨hSl, hfc, kC, hkC, hkind⟩ := hK.1 ci r hr
  obtain ⟨cf, kf, fi, f, hi, hsl⟩ := hSl k hk
  have hts : ∀ q ∈ lw_g, q.before args s = true := hC.2.2.2.2.1
  have hlays := u_lays hts (lay_good (la_all hr)) hk
  have hst := (u_facts hfc hkC hlays hi).1
  have hap := va_apart (own := X.1.1.cls) hts (lay_good (la_all hr)) (fT ci) (ty_all hr) (nm_all hr) hK hr
  have hi2 : s.fieldFound? ref (r.2.1 k).2.1 (r.2.1 k).2.2.1 = some (cf, kf, fi, f) := by
    rcases hsame with e2 | e2
    · rw [e2]; exact hi
    · exact u_same (hC.t e2 rfl) _ hi
  have e1 : (rv w (.inr (.inr a)) : Value) = .ref (rho w a) := rvr_pos w (by omega)
  have fin : ∀ H' : Heap, H'[rho w a]? = some (cell.setSlot f.slot (rv w v)) → H'.size = H.size → (∀ q, q ≠ rho w a → H'[q]? = H[q]?) → W p l e R s m args below meth c H' (locs ++ [⟨rho w a, f.slot⟩]) cells slots (MQ below (qcD w lm Q) args s R.cells R.slots (wO w)) (F0 m (pc + 3) ls (rest.map (rv w))) := by
    intro H' z1 z2 z3
    rw [hsl] at z1
    have hS' : Sim w lm h' H' := by
      refine hS.upd hlay ha32 hcz hcc z2 z3 hsm (Or.inl ⟨ci, r, (hcc a).trans hc, hr, _, z1, g2, g3, fun j hj => ?_⟩)
      rw [t_set g4 hap hk (rv w v) j hj]
      exact congrArg some (fV_set hnew hold j).symm
    exact kk p e R s m args below meth c H' _ cells slots ls hC hf hl hcl hsl0 hS' hL hlen (hva.put z2 z3 (Sim.addr (h := h) (H := H) ha32))
  rw [List.map_cons, List.map_cons, e1]
  by_cases hff : (r.2.1 k).2.2.2 = true
  · obtain ⟨hn1, hn2⟩ := hfin hff
    have h6 := u_fits hfc hkC hkind hlays hi (ty_all hr k hk) hn hft
    have hcf : m.cls = cf := by
      have hlay := hts _ (lay_good (la_all hr) _ (u_in_lay hk))
      unfold u_lay at hlay
      rw [if_pos hff] at hlay
      obtain ⟨_, _, c', _, _, _, -, -, hf', -, -, -, hown2, -⟩ := Cond.laysFinal_spec hlay
      have e1 : c' = cf := by have := hi.symm.trans hf'; simp at this; exact this.1.symm
      rw [hn2] at hown2
      rw [← e1]
      exact Option.some.inj (hC.own.symm.trans hown2)
    exact W.putFinK hC.x hC.b hC.own (hC.t hlink rfl) hi2 hst hcf (hC.nm.trans hn1) (by rw [g2]; exact h6) g1 g3 (by rw [hsl]; exact k2_hasslot (g4 k hk)) rfl rfl hd fin
  · have hlay := hts _ (lay_good (la_all hr) _ (u_in_lay hk))
    unfold u_lay at hlay
    rw [if_neg hff] at hlay
    have h6 := u_store hfc hkC hkind hlay hi (ty_all hr k hk) hn hft
    exact W.putK hC.x hC.b (f := f) ⟨hC.own, hC.t hlink rfl, ⟨_, _, _, hi2⟩, hst⟩ (by rw [g2]; exact h6) g1 g3 (by rw [hsl]; exact k2_hasslot (g4 k hk)) rfl rfl hd fin
theorem so_put (hX : mdOK X) {pc idx : Nat} {N : List AV → AH → Prop} (hd : decode X.1.2.1 pc = .ok (.putfield idx, 3))
    (hfin : ∀ ci k kd key r, lk X.2.2.1 idx = some (ci, k, kd, key) → vwCl[ci]? = some r → (r.2.1 k).2.2.2 = true → X.1.1.name = "<init>" ∧ (r.2.1 k).1 = X.1.1.cls)
    (hN : ∀ st' h', N st' h' → Ex l w lm X d Q (pc + 3) ll st' h' bc bs) (ha : aPut X lm N idx st h) : Ex l w lm X d Q pc ll st h bc bs := by
  unfold aPut at ha
  split at ha
  · rename_i ci k kd key e
    obtain ⟨r, ref, hr, hk, hkey, hkd, hlink, hsame⟩ := hX.2.1.1 _ (lk_mem e)
    dsimp only at hr hk hkey hkd hlink hsame
    have hfi := hfin ci k kd key r e hr
    have hkc := fK_cases hr hk
    subst hkey
    have ne : ∀ j, j ≠ k → ¬ (64 * ci + j = 64 * ci + k) := fun j hj h => hj (by omega)
    split at ha
    · obtain ⟨x, r1, rfl, ha1⟩ := oI_inv ha
      obtain ⟨a, rest, rfl, ha3⟩ := oR_inv ha1
      have hc : (lm = true → Lay h) → hC h a = ci + 1 := fun hy => (isC_inv hy (Or.inl (vw_lt hr)) ha3).1
      have ha2 := isC_A ha3
      have ht : fT ci k = .int := by
        generalize fT ci k = t at hkd
        cases t <;> first | rfl | (simp [fK] at hkd)
      refine so_put1 (h' := sI h (64 * ci + k) a x) hfi hr hk hlink hsame hd hc (fun _ hy => hy) rfl (fun _ => rfl) (fun n hn => sI_same hn) ?_ (fun j hj => ?_) ?_ ?_ (hN _ _ ha2)
      · rw [← hkd]
        exact congrArg Value.int (if_pos ⟨rfl, rfl⟩)
      · unfold fV
        split
        · rfl
        · rfl
        · exact congrArg Value.int (if_neg (fun q => ne j hj q.1))
      · rw [ht]; rfl
      · rw [ht]; rfl
    · obtain ⟨x, r1, rfl, ha1⟩ := oL_inv ha
      obtain ⟨a, rest, rfl, ha3⟩ := oR_inv ha1
      have hc : (lm = true → Lay h) → hC h a = ci + 1 := fun hy => (isC_inv hy (Or.inl (vw_lt hr)) ha3).1
      have ha2 := isC_A ha3
      have ht : fT ci k = .long := by
        generalize fT ci k = t at hkd
        cases t <;> first | rfl | (simp [fK] at hkd)
      refine so_put1 (h' := sL h (64 * ci + k) a x) hfi hr hk hlink hsame hd hc (fun _ hy => hy) rfl (fun _ => rfl) (fun n hn => sL_same hn) ?_ (fun j hj => ?_) ?_ ?_ (hN _ _ ha2)
      · rw [← hkd]
        exact congrArg Value.long (if_pos ⟨rfl, rfl⟩)
      · unfold fV
        split
        · exact congrArg Value.long (if_neg (fun q => ne j hj q.1))
        · rfl
        · rfl
      · rw [ht]; rfl
      · rw [ht]; rfl
    · obtain ⟨x, r1, rfl, ha1⟩ := oR_inv ha
      obtain ⟨a, rest, rfl, ha3⟩ := oR_inv ha1
      have hc : (lm = true → Lay h) → hC h a = ci + 1 := fun hy => (isC_inv hy (Or.inl (vw_lt hr)) ha3).1
      obtain ⟨hnf, ha2⟩ := ifB_inv (isC_A ha3)
      have ht : (∃ n, fT ci k = .object n) ∨ ∃ t, fT ci k = .array t := by
        generalize fT ci k = t at hkd
        cases t <;> first | exact Or.inl ⟨_, rfl⟩ | exact Or.inr ⟨_, rfl⟩ | (simp [fK] at hkd)
      refine so_put1 (h' := sR h (64 * ci + k) a x) hfi hr hk hlink hsame hd hc (fun hlm => lay_sR (by rw [hlm] at hnf; exact hnf)) rfl (fun _ => rfl) (fun n hn => sR_same hn) ?_ (fun j hj => ?_) ?_ ?_ (hN _ _ ha2)
      · rw [← hkd]
        exact congrArg (rvr w) (if_pos ⟨rfl, rfl⟩)
      · unfold fV
        split
        · rfl
        · exact congrArg (rvr w) (if_neg (fun q => ne j hj q.1))
        · rfl
      · show narrow _ (rvr w x) = rvr w x
        rcases ht with ⟨n, ht⟩ | ⟨n, ht⟩ <;> rw [ht] <;> (unfold rvr; cases rvo w x <;> rfl)
      · show fits _ (rvr w x) = true
        rcases ht with ⟨n, ht⟩ | ⟨n, ht⟩ <;> rw [ht] <;> (unfold rvr; cases rvo w x <;> rfl)
    · rename_i h0 h1 h2
      obtain ⟨x, r1, rfl, ha1⟩ := oI_inv ha
      obtain ⟨a, rest, rfl, ha3⟩ := oR_inv ha1
      have hc : (lm = true → Lay h) → hC h a = ci + 1 := fun hy => (isC_inv hy (Or.inl (vw_lt hr)) ha3).1
      obtain ⟨hx, ha2⟩ := isC_A ha3
      have ht : fT ci k = .boolean := by
        rcases hkc with q | q | q | q
        · exact absurd (hkd.trans q) h0
        · exact absurd (hkd.trans q) h1
        · exact absurd (hkd.trans q) h2
        · generalize fT ci k = t at q
          cases t <;> first | rfl | (simp [fK] at q)
      refine so_put1 (h' := sI h (64 * ci + k) a x) hfi hr hk hlink hsame hd hc (fun _ hy => hy) rfl (fun _ => rfl) (fun n hn => sI_same hn) ?_ (fun j hj => ?_) ?_ ?_ (hN _ _ ha2)
      · rw [ht]
        exact congrArg Value.int (if_pos ⟨rfl, rfl⟩)
      · unfold fV
        split
        · rfl
        · rfl
        · exact congrArg Value.int (if_neg (fun q => ne j hj q.1))
      · rw [ht]
        rcases hx with rfl | rfl <;> rfl
      · rw [ht]
        rcases hx with rfl | rfl <;> rfl
  · exact ha.elim
end Fields
end
section
/-! ===== rows ===== -/
theorem map_get {α β : Type} (f : α → β) {L : List α} {i : Nat} (d : α) (h : i < L.length) : (L.map f)[i]? = some (f (L.getD i d)) := by
  rw [List.getElem?_map, List.getElem?_eq_getElem h, List.getD_eq_getElem?_getD, List.getElem?_eq_getElem h]
  rfl
section Arrays
variable {l : Launch} {w : WD} {lm : Bool} {X : MD} {d : Nat} {Q : Option AV → AH → Prop} {pc : Nat} {ll : List (Option AV)} {rest : List AV} {h : AH} {bc bs a : Nat} {j : Int32}
theorem rvR {w : WD} {a : Nat} (ha : 32 ≤ a) : (rv w (.inr (.inr a)) : Value) = .ref (rho w a) := rvr_pos w (by omega)
theorem so_iald (hd : decode X.1.2.1 pc = .ok (.iaload, 1)) (hix : ixI h a j) (k : Ex l w lm X d Q (pc + 1) ll (.inl ((aI h a).getD j.toNatClampNeg 0) :: rest) h bc bs) : Ex l w lm X d Q pc ll (.inl j :: .inr (.inr a) :: rest) h bc bs := by
  refine Ex.pure (fun p e R s m args below meth c H locs cells slots Z ls hC hL _ _ _ _ hS hva _ kk => ?_) k
  obtain ⟨hc, hix⟩ := hix
  rcases hc with hc | hc
  · obtain ⟨h32, -, hcell⟩ := hS.arrI hc
    rw [List.map_cons, List.map_cons, rvR h32]
    exact W.iald hC.x hC.b hcell (isArr hC.k.tab (k := 0) rfl _) (fun h => by cases h) (by rw [arrL_size, List.length_map]; exact hix) (arrL_get (map_get Value.int 0 (ixIn_lt hix).2)) rfl rfl hd kk
  · obtain ⟨rfl, b3⟩ := hS.scr hc
    obtain ⟨scr, g1, g2, g3, g4, g5⟩ := hC.k.scr.2
    have g1' : H[wX w 26]? = some scr := (hva.low hC.k.base (hC.k.ext (by decide))).trans g1
    have e1 : (rv w (.inr (.inr 26)) : Value) = .ref (wX w 26) := by
      show rvr w 26 = _
      rw [rvr_pos w (by omega), rho_ext w (by omega)]
    rw [b3] at hix kk
    rw [List.map_cons, List.map_cons, e1]
    exact W.iald hC.x hC.b g1' g2 g3 (by rw [g4]; exact hix) (g5 _ (ixIn_lt hix).2) rfl rfl hd kk
theorem so_lald (hd : decode X.1.2.1 pc = .ok (.laload, 1)) (hc : hC h a = 102) (hix : ixIn j (aL h a).length) (k : Ex l w lm X d Q (pc + 1) ll (.inr (.inl ((aL h a).getD j.toNatClampNeg 0)) :: rest) h bc bs) : Ex l w lm X d Q pc ll (.inl j :: .inr (.inr a) :: rest) h bc bs := by
  refine Ex.pure (fun p e R s m args below meth c H locs cells slots Z ls hC hL _ _ _ _ hS _ _ kk => ?_) k
  obtain ⟨h32, -, hcell⟩ := hS.arrJ hc
  rw [List.map_cons, List.map_cons, rvR h32]
  exact W.lald hC.x hC.b hcell (isArr hC.k.tab (k := 1) rfl _) (fun h => by cases h) (by rw [arrL_size, List.length_map]; exact hix) (arrL_get (map_get Value.long 0 (ixIn_lt hix).2)) rfl rfl hd kk
theorem sBytes_len : ∀ i, i < 11 → (sBytes.getD i []).length = sLens.getD i 0 := by decide
theorem so_bald (hd : decode X.1.2.1 pc = .ok (.baload, 1)) (hc : hC h a = 103 ∨ hC h a = 105) (hix : ixIn j (aI h a).length) (k : Ex l w lm X d Q (pc + 1) ll (.inl ((aI h a).getD j.toNatClampNeg 0) :: rest) h bc bs) : Ex l w lm X d Q pc ll (.inl j :: .inr (.inr a) :: rest) h bc bs := by
  refine Ex.pure (fun p e R s m args below meth c H locs cells slots Z ls hC hL _ _ _ _ hS hva _ kk => ?_) k
  rcases hc with hc | hc
  · obtain ⟨h32, -, hcell⟩ := hS.arrB hc
    rw [List.map_cons, List.map_cons, rvR h32]
    exact W.zald hC.x hC.b hcell (isArr hC.k.tab (k := 2) rfl _) (fun h => by cases h) (by rw [arrL_size, List.length_map]; exact hix) (arrL_get (map_get Value.int 0 (ixIn_lt hix).2)) rfl rfl hd kk
  · obtain ⟨b1, b2, b3⟩ := hS.byt hc
    obtain ⟨cell, g1, g2, g3, g4, g5, g6, g7⟩ := (hC.k.2.1.1 (a - 13) (by omega)).2.2.2
    have e0 : wX w (13 + (a - 13)) = wX w a := by congr 1; omega
    dsimp only at g1
    rw [e0] at g1
    have g1' : H[wX w a]? = some cell := (hva.low hC.k.base (hC.k.ext (by omega))).trans g1
    have e1 : (rv w (.inr (.inr a)) : Value) = .ref (wX w a) := by
      show rvr w a = _
      rw [rvr_pos w (by omega), rho_ext w (by omega)]
    rw [List.map_cons, List.map_cons, e1]
    have hlt : j.toNatClampNeg < sLens.getD (a - 13) 0 := by rw [← sBytes_len _ (by omega), ← b3]; exact (ixIn_lt hix).2
    refine W.bald hC.x hC.b g1' g2 g3 (fun q => ?_) (g6 _ hlt) rfl rfl hd ?_
    · rcases q with q | q
      · exact (ixIn_lt hix).1 q
      · omega
    · rw [List.map_cons] at kk
      rw [← b3]
      exact kk
theorem so_aald (hd : decode X.1.2.1 pc = .ok (.aaload, 1)) (hc : hC h a = 104) (hix : ixIn j (aR h a).length) (k : Ex l w lm X d Q (pc + 1) ll (.inr (.inr ((aR h a).getD j.toNatClampNeg 0)) :: rest) h bc bs) : Ex l w lm X d Q pc ll (.inl j :: .inr (.inr a) :: rest) h bc bs := by
  refine Ex.pure (fun p e R s m args below meth c H locs cells slots Z ls hC hL _ _ _ _ hS hva _ kk => ?_) k
  rcases hS.arrO hc with ⟨h32, -, hcell⟩ | ⟨-, b2⟩
  · rw [List.map_cons, List.map_cons, rvR h32]
    exact W.aald hC.x hC.b hcell (isArr hC.k.tab (k := 3) rfl _) rfl (fun h => by cases h) (by rw [arrL_size, List.length_map]; exact hix) (arrL_get (map_get (rvr w) 0 (ixIn_lt hix).2)) rfl rfl hd kk
  · rw [b2] at hix
    exact absurd (ixIn_lt hix).2 (Nat.not_lt_zero _)
theorem so_alen (hd : decode X.1.2.1 pc = .ok (.arraylength, 1)) {N : List AV → Prop} (hN : ∀ st', N st' → Ex l w lm X d Q (pc + 1) ll st' h bc bs)
    (ha : (hC h a = 101 ∧ N (.inl (nI (aI h a).length) :: rest)) ∨ (hC h a = 104 ∧ N (.inl (nI (aR h a).length) :: rest)) ∨ ((hC h a = 105 ∨ hC h a = 106) ∧ N (.inl (nI (aI h a).length) :: rest))) : Ex l w lm X d Q pc ll (.inr (.inr a) :: rest) h bc bs := by
  rcases ha with ⟨hc, ha⟩ | ⟨hc, ha⟩ | ⟨hc, ha⟩
  · refine Ex.pure (fun p e R s m args below meth c H locs cells slots Z ls hC hL _ _ _ _ hS hva _ kk => ?_) (hN _ ha)
    obtain ⟨h32, -, hcell⟩ := hS.arrI hc
    rw [List.map_cons, rvR h32]
    exact W.alen hC.x hC.b hcell (isArr hC.k.tab (k := 0) rfl _) (by rw [arrL_size, List.length_map]; rfl) rfl rfl hd kk
  · refine Ex.pure (fun p e R s m args below meth c H locs cells slots Z ls hC hL _ _ _ _ hS hva _ kk => ?_) (hN _ ha)
    rcases hS.arrO hc with ⟨h32, -, hcell⟩ | ⟨b1, b2⟩
    · rw [List.map_cons, rvR h32]
      exact W.alen hC.x hC.b hcell (isArr hC.k.tab (k := 3) rfl _) (by rw [arrL_size, List.length_map]; rfl) rfl rfl hd kk
    · subst b1
      have e1 : (rv w (.inr (.inr 1)) : Value) = .ref (wX w 1) := by
        show rvr w 1 = _
        rw [rvr_pos w (by omega), rho_ext w (by omega)]
      have g := hC.k.2.2.2.2.1
      have hcell : H[wX w 1]? = some (arrL (wA w 3) []) := (hva.low hC.k.base g.2).trans g.1
      rw [List.map_cons, e1]
      rw [b2] at kk
      exact W.alen hC.x hC.b hcell (isArr hC.k.tab (k := 3) rfl _) rfl rfl rfl hd kk
  · refine Ex.pure (fun p e R s m args below meth c H locs cells slots Z ls hC hL _ _ _ _ hS hva _ kk => ?_) (hN _ ha)
    rcases hc with hc | hc
    case inr =>
      obtain ⟨rfl, b3⟩ := hS.scr hc
      obtain ⟨scr, g1, g2, g3, g4, g5⟩ := hC.k.scr.2
      have g1' : H[wX w 26]? = some scr := (hva.low hC.k.base (hC.k.ext (by decide))).trans g1
      have e1 : (rv w (.inr (.inr 26)) : Value) = .ref (wX w 26) := by
        show rvr w 26 = _
        rw [rvr_pos w (by omega), rho_ext w (by omega)]
      rw [b3] at kk
      rw [List.map_cons, e1]
      exact W.alen hC.x hC.b g1' g2 (by rw [g4]; rfl) rfl rfl hd kk
    obtain ⟨b1, b2, b3⟩ := hS.byt hc
    obtain ⟨cell, g1, g2, g3, g4, g5, g6, g7⟩ := (hC.k.2.1.1 (a - 13) (by omega)).2.2.2
    have e0 : wX w (13 + (a - 13)) = wX w a := by congr 1; omega
    dsimp only at g1
    rw [e0] at g1
    have g1' : H[wX w a]? = some cell := (hva.low hC.k.base (hC.k.ext (by omega))).trans g1
    have e1 : (rv w (.inr (.inr a)) : Value) = .ref (wX w a) := by
      show rvr w a = _
      rw [rvr_pos w (by omega), rho_ext w (by omega)]
    rw [List.map_cons, e1]
    have e2 : (aI h a).length = sLens.getD (a - 13) 0 := by rw [b3, sBytes_len _ (by omega)]
    rw [e2] at kk
    exact W.alen hC.x hC.b g1' g2 g5 rfl rfl hd kk
theorem Sim.tIown {H H' : Heap} {v : List Int32} {t : Nat} {cA : ClassId} (hv : v.length = (aI h a).length) (hS : Sim w lm h H) (h32 : 32 ≤ a) (ht : (hC h a = 101 ∧ cA = wA w 0) ∨ (hC h a = 103 ∧ cA = wA w 2)) (e : H'[rho w a]? = some (arrL cA (v.map Value.int))) (z : H'.size = H.size) (oq : ∀ q, q ≠ rho w a → H'[q]? = H[q]?) : Sim w lm (tI h a v) H' := by
  have e2 : aI (tI h a v) a = v := up1_eq
  refine hS.upd (fun _ => lay_tI hv) h32 rfl (fun _ => rfl) z oq (fun n hn => tI_same hn) ?_
  rcases ht with ⟨ht, rfl⟩ | ⟨ht, rfl⟩
  · exact Or.inr (Or.inl ⟨ht, by rw [e2]; exact e⟩)
  · exact Or.inr (Or.inr (Or.inr (Or.inl ⟨ht, by rw [e2]; exact e⟩)))
theorem so_iast {x : Int32} (hd : decode X.1.2.1 pc = .ok (.iastore, 1)) (hc : hC h a = 101) (hix : ixIn j (aI h a).length) (k : Ex l w lm X d Q (pc + 1) ll rest (tI h a ((aI h a).set j.toNatClampNeg x)) bc bs) : Ex l w lm X d Q pc ll (.inl x :: .inl j :: .inr (.inr a) :: rest) h bc bs := by
  intro p e R s m args below meth c H locs cells slots ls hC hf hl hcl hsl0 hS hL hlen hva
  obtain ⟨h32, -, hcell⟩ := hS.arrI hc
  rw [List.map_cons, List.map_cons, List.map_cons, rvR h32]
  refine W.iast hC.x hC.b hcell (isArr hC.k.tab (k := 0) rfl _) (fun h => by cases h) (by rw [arrL_size, List.length_map]; exact hix) rfl rfl hd (fun H' z1 z2 z3 => ?_)
  rw [arrL_set, show (Value.int x) = Value.int x from rfl, ← List.map_set] at z1
  exact k p e R s m args below meth c H' _ cells slots ls hC hf hl hcl hsl0 (Sim.tIown (t := 0) (by simp) hS h32 (Or.inl ⟨hc, rfl⟩) z1 z2 z3) hL hlen (hva.put z2 z3 (Sim.addr (h := h) (H := H) h32))
theorem so_bast {x : Int32} (hd : decode X.1.2.1 pc = .ok (.bastore, 1)) (hc : hC h a = 103) (hix : ixIn j (aI h a).length) (hx : x = 0 ∨ x = 1) (k : Ex l w lm X d Q (pc + 1) ll rest (tI h a ((aI h a).set j.toNatClampNeg x)) bc bs) : Ex l w lm X d Q pc ll (.inl x :: .inl j :: .inr (.inr a) :: rest) h bc bs := by
  intro p e R s m args below meth c H locs cells slots ls hC hf hl hcl hsl0 hS hL hlen hva
  obtain ⟨h32, -, hcell⟩ := hS.arrB hc
  rw [List.map_cons, List.map_cons, List.map_cons, rvR h32]
  refine W.zast hC.x hC.b hcell (isArr hC.k.tab (k := 2) rfl _) (fun h => by cases h) (by rw [arrL_size, List.length_map]; exact hix) rfl rfl hd (fun H' z1 z2 z3 => ?_)
  have e0 : narrow .boolean (.int x) = .int x := by rcases hx with rfl | rfl <;> rfl
  rw [e0, arrL_set, ← List.map_set] at z1
  exact k p e R s m args below meth c H' _ cells slots ls hC hf hl hcl hsl0 (Sim.tIown (t := 0) (by simp) hS h32 (Or.inr ⟨hc, rfl⟩) z1 z2 z3) hL hlen (hva.put z2 z3 (Sim.addr (h := h) (H := H) h32))
theorem so_last {x : Int64} (hd : decode X.1.2.1 pc = .ok (.lastore, 1)) (hc : hC h a = 102) (hix : ixIn j (aL h a).length) (k : Ex l w lm X d Q (pc + 1) ll rest (tL h a ((aL h a).set j.toNatClampNeg x)) bc bs) : Ex l w lm X d Q pc ll (.inr (.inl x) :: .inl j :: .inr (.inr a) :: rest) h bc bs := by
  intro p e R s m args below meth c H locs cells slots ls hC hf hl hcl hsl0 hS hL hlen hva
  obtain ⟨h32, -, hcell⟩ := hS.arrJ hc
  rw [List.map_cons, List.map_cons, List.map_cons, rvR h32]
  refine W.last hC.x hC.b hcell (isArr hC.k.tab (k := 1) rfl _) (fun h => by cases h) (by rw [arrL_size, List.length_map]; exact hix) rfl rfl hd (fun H' z1 z2 z3 => ?_)
  rw [arrL_set, ← List.map_set] at z1
  have hS' : Sim w lm (tL h a ((aL h a).set j.toNatClampNeg x)) H' := by
    have e2 : aL (tL h a ((aL h a).set j.toNatClampNeg x)) a = (aL h a).set j.toNatClampNeg x := up1_eq
    exact hS.upd (fun _ => lay_tL (by simp)) h32 rfl (fun _ => rfl) z2 z3 (fun n hn => tL_same hn) (Or.inr (Or.inr (Or.inl ⟨hc, by rw [e2]; exact z1⟩)))
  exact k p e R s m args below meth c H' _ cells slots ls hC hf hl hcl hsl0 hS' hL hlen (hva.put z2 z3 (Sim.addr (h := h) (H := H) h32))
theorem Sim.tRown {H H' : Heap} {v : List Nat} (hS : Sim w lm h H) (h32 : 32 ≤ a) (ht : hC h a = 104) (e : H'[rho w a]? = some (arrL (wA w 3) (v.map (rvr w)))) (z : H'.size = H.size) (oq : ∀ q, q ≠ rho w a → H'[q]? = H[q]?) : Sim w lm (tR h a v) H' := by
  have e2 : aR (tR h a v) a = v := up1_eq
  exact hS.upd (fun _ hy => hy) h32 rfl (fun _ => rfl) z oq (fun n hn => tR_same hn) (Or.inr (Or.inr (Or.inr (Or.inr ⟨ht, by rw [e2]; exact e⟩))))
/-- an element of a row of references: the machine may store it -/
theorem any_el {H : Heap} {s : State} {x : Nat} (hS : Sim w lm h H) (hK : WK w s) (hx : 32 ≤ x ∧ (hC h x = 3 ∨ hC h x = 4)) : va_Any "java/lang/Object" s H (rho w x) := by
  have go : ∀ (ci : Nat) (r : vw_C), hC h x = ci + 1 → vwCl[ci]? = some r → Cond.castable r.1 "java/lang/Object" ∈ lw_tbl → va_Any "java/lang/Object" s H (rho w x) := by
    intro ci r hc hr hw
    obtain ⟨-, -, cell, g1, g2, g3, -⟩ := hS.obj hc hr
    have h1 := (hK.tab.1 ci r hr).2
    obtain ⟨c0, t0, k1, k2, k3⟩ := Cond.castable_spec (hK.2.2.2.2.2.2.2.2.2.2.1 _ hw rfl)
    obtain ⟨kC, hkC, -⟩ := h1.2
    refine ⟨cell, g1, by rw [g3]; rfl, ⟨kC, by rw [g2]; exact hkC⟩, fun comp hcomp => ?_⟩
    have e1 : c0 = cell.cls := by rw [g2]; exact Option.some.inj (k1.symm.trans h1.1)
    have e2 : t0 = comp := Option.some.inj (k2.symm.trans hcomp)
    rw [← e1, ← e2]
    exact k3
  rcases hx.2 with hc | hc
  · exact go 2 _ hc rfl castLook
  · exact go 3 _ hc rfl castPage
theorem so_aast {x : Nat} (hd : decode X.1.2.1 pc = .ok (.aastore, 1)) (hc : hC h a = 104) (h32 : 32 ≤ a) (hx : eOK h x) (hix : ixIn j (aR h a).length) (k : Ex l w lm X d Q (pc + 1) ll rest (tR h a ((aR h a).set j.toNatClampNeg x)) bc bs) : Ex l w lm X d Q pc ll (.inr (.inr x) :: .inl j :: .inr (.inr a) :: rest) h bc bs := by
  intro p e R s m args below meth c H locs cells slots ls hC hf hl hcl hsl0 hS hL hlen hva
  have hcell : H[rho w a]? = some (arrL (wA w 3) ((aR h a).map (rvr w))) := by
    rcases hS.arrO hc with ⟨-, -, hcell⟩ | ⟨q, -⟩
    · exact hcell
    · omega
  have hlt := ixIn_lt hix
  rw [List.map_cons, List.map_cons, List.map_cons, rvR h32]
  have fin : ∀ H' : Heap, H'[rho w a]? = some ((arrL (wA w 3) ((aR h a).map (rvr w))).setSlot j.toNatClampNeg (rvr w x)) → H'.size = H.size → (∀ q, q ≠ rho w a → H'[q]? = H[q]?) → W p l e R s m args below meth c H' (locs ++ [⟨rho w a, j.toNatClampNeg⟩]) cells slots (MQ below (qcD w lm Q) args s R.cells R.slots (wO w)) (F0 m (pc + 1) ls (rest.map (rv w))) := by
    intro H' z1 z2 z3
    rw [arrL_set, ← List.map_set] at z1
    exact k p e R s m args below meth c H' _ cells slots ls hC hf hl hcl hsl0 (hS.tRown h32 hc z1 z2 z3) hL hlen (hva.put z2 z3 (Sim.addr (h := h) (H := H) h32))
  rcases hx with rfl | hx
  · exact va_WaastN (C := "java/lang/Object") hC.x hC.b hcell (isArr hC.k.tab (k := 3) rfl _) (fun h => by cases h) (by rw [arrL_size, List.length_map]; exact hix) rfl rfl hd fin
  · have e3 : (rv w (.inr (.inr x)) : Value) = .ref (rho w x) := rvR hx.1
    obtain ⟨cellV, g1, g3, ⟨kC, hkC⟩, hasg⟩ := any_el hS hC.k hx
    obtain ⟨kA, comp, k1, k2, k3, -⟩ := (hC.k.tab.2 3 _ rfl).2
    obtain ⟨kE, hkE, -⟩ := Vm.findClass_spec k3
    rw [e3]
    have e4 : rvr w x = .ref (rho w x) := e3
    rw [e4] at fin
    exact W.aast hC.x hC.b hcell (fun q h => by cases h) (fun h => by cases h) k1 k2 rfl hkE ⟨hlt.1, by rw [arrL_size, List.length_map]; exact hlt.2⟩ g1 (fun q h => by rw [h] at g3; cases g3) hkC (hasg _ k3) rfl rfl hd fin
end Arrays
end
section
/-! ===== new cells, copies ===== -/
theorem cpy_len {α : Type} {s d : List α} {sp dp n : Nat} (h1 : sp + n ≤ s.length) (h2 : dp + n ≤ d.length) : (cpy s d sp dp n).length = d.length := by
  unfold cpy
  simp only [List.length_append, List.length_take, List.length_drop]
  omega
theorem cpy_map {α β : Type} (f : α → β) (s d : List α) (sp dp n : Nat) : (cpy s d sp dp n).map f = cpy (s.map f) (d.map f) sp dp n := by
  unfold cpy
  simp
theorem cpy_get {α : Type} {s d : List α} {sp dp n j : Nat} (x : α) (h1 : sp + n ≤ s.length) (h2 : dp + n ≤ d.length) (hj : j < d.length) : (cpy s d sp dp n).getD j x = if dp ≤ j ∧ j < dp + n then s.getD (sp + (j - dp)) x else d.getD j x := by
  unfold cpy
  rw [List.getD_eq_getElem?_getD, List.getElem?_append, List.getElem?_append]
  simp only [List.length_append, List.length_take, List.length_drop]
  split
  · rename_i h3
    split
    · rename_i h4
      rw [if_neg (by omega), List.getElem?_take, if_pos (by omega), ← List.getD_eq_getElem?_getD]
    · rename_i h4
      rw [if_pos (by omega), List.getElem?_take, if_pos (by omega), List.getElem?_drop, ← List.getD_eq_getElem?_getD]
      congr 1
      omega
  · rename_i h3
    rw [if_neg (by omega), List.getElem?_drop, ← List.getD_eq_getElem?_getD]
    congr 1
    omega
theorem copied_arrL {c0 c1 : ClassId} {vs vd : List Value} {sp dp n : Int32} (h4 : sp.toNatClampNeg + n.toNatClampNeg ≤ vs.length) (h5 : dp.toNatClampNeg + n.toNatClampNeg ≤ vd.length) : copied (arrL c0 vs) (arrL c1 vd) sp dp n = arrL c1 (cpy vs vd sp.toNatClampNeg dp.toNatClampNeg n.toNatClampNeg) := by
  rw [arrL_eq c0 vs, arrL_eq c1 vd, arrL_eq c1 (cpy _ _ _ _ _), cpy_len h4 h5]
  refine (va_copied (fun z => z) c0 c1 (fun j => vs.getD j .null) (fun j => vd.getD j .null) h4).trans ?_
  unfold arrV
  congr 1
  apply Array.ext
  · simp
  · intro i h1 h2
    have hi : i < vd.length := by simpa using h1
    simp only [Array.getElem_ofFn]
    rw [cpy_get .null h4 h5 hi]
    rfl
section Make
variable {l : Launch} {w : WD} {lm : Bool} {X : MD} {d : Nat} {Q : Option AV → AH → Prop} {pc : Nat} {ll : List (Option AV)} {st rest : List AV} {h : AH} {bc bs a : Nat}
theorem w_copy {p : Program} {e : Env} {R : Room} {s : State} {m : MethodId} {args : Array Value} {below : List Frame} {meth : Method} {c : Code} {H : Heap} {locs : List Loc} {cells slots : Nat} {Z : State → Prop} {ls : Array Slot} {rs : List Value} {idx : Nat} (hCx : Cx w X p s m args meth c) (hml : c.maxLocals = ls.size) (hlink : Cond.methodLink X.1.1.cls idx arraycopyName ∈ lw_tbl) {a0 a1 t : Nat} {q : ClassId × FieldType} (hq : (tysW w)[t]? = some q) {vs vd : List Value} (hc0 : H[a0]? = some (arrL q.1 vs)) (hc1 : H[a1]? = some (arrL q.1 vd))
    {sp dp n : Int32} (h1 : ¬ sp < 0) (h2 : ¬ dp < 0) (h3 : ¬ n < 0) (h4 : sp.toNatClampNeg + n.toNatClampNeg ≤ vs.length) (h5 : dp.toNatClampNeg + n.toNatClampNeg ≤ vd.length) (ha1 : wO w a1) (hS : va_S (wO w) s.heap H locs)
    (hvals : ∀ (T : State) (comp : ClassId), T.heap = H → (∀ k1, s.vm.classes[q.1]? = some k1 → k1.kind = .array comp q.2) → ∀ vm', s.vm.Alike vm' → ∀ i, i < n.toNatClampNeg → fits q.2 (vs.getD (sp.toNatClampNeg + i) .null) = true ∧ (T.setVm vm').takes comp (vs.getD (sp.toNatClampNeg + i) .null))
    (hframes : 1 ≤ R.frames) (hlocals : (rs.map fun v => v.category).sum + 18 ≤ R.locals) (hdg : decode X.1.2.1 pc = .ok (.invokestatic idx, 3))
    (kk : ∀ (H1 : Heap) (locs1 : List Loc), H1[a1]? = some (arrL q.1 (cpy vs vd sp.toNatClampNeg dp.toNatClampNeg n.toNatClampNeg)) → H1.size = H.size → (∀ z, z ≠ a1 → H1[z]? = H[z]?) → va_S (wO w) s.heap H1 locs1 → W p l e R s m args below meth c H1 locs1 cells slots Z (F0 m (pc + 3) ls rs)) : W p l e R s m args below meth c H locs cells slots Z (F0 m pc ls (.int n :: .int dp :: .ref a1 :: .int sp :: .ref a0 :: rs)) := by
  have nn : ∀ z : Int32, ¬ z < 0 → z.toInt = (z.toNatClampNeg : Int) := by
    intro z hz
    have hz0 : (0 : Int) ≤ z.toInt := by
      have := Int32.not_lt.mp hz
      simpa using Int32.le_iff_toInt_le.mp this
    show z.toInt = ((z.toInt.toNat : Nat) : Int)
    omega
  have e9 : nativeFrameWords "java/lang/System" "arraycopy" 5 = 7 := by decide +kernel
  intro T hT X
  obtain ⟨-, k0, hk0, cm0, hkk0⟩ := (hCx.k.tab.2 t _ hq).1 0 (fun _ => .null)
  have hty : ((refKind q.2 != refKind q.2) || (!refKind q.2 && q.2 != q.2)) = false := by simp
  obtain ⟨vm', X', step⟩ := X.arraycopy hCx.x hCx.own (hCx.t hlink rfl) (hCx.t acNative rfl) (hCx.t acStatic rfl) (hCx.t sysInit rfl) (src := a0) (dst := a1) (cs := arrL q.1 vs) (cd := arrL q.1 vd) (srcPos := sp) (destPos := dp) (n := n) (by rw [hT]; exact hc0) (by rw [hT]; exact hc1)
    (fun _ h => by cases h) (fun _ h => by cases h) (fun h => by cases h) (fun h => by cases h) hk0 hk0 hkk0 hkk0 hty h1 h2 h3
    (by rw [nn sp h1, nn n h3, arrL_size]; omega)
    (by rw [nn dp h2, nn n h3, arrL_size]; omega)
    (fun vm₁ hal i hi => by
      have e : (arrL q.1 vs).slots.getD (sp.toNatClampNeg + i) .null = vs.getD (sp.toNatClampNeg + i) .null := by
        unfold arrL
        simp
      rw [e]
      exact hvals T cm0 hT (fun k1 hk1 => by cases hk0.symm.trans hk1; exact hkk0) vm₁ hal i hi)
    (g := F0 m pc ls (.int n :: .int dp :: .ref a1 :: .int sp :: .ref a0 :: rs)) rfl (by rw [hml]) (rest := rs) rfl (by rw [hCx.b]; exact hdg) hframes (by show 2 * 0 + _ + _ ≤ _; rw [e9]; omega)
  rw [copied_arrL h4 h5] at X' step
  have hl : a1 < H.size := (Array.getElem?_eq_some_iff.mp hc1).1
  have hheap : ((T.setVm vm').setCell a1 (arrL q.1 (cpy vs vd sp.toNatClampNeg dp.toNatClampNeg n.toNatClampNeg))).heap = H.setIfInBounds a1 (arrL q.1 (cpy vs vd sp.toNatClampNeg dp.toNatClampNeg n.toNatClampNeg)) := by rw [← hT]; rfl
  have oq : ∀ z : Nat, z ≠ a1 → (H.setIfInBounds a1 (arrL q.1 (cpy vs vd sp.toNatClampNeg dp.toNatClampNeg n.toNatClampNeg)))[z]? = H[z]? := fun z hz => by simp [Array.getElem?_setIfInBounds, Ne.symm hz]
  obtain ⟨t, b1, b2⟩ := kk _ _ (show (H.setIfInBounds a1 _)[a1]? = some _ by simp [Array.getElem?_setIfInBounds, hl]) (by simp) oq ⟨by simp; exact hS.1, fun z g1 g2 => by
      rw [oq z (fun e => g2 (by rw [e]; exact ha1))]
      exact hS.2.1 z g1 g2, fun z hz => by
      rcases List.mem_append.mp hz with h | h
      · exact hS.2.2 z h
      · obtain ⟨z1, -, hz1⟩ := List.mem_map.mp h
        rw [← hz1]
        exact ha1⟩ _ hheap X'
  exact ⟨t, step t b1, b2⟩
theorem so_copy (hX : mdOK X) {idx : Nat} (hd : decode X.1.2.1 pc = .ok (.invokestatic idx, 3)) (hlink : Cond.methodLink X.1.1.cls idx arraycopyName ∈ lw_tbl) {N : List AV → AH → Prop} (hN : ∀ st' h', N st' h' → Ex l w lm X d Q (pc + 3) ll st' h' bc bs) (ha : aCopy d N st h) : Ex l w lm X d Q pc ll st h bc bs := by
  obtain ⟨n, r1, rfl, ha1⟩ := oI_inv ha
  obtain ⟨dp, r2, rfl, ha2⟩ := oI_inv ha1
  obtain ⟨b, r3, rfl, ha3⟩ := oR_inv ha2
  obtain ⟨sp, r4, rfl, ha4⟩ := oI_inv ha3
  obtain ⟨a, r5, rfl, ha6⟩ := oR_inv ha4
  obtain ⟨hd0, ha7⟩ := nz_inv ha6
  obtain ⟨hcw0, ⟨h3, h2, h1, hb32⟩, ha5⟩ := ifB_inv ha7
  have hcw := Nat.le_of_ble_eq_true hcw0
  have nl : ∀ z : Int32, 0 ≤ z → ¬ z < 0 := fun z hz q => by
    rw [Int32.lt_iff_toInt_lt] at q
    rw [Int32.le_iff_toInt_le] at hz
    omega
  intro p e R s m args below meth c H locs cells slots ls hCx hf hl hcl hsl0 hS hL hlen hva
  have hml : c.maxLocals = ls.size := by rw [hCx.ml, hL.1, hlen]
  have hfr : 1 ≤ R.frames := by rw [hf]; omega
  have hlo : ((r5.map (rv w)).map fun v => v.category).sum + 18 ≤ R.locals := by rw [rv_cats, hl]; omega
  simp only [List.map_cons]
  rcases ha5 with ⟨hca, hcb, h4, h5, hNn⟩ | ⟨hca, hcb, h4, h5, hel, hNn⟩
  · obtain ⟨ga, -, gca⟩ := hS.arrI hca
    obtain ⟨gb, -, gcb⟩ := hS.arrI hcb
    rw [rvR ga, rvR gb]
    refine w_copy hCx hml hlink (t := 0) (q := (wA w 0, .int)) rfl gca gcb (nl _ h1) (nl _ h2) (nl _ h3) (by rw [List.length_map]; exact h4) (by rw [List.length_map]; exact h5) (Sim.addr (h := h) (H := H) gb) hva (fun T comp hT hk vm' hal i hi => ?_) hfr hlo hd (fun H1 locs1 z1 z2 z3 z4 => ?_)
    · have e1 : ((aI h a).map Value.int).getD (sp.toNatClampNeg + i) .null = .int ((aI h a).getD (sp.toNatClampNeg + i) 0) := by
        rw [List.getD_eq_getElem?_getD, map_get Value.int 0 (by omega)]
        rfl
      rw [e1]
      exact ⟨rfl, trivial⟩
    · rw [← cpy_map] at z1
      exact hN _ _ hNn p e R s m args below meth c H1 locs1 cells slots ls hCx hf hl hcl hsl0 (Sim.tIown (t := 0) (cpy_len h4 h5) hS gb (Or.inl ⟨hcb, rfl⟩) z1 z2 z3) hL hlen z4
  · have own : ∀ {z : Nat}, hC h z = 104 → 32 ≤ z → H[rho w z]? = some (arrL (wA w 3) ((aR h z).map (rvr w))) := by
      intro z hz hz32
      rcases hS.arrO hz with ⟨-, -, q⟩ | ⟨q, -⟩
      · exact q
      · omega
    have gcb := own hcb hb32
    have src : ∃ a0, rv w (.inr (.inr a)) = .ref a0 ∧ H[a0]? = some (arrL (wA w 3) ((aR h a).map (rvr w))) := by
      rcases hS.arrO hca with ⟨q1, -, q⟩ | ⟨q1, q2⟩
      · exact ⟨_, rvR q1, q⟩
      · subst q1
        have g := hCx.k.2.2.2.2.1
        refine ⟨wX w 1, ?_, ?_⟩
        · show rvr w 1 = _
          rw [rvr_pos w (by omega), rho_ext w (by omega)]
        · rw [q2]
          exact (hva.low hCx.k.base g.2).trans g.1
    obtain ⟨a0, ea, gca⟩ := src
    rw [ea, rvR hb32]
    refine w_copy hCx hml hlink (t := 3) (q := (wA w 3, .object "java/lang/Object")) rfl gca gcb (nl _ h1) (nl _ h2) (nl _ h3) (by rw [List.length_map]; exact h4) (by rw [List.length_map]; exact h5) (Sim.addr (h := h) (H := H) hb32) hva (fun T comp hT hk vm' hal i hi => ?_) hfr hlo hd (fun H1 locs1 z1 z2 z3 z4 => ?_)
    · have hlt : sp.toNatClampNeg + i < (aR h a).length := by omega
      have e1 : ((aR h a).map (rvr w)).getD (sp.toNatClampNeg + i) .null = rvr w ((aR h a).getD (sp.toNatClampNeg + i) 0) := by
        rw [List.getD_eq_getElem?_getD, map_get (rvr w) 0 hlt]
        rfl
      rw [e1]
      have hm : (aR h a).getD (sp.toNatClampNeg + i) 0 ∈ aR h a := by
        rw [List.getD_eq_getElem?_getD, List.getElem?_eq_getElem hlt]
        exact List.getElem_mem hlt
      generalize (aR h a).getD (sp.toNatClampNeg + i) 0 = x at hm
      rcases hel x hm with rfl | hx
      · exact ⟨rfl, trivial⟩
      · obtain ⟨cellV, g1, g2, ⟨kC, hkC⟩, hasg⟩ := any_el hS hCx.k hx
        obtain ⟨kA, comp2, r1, r2, r3, -⟩ := (hCx.k.tab.2 3 _ rfl).2
        have hcomp : comp2 = comp := by
          have h7 := hk kA r1
          rw [r2] at h7
          injection h7
        subst hcomp
        obtain ⟨kE, hkE, -⟩ := Vm.findClass_spec r3
        obtain ⟨kC', hkC', -⟩ := hal.2.2 _ _ hkC
        obtain ⟨kE', hkE', -⟩ := hal.2.2 _ _ hkE
        rw [rvr_pos w (by omega)]
        refine ⟨rfl, cellV, (show T.heap[rho w x]? = some cellV by rw [hT]; exact g1), (fun q h => by rw [h] at g2; cases g2), ⟨kC', hkC'⟩, ⟨kE', hkE'⟩, ?_⟩
        show vm'.assignable _ _ = true
        rw [hal.assignable]
        exact hasg _ r3
    · rw [← cpy_map] at z1
      exact hN _ _ hNn p e R s m args below meth c H1 locs1 cells slots ls hCx hf hl hcl hsl0 (hS.tRown hb32 hcb z1 z2 z3) hL hlen z4
theorem lay_gW {t : Nat} (hy : Lay h) : Lay (nW h t) := by
  have h8 := hy.1
  refine hy.grow (Nat.le_succ _) (fun n hn => up1_ne (by omega)) (fun f n hn => if_neg (by omega)) (fun n hn => up1_ne (by omega)) (fun n hn => up1_ne (by omega))
theorem lay_gI {t : Nat} {v : List Int32} (hy : Lay h) : Lay (tI (nW h t) (hZ h) v) := by
  have h8 := hy.1
  exact (lay_gW hy).grow (Nat.le_refl _) (fun n hn => rfl) (fun f n hn => rfl) (fun n hn => up1_ne (by omega)) (fun n hn => rfl)
theorem lay_gL {t : Nat} {v : List Int64} (hy : Lay h) : Lay (tL (nW h t) (hZ h) v) := by
  have h8 := hy.1
  exact (lay_gW hy).grow (Nat.le_refl _) (fun n hn => rfl) (fun f n hn => rfl) (fun n hn => rfl) (fun n hn => up1_ne (by omega))
theorem fV_new {ci k : Nat} {r : vw_C} (hr : vwCl[ci]? = some r) (hk : k < r.2.2) : fV w (nW h (ci + 1)) (fK (fT ci k)) (64 * ci + k) (hZ h) = defaultValue (fT ci k) := by
  have hkc := fK_cases hr hk
  generalize fT ci k = t at hkc ⊢
  have e1 : hI (nW h (ci + 1)) (64 * ci + k) (hZ h) = 0 := if_pos rfl
  have e2 : hL (nW h (ci + 1)) (64 * ci + k) (hZ h) = 0 := if_pos rfl
  have e3 : hR (nW h (ci + 1)) (64 * ci + k) (hZ h) = 0 := if_pos rfl
  cases t <;> first | (simp [fK] at hkc; done) | (simp only [fK, fV, e1, e2, e3]; rfl)
theorem so_new (hX : mdOK X) {idx : Nat} (hd : decode X.1.2.1 pc = .ok (.new idx, 3)) {N : List AV → AH → Nat → Nat → Prop} (hN : ∀ st' h' b' s', N st' h' b' s' → Ex l w lm X d Q (pc + 3) ll st' h' b' s') (ha : aNew X N idx st h bc bs) : Ex l w lm X d Q pc ll st h bc bs := by
  unfold aNew at ha
  split at ha
  · rename_i ci e
    split at ha
    · rename_i q hq
      obtain ⟨b2, s2, rfl, rfl, ha⟩ := ha
      obtain ⟨r, hr, hcl, hins, hini⟩ := hX.2.1.2.2.2.1 _ (lk_mem e)
      dsimp only at hr hcl hins hini
      cases hq.symm.trans hr
      intro p e R s m args below meth c H locs cells slots ls hCx hf hl hcl0 hsl0 hS hL hlen hva
      refine W.newc hCx.x hCx.b hCx.own (hCx.t hcl rfl) (hCx.t hins rfl) (hCx.t hini rfl) rfl hd (by omega) (by omega) (fun cC kC g1 g2 g3 g4 => ?_)
      have hKn := hCx.k.tab.1 ci _ hq
      have hcC : cC = w.1 ci := Option.some.inj (g1.symm.trans hKn.2.1)
      subst hcC
      have hat := hS.newAt
      have hb : t_OB H.size (w.1 ci) q.2.2 (w.2.1 ci) (H.push { cls := w.1 ci, slots := kC.instanceTypes.map defaultValue, vm := .none }) (fun k => defaultValue (fT ci k)) :=
        u_born (fT ci) (fun z hz => hCx.2.2.2.2.1 z hz) (lay_good (la_all hq)) hKn g2 (by simp [blank]) (ty_all hq)
      have hS' : Sim w lm (nW h (ci + 1)) (H.push { cls := w.1 ci, slots := kC.instanceTypes.map defaultValue, vm := .none }) := by
        refine hS.push (fun _ hy => (lay_gW hy)) (t := ci + 1) rfl (by omega) (fun n => rfl) rfl (fun n hn => nW_same hn) (Or.inl ⟨ci, q, ?_, hq, ?_⟩)
        · exact up1_eq
        · rw [hat]
          exact hb.keep rfl (fun k hk => fV_new hq hk)
      have e5 : (rv w (.inr (.inr (hZ h))) : Value) = .ref H.size := by
        rw [rvR hS.2.1, hat]
      have hh := hN _ _ _ _ ha p e R s m args below meth c _ locs (cells + 1) (slots + q.2.2) ls hCx hf hl (by omega) (by omega) hS' hL hlen ⟨by simp; exact Nat.le_succ_of_le hva.1, fun z z1 z2 => by rw [Array.getElem?_push, if_neg (by have := hva.1; omega)]; exact hva.2.1 z z1 z2, hva.2.2⟩
      rw [List.map_cons, e5] at hh
      exact hh
    · exact ha.elim
  · exact ha.elim
theorem so_arrNew {t : Nat} {q : ClassId × FieldType} {H : Heap} {vs : List Value} {h' : AH} {tag : Nat} (hS : Sim w lm h H) (hy : Lay h → Lay h') (hz : hZ h' = hZ h + 1) (ht : tag ≠ 0) (hc : ∀ n, hC h' n = if n = hZ h then tag else hC h n) (hsame : ∀ n, n ≠ hZ h → same1 h h' n) (hcell : ∀ H', H'[rho w (hZ h)]? = some (arrL q.1 vs) → cOK w h' (hZ h) H') : Sim w lm h' (H.push (arrL q.1 vs)) := by
  refine hS.push (fun _ => hy) hz ht hc rfl hsame (hcell _ ?_)
  rw [hS.newAt]
  simp
theorem so_arr {t : ArrayType} (hd : decode X.1.2.1 pc = .ok (.newarray t, 2)) {N : List AV → AH → Nat → Nat → Prop} (hN : ∀ st' h' b' s', N st' h' b' s' → Ex l w lm X d Q (pc + 2) ll st' h' b' s') (ha : aArr N t st h bc bs) : Ex l w lm X d Q pc ll st h bc bs := by
  obtain ⟨n, r, rfl, h0, h6, b2, s2, rfl, rfl, ha1⟩ := oI_inv ha
  have key : ∀ (ti : Nat) (q : ClassId × FieldType) (h' : AH) (v0 : Value), (tysW w)[ti]? = some q → newarray.typeOf t = q.2 → (Cond.arrayClass q.2 ∈ lw_tbl) → (∀ s : State, va_RA s q.1 q.2 → s.vm.findClass ("[" ++ q.2.toString) = some q.1) → componentBytes q.2 ≤ 8 → defaultValue q.2 = v0 →
      (∀ H : Heap, Sim w lm h H → Sim w lm h' (H.push (arrL q.1 (List.replicate n.toNatClampNeg v0)))) → N (.inr (.inr (hZ h)) :: r) h' b2 s2 → Ex l w lm X d Q pc ll (.inl n :: r) h (b2 + 1) (s2 + n.toNatClampNeg) := by
    intro ti q h' v0 hq htq hw hfind hcb hdv hsim hNn
    intro p e R s m args below meth c H locs cells slots ls hCx hf hl hcl0 hsl0 hS hL hlen hva
    rw [List.map_cons]
    refine W.newa hCx.x hCx.b (atype := t) (by rw [htq]; exact hCx.t hw rfl) rfl hd rfl h0 (by rw [htq]; have := Nat.mul_le_mul h6 hcb; omega) (by omega) (by omega) (fun cA kA comp g1 g2 g3 => ?_)
    have hcA : cA = q.1 := by
      rw [htq] at g1
      exact Option.some.inj (g1.symm.trans (hfind s (hCx.k.tab.2 ti q hq).2))
    subst hcA
    have e6 : ({ cls := q.1, slots := Array.replicate n.toNatClampNeg (defaultValue (newarray.typeOf t)), vm := .none } : Cell) = arrL q.1 (List.replicate n.toNatClampNeg v0) := by
      rw [htq, hdv]
      unfold arrL
      rw [List.toArray_replicate]
    rw [e6]
    have e5 : (rv w (.inr (.inr (hZ h))) : Value) = .ref H.size := by rw [rvR hS.2.1, hS.newAt]
    have hh := hN _ _ _ _ hNn p e R s m args below meth c _ locs (cells + 1) (slots + n.toNatClampNeg) ls hCx hf hl (by omega) (by omega) (hsim H hS) hL hlen ⟨by simp; exact Nat.le_succ_of_le hva.1, fun z z1 z2 => by rw [Array.getElem?_push, if_neg (by have := hva.1; omega)]; exact hva.2.1 z z1 z2, hva.2.2⟩
    rw [List.map_cons, e5] at hh
    exact hh
  have sI : ∀ (tag : Nat) (cA : ClassId) (H : Heap), tag ≠ 0 → Sim w lm h H → (∀ (h' : AH) (H' : Heap), hC h' (hZ h) = tag → H'[rho w (hZ h)]? = some (arrL cA ((aI h' (hZ h)).map Value.int)) → cOK w h' (hZ h) H') → Sim w lm (tI (nW h tag) (hZ h) (List.replicate n.toNatClampNeg 0)) (H.push (arrL cA (List.replicate n.toNatClampNeg (.int 0)))) := by
    intro tag cA H ht hS hk
    refine so_arrNew (q := (cA, .int)) (t := 0) hS lay_gI rfl ht (fun _ => rfl) (fun n hn => ?_) (fun H' hH' => hk _ H' up1_eq ?_)
    · obtain ⟨a1, a2, a3, a4, a5, a6⟩ := nW_same (t := tag) hn
      exact ⟨a1, a2, a3, (up1_ne hn).trans a4, a5, a6⟩
    · rw [show aI (tI (nW h tag) (hZ h) (List.replicate n.toNatClampNeg 0)) (hZ h) = List.replicate n.toNatClampNeg 0 from up1_eq, List.map_replicate]
      exact hH'
  cases t with
  | int =>
    exact key 0 (wA w 0, .int) _ (.int 0) rfl rfl arrInt (fun s q => q) (show componentBytes FieldType.int ≤ 8 by decide) rfl (fun H hS => sI 101 (wA w 0) H (by decide) hS (fun h' H' z1 z2 => Or.inr (Or.inl ⟨z1, z2⟩))) ha1
  | boolean =>
    exact key 2 (wA w 2, .boolean) _ (.int 0) rfl rfl arrBool (fun s q => q) (show componentBytes FieldType.boolean ≤ 8 by decide) rfl (fun H hS => sI 103 (wA w 2) H (by decide) hS (fun h' H' z1 z2 => Or.inr (Or.inr (Or.inr (Or.inl ⟨z1, z2⟩))))) ha1
  | long =>
    refine key 1 (wA w 1, .long) _ (.long 0) rfl rfl arrLong (fun s q => q) (show componentBytes FieldType.long ≤ 8 by decide) rfl (fun H hS => ?_) ha1
    refine so_arrNew (q := (wA w 1, .long)) (t := 1) hS lay_gL rfl (by decide) (fun _ => rfl) (fun n hn => ?_) (fun H' hH' => Or.inr (Or.inr (Or.inl ⟨up1_eq, ?_⟩)))
    · obtain ⟨a1, a2, a3, a4, a5, a6⟩ := nW_same (t := 102) hn
      exact ⟨a1, a2, a3, a4, (up1_ne hn).trans a5, a6⟩
    · rw [show aL (tL (nW h 102) (hZ h) (List.replicate n.toNatClampNeg 0)) (hZ h) = List.replicate n.toNatClampNeg 0 from up1_eq, List.map_replicate]
      exact hH'
  | _ => exact ha1.elim
theorem so_anew {idx : Nat} {n : Int32} {b2 s2 : Nat} (hd : decode X.1.2.1 pc = .ok (.anewarray idx, 3)) (hcl : Cond.classLink X.1.1.cls idx "java/lang/Object" ∈ lw_tbl) (h0 : ¬ n < 0) (h6 : n.toNatClampNeg ≤ 60000) (k : Ex l w lm X d Q (pc + 3) ll (.inr (.inr (hZ h)) :: rest) (tR (nW h 104) (hZ h) (List.replicate n.toNatClampNeg 0)) b2 s2) : Ex l w lm X d Q pc ll (.inl n :: rest) h (b2 + 1) (s2 + n.toNatClampNeg) := by
  intro p e R s m args below meth c H locs cells slots ls hCx hf hl hcl0 hsl0 hS hL hlen hva
  rw [List.map_cons]
  refine W.anew hCx.x hCx.b hCx.own (hCx.t hcl rfl) (va_AO.use hCx.k.2.2.2.2.2.2.2.2.2.1) rfl hd rfl h0 (by omega) (by omega) (by omega) (fun cA kA comp g1 g2 g3 g4 => ?_)
  obtain ⟨kA', comp', r1, r2, r3, r4⟩ := (hCx.k.tab.2 3 _ rfl).2
  have hcA : cA = wA w 3 := Option.some.inj (g1.symm.trans r4)
  subst hcA
  have e6 : ({ cls := wA w 3, slots := Array.replicate n.toNatClampNeg .null, vm := .none } : Cell) = arrL (wA w 3) (List.replicate n.toNatClampNeg .null) := by
    unfold arrL
    rw [List.toArray_replicate]
  rw [e6]
  have hS' : Sim w lm (tR (nW h 104) (hZ h) (List.replicate n.toNatClampNeg 0)) (H.push (arrL (wA w 3) (List.replicate n.toNatClampNeg .null))) := by
    refine so_arrNew (q := (wA w 3, .int)) (t := 3) hS (fun hy => (lay_gW hy)) rfl (by decide) (fun _ => rfl) (fun n hn => ?_) (fun H' hH' => Or.inr (Or.inr (Or.inr (Or.inr ⟨up1_eq, ?_⟩))))
    · obtain ⟨a1, a2, a3, a4, a5, a6⟩ := nW_same (t := 104) hn
      exact ⟨a1, a2, a3, a4, a5, (up1_ne hn).trans a6⟩
    · rw [show aR (tR (nW h 104) (hZ h) (List.replicate n.toNatClampNeg 0)) (hZ h) = List.replicate n.toNatClampNeg 0 from up1_eq, List.map_replicate]
      exact hH'
  have e5 : (rv w (.inr (.inr (hZ h))) : Value) = .ref H.size := by rw [rvR hS.2.1, hS.newAt]
  have hh := k p e R s m args below meth c _ locs (cells + 1) (slots + n.toNatClampNeg) ls hCx hf hl (by omega) (by omega) hS' hL hlen ⟨by simp; exact Nat.le_succ_of_le hva.1, fun z z1 z2 => by rw [Array.getElem?_push, if_neg (by have := hva.1; omega)]; exact hva.2.1 z z1 z2, hva.2.2⟩
  rw [List.map_cons, e5] at hh
  exact hh
end Make
end
section
/-! ===== calls, returns ===== -/
section Calls
variable {l : Launch} {w : WD} {lm : Bool} {X : MD} {d : Nat} {Q : Option AV → AH → Prop} {pc : Nat} {ll : List (Option AV)} {st rest : List AV} {h : AH} {bc bs a : Nat}
theorem good_all {q : Cond} (h : q ∈ lw_g) : (q.onTables && q.keeps) = true ∨ ∃ ty, q = .arrayClass ty := good_of_word (List.mem_filter.mp h).2
theorem good_ws {M : MH} (hc : Cond.code M.1 M.2.1 M.2.2.1 M.2.2.2 ∈ lw_tbl) : GoodIn lw_g (wsD M) := by
  intro q hq
  rcases List.mem_cons.mp hq with e | hq
  · subst e
    have := lw_in hc rfl
    exact ⟨this, good_all this⟩
  · exact ⟨hq, good_all hq⟩
theorem pc_blind (as : List AV) : FrameBlind (pcD w lm as h) := by
  intro a U g mk hq
  obtain ⟨h1, h2, h3⟩ := hq
  exact ⟨h1, h2.moved (U := U.calling g mk a) (State.WarmedH.refl U) h2.base (fun q _ => rfl), h3⟩
theorem pc_here {p : Program} {s : State} {m : MethodId} {args : Array Value} {meth : Method} {c : Code} {H : Heap} {locs : List Loc} (as : List AV) (hCx : Cx w X p s m args meth c) (hS : Sim w lm h H) (hva : va_S (wO w) s.heap H locs) : ∀ U : State, U.heap = H → s.WarmedH U.vm → pcD w lm as h (as.map (rv w)).toArray U := by
  intro U hU hW
  have hb := hCx.k.base
  exact ⟨rfl, hCx.k.moved hW (by rw [hU]; exact Nat.le_trans hb hva.1) (fun q hq => by rw [hU]; exact hva.low hb hq), by rw [hU]; exact hS⟩
/-- behind a call -/
theorem run_on {p : Program} {e : Env} {R : Room} {s : State} {m : MethodId} {args : Array Value} {below : List Frame} {meth : Method} {c : Code} {H : Heap} {locs : List Loc} {cells slots mc ms n : Nat} {ls : Array Slot} {st0 rs : List Value} {Z : State → Prop} {K : Option AV → AH → Prop} {arr : Array Value}
    (hrun : ∀ T : State, T.heap = H → Stand p l e R s m args below meth c T locs cells slots → ∃ (v : Option Value) (st₀ t T' : State) (L : List Loc), st₀.heap = H ∧ Stand p l e R s m args below meth c T' (locs ++ L) (cells + mc) (slots + ms) ∧ (∀ q ∈ L, wO w q.base) ∧ T'.heap = t.heap ∧ qcD w lm K arr st₀ (.returned v) t ∧ Goes p e below T (F0 m pc ls st0) T' (F0 m (pc + n) ls (v.toList ++ rs)))
    (hS : Sim w lm h H) (hva : va_S (wO w) s.heap H locs) (hsz : wB w ≤ s.heap.size) (kk : ∀ (v : Option AV) (h' : AH) (H' : Heap) (locs' : List Loc), K v h' → Sim w lm h' H' → va_S (wO w) s.heap H' locs' → W p l e R s m args below meth c H' locs' (cells + mc) (slots + ms) Z (F0 m (pc + n) ls ((v.map (rv w)).toList ++ rs))) : W p l e R s m args below meth c H locs cells slots Z (F0 m pc ls st0) := by
  intro T hT XX
  obtain ⟨v, st₀, t, T', L, g0, X', hL, e1, ⟨v', h', e2, hK, hS', hgrow, hlow⟩, hgo⟩ := hrun T hT XX
  have e3 : v = v'.map (rv w) := by injection e2
  subst e3
  rw [g0] at hgrow hlow
  have hva' : va_S (wO w) s.heap t.heap (locs ++ L) := by
    refine ⟨Nat.le_trans hva.1 hgrow, fun q q1 q2 => ?_, fun q hq => ?_⟩
    · have q3 : q < wB w := Nat.lt_of_not_le q2
      rw [hlow q q3]
      exact hva.2.1 q q1 q2
    · rcases List.mem_append.mp hq with z | z
      · exact hva.2.2 q z
      · exact hL q z
  obtain ⟨t2, a1, b1⟩ := kk v' h' t.heap (locs ++ L) hK hS' hva' T' e1 X'
  exact ⟨t2, hgo t2 a1, b1⟩
theorem Cal.inv {M : MH} {as : List AV} {K : Option AV → AH → Nat → Nat → Prop} (hc : Cal l w lm d M as h bc bs K) : ∃ c1 s1 c2 s2 : Nat, bc = c1 + c2 ∧ bs = s1 + s2 ∧ Con l w lm d M as h c1 s1 (fun v h' => K v h' c2 s2) := hc
theorem tagN_ci {ci : Nat} {r : vw_C} (hr : vwCl[ci]? = some r) : tagN (ci + 1) = r.1 := by
  unfold tagN
  have := vw_lt hr
  rw [if_neg (by omega), Nat.add_sub_cancel, hr]
theorem so_callV (hX : mdOK X) {idx tag np : Nat} {M : MH} {as : List AV} (hd : decode X.1.2.1 pc = .ok (.invokevirtual idx, 3)) (hM : plM X.1.1.cls (idx, 0, tag, np, M)) (hnp : as.length = np) (hc : hC h a = tag) (hcw : cws rest ≤ 8) (hst : st = as.reverse ++ .inr (.inr a) :: rest)
    {K : Option AV → AH → Nat → Nat → Prop} (hcal : Cal l w lm d M (.inr (.inr a) :: as) h bc bs K) (hK : ∀ v h' c s, K v h' c s → Ex l w lm X (d + 1) Q (pc + 3) ll (v.toList ++ rest) h' c s) : Ex l w lm X (d + 1) Q pc ll st h bc bs := by
  subst hst
  obtain ⟨c1, s1, c2, s2, rfl, rfl, hcon⟩ := hcal.inv
  obtain ⟨⟨hcode, hini, hm13, hy1, hy2, hpar⟩, hlink, hinst, hsel, hcls, htag⟩ := hM
  dsimp only at hcode hini hm13 hy1 hy2 hpar hlink hinst hsel hcls htag
  intro p e R s m args below meth c H locs cells slots ls hCx hf hl hcl0 hsl0 hS hL hlen hva
  have hrecv : (rv w (.inr (.inr a)) : Value) = .ref (rho w a) ∧ ∃ cell : Cell, H[rho w a]? = some cell ∧ cell.vm.isStatics = false ∧ s.vm.findClass (tagN tag) = some cell.cls := by
    rcases htag with rfl | ⟨ci, r, rfl, hr⟩
    · obtain ⟨b1, b2, -⟩ := hS.str hc
      have e0 : wX w (2 + (a - 2)) = wX w a := by congr 1; omega
      obtain ⟨cell, g1, g2, g3⟩ := vk_recv (i := a - 2) hCx.k.2.1 (by omega) hva
      rw [e0] at g1
      refine ⟨by rw [show rv w (.inr (.inr a)) = rvr w a from rfl, rvr_pos w (by omega)], cell, by rw [rho_ext w (by omega)]; exact g1, g2, g3⟩
    · obtain ⟨b1, -, -⟩ := hS.obj hc hr
      rw [tagN_ci hr]
      exact ⟨rvR b1, hS.recv hCx.k.tab hc hr⟩
  have hG : GoodIn lw_g (wsV X.1.1.cls idx (tagN tag) M.1 (wsD M)) := by
    intro q hq
    rcases List.mem_append.mp hq with z | z
    · have mem : q ∈ lw_g := by
        simp only [List.mem_cons, List.not_mem_nil, or_false] at z
        rcases z with rfl | rfl | rfl | rfl
        · exact lw_in hlink rfl
        · exact lw_in hinst rfl
        · exact lw_in hsel rfl
        · exact lw_in (hcls ▸ hini) rfl
      exact ⟨mem, good_all mem⟩
    · exact good_ws hcode q z
  have hrun := W.runV (e := e) (below := below) (meth := meth) (locs := locs) (As := as.map (rv w)) (rest := rest.map (rv w)) (b := rho w a) (g := F0 m pc ls ((as.reverse ++ .inr (.inr a) :: rest).map (rv w))) ⟨hCx.x, hCx.b, hCx.ml, hCx.own, hCx.2.2.2.2.1⟩ hcon (cwV (n := np) hCx.2.2.2.2.1 hG rfl rfl rfl ⟨hcls, hy1, hy2, hpar⟩ ⟨by rw [hf]; exact Nat.le_refl _, by rw [hl]; show 8 + (M.2.2.1 + 11) + 64 * d ≤ _; omega⟩)
    (H := H) ⟨pc_blind _, hrecv.2, fun U hU hW => by have := pc_here (.inr (.inr a) :: as) hCx hS hva U hU hW; rw [List.map_cons, hrecv.1] at this; exact this⟩
    rfl (by rw [List.length_map]; exact hnp) (by rw [hL.1]; exact hlen) (by simp [hrecv.1]) (by show 2 * 0 + _ ≤ _; rw [rv_cats]; omega) hd (cells := cells) (slots := slots) ⟨by show cells + c1 ≤ _; omega, by show slots + s1 ≤ _; omega⟩
  refine run_on (n := 3) hrun hS hva hCx.k.base (fun v h' H' locs' hKv hS' hva' => ?_)
  have hh := hK v h' c2 s2 hKv p e R s m args below meth c H' locs' (cells + c1) (slots + s1) ls hCx hf hl (by omega) (by omega) hS' hL hlen hva'
  rw [List.map_append] at hh
  cases v with
  | none => exact hh
  | some v => exact hh
theorem so_callS (hX : mdOK X) {idx tag np : Nat} {M : MH} {as : List AV} (hd : decode X.1.2.1 pc = .ok (.invokestatic idx, 3)) (hM : plM X.1.1.cls (idx, 1, tag, np, M)) (hnp : as.length = np) (hcw : cws rest ≤ 8) (hst : st = as.reverse ++ rest)
    {K : Option AV → AH → Nat → Nat → Prop} (hcal : Cal l w lm d M as h bc bs K) (hK : ∀ v h' c s, K v h' c s → Ex l w lm X (d + 1) Q (pc + 3) ll (v.toList ++ rest) h' c s) : Ex l w lm X (d + 1) Q pc ll st h bc bs := by
  subst hst
  obtain ⟨c1, s1, c2, s2, rfl, rfl, hcon⟩ := hcal.inv
  obtain ⟨⟨hcode, hini, hm13, hy1, hy2, hpar⟩, hlink, hstat⟩ := hM
  dsimp only at hcode hini hm13 hy1 hy2 hpar hlink hstat
  intro p e R s m args below meth c H locs cells slots ls hCx hf hl hcl0 hsl0 hS hL hlen hva
  have hrun := W.runS (e := e) (below := below) (meth := meth) (locs := locs) (As := as.map (rv w)) (rest := rest.map (rv w)) (g := F0 m pc ls ((as.reverse ++ rest).map (rv w))) ⟨hCx.x, hCx.b, hCx.ml, hCx.own, hCx.2.2.2.2.1⟩ hcon ⟨callB_of (n := np) hCx.2.2.2.2.1 (good_ws hcode) rfl rfl rfl (hCx.t hini rfl) (hCx.t hlink rfl) ⟨hy1, hy2, hpar⟩ ⟨by rw [hf]; exact Nat.le_refl _, by rw [hl]; show 8 + (M.2.2.1 + 11) + 64 * d ≤ _; omega⟩, hCx.t hstat rfl⟩
    (H := H) ⟨pc_blind _, pc_here as hCx hS hva⟩
    rfl (by rw [List.length_map]; exact hnp) (by rw [hL.1]; exact hlen) (by simp) (by show 2 * 0 + _ ≤ _; rw [rv_cats]; omega) hd (cells := cells) (slots := slots) ⟨by show cells + c1 ≤ _; omega, by show slots + s1 ≤ _; omega⟩
  refine run_on (n := 3) hrun hS hva hCx.k.base (fun v h' H' locs' hKv hS' hva' => ?_)
  have hh := hK v h' c2 s2 hKv p e R s m args below meth c H' locs' (cells + c1) (slots + s1) ls hCx hf hl (by omega) (by omega) hS' hL hlen hva'
  rw [List.map_append] at hh
  cases v with
  | none => exact hh
  | some v => exact hh
theorem so_callI (hX : mdOK X) {idx tag np : Nat} {M : MH} {as : List AV} (hd : decode X.1.2.1 pc = .ok (.invokespecial idx, 3)) (hM : plM X.1.1.cls (idx, 2, tag, np, M)) (hnp : as.length = np) (hc : hC h a = tag) (hcw : cws rest ≤ 8) (hst : st = as.reverse ++ .inr (.inr a) :: rest)
    {K : Option AV → AH → Nat → Nat → Prop} (hcal : Cal l w lm d M (.inr (.inr a) :: as) h bc bs K) (hK : ∀ v h' c s, K v h' c s → Ex l w lm X (d + 1) Q (pc + 3) ll (v.toList ++ rest) h' c s) : Ex l w lm X (d + 1) Q pc ll st h bc bs := by
  subst hst
  obtain ⟨c1, s1, c2, s2, rfl, rfl, hcon⟩ := hcal.inv
  obtain ⟨⟨hcode, hini, hm13, hy1, hy2, hpar⟩, hlink, hinst, hnm, hret, ci, r, htag, hr⟩ := hM
  dsimp only at hcode hini hm13 hy1 hy2 hpar hlink hinst hnm hret htag hr
  intro p e R s m args below meth c H locs cells slots ls hCx hf hl hcl0 hsl0 hS hL hlen hva
  have hb1 : (rv w (.inr (.inr a)) : Value) = .ref (rho w a) := rvR (hS.obj (hc.trans htag) hr).1
  obtain ⟨y, by_, mL, rt⟩ := M
  dsimp only at hret
  subst hret
  have hrun := W.runI (e := e) (below := below) (meth := meth) (locs := locs) (As := as.map (rv w)) (rest := rest.map (rv w)) (b := rho w a) (g := F0 m pc ls ((as.reverse ++ .inr (.inr a) :: rest).map (rv w))) ⟨hCx.x, hCx.b, hCx.ml, hCx.own, hCx.2.2.2.2.1⟩ hcon (cwI (n := np) hCx.2.2.2.2.1 (good_ws hcode) rfl rfl rfl (hCx.t hini rfl) (hCx.t hlink rfl) (hCx.t hinst rfl) hnm ⟨hy1, hy2, hpar⟩ ⟨by rw [hf]; exact Nat.le_refl _, by rw [hl]; show 8 + (mL + 11) + 64 * d ≤ _; dsimp only at hm13; omega⟩)
    (H := H) ⟨pc_blind _, fun U hU hW => by have := pc_here (.inr (.inr a) :: as) hCx hS hva U hU hW; rw [List.map_cons, hb1] at this; exact this⟩
    rfl (by rw [List.length_map]; exact hnp) (by rw [hL.1]; exact hlen) (by simp [hb1]) (by show 2 * 0 + _ ≤ _; rw [rv_cats]; omega) hd (cells := cells) (slots := slots) ⟨by show cells + c1 ≤ _; omega, by show slots + s1 ≤ _; omega⟩
  refine run_on (n := 3) hrun hS hva hCx.k.base (fun v h' H' locs' hKv hS' hva' => ?_)
  have hh := hK v h' c2 s2 hKv p e R s m args below meth c H' locs' (cells + c1) (slots + s1) ls hCx hf hl (by omega) (by omega) hS' hL hlen hva'
  rw [List.map_append] at hh
  cases v with
  | none => exact hh
  | some v => exact hh
theorem so_callN (hX : mdOK X) {idx tag np : Nat} {M : MH} {as : List AV} (hd : decode X.1.2.1 pc = .ok (.invokespecial idx, 3)) (hM : plM X.1.1.cls (idx, 3, tag, np, M)) (hnp : as.length = np) (hc : hC h a = tag) (hcw : cws rest ≤ 8) (hst : st = as.reverse ++ .inr (.inr a) :: rest)
    {K : Option AV → AH → Nat → Nat → Prop} (hcal : Cal l w lm d M (.inr (.inr a) :: as) h bc bs K) (hK : ∀ v h' c s, K v h' c s → Ex l w lm X (d + 1) Q (pc + 3) ll (v.toList ++ rest) h' c s) : Ex l w lm X (d + 1) Q pc ll st h bc bs := by
  subst hst
  obtain ⟨c1, s1, c2, s2, rfl, rfl, hcon⟩ := hcal.inv
  obtain ⟨⟨hcode, hini, hm13, hy1, hy2, hpar⟩, ⟨host, hlink⟩, hinst, hnm, hret, ci, r, htag, hr⟩ := hM
  dsimp only at hcode hini hm13 hy1 hy2 hpar hlink hinst hnm hret htag hr
  intro p e R s m args below meth c H locs cells slots ls hCx hf hl hcl0 hsl0 hS hL hlen hva
  have hb1 : (rv w (.inr (.inr a)) : Value) = .ref (rho w a) := rvR (hS.obj (hc.trans htag) hr).1
  obtain ⟨y, by_, mL, rt⟩ := M
  dsimp only at hret
  subst hret
  have hNw : va_Nw (.methodLinkNest X.1.1.cls idx y host) s := hCx.k.2.2.2.2.2.2.2.2.2.2.1 _ hlink rfl
  have hrun := va_runIN (e := e) (below := below) (meth := meth) (locs := locs) (As := as.map (rv w)) (rest := rest.map (rv w)) (b := rho w a) (g := F0 m pc ls ((as.reverse ++ .inr (.inr a) :: rest).map (rv w))) ⟨hCx.x, hCx.b, hCx.ml, hCx.own, hCx.2.2.2.2.1⟩ hcon ⟨va_cnB (n := np) hCx.2.2.2.2.1 (good_ws hcode) rfl rfl rfl hNw (hCx.t hini rfl) ⟨hy1, hy2, hpar⟩ ⟨by rw [hf]; exact Nat.le_refl _, by rw [hl]; show 8 + (mL + 11) + 64 * d ≤ _; dsimp only at hm13; omega⟩, hnm, hCx.t hinst rfl⟩
    (H := H) ⟨pc_blind _, fun U hU hW => by have := pc_here (.inr (.inr a) :: as) hCx hS hva U hU hW; rw [List.map_cons, hb1] at this; exact this⟩
    rfl (by rw [List.length_map]; exact hnp) (by rw [hL.1]; exact hlen) (by simp [hb1]) (by show 2 * 0 + _ ≤ _; rw [rv_cats]; omega) hd (cells := cells) (slots := slots) ⟨by show cells + c1 ≤ _; omega, by show slots + s1 ≤ _; omega⟩
  refine run_on (n := 3) (mc := c1) (ms := s1) (rs := rest.map (rv w)) (K := fun v h' => K v h' c2 s2) (arr := (Value.ref (rho w a) :: as.map (rv w)).toArray) (fun T hT XX => ?_) hS hva hCx.k.base (fun v h' H' locs' hKv hS' hva' => ?_)
  · obtain ⟨v, st₀, t, T', L, g0, g1, g2, g3, -, g5, g6⟩ := hrun T hT XX
    exact ⟨v, st₀, t, T', L, g0, g1, g2, g3, g5, g6⟩
  have hh := hK v h' c2 s2 hKv p e R s m args below meth c H' locs' (cells + c1) (slots + s1) ls hCx hf hl (by omega) (by omega) hS' hL hlen hva'
  rw [List.map_append] at hh
  cases v with
  | none => exact hh
  | some v => exact hh
theorem so_callF (hX : mdOK X) {idx tag np cnt : Nat} {M : MH} {as : List AV} (hd : decode X.1.2.1 pc = .ok (.invokeinterface idx cnt, 5)) (hM : plM X.1.1.cls (idx, 4, tag, np, M)) (hnp : as.length = np) (hc : hC h a = tag) (hcw : cws rest ≤ 8) (hst : st = as.reverse ++ .inr (.inr a) :: rest)
    {K : Option AV → AH → Nat → Nat → Prop} (hcal : Cal l w lm d M (.inr (.inr a) :: as) h bc bs K) (hK : ∀ v h' c s, K v h' c s → Ex l w lm X (d + 1) Q (pc + 5) ll (v.toList ++ rest) h' c s) : Ex l w lm X (d + 1) Q pc ll st h bc bs := by
  subst hst
  obtain ⟨c1, s1, c2, s2, rfl, rfl, hcon⟩ := hcal.inv
  obtain ⟨⟨hcode, hini, hm13, hy1, hy2, hpar⟩, htag, hlink, hsel, hinst, hfw, hcls⟩ := hM
  dsimp only at hcode hini hm13 hy1 hy2 hpar hlink hinst hsel hfw hcls htag
  intro p e R s m args below meth c H locs cells slots ls hCx hf hl hcl0 hsl0 hS hL hlen hva
  have hc1 : hC h a = 0 + 1 := hc.trans htag
  have hb1 : (rv w (.inr (.inr a)) : Value) = .ref (rho w a) := rvR (hS.obj hc1 (r := (RJx4a65c, TJx4a65c, 3)) rfl).1
  have hG : GoodIn lw_g (va_wsF X.1.1.cls idx "java/util/ArrayList" (lName M) M.1 (wsD M)) := by
    intro q hq
    rcases List.mem_append.mp hq with z | z
    · have mem : q ∈ lw_g := by
        simp only [List.mem_cons, List.not_mem_nil, or_false] at z
        rcases z with rfl | rfl | rfl | rfl
        · exact lw_in hlink rfl
        · exact lw_in hsel rfl
        · exact lw_in hinst rfl
        · exact lw_in hini rfl
      exact ⟨mem, good_all mem⟩
    · exact good_ws hcode q z
  have hat := (hCx.k.tab.1 0 _ rfl).2
  have hrun := va_runF (e := e) (below := below) (meth := meth) (locs := locs) (As := as.map (rv w)) (rest := rest.map (rv w)) (b := rho w a) (g := F0 m pc ls ((as.reverse ++ .inr (.inr a) :: rest).map (rv w))) hat ⟨hCx.x, hCx.b, hCx.ml, hCx.own, hCx.2.2.2.2.1⟩ hcon (va_cwF (n := np) hCx.2.2.2.2.1 hG rfl rfl rfl (hCx.k.2.2.2.2.2.2.2.2.2.2.2.1 _ hfw) ⟨show "java/util/List" ≠ _ by decide, show "java/util/List" ≠ _ by decide, hpar⟩ ⟨by rw [hf]; exact Nat.le_refl _, by rw [hl]; show 8 + (M.2.2.1 + 11) + 64 * d ≤ _; omega⟩)
    (H := H) ⟨pc_blind _, hS.recv hCx.k.tab hc1 rfl, fun U hU hW => by have := pc_here (.inr (.inr a) :: as) hCx hS hva U hU hW; rw [List.map_cons, hb1] at this; exact this⟩
    rfl (by rw [List.length_map]; exact hnp) (by rw [hL.1]; exact hlen) (by simp [hb1]) (by show 2 * 0 + _ ≤ _; rw [rv_cats]; omega) hd (cells := cells) (slots := slots) ⟨by show cells + c1 ≤ _; omega, by show slots + s1 ≤ _; omega⟩
  refine run_on (n := 5) (mc := c1) (ms := s1) (rs := rest.map (rv w)) (K := fun v h' => K v h' c2 s2) (arr := (Value.ref (rho w a) :: as.map (rv w)).toArray) (fun T hT XX => ?_) hS hva hCx.k.base (fun v h' H' locs' hKv hS' hva' => ?_)
  · obtain ⟨v, st₀, t, T', L, g0, g1, g2, g3, -, g5, g6⟩ := hrun T hT XX
    exact ⟨v, st₀, t, T', L, g0, g1, g2, g3, g5, g6⟩
  have hh := hK v h' c2 s2 hKv p e R s m args below meth c H' locs' (cells + c1) (slots + s1) ls hCx hf hl (by omega) (by omega) hS' hL hlen hva'
  rw [List.map_append] at hh
  cases v with
  | none => exact hh
  | some v => exact hh
end Calls
end
section
/-! ===== the whole machine ===== -/
section Rest
variable {l : Launch} {w : WD} {lm : Bool} {X : MD} {d : Nat} {Q : Option AV → AH → Prop} {pc : Nat} {ll : List (Option AV)} {st rest : List AV} {h : AH} {bc bs a : Nat}
theorem so_store1 {k : Nat} {v : AV} {rest st : List AV} {n : Nat} {K : List (Option AV) → Prop} (hv : cw v = 1) (hs : st1 ll k v K) (hK : ∀ l2, K l2 → Ex l w lm X d Q (pc + n) l2 rest h bc bs)
    (row : ∀ (p : Program) (e : Env) (R : Room) (s : State) (m : MethodId) (args : Array Value) (below : List Frame) (meth : Method) (c : Code) (H : Heap) (locs : List Loc) (cells slots : Nat) (Z : State → Prop) (ls ls' : Array Slot), Cx w X p s m args meth c → LOK w ls ll → storeLocals ls k (rv w v) = some ls' →
      W p l e R s m args below meth c H locs cells slots Z (F0 m (pc + n) ls' (rest.map (rv w))) → W p l e R s m args below meth c H locs cells slots Z (F0 m pc ls (st.map (rv w)))) : Ex l w lm X d Q pc ll st h bc bs := by
  obtain ⟨l2, h1, h2⟩ := st1_two hs
  intro p e R s m args below meth c H locs cells slots ls hCx hf hl hcl0 hsl0 hS hL hlen hva
  obtain ⟨ls', e', hL', hl2⟩ := hL.store1 hv h1
  exact row p e R s m args below meth c H locs cells slots _ ls ls' hCx hL e' (hK l2 h2 p e R s m args below meth c H locs cells slots ls' hCx hf hl hcl0 hsl0 hS hL' (hl2.trans hlen) hva)
theorem so_store2 {k : Nat} {v : AV} {rest st : List AV} {n : Nat} {K : List (Option AV) → Prop} (hv : cw v = 2) (hs : st2 ll k v K) (hK : ∀ l2, K l2 → Ex l w lm X d Q (pc + n) l2 rest h bc bs)
    (row : ∀ (p : Program) (e : Env) (R : Room) (s : State) (m : MethodId) (args : Array Value) (below : List Frame) (meth : Method) (c : Code) (H : Heap) (locs : List Loc) (cells slots : Nat) (Z : State → Prop) (ls ls' : Array Slot), Cx w X p s m args meth c → LOK w ls ll → storeLocals ls k (rv w v) = some ls' →
      W p l e R s m args below meth c H locs cells slots Z (F0 m (pc + n) ls' (rest.map (rv w))) → W p l e R s m args below meth c H locs cells slots Z (F0 m pc ls (st.map (rv w)))) : Ex l w lm X d Q pc ll st h bc bs := by
  obtain ⟨l2, h1, h2⟩ := st2_two hs
  intro p e R s m args below meth c H locs cells slots ls hCx hf hl hcl0 hsl0 hS hL hlen hva
  obtain ⟨ls', e', hL', hl2⟩ := hL.store2 hv h1
  exact row p e R s m args below meth c H locs cells slots _ ls ls' hCx hL e' (hK l2 h2 p e R s m args below meth c H locs cells slots ls' hCx hf hl hcl0 hsl0 hS hL' (hl2.trans hlen) hva)
/-- a branch: both ways -/
theorem Ex.both {pc1 pc2 : Nat} {st' : List AV} {c1 c2 : Prop}
    (row : ∀ (p : Program) (e : Env) (R : Room) (s : State) (m : MethodId) (args : Array Value) (below : List Frame) (meth : Method) (c : Code) (H : Heap) (locs : List Loc) (cells slots : Nat) (Z : State → Prop) (ls : Array Slot), Cx w X p s m args meth c → Sim w lm h H →
      (c1 → W p l e R s m args below meth c H locs cells slots Z (F0 m pc1 ls (st'.map (rv w)))) → (c2 → W p l e R s m args below meth c H locs cells slots Z (F0 m pc2 ls (st'.map (rv w)))) → W p l e R s m args below meth c H locs cells slots Z (F0 m pc ls (st.map (rv w))))
    (k1 : c1 → Ex l w lm X d Q pc1 ll st' h bc bs) (k2 : c2 → Ex l w lm X d Q pc2 ll st' h bc bs) : Ex l w lm X d Q pc ll st h bc bs := by
  intro p e R s m args below meth c H locs cells slots ls hCx hf hl hcl0 hsl0 hS hL hlen hva
  exact row p e R s m args below meth c H locs cells slots _ ls hCx hS (fun q => k1 q p e R s m args below meth c H locs cells slots ls hCx hf hl hcl0 hsl0 hS hL hlen hva) (fun q => k2 q p e R s m args below meth c H locs cells slots ls hCx hf hl hcl0 hsl0 hS hL hlen hva)
theorem rvo_inj {s : State} (hK : WK w s) {x y : Nat} (hx : (x = 24 ∧ y = 24) ∨ (rOK x ∧ rOK y)) (e : rvo w x = rvo w y) : x = y := by
  rcases hx with ⟨rfl, rfl⟩ | ⟨hx, hy⟩
  · rfl
  unfold rvo rho at e
  have h1 := hK.ext (n := 1) (by decide)
  unfold rOK at hx hy
  by_cases x0 : x = 0
  · subst x0
    by_cases y0 : y = 0
    · exact y0.symm
    · rw [if_pos rfl, if_neg y0] at e; cases e
  · by_cases y0 : y = 0
    · subst y0
      rw [if_neg x0, if_pos rfl] at e; cases e
    · rw [if_neg x0, if_neg y0] at e
      have e := Option.some.inj e
      by_cases a1 : x < 32 <;> by_cases b1 : y < 32
      · omega
      · rw [if_pos a1, if_neg b1] at e
        have c1 : x = 1 := by omega
        subst c1
        omega
      · rw [if_neg a1, if_pos b1] at e
        have c2 : y = 1 := by omega
        subst c2
        omega
      · rw [if_neg a1, if_neg b1] at e
        omega
theorem plM0 {own : String} {idx tag np : Nat} {M : MH} (h : plM own (idx, 0, tag, np, M)) : tag = 12 ∨ ∃ (ci : Nat) (r : vw_C), tag = ci + 1 ∧ vwCl[ci]? = some r := h.2.2.2.2.2
theorem plM2 {own : String} {idx tag np : Nat} {M : MH} (h : plM own (idx, 2, tag, np, M)) : ∃ (ci : Nat) (r : vw_C), tag = ci + 1 ∧ vwCl[ci]? = some r := h.2.2.2.2.2
theorem plM3 {own : String} {idx tag np : Nat} {M : MH} (h : plM own (idx, 3, tag, np, M)) : ∃ (ci : Nat) (r : vw_C), tag = ci + 1 ∧ vwCl[ci]? = some r := h.2.2.2.2.2
theorem plM4 {own : String} {idx tag np : Nat} {M : MH} (h : plM own (idx, 4, tag, np, M)) : tag = 0 + 1 := h.2.1
theorem so_recv {tag a : Nat} {A : Prop} (k : hC h a = tag → A → Ex l w lm X d Q pc ll st h bc bs) (ht : (∃ (ci : Nat) (r : vw_C), tag = ci + 1 ∧ vwCl[ci]? = some r) ∨ tag = 12) (ha : isT lm tag a h A) : Ex l w lm X d Q pc ll st h bc bs := by
  intro p e R s m args below meth c H locs cells slots ls hCx hf hl hcl0 hsl0 hS hL hlen hva
  unfold isT at ha
  split at ha
  · exact ha.elim
  · rename_i ci
    have hci : ci < 11 ∨ ci = 11 := by
      rcases ht with ⟨ci', r, e, hr⟩ | e
      · have := vw_lt hr; omega
      · omega
    obtain ⟨g1, g2⟩ := isC_inv hS.2.2.2 hci ha
    exact k g1 g2 p e R s m args below meth c H locs cells slots ls hCx hf hl hcl0 hsl0 hS hL hlen hva
theorem so_iret {x : Int32} (hd : decode X.1.2.1 pc = .ok (.ireturn, 1)) (ht : match X.1.2.2.2 with
    | some .int => True
    | some .char => (x.toUInt32 % 65536).toInt32 = x
    | some .byte => x = 0
    | some .boolean => x = 0 ∨ x = 1
    | _ => False) (hq : Q (some (.inl x)) h) : Ex l w lm X d Q pc ll [.inl x] h bc bs := by
  intro p e R s m args below meth c H locs cells slots ls hCx hf hl hcl0 hsl0 hS hL hlen hva
  have hqc : ∀ t : State, t.heap = H → s.WarmedH t.vm → qcD w lm Q args s (.returned (some (.int x))) t := fun t htt _ => ⟨some (.inl x), h, rfl, hq, by rw [htt]; exact hS, by rw [htt]; exact hva.1, fun q hq => by rw [htt]; exact hva.low hCx.k.base hq⟩
  refine W.widen (k := R.cells) (n := R.slots) (by omega) (by omega) ?_
  have hr := hCx.ret
  split at ht
  · rename_i e1
    exact W.iret hCx.x hCx.b (hr.trans e1) hqc hva.2.2 hd (hlocks := hCx.locks)
  · rename_i e1
    exact W.zret hCx.x hCx.b (hr.trans e1) (by have := pk_nc x; rw [ht] at this; exact this) hqc hva.2.2 hd (hlocks := hCx.locks)
  · rename_i e1
    exact W.zret hCx.x hCx.b (hr.trans e1) (by rw [ht]; rfl) hqc hva.2.2 hd (hlocks := hCx.locks)
  · rename_i e1
    exact W.zret hCx.x hCx.b (hr.trans e1) (by rcases ht with rfl | rfl <;> rfl) hqc hva.2.2 hd (hlocks := hCx.locks)
  · exact ht.elim
theorem so_lret {x : Int64} (hd : decode X.1.2.1 pc = .ok (.lreturn, 1)) (ht : X.1.2.2.2 = some .long) (hq : Q (some (.inr (.inl x))) h) : Ex l w lm X d Q pc ll [.inr (.inl x)] h bc bs := by
  intro p e R s m args below meth c H locs cells slots ls hCx hf hl hcl0 hsl0 hS hL hlen hva
  refine W.widen (k := R.cells) (n := R.slots) (by omega) (by omega) ?_
  exact W.lret hCx.x hCx.b (hCx.ret.trans ht) (fun t htt _ => ⟨some (.inr (.inl x)), h, rfl, hq, by rw [htt]; exact hS, by rw [htt]; exact hva.1, fun q hq => by rw [htt]; exact hva.low hCx.k.base hq⟩) hva.2.2 hd (hlocks := hCx.locks)
theorem so_aret {x : Nat} (hd : decode X.1.2.1 pc = .ok (.areturn, 1)) (ht : ∃ rt, X.1.2.2.2 = some rt ∧ ((∃ n, rt = .object n) ∨ ∃ t, rt = .array t)) (hq : Q (some (.inr (.inr x))) h) : Ex l w lm X d Q pc ll [.inr (.inr x)] h bc bs := by
  obtain ⟨rt, h1, h2⟩ := ht
  intro p e R s m args below meth c H locs cells slots ls hCx hf hl hcl0 hsl0 hS hL hlen hva
  refine W.widen (k := R.cells) (n := R.slots) (by omega) (by omega) ?_
  exact W.aret hCx.x hCx.b (hCx.ret.trans h1) h2 (va_rf_or _) (fun t htt _ => ⟨some (.inr (.inr x)), h, rfl, hq, by rw [htt]; exact hS, by rw [htt]; exact hva.1, fun q hq => by rw [htt]; exact hva.low hCx.k.base hq⟩) hva.2.2 hd (hlocks := hCx.locks)
theorem so_vret (hd : decode X.1.2.1 pc = .ok (.return_, 1)) (ht : X.1.2.2.2 = none) (hq : Q none h) : Ex l w lm X d Q pc ll [] h bc bs := by
  intro p e R s m args below meth c H locs cells slots ls hCx hf hl hcl0 hsl0 hS hL hlen hva
  refine W.widen (k := R.cells) (n := R.slots) (by omega) (by omega) ?_
  exact W.vret hCx.x hCx.b (hCx.ret.trans ht) (fun t htt _ => ⟨none, h, rfl, hq, by rw [htt]; exact hS, by rw [htt]; exact hva.1, fun q hq => by rw [htt]; exact hva.low hCx.k.base hq⟩) hva.2.2 hd (hlocks := hCx.locks)
theorem aop_ok (hX : mdOK X) {pc nx tg n : Nat} {i : Instr} {cv : Int32} {cl : Int64} {cut : Bool} (he : (pc, i, n, nx, tg, cv, cl, cut) ∈ X.2.1) {N J E : List (Option AV) → List AV → AH → Nat → Nat → Prop} {G : Nat → List (Option AV) → List AV → AH → Nat → Nat → Prop}
    (hN : ∀ ll st h bc bs, N ll st h bc bs → Ex l w lm X d Q nx ll st h bc bs) (hJ : ∀ ll st h bc bs, J ll st h bc bs → Ex l w lm X d Q tg ll st h bc bs) (hG : ∀ t ll st h bc bs, G t ll st h bc bs → Ex l w lm X d Q t ll st h bc bs) (hE : ∀ ll st h bc bs, E ll st h bc bs → Ex l w lm X d Q nx ll st h bc bs)
    (ha : aop l w lm X d Q N J G E i pc cv cl ll st h bc bs) : Ex l w lm X d Q pc ll st h bc bs := by
  have hb := List.all_eq_true.mp hX.1 _ he
  unfold ceB at hb
  dsimp only at hb
  rw [Bool.and_eq_true, Bool.and_eq_true, Bool.and_eq_true] at hb
  obtain ⟨hd0, hnx, hlen1, hin⟩ := hb
  have hd := of_decide_eq_true hd0
  obtain rfl := Nat.eq_of_beq_eq_true hnx
  have hlen0 := Nat.eq_of_beq_eq_true hlen1
  clear hd0 hlen1 hnx
  cases i
  case iadd =>
    obtain rfl : n = 1 := hlen0.symm
    obtain ⟨x, y, r, rfl, ha1⟩ := oII_inv ha
    exact Ex.pure (fun p e R s m args below meth c H locs cells slots Z ls hCx hL hf hl hce hsl hS hva hlen k => lv_iadd hCx.x hCx.b hd k) (hN _ _ _ _ _ ha1)
  case isub =>
    obtain rfl : n = 1 := hlen0.symm
    obtain ⟨x, y, r, rfl, ha1⟩ := oII_inv ha
    exact Ex.pure (fun p e R s m args below meth c H locs cells slots Z ls hCx hL hf hl hce hsl hS hva hlen k => lv_isub hCx.x hCx.b hd k) (hN _ _ _ _ _ ha1)
  case imul =>
    obtain rfl : n = 1 := hlen0.symm
    obtain ⟨x, y, r, rfl, ha1⟩ := oII_inv ha
    exact Ex.pure (fun p e R s m args below meth c H locs cells slots Z ls hCx hL hf hl hce hsl hS hva hlen k => lv_imul hCx.x hCx.b hd k) (hN _ _ _ _ _ ha1)
  case iand =>
    obtain rfl : n = 1 := hlen0.symm
    obtain ⟨x, y, r, rfl, ha1⟩ := oII_inv ha
    exact Ex.pure (fun p e R s m args below meth c H locs cells slots Z ls hCx hL hf hl hce hsl hS hva hlen k => lv_iand hCx.x hCx.b hd k) (hN _ _ _ _ _ ha1)
  case ior =>
    obtain rfl : n = 1 := hlen0.symm
    obtain ⟨x, y, r, rfl, ha1⟩ := oII_inv ha
    exact Ex.pure (fun p e R s m args below meth c H locs cells slots Z ls hCx hL hf hl hce hsl hS hva hlen k => lv_ior hCx.x hCx.b hd k) (hN _ _ _ _ _ ha1)
  case ixor =>
    obtain rfl : n = 1 := hlen0.symm
    obtain ⟨x, y, r, rfl, ha1⟩ := oII_inv ha
    exact Ex.pure (fun p e R s m args below meth c H locs cells slots Z ls hCx hL hf hl hce hsl hS hva hlen k => lv_ixor hCx.x hCx.b hd k) (hN _ _ _ _ _ ha1)
  case ishl =>
    obtain rfl : n = 1 := hlen0.symm
    obtain ⟨x, y, r, rfl, ha1⟩ := oII_inv ha
    exact Ex.pure (fun p e R s m args below meth c H locs cells slots Z ls hCx hL hf hl hce hsl hS hva hlen k => lv_ishl hCx.x hCx.b hd k) (hN _ _ _ _ _ ha1)
  case ishr =>
    obtain rfl : n = 1 := hlen0.symm
    obtain ⟨x, y, r, rfl, ha1⟩ := oII_inv ha
    exact Ex.pure (fun p e R s m args below meth c H locs cells slots Z ls hCx hL hf hl hce hsl hS hva hlen k => lv_ishr hCx.x hCx.b hd k) (hN _ _ _ _ _ ha1)
  case idiv =>
    obtain rfl : n = 1 := hlen0.symm
    obtain ⟨x, y, r, rfl, h0, ha1⟩ := oII_inv ha
    exact Ex.pure (fun p e R s m args below meth c H locs cells slots Z ls hCx hL hf hl hce hsl hS hva hlen k => lv_idiv hCx.x hCx.b hd h0 k) (hN _ _ _ _ _ ha1)
  case iushr =>
    obtain rfl : n = 1 := hlen0.symm
    obtain ⟨x, y, r, rfl, ha1⟩ := oII_inv ha
    exact Ex.pure (fun p e R s m args below meth c H locs cells slots Z ls hCx hL hf hl hce hsl hS hva hlen k => lv_iushr hCx.x hCx.b hd rfl k) (hN _ _ _ _ _ ha1)
  case ladd =>
    obtain rfl : n = 1 := hlen0.symm
    obtain ⟨x, y, r, rfl, ha1⟩ := oLL_inv ha
    exact Ex.pure (fun p e R s m args below meth c H locs cells slots Z ls hCx hL hf hl hce hsl hS hva hlen k => lv_ladd hCx.x hCx.b hd k) (hN _ _ _ _ _ ha1)
  case lsub =>
    obtain rfl : n = 1 := hlen0.symm
    obtain ⟨x, y, r, rfl, ha1⟩ := oLL_inv ha
    exact Ex.pure (fun p e R s m args below meth c H locs cells slots Z ls hCx hL hf hl hce hsl hS hva hlen k => lv_lsub hCx.x hCx.b hd k) (hN _ _ _ _ _ ha1)
  case land =>
    obtain rfl : n = 1 := hlen0.symm
    obtain ⟨x, y, r, rfl, ha1⟩ := oLL_inv ha
    exact Ex.pure (fun p e R s m args below meth c H locs cells slots Z ls hCx hL hf hl hce hsl hS hva hlen k => lv_land hCx.x hCx.b hd k) (hN _ _ _ _ _ ha1)
  case lor =>
    obtain rfl : n = 1 := hlen0.symm
    obtain ⟨x, y, r, rfl, ha1⟩ := oLL_inv ha
    exact Ex.pure (fun p e R s m args below meth c H locs cells slots Z ls hCx hL hf hl hce hsl hS hva hlen k => lv_lor hCx.x hCx.b hd k) (hN _ _ _ _ _ ha1)
  case lxor =>
    obtain rfl : n = 1 := hlen0.symm
    obtain ⟨x, y, r, rfl, ha1⟩ := oLL_inv ha
    exact Ex.pure (fun p e R s m args below meth c H locs cells slots Z ls hCx hL hf hl hce hsl hS hva hlen k => lv_lxor hCx.x hCx.b hd k) (hN _ _ _ _ _ ha1)
  case lcmp =>
    obtain rfl : n = 1 := hlen0.symm
    obtain ⟨x, y, r, rfl, ha1⟩ := oLL_inv ha
    exact Ex.pure (fun p e R s m args below meth c H locs cells slots Z ls hCx hL hf hl hce hsl hS hva hlen k => W.lcmp hCx.x hCx.b hd k) (hN _ _ _ _ _ ha1)
  case lshl =>
    obtain rfl : n = 1 := hlen0.symm
    obtain ⟨x, y, r, rfl, ha1⟩ := oLI_inv ha
    exact Ex.pure (fun p e R s m args below meth c H locs cells slots Z ls hCx hL hf hl hce hsl hS hva hlen k => lv_lshl hCx.x hCx.b hd rfl k) (hN _ _ _ _ _ ha1)
  case lshr =>
    obtain rfl : n = 1 := hlen0.symm
    obtain ⟨x, y, r, rfl, ha1⟩ := oLI_inv ha
    exact Ex.pure (fun p e R s m args below meth c H locs cells slots Z ls hCx hL hf hl hce hsl hS hva hlen k => lv_lshr hCx.x hCx.b hd rfl k) (hN _ _ _ _ _ ha1)
  case lushr =>
    obtain rfl : n = 1 := hlen0.symm
    obtain ⟨x, y, r, rfl, ha1⟩ := oLI_inv ha
    exact Ex.pure (fun p e R s m args below meth c H locs cells slots Z ls hCx hL hf hl hce hsl hS hva hlen k => lv_lushr hCx.x hCx.b hd rfl k) (hN _ _ _ _ _ ha1)
  case i2l =>
    obtain rfl : n = 1 := hlen0.symm
    obtain ⟨x, r, rfl, ha1⟩ := oI_inv ha
    exact Ex.pure (fun p e R s m args below meth c H locs cells slots Z ls hCx hL hf hl hce hsl hS hva hlen k => lv_i2l hCx.x hCx.b hd rfl k) (hN _ _ _ _ _ ha1)
  case l2i =>
    obtain rfl : n = 1 := hlen0.symm
    obtain ⟨x, r, rfl, ha1⟩ := oL_inv ha
    exact Ex.pure (fun p e R s m args below meth c H locs cells slots Z ls hCx hL hf hl hce hsl hS hva hlen k => lv_l2i hCx.x hCx.b hd rfl k) (hN _ _ _ _ _ ha1)
  case i2c =>
    obtain rfl : n = 1 := hlen0.symm
    obtain ⟨x, r, rfl, ha1⟩ := oI_inv ha
    exact Ex.pure (fun p e R s m args below meth c H locs cells slots Z ls hCx hL hf hl hce hsl hS hva hlen k => lv_i2c hCx.x hCx.b hd rfl k) (hN _ _ _ _ _ ha1)
  case iconst v =>
    obtain rfl : n = 1 := hlen0.symm
    exact Ex.pure (fun p e R s m args below meth c H locs cells slots Z ls hCx hL hf hl hce hsl hS hva hlen k => lv_iconst hCx.x hCx.b hd (of_decide_eq_true hin) k) (hN _ _ _ _ _ ha)
  case bipush v =>
    obtain rfl : n = 2 := hlen0.symm
    exact Ex.pure (fun p e R s m args below meth c H locs cells slots Z ls hCx hL hf hl hce hsl hS hva hlen k => lv_bipush hCx.x hCx.b hd (of_decide_eq_true hin) k) (hN _ _ _ _ _ ha)
  case sipush v =>
    obtain rfl : n = 3 := hlen0.symm
    exact Ex.pure (fun p e R s m args below meth c H locs cells slots Z ls hCx hL hf hl hce hsl hS hva hlen k => lv_sipush hCx.x hCx.b hd (of_decide_eq_true hin) k) (hN _ _ _ _ _ ha)
  case lconst v =>
    obtain rfl : n = 1 := hlen0.symm
    exact Ex.pure (fun p e R s m args below meth c H locs cells slots Z ls hCx hL hf hl hce hsl hS hva hlen k => lv_lconst hCx.x hCx.b hd (of_decide_eq_true hin) k) (hN _ _ _ _ _ ha)
  case ldc2_w idx =>
    obtain rfl : n = 3 := hlen0.symm
    have hm := hX.2.1.2.2.2.2.2.2.2 _ (lk_mem (of_decide_eq_true hin))
    exact Ex.pure (fun p e R s m args below meth c H locs cells slots Z ls hCx hL hf hl hce hsl hS hva hlen k => W.ldc2 hCx.x hCx.b hCx.own (hCx.t hm rfl) rfl hd k) (hN _ _ _ _ _ ha)
  case ldc_w idx =>
    obtain rfl : n = 3 := hlen0.symm
    have hm := hX.2.1.2.2.2.2.2.2.1 _ (lk_mem (of_decide_eq_true hin))
    exact Ex.pure (fun p e R s m args below meth c H locs cells slots Z ls hCx hL hf hl hce hsl hS hva hlen k => lv_ldcw hCx.x hCx.b hCx.own (hCx.t hm rfl) hd k) (hN _ _ _ _ _ ha)
  case ldc idx =>
    obtain rfl : n = 2 := hlen0.symm
    replace ha : aLdc X (fun st => N ll st h bc bs) idx st := ha
    unfold aLdc at ha
    split at ha
    · rename_i kd r e
      rcases hX.2.1.2.2.1 _ (lk_mem e) with ⟨h1, i, tx, h2, h3⟩ | ⟨h1, h2, h3⟩
      · dsimp only at h1 h2 h3
        subst h2
        have e1 : (2 + i < 32) := by have := (List.getElem?_eq_some_iff.mp h3).1; have e9 : sAt.length = 11 := rfl; omega
        refine Ex.pure (fun p e R s m args below meth c H locs cells slots Z ls hCx hL hf hl hce hsl hS hva hlen k => ?_) (hN _ _ _ _ _ ha)
        have e2 : (rv w (.inr (.inr (2 + i))) : Value) = .ref (wX w (2 + i)) := by rw [show rv w (.inr (.inr (2 + i))) = rvr w (2 + i) from rfl, rvr_pos w (by omega), rho_ext w e1]
        rw [List.map_cons, e2] at k
        exact va_ldcS hCx.x hCx.b hCx.own (hCx.k.2.2.1 i _ h3) hd k
      · dsimp only at h1 h2 h3
        subst h2
        refine Ex.pure (fun p e R s m args below meth c H locs cells slots Z ls hCx hL hf hl hce hsl hS hva hlen k => ?_) (hN _ _ _ _ _ ha)
        have e2 : (rv w (.inr (.inr 24)) : Value) = .ref (wX w 24) := by rw [show rv w (.inr (.inr 24)) = rvr w 24 from rfl, rvr_pos w (by omega), rho_ext w (by omega)]
        rw [List.map_cons, e2] at k
        exact va_ldcM hCx.x hCx.b hCx.own (hCx.t h3 rfl) hCx.k.2.2.2.2.2.2.2.1 hd k
    · split at ha
      · rename_i v e2
        have hm := hX.2.1.2.2.2.2.2.2.1 _ (lk_mem e2)
        exact Ex.pure (fun p e R s m args below meth c H locs cells slots Z ls hCx hL hf hl hce hsl hS hva hlen k => lv_ldc hCx.x hCx.b hCx.own (hCx.t hm rfl) hd k) (hN _ _ _ _ _ ha)
      · exact ha.elim
  case aconst_null =>
    obtain rfl : n = 1 := hlen0.symm
    exact Ex.pure (fun p e R s m args below meth c H locs cells slots Z ls hCx hL hf hl hce hsl hS hva hlen k => lv_null hCx.x hCx.b hd k) (hN _ _ _ _ _ ha)
  case iload i =>
    obtain rfl : n = 2 := hlen0.symm
    obtain ⟨x, hx, ha1⟩ := ldI_inv (l := ll) (k := i) (K := fun v => N ll (v :: st) h bc bs) ha
    exact Ex.pure (fun p e R s m args below meth c H locs cells slots Z ls hCx hL hf hl hce hsl hS hva hlen k => lv_iload hCx.x hCx.b hd (hL.2.2 _ _ hx) k) (hN _ _ _ _ _ ha1)
  case iload_n i =>
    obtain rfl : n = 1 := hlen0.symm
    obtain ⟨x, hx, ha1⟩ := ldI_inv (l := ll) (k := i.val) (K := fun v => N ll (v :: st) h bc bs) ha
    exact Ex.pure (fun p e R s m args below meth c H locs cells slots Z ls hCx hL hf hl hce hsl hS hva hlen k => lv_iload_n hCx.x hCx.b hd rfl (hL.2.2 _ _ hx) k) (hN _ _ _ _ _ ha1)
  case lload i =>
    obtain rfl : n = 2 := hlen0.symm
    obtain ⟨x, hx, ha1⟩ := ldL_inv (l := ll) (k := i) (K := fun v => N ll (v :: st) h bc bs) ha
    exact Ex.pure (fun p e R s m args below meth c H locs cells slots Z ls hCx hL hf hl hce hsl hS hva hlen k => lv_lload hCx.x hCx.b hd (hL.2.2 _ _ hx) k) (hN _ _ _ _ _ ha1)
  case lload_n i =>
    obtain rfl : n = 1 := hlen0.symm
    obtain ⟨x, hx, ha1⟩ := ldL_inv (l := ll) (k := i.val) (K := fun v => N ll (v :: st) h bc bs) ha
    exact Ex.pure (fun p e R s m args below meth c H locs cells slots Z ls hCx hL hf hl hce hsl hS hva hlen k => lv_lload_n hCx.x hCx.b hd rfl (hL.2.2 _ _ hx) k) (hN _ _ _ _ _ ha1)
  case aload i =>
    obtain rfl : n = 2 := hlen0.symm
    obtain ⟨x, hx, ha1⟩ := ldR_inv (l := ll) (k := i) (K := fun v => N ll (v :: st) h bc bs) ha
    exact Ex.pure (fun p e R s m args below meth c H locs cells slots Z ls hCx hL hf hl hce hsl hS hva hlen k => w_aload hCx.x hCx.b hd (hL.2.2 _ _ hx) k) (hN _ _ _ _ _ ha1)
  case aload_n i =>
    obtain rfl : n = 1 := hlen0.symm
    obtain ⟨x, hx, ha1⟩ := ldR_inv (l := ll) (k := i.val) (K := fun v => N ll (v :: st) h bc bs) ha
    exact Ex.pure (fun p e R s m args below meth c H locs cells slots Z ls hCx hL hf hl hce hsl hS hva hlen k => w_aload_n hCx.x hCx.b hd (hL.2.2 _ _ hx) k) (hN _ _ _ _ _ ha1)
  case istore i =>
    obtain rfl : n = 2 := hlen0.symm
    obtain ⟨x, r, rfl, ha1⟩ := oI_inv ha
    exact so_store1 rfl ha1 (fun l2 hk => hN _ _ _ _ _ hk) (fun p e R s m args below meth c H locs cells slots Z ls ls' hCx hL e' k => w_istore hCx.x hCx.b hd e' k)
  case istore_n i =>
    obtain rfl : n = 1 := hlen0.symm
    obtain ⟨x, r, rfl, ha1⟩ := oI_inv ha
    exact so_store1 rfl ha1 (fun l2 hk => hN _ _ _ _ _ hk) (fun p e R s m args below meth c H locs cells slots Z ls ls' hCx hL e' k => w_istore_n hCx.x hCx.b hd e' k)
  case astore i =>
    obtain rfl : n = 2 := hlen0.symm
    obtain ⟨x, r, rfl, ha1⟩ := oR_inv ha
    exact so_store1 rfl ha1 (fun l2 hk => hN _ _ _ _ _ hk) (fun p e R s m args below meth c H locs cells slots Z ls ls' hCx hL e' k => w_astore hCx.x hCx.b hd e' k)
  case astore_n i =>
    obtain rfl : n = 1 := hlen0.symm
    obtain ⟨x, r, rfl, ha1⟩ := oR_inv ha
    exact so_store1 rfl ha1 (fun l2 hk => hN _ _ _ _ _ hk) (fun p e R s m args below meth c H locs cells slots Z ls ls' hCx hL e' k => w_astore_n hCx.x hCx.b hd e' k)
  case lstore i =>
    obtain rfl : n = 2 := hlen0.symm
    obtain ⟨x, r, rfl, ha1⟩ := oL_inv ha
    exact so_store2 rfl ha1 (fun l2 hk => hN _ _ _ _ _ hk) (fun p e R s m args below meth c H locs cells slots Z ls ls' hCx hL e' k => w_lstore hCx.x hCx.b hd e' k)
  case lstore_n i =>
    obtain rfl : n = 1 := hlen0.symm
    obtain ⟨x, r, rfl, ha1⟩ := oL_inv ha
    exact so_store2 rfl ha1 (fun l2 hk => hN _ _ _ _ _ hk) (fun p e R s m args below meth c H locs cells slots Z ls ls' hCx hL e' k => w_lstore_n hCx.x hCx.b hd e' k)
  case iinc i v =>
    obtain rfl : n = 3 := hlen0.symm
    obtain ⟨x, hx, ha1⟩ := ldI_inv (l := ll) (k := i) (K := fun v => oI [v] (fun x _ => st1 ll i (.inl (x + cv)) (fun l2 => N l2 st h bc bs))) ha
    exact so_store1 (v := .inl (x + cv)) rfl ha1 (fun l2 hk => hN _ _ _ _ _ hk) (fun p e R s m args below meth c H locs cells slots Z ls ls' hCx hL e' k => w_iinc hCx.x hCx.b hd (hL.2.2 _ _ hx) (by rw [of_decide_eq_true hin]) e' k)
  case pop =>
    obtain rfl : n = 1 := hlen0.symm
    match st, ha with
    | v :: r, ha => exact Ex.pure (fun p e R s m args below meth c H locs cells slots Z ls hCx hL hf hl hce hsl hS hva hlen k => lv_pop hCx.x hCx.b hd (by rw [rv_cat]; exact Nat.eq_of_beq_eq_true (ifB_inv ha).1) k) (hN _ _ _ _ _ (ifB_inv ha).2)
  case dup =>
    obtain rfl : n = 1 := hlen0.symm
    match st, ha with
    | v :: r, ha => exact Ex.pure (fun p e R s m args below meth c H locs cells slots Z ls hCx hL hf hl hce hsl hS hva hlen k => lv_dup hCx.x hCx.b hd (by rw [rv_cat]; exact Nat.eq_of_beq_eq_true (ifB_inv ha).1) k) (hN _ _ _ _ _ (ifB_inv ha).2)
  case dup_x1 =>
    obtain rfl : n = 1 := hlen0.symm
    match st, ha with
    | v :: u :: r, ha => exact Ex.pure (fun p e R s m args below meth c H locs cells slots Z ls hCx hL hf hl hce hsl hS hva hlen k => lv_dup_x1 hCx.x hCx.b hd (by rw [rv_cat]; exact Nat.eq_of_beq_eq_true (ifB_inv ha).1) (by rw [rv_cat]; exact Nat.eq_of_beq_eq_true (ifB_inv (ifB_inv ha).2).1) k) (hN _ _ _ _ _ (ifB_inv (ifB_inv ha).2).2)
  case dup2 =>
    obtain rfl : n = 1 := hlen0.symm
    match st, ha with
    | .inr (.inl v) :: r, ha => exact Ex.pure (fun p e R s m args below meth c H locs cells slots Z ls hCx hL hf hl hce hsl hS hva hlen k => lv_dup2_2 hCx.x hCx.b hd rfl k) (hN _ _ _ _ _ ha)
    | .inl v :: u :: r, ha => exact Ex.pure (fun p e R s m args below meth c H locs cells slots Z ls hCx hL hf hl hce hsl hS hva hlen k => lv_dup2_11 hCx.x hCx.b hd (by rw [rv_cat]; rfl) (by rw [rv_cat]; exact Nat.eq_of_beq_eq_true (ifB_inv ha).1) k) (hN _ _ _ _ _ (ifB_inv ha).2)
    | .inr (.inr v) :: u :: r, ha => exact Ex.pure (fun p e R s m args below meth c H locs cells slots Z ls hCx hL hf hl hce hsl hS hva hlen k => lv_dup2_11 hCx.x hCx.b hd (by rw [rv_cat]; rfl) (by rw [rv_cat]; exact Nat.eq_of_beq_eq_true (ifB_inv ha).1) k) (hN _ _ _ _ _ (ifB_inv ha).2)
    | [], ha => exact ha.elim
    | [.inl v], ha => exact ha.elim
    | [.inr (.inr v)], ha => exact ha.elim
  case ifCond k o =>
    obtain rfl : n = 3 := hlen0.symm
    obtain ⟨x, r, rfl, ha1⟩ := oI_inv ha
    have ht := of_decide_eq_true hin
    cases k with
    | eq => exact Ex.both (fun p e R s m args below meth c H locs cells slots Z ls hCx hS k1 k2 => lv_if_eq hCx.x hCx.b hd ht k1 k2) (fun q => hJ _ _ _ _ _ (ha1.1 q)) (fun q => hE _ _ _ _ _ (ha1.2 q))
    | ne => exact Ex.both (fun p e R s m args below meth c H locs cells slots Z ls hCx hS k1 k2 => lv_if_ne hCx.x hCx.b hd ht k1 k2) (fun q => hJ _ _ _ _ _ (ha1.1 q)) (fun q => hE _ _ _ _ _ (ha1.2 q))
    | lt => exact Ex.both (fun p e R s m args below meth c H locs cells slots Z ls hCx hS k1 k2 => lv_if_lt hCx.x hCx.b hd ht k1 k2) (fun q => hJ _ _ _ _ _ (ha1.1 q)) (fun q => hE _ _ _ _ _ (ha1.2 q))
    | ge => exact Ex.both (fun p e R s m args below meth c H locs cells slots Z ls hCx hS k1 k2 => lv_if_ge hCx.x hCx.b hd ht k1 k2) (fun q => hJ _ _ _ _ _ (ha1.1 q)) (fun q => hE _ _ _ _ _ (ha1.2 q))
    | gt => exact Ex.both (fun p e R s m args below meth c H locs cells slots Z ls hCx hS k1 k2 => lv_if_gt hCx.x hCx.b hd ht k1 k2) (fun q => hJ _ _ _ _ _ (ha1.1 q)) (fun q => hE _ _ _ _ _ (ha1.2 q))
    | le => exact Ex.both (fun p e R s m args below meth c H locs cells slots Z ls hCx hS k1 k2 => lv_if_le hCx.x hCx.b hd ht k1 k2) (fun q => hJ _ _ _ _ _ (ha1.1 q)) (fun q => hE _ _ _ _ _ (ha1.2 q))
  case if_icmp k o =>
    obtain rfl : n = 3 := hlen0.symm
    obtain ⟨x, y, r, rfl, ha1⟩ := oII_inv ha
    have ht := of_decide_eq_true hin
    cases k with
    | eq => exact Ex.both (fun p e R s m args below meth c H locs cells slots Z ls hCx hS k1 k2 => lv_icmp_eq hCx.x hCx.b hd ht k1 k2) (fun q => hJ _ _ _ _ _ (ha1.1 q)) (fun q => hE _ _ _ _ _ (ha1.2 q))
    | ne => exact Ex.both (fun p e R s m args below meth c H locs cells slots Z ls hCx hS k1 k2 => lv_icmp_ne hCx.x hCx.b hd ht k1 k2) (fun q => hJ _ _ _ _ _ (ha1.1 q)) (fun q => hE _ _ _ _ _ (ha1.2 q))
    | lt => exact Ex.both (fun p e R s m args below meth c H locs cells slots Z ls hCx hS k1 k2 => lv_icmp_lt hCx.x hCx.b hd ht k1 k2) (fun q => hJ _ _ _ _ _ (ha1.1 q)) (fun q => hE _ _ _ _ _ (ha1.2 q))
    | ge => exact Ex.both (fun p e R s m args below meth c H locs cells slots Z ls hCx hS k1 k2 => lv_icmp_ge hCx.x hCx.b hd ht k1 k2) (fun q => hJ _ _ _ _ _ (ha1.1 q)) (fun q => hE _ _ _ _ _ (ha1.2 q))
    | gt => exact Ex.both (fun p e R s m args below meth c H locs cells slots Z ls hCx hS k1 k2 => lv_icmp_gt hCx.x hCx.b hd ht k1 k2) (fun q => hJ _ _ _ _ _ (ha1.1 q)) (fun q => hE _ _ _ _ _ (ha1.2 q))
    | le => exact Ex.both (fun p e R s m args below meth c H locs cells slots Z ls hCx hS k1 k2 => lv_icmp_le hCx.x hCx.b hd ht k1 k2) (fun q => hJ _ _ _ _ _ (ha1.1 q)) (fun q => hE _ _ _ _ _ (ha1.2 q))
  case if_acmp k o =>
    obtain rfl : n = 3 := hlen0.symm
    obtain ⟨x, y, r, rfl, hok, ha1⟩ := oRR_inv ha
    have ht := of_decide_eq_true hin
    have hiff : ∀ {s : State}, WK w s → (rvo w x = rvo w y ↔ x = y) := fun hK => ⟨fun e => rvo_inj hK hok e, fun e => by rw [e]⟩
    cases k with
    | eq => exact Ex.both (fun p e R s m args below meth c H locs cells slots Z ls hCx hS k1 k2 => lv_acmp_eq (rx := rvo w x) (ry := rvo w y) hCx.x hCx.b hd ht (fun q => k1 ((hiff hCx.k).mp q)) (fun q => k2 (fun z => q ((hiff hCx.k).mpr z)))) (fun q => hJ _ _ _ _ _ (ha1.1 q)) (fun q => hE _ _ _ _ _ (ha1.2 q))
    | ne => exact Ex.both (fun p e R s m args below meth c H locs cells slots Z ls hCx hS k1 k2 => lv_acmp_ne (rx := rvo w x) (ry := rvo w y) hCx.x hCx.b hd ht (fun q => k1 (fun z => q ((hiff hCx.k).mpr z))) (fun q => k2 ((hiff hCx.k).mp q))) (fun q => hJ _ _ _ _ _ (ha1.1 q)) (fun q => hE _ _ _ _ _ (ha1.2 q))
  case ifnull o =>
    obtain rfl : n = 3 := hlen0.symm
    obtain ⟨x, r, rfl, ha1, ha2⟩ := oR_inv ha
    have ht := of_decide_eq_true hin
    refine Ex.both (fun p e R s m args below meth c H locs cells slots Z ls hCx hS k1 k2 => ?_) (fun q => hJ _ _ _ _ _ (ha1 q)) (fun q => hE _ _ _ _ _ (ha2 q))
    by_cases h0 : x = 0
    · subst h0
      exact lv_ifnullN hCx.x hCx.b hd ht (k1 rfl)
    · rw [List.map_cons, show rv w (.inr (.inr x)) = rvr w x from rfl, rvr_pos w h0]
      exact lv_ifnull hCx.x hCx.b hd (k2 h0)
  case ifnonnull o =>
    obtain rfl : n = 3 := hlen0.symm
    obtain ⟨x, r, rfl, ha1, ha2⟩ := oR_inv ha
    have ht := of_decide_eq_true hin
    refine Ex.both (fun p e R s m args below meth c H locs cells slots Z ls hCx hS k1 k2 => ?_) (fun q => hJ _ _ _ _ _ (ha1 q)) (fun q => hE _ _ _ _ _ (ha2 q))
    by_cases h0 : x = 0
    · subst h0
      exact lv_ifnonnullN hCx.x hCx.b hd (k2 rfl)
    · rw [List.map_cons, show rv w (.inr (.inr x)) = rvr w x from rfl, rvr_pos w h0]
      exact lv_ifnonnull hCx.x hCx.b hd ht (k1 h0)
  case goto o =>
    obtain rfl : n = 3 := hlen0.symm
    exact Ex.pure (fun p e R s m args below meth c H locs cells slots Z ls hCx hL hf hl hce hsl hS hva hlen k => lv_goto hCx.x hCx.b hd (of_decide_eq_true hin) k) (hJ _ _ _ _ _ ha)
  case getfield idx =>
    obtain rfl : n = 3 := hlen0.symm
    exact so_get hX hd (fun st q => hN _ _ _ _ _ q) ha
  case putfield idx =>
    obtain rfl : n = 3 := hlen0.symm
    refine so_put hX hd (fun ci k kd key r e hr hf => ?_) (fun st h q => hN _ _ _ _ _ q) ha
    replace hin : (match lk X.2.2.1 idx with
      | some (ci, k, _) => (match vwCl[ci]? with
        | some q => !(q.2.1 k).2.2.2 || (decide (X.1.1.name = "<init>") && decide ((q.2.1 k).1 = X.1.1.cls))
        | none => false)
      | none => true) = true := hin
    rw [e] at hin
    dsimp only at hin
    rw [hr] at hin
    dsimp only at hin
    rw [hf] at hin
    simpa using hin
  case getstatic idx =>
    obtain rfl : n = 3 := hlen0.symm
    replace ha : aStat X (fun st => N ll st h bc bs) idx st := ha
    unfold aStat at ha
    split at ha
    · rename_i e
      rcases hX.2.1.2.2.2.2.1 _ (lk_mem e) with ⟨h1, h2⟩ | ⟨h1, h2⟩ | ⟨h1, h2⟩
      · refine Ex.pure (fun p e R s m args below meth c H locs cells slots Z ls hCx hL hf hl hce hsl hS hva hlen k => ?_) (hN _ _ _ _ _ ha)
        have e2 : (rv w (.inr (.inr 1)) : Value) = .ref (wX w 1) := by rw [show rv w (.inr (.inr 1)) = rvr w 1 from rfl, rvr_pos w (by omega), rho_ext w (by omega)]
        rw [List.map_cons, e2] at k
        exact va_gets hCx.x hCx.b hCx.k.2.2.2.1 hva hCx.own (hCx.t h2 rfl) (fun _ q => q) hd k
      · cases h1
      · cases h1
    · rename_i e
      rcases hX.2.1.2.2.2.2.1 _ (lk_mem e) with ⟨h1, h2⟩ | ⟨h1, h2⟩ | ⟨h1, h2⟩
      · cases h1
      · exact Ex.pure (fun p e R s m args below meth c H locs cells slots Z ls hCx hL hf hl hce hsl hS hva hlen k => va_gets hCx.x hCx.b hCx.k.2.2.2.2.2.1 hva hCx.own (hCx.t h2 rfl) (fun _ q => q) hd k) (hN _ _ _ _ _ ha)
      · cases h1
    · rename_i e
      rcases hX.2.1.2.2.2.2.1 _ (lk_mem e) with ⟨h1, h2⟩ | ⟨h1, h2⟩ | ⟨h1, h2⟩
      · cases h1
      · cases h1
      · intro p e R s m args below meth c H locs cells slots ls hCx hf hl hcl0 hsl0 hS hL hlen hva
        obtain ⟨r, hr, -⟩ := hCx.k.2.2.2.2.2.2.1
        exact va_gets hCx.x hCx.b hr hva hCx.own (hCx.t h2 rfl) (fun _ q => q) hd (hN _ _ _ _ _ (ha r) p e R s m args below meth c H locs cells slots ls hCx hf hl hcl0 hsl0 hS hL hlen hva)
    · exact ha.elim
  case new idx =>
    obtain rfl : n = 3 := hlen0.symm
    exact so_new hX hd (fun st h b s q => hN _ _ _ _ _ q) ha
  case newarray t =>
    obtain rfl : n = 2 := hlen0.symm
    exact so_arr hd (fun st h b s q => hN _ _ _ _ _ q) ha
  case anewarray idx =>
    obtain rfl : n = 3 := hlen0.symm
    obtain ⟨n, r, rfl, h0, h6, b2, s2, rfl, rfl, ha1⟩ := oI_inv ha
    refine so_anew hd ?_ h0 h6 (hN _ _ _ _ _ ha1)
    replace hin : ((decide (X.1.1.cls = "java/util/ArrayList") && Nat.beq idx 7) || (decide (X.1.1.cls = "java/util/Arrays") && Nat.beq idx 2)) = true := hin
    rw [Bool.or_eq_true, Bool.and_eq_true, Bool.and_eq_true, decide_eq_true_eq, decide_eq_true_eq] at hin
    rcases hin with ⟨q1, q2⟩ | ⟨q1, q2⟩
    · rw [q1, Nat.eq_of_beq_eq_true q2]
      exact clAL7
    · rw [q1, Nat.eq_of_beq_eq_true q2]
      exact clAr2
  case arraylength =>
    obtain rfl : n = 1 := hlen0.symm
    obtain ⟨a, r, rfl, ha1⟩ := oR_inv ha
    exact so_alen hd (N := fun st => N ll st h bc bs) (fun st q => hN _ _ _ _ _ q) ha1
  case iaload =>
    obtain rfl : n = 1 := hlen0.symm
    obtain ⟨a, j, r, rfl, h1, h3⟩ := oRI_inv ha
    exact so_iald hd h1 (hN _ _ _ _ _ h3)
  case baload =>
    obtain rfl : n = 1 := hlen0.symm
    obtain ⟨a, j, r, rfl, h1, h3⟩ := oRI_inv ha
    exact so_bald hd h1.1 h1.2 (hN _ _ _ _ _ h3)
  case laload =>
    obtain rfl : n = 1 := hlen0.symm
    obtain ⟨a, j, r, rfl, h1, h3⟩ := oRI_inv ha
    exact so_lald hd h1.1 h1.2 (hN _ _ _ _ _ h3)
  case aaload =>
    obtain rfl : n = 1 := hlen0.symm
    obtain ⟨a, j, r, rfl, h1, h3⟩ := oRI_inv ha
    exact so_aald hd h1.1 h1.2 (hN _ _ _ _ _ h3)
  case iastore =>
    obtain rfl : n = 1 := hlen0.symm
    obtain ⟨x, r1, rfl, ha1⟩ := oI_inv ha
    obtain ⟨a, j, r, rfl, h1, h3⟩ := oRI_inv ha1
    exact so_iast hd h1.1 h1.2 (hN _ _ _ _ _ h3)
  case bastore =>
    obtain rfl : n = 1 := hlen0.symm
    obtain ⟨x, r1, rfl, ha1⟩ := oI_inv ha
    obtain ⟨a, j, r, rfl, h1, h4, h3⟩ := oRI_inv ha1
    exact so_bast hd h1.1 h1.2 h4 (hN _ _ _ _ _ h3)
  case lastore =>
    obtain rfl : n = 1 := hlen0.symm
    obtain ⟨x, r1, rfl, ha1⟩ := oL_inv ha
    obtain ⟨a, j, r, rfl, h1, h3⟩ := oRI_inv ha1
    exact so_last hd h1.1 h1.2 (hN _ _ _ _ _ h3)
  case aastore =>
    obtain rfl : n = 1 := hlen0.symm
    obtain ⟨x, r1, rfl, ha1⟩ := oR_inv ha
    obtain ⟨a, j, r, rfl, ⟨h1, h32, h4⟩, h3⟩ := oRI_inv ha1
    exact so_aast hd h1.1 h32 h4 h1.2 (hN _ _ _ _ _ h3)
  case ireturn =>
    obtain rfl : n = 1 := hlen0.symm
    obtain ⟨x, r, rfl, ha1⟩ := oI_inv ha
    cases r with
    | nil =>
      dsimp only at ha1
      split at ha1
      · rename_i e1; exact so_iret hd (by rw [e1]; trivial) ha1
      · rename_i e1; exact so_iret hd (by rw [e1]; exact ha1.1) ha1.2
      · rename_i e1; exact so_iret hd (by rw [e1]; exact ha1.1) ha1.2
      · rename_i e1; exact so_iret hd (by rw [e1]; exact ha1.1) ha1.2
      · exact ha1.elim
    | cons _ _ => exact ha1.elim
  case lreturn =>
    obtain rfl : n = 1 := hlen0.symm
    obtain ⟨x, r, rfl, ha1⟩ := oL_inv ha
    cases r with
    | nil => exact so_lret hd (of_decide_eq_true hin) ha1
    | cons _ _ => exact ha1.elim
  case areturn =>
    obtain rfl : n = 1 := hlen0.symm
    obtain ⟨x, r, rfl, ha1⟩ := oR_inv ha
    cases r with
    | nil =>
      refine so_aret hd ?_ ha1
      replace hin : (match X.1.2.2.2 with
        | some (.object _) => true
        | some (.array _) => true
        | _ => false) = true := hin
      split at hin
      · rename_i e
        exact ⟨_, e, Or.inl ⟨_, rfl⟩⟩
      · rename_i e
        exact ⟨_, e, Or.inr ⟨_, rfl⟩⟩
      · cases hin
    | cons _ _ => exact ha1.elim
  case return_ =>
    obtain rfl : n = 1 := hlen0.symm
    cases st with
    | nil => exact so_vret hd (of_decide_eq_true hin) ha
    | cons _ _ => exact ha.elim
  case checkcast idx =>
    obtain rfl : n = 3 := hlen0.symm
    obtain ⟨a, r, rfl, h1, h2⟩ := oR_inv ha
    refine Ex.pure (fun p e R s m args below meth c H locs cells slots Z ls hCx hL hf hl hce hsl hS hva hlen k => ?_) (hN _ _ _ _ _ h2)
    replace hin : ((lk X.2.2.2.2.2.1 idx).isSome || (decide (X.1.1.cls = "java/util/Arrays") && Nat.beq idx 110)) = true := hin
    split at h1
    · rename_i ci e
      obtain ⟨q, hq, hcl, -, -⟩ := hX.2.1.2.2.2.1 _ (lk_mem e)
      dsimp only at hq hcl
      rcases h1 with rfl | hc
      · exact lv_castN hCx.x hCx.b hd k
      · obtain ⟨b1, -, -⟩ := hS.obj hc hq
        rw [List.map_cons, rvR b1] at k ⊢
        exact va_castS hCx.x hCx.b hCx.own (hCx.t hcl rfl) (hCx.k.tab.1 ci q hq).2 (hS.recv hCx.k.tab hc hq) hd k
    · rename_i e0
      rw [e0] at hin
      simp only [Option.isSome_none, Bool.false_or, Bool.and_eq_true, decide_eq_true_eq] at hin
      have hcl : Cond.classLink X.1.1.cls idx "[Ljava/lang/Object;" ∈ lw_tbl := by
        rw [hin.1, Nat.eq_of_beq_eq_true hin.2]
        exact clAr110
      have hfc : s.vm.findClass "[Ljava/lang/Object;" = some (wA w 3) := by
        obtain ⟨kA, comp, -, -, -, q⟩ := (hCx.k.tab.2 3 _ rfl).2
        exact q
      have fin : ∀ (z : Nat) (vs : List Value), rv w (.inr (.inr a)) = .ref z → H[z]? = some (arrL (wA w 3) vs) → W p l e R s m args below meth c H locs cells slots Z (F0 m pc ls (List.map (rv w) (.inr (.inr a) :: r))) := by
        intro z vs e1 hz
        rw [List.map_cons, e1] at k ⊢
        intro T hT XX
        obtain ⟨vm', X', st⟩ := XX.checkcastYes hCx.x hCx.own (hCx.t hcl rfl) (by rw [hT]; exact hz) rfl hfc (va_asg _ _) (g := F0 m pc ls (.ref z :: List.map (rv w) r)) rfl rfl (by rw [hCx.b]; exact hd)
        obtain ⟨t, a1, b1⟩ := k (T.setVm vm') hT X'
        exact ⟨t, st t a1, b1⟩
      rcases hS.arrO h1 with ⟨q1, -, q⟩ | ⟨q1, q2⟩
      · exact fin _ _ (rvR q1) q
      · subst q1
        have g := hCx.k.2.2.2.2.1
        exact fin (wX w 1) [] (by rw [show rv w (.inr (.inr 1)) = rvr w 1 from rfl, rvr_pos w (by omega), rho_ext w (by omega)]) ((hva.low hCx.k.base g.2).trans g.1)
  case tableswitch dflt lo hi offs =>
    obtain ⟨x, r, rfl, ha1, ha2⟩ := oI_inv ha
    replace hin : ((decide (hi + 1 = lo + offs.toList.length) && decide (0 ≤ (pc : Int) + dflt)) && offs.toList.all (fun o => decide (0 ≤ (pc : Int) + o))) = true := hin
    rw [Bool.and_eq_true, Bool.and_eq_true, decide_eq_true_eq, decide_eq_true_eq, List.all_eq_true] at hin
    obtain ⟨⟨q1, q2⟩, q3⟩ := hin
    by_cases hout : x.toInt < lo ∨ hi < x.toInt
    · exact Ex.pure (fun p e R s m args below meth c H locs cells slots Z ls hCx hL hf hl hce hsl hS hva hlen k => lv_tableOut hCx.x hCx.b hd hout (by omega) k) (hG _ _ _ _ _ _ (ha2 hout))
    · have h1 : ¬ x.toInt < lo := fun z => hout (Or.inl z)
      have h2 : ¬ hi < x.toInt := fun z => hout (Or.inr z)
      have go : ∀ (L : List Int) (v : Int) (K : Int → Prop), swc x v L K → ∀ k, k < L.length → x.toInt = v + k → ∃ o, L[k]? = some o ∧ K o := by
        intro L
        induction L with
        | nil => intro v K _ k hk; exact absurd hk (Nat.not_lt_zero _)
        | cons o L ih =>
          intro v K hs k hk hx
          cases k with
          | zero => exact ⟨o, rfl, hs.1 (by simpa using hx)⟩
          | succ k => exact ih (v + 1) K hs.2 k (by simpa using hk) (by rw [hx]; push_cast; omega)
      obtain ⟨o, ho, hK⟩ := go offs.toList lo _ ha1 (x.toInt - lo).toNat (by omega) (by omega)
      have hm : o ∈ offs.toList := List.mem_of_getElem? ho
      have h0 := of_decide_eq_true (q3 o hm)
      exact Ex.pure (fun p e R s m args below meth c H locs cells slots Z ls hCx hL hf hl hce hsl hS hva hlen k => lv_tableIn hCx.x hCx.b hd h1 h2 (by rw [← Array.getElem?_toList]; exact ho) (by omega) k) (hG _ _ _ _ _ _ hK)
  case invokevirtual idx =>
    obtain rfl : n = 3 := hlen0.symm
    replace ha : aCall l w X d lm (fun st => N ll st h bc bs) (fun st h => N ll st h bc bs) (fun v r h c s => E ll (v.toList ++ r) h c s) idx st h bc bs := ha
    unfold aCall at ha
    split at ha
    · rename_i kd tag np M e
      have hM := hX.2.1.2.1 _ (lk_mem e)
      replace hin : (match lk X.2.2.2.1 idx with
        | some (kd, _) => Nat.beq kd 0 || Nat.beq kd 7
        | none => true) = true := hin
      rw [e] at hin
      dsimp only at hin
      rw [Bool.or_eq_true] at hin
      rcases hin with q | q
      · obtain rfl := Nat.eq_of_beq_eq_true q
        obtain ⟨as, r1, g1, g2, ha1⟩ := popK_inv ha
        rw [List.append_nil] at ha1
        obtain ⟨a, r, rfl, ha4⟩ := oR_inv ha1
        exact so_recv (fun g3 ha5 => by
          obtain ⟨g4, ha2⟩ := ifB_inv ha5
          cases d with
          | zero => exact ha2.elim
          | succ d => exact so_callV hX hd hM g1 g3 (Nat.le_of_ble_eq_true g4) g2 ha2 (fun v h' c s q => hE _ _ _ _ _ q)) (plM0 hM).symm ha4
      · obtain rfl := Nat.eq_of_beq_eq_true q
        obtain ⟨a, r, rfl, ha8⟩ := oR_inv ha
        obtain ⟨g2, ha9⟩ := nz_inv ha8
        obtain ⟨g30, g1, ha1⟩ := ifB_inv ha9
        have g3 := Nat.le_of_ble_eq_true g30
        refine Ex.pure (fun p e R s m args below meth c H locs cells slots Z ls hCx hL hf hl hce hsl hS hva hlen k => ?_) (hN _ _ _ _ _ ha1)
        have hml : c.maxLocals = ls.size := by rw [hCx.ml, hL.1, hlen]
        have hlo : ((r.map (rv w)).map fun v => v.category).sum + 14 ≤ R.locals := by rw [rv_cats, hl]; omega
        have hfc : s.vm.findClass "[Ljava/lang/Object;" = some (wA w 3) := by
          obtain ⟨kA, comp, -, -, -, q⟩ := (hCx.k.tab.2 3 _ rfl).2
          exact q
        have fin : ∀ (z : Nat) (vs : List Value), rv w (.inr (.inr a)) = .ref z → H[z]? = some (arrL (wA w 3) vs) → W p l e R s m args below meth c H locs cells slots Z (F0 m pc ls (List.map (rv w) (.inr (.inr a) :: r))) := by
          intro z vs e1 hz
          rw [List.map_cons, e1]
          rw [List.map_cons, show rv w (.inr (.inr 24)) = rvr w 24 from rfl, rvr_pos w (by omega), rho_ext w (by omega)] at k
          exact va_getC hCx.x hCx.b hml hCx.own (hCx.t hM rfl) (va_Dc.use hCx.k.2.2.2.2.2.2.2.2.1) (hCx.t gcSel rfl) (hCx.t gcInst rfl) (hCx.t gcNative rfl) hCx.k.2.2.2.2.2.2.2.1 ⟨_, hz, rfl, hfc⟩ (by rw [hf]; omega) hlo hd k
        rcases hS.arrO g1 with ⟨q1, -, q⟩ | ⟨q1, q2⟩
        · exact fin _ _ (rvR q1) q
        · subst q1
          have g := hCx.k.2.2.2.2.1
          exact fin (wX w 1) [] (by rw [show rv w (.inr (.inr 1)) = rvr w 1 from rfl, rvr_pos w (by omega), rho_ext w (by omega)]) ((hva.low hCx.k.base g.2).trans g.1)
    · exact ha.elim
  case invokestatic idx =>
    obtain rfl : n = 3 := hlen0.symm
    replace ha : aCall l w X d lm (fun st => N ll st h bc bs) (fun st h => N ll st h bc bs) (fun v r h c s => E ll (v.toList ++ r) h c s) idx st h bc bs := ha
    unfold aCall at ha
    split at ha
    · rename_i kd tag np M e
      have hM := hX.2.1.2.1 _ (lk_mem e)
      replace hin : (match lk X.2.2.2.1 idx with
        | some (kd, _) => Nat.beq kd 1 || Nat.beq kd 6 || Nat.beq kd 8 || Nat.beq kd 9
        | none => true) = true := hin
      rw [e] at hin
      dsimp only at hin
      rw [Bool.or_eq_true, Bool.or_eq_true, Bool.or_eq_true] at hin
      rcases hin with ((q | q) | q) | q
      · obtain rfl := Nat.eq_of_beq_eq_true q
        obtain ⟨as, r1, g1, g2, ha1⟩ := popK_inv ha
        rw [List.append_nil] at ha1
        obtain ⟨g4, ha2⟩ := ifB_inv ha1
        cases d with
        | zero => exact ha2.elim
        | succ d => exact so_callS hX hd hM g1 (Nat.le_of_ble_eq_true g4) g2 ha2 (fun v h' c s q => hE _ _ _ _ _ q)
      · obtain rfl := Nat.eq_of_beq_eq_true q
        exact so_copy hX hd hM (fun st h q => hN _ _ _ _ _ q) ha
      · obtain rfl := Nat.eq_of_beq_eq_true q
        obtain ⟨x, y, r, rfl, ha8⟩ := oII_inv ha
        obtain ⟨g2, ha9⟩ := nz_inv ha8
        obtain ⟨g30, ha1⟩ := ifB_inv ha9
        have g3 := Nat.le_of_ble_eq_true g30
        refine Ex.pure (fun p e R s m args below meth c H locs cells slots Z ls hCx hL hf hl hce hsl hS hva hlen k => ?_) (hN _ _ _ _ _ ha1)
        have hml : c.maxLocals = ls.size := by rw [hCx.ml, hL.1, hlen]
        exact va_mmax hCx.x hCx.b hml hCx.own (hCx.t hM rfl) (hCx.t maxStatic rfl) (hCx.t mathInit rfl) (hCx.t maxCode rfl) (by rw [hf]; omega) (by rw [rv_cats, hl]; omega) hce hsl hd k
      · obtain rfl := Nat.eq_of_beq_eq_true q
        obtain ⟨x, y, r, rfl, ha8⟩ := oII_inv ha
        obtain ⟨g2, ha9⟩ := nz_inv ha8
        obtain ⟨g30, ha1⟩ := ifB_inv ha9
        have g3 := Nat.le_of_ble_eq_true g30
        refine Ex.pure (fun p e R s m args below meth c H locs cells slots Z ls hCx hL hf hl hce hsl hS hva hlen k => ?_) (hN _ _ _ _ _ ha1)
        have hml : c.maxLocals = ls.size := by rw [hCx.ml, hL.1, hlen]
        exact va_mmin hCx.x hCx.b hml hCx.own (hCx.t hM rfl) (hCx.t minStatic rfl) (hCx.t mathInit rfl) (hCx.t minCode rfl) (by rw [hf]; omega) (by rw [rv_cats, hl]; omega) hce hsl hd k
    · exact ha.elim
  case invokespecial idx =>
    obtain rfl : n = 3 := hlen0.symm
    replace ha : aCall l w X d lm (fun st => N ll st h bc bs) (fun st h => N ll st h bc bs) (fun v r h c s => E ll (v.toList ++ r) h c s) idx st h bc bs := ha
    unfold aCall at ha
    split at ha
    · rename_i kd tag np M e
      have hM := hX.2.1.2.1 _ (lk_mem e)
      replace hin : (match lk X.2.2.2.1 idx with
        | some (kd, _) => Nat.beq kd 2 || Nat.beq kd 3 || Nat.beq kd 5
        | none => true) = true := hin
      rw [e] at hin
      dsimp only at hin
      rw [Bool.or_eq_true, Bool.or_eq_true] at hin
      rcases hin with (q | q) | q
      · obtain rfl := Nat.eq_of_beq_eq_true q
        obtain ⟨as, r1, g1, g2, ha1⟩ := popK_inv ha
        rw [List.append_nil] at ha1
        obtain ⟨a, r, rfl, ha4⟩ := oR_inv ha1
        exact so_recv (fun g3 ha5 => by
          obtain ⟨g4, ha2⟩ := ifB_inv ha5
          cases d with
          | zero => exact ha2.elim
          | succ d => exact so_callI hX hd hM g1 g3 (Nat.le_of_ble_eq_true g4) g2 ha2 (fun v h' c s q => hE _ _ _ _ _ q)) (Or.inl (plM2 hM)) ha4
      · obtain rfl := Nat.eq_of_beq_eq_true q
        obtain ⟨as, r1, g1, g2, ha1⟩ := popK_inv ha
        rw [List.append_nil] at ha1
        obtain ⟨a, r, rfl, ha4⟩ := oR_inv ha1
        exact so_recv (fun g3 ha5 => by
          obtain ⟨g4, ha2⟩ := ifB_inv ha5
          cases d with
          | zero => exact ha2.elim
          | succ d => exact so_callN hX hd hM g1 g3 (Nat.le_of_ble_eq_true g4) g2 ha2 (fun v h' c s q => hE _ _ _ _ _ q)) (Or.inl (plM3 hM)) ha4
      · obtain rfl := Nat.eq_of_beq_eq_true q
        obtain ⟨a, r, rfl, ha8⟩ := oR_inv ha
        obtain ⟨g2, ha9⟩ := nz_inv ha8
        obtain ⟨g30, g1, ha1⟩ := ifB_inv ha9
        have g3 := Nat.le_of_ble_eq_true g30
        refine Ex.pure (fun p e R s m args below meth c H locs cells slots Z ls hCx hL hf hl hce hsl hS hva hlen k => ?_) (hN _ _ _ _ _ ha1)
        have hml : ls.size = c.maxLocals := by rw [hCx.ml, hL.1, hlen]
        rw [List.map_cons, show rv w (.inr (.inr a)) = rvr w a from rfl, rvr_pos w g1]
        exact W.objInit hCx.x hCx.b hCx.own (hCx.t hM rfl) (hCx.t objInst rfl) (hCx.t objCode rfl) rfl hml rfl hd (by rw [hf]; omega) (by show 2 * 0 + _ + 12 ≤ _; rw [rv_cats, hl]; omega) k
    · exact ha.elim
  case invokeinterface idx cnt =>
    obtain rfl : n = 5 := hlen0.symm
    replace ha : aCall l w X d lm (fun st => N ll st h bc bs) (fun st h => N ll st h bc bs) (fun v r h c s => E ll (v.toList ++ r) h c s) idx st h bc bs := ha
    unfold aCall at ha
    split at ha
    · rename_i kd tag np M e
      have hM := hX.2.1.2.1 _ (lk_mem e)
      replace hin : (match lk X.2.2.2.1 idx with
        | some (kd, _) => Nat.beq kd 4
        | none => true) = true := hin
      rw [e] at hin
      dsimp only at hin
      obtain rfl := Nat.eq_of_beq_eq_true hin
      obtain ⟨as, r1, g1, g2, ha1⟩ := popK_inv ha
      rw [List.append_nil] at ha1
      obtain ⟨a, r, rfl, ha4⟩ := oR_inv ha1
      exact so_recv (fun g3 ha5 => by
        obtain ⟨g4, ha2⟩ := ifB_inv ha5
        cases d with
        | zero => exact ha2.elim
        | succ d => exact so_callF hX hd hM g1 g3 (Nat.le_of_ble_eq_true g4) g2 ha2 (fun v h' c s q => hE _ _ _ _ _ q)) (Or.inl ⟨0, _, plM4 hM, rfl⟩) ha4
    · exact ha.elim
  all_goals exact ha.elim
theorem sfx_mem : ∀ {L : List CE} {k : Nat}, ∀ e ∈ sfx L k, e ∈ L
  | [], _, _, h => h
  | a :: r, k, e, h => by
    unfold sfx at h
    split at h
    · exact h
    · exact List.mem_cons_of_mem _ (sfx_mem e h)
theorem sfx_head : ∀ {L : List CE} {k : Nat} {e : CE} {r : List CE}, sfx L k = e :: r → e.1 = k
  | [], _, _, _, h => by cases h
  | a :: r, k, e, r', h => by
    unfold sfx at h
    split at h
    · rename_i q
      cases h
      exact Nat.eq_of_beq_eq_true q
    · exact sfx_head h
theorem awp_ok (hX : mdOK X) : ∀ (k : Nat) (cs : List CE) (ll : List (Option AV)) (st : List AV) (h : AH) (bc bs : Nat), (∀ e ∈ cs, e ∈ X.2.1) → awp l w lm X d Q k cs ll st h bc bs → ∃ e r, cs = e :: r ∧ Ex l w lm X d Q e.1 ll st h bc bs
  | k, [], ll, st, h, bc, bs, hm, ha => by unfold awp at ha; exact ha.elim
  | 0, e :: r, ll, st, h, bc, bs, hm, ha => ⟨e, r, rfl, by unfold awp at ha; exact ha⟩
  | k + 1, (pc, i, n, nx, tg, cv, cl, cut) :: cs, ll, st, h, bc, bs, hm, ha => by
    refine ⟨_, _, rfl, ?_⟩
    have he := hm _ List.mem_cons_self
    unfold awp at ha
    have hN : ∀ (ll : List (Option AV)) (st : List AV) (h : AH) (bc bs : Nat), (match (generalizing := false) cs with
        | [] => False
        | e :: cs' => match Nat.beq e.1 nx, e.2.2.2.2.2.2.2 with
          | true, false => awp l w lm X d Q k (e :: cs') ll st h bc bs
          | _, _ => Ex l w lm X d Q nx ll st h bc bs) → Ex l w lm X d Q nx ll st h bc bs := by
      intro ll st h bc bs hh
      cases hcs : cs with
      | nil => rw [hcs] at hh; exact hh.elim
      | cons e cs' =>
        rw [hcs] at hh
        dsimp only at hh
        cases q1 : Nat.beq e.1 nx with
        | false => rw [q1] at hh; exact hh
        | true =>
          cases q2 : e.2.2.2.2.2.2.2 with
          | true => rw [q1, q2] at hh; exact hh
          | false =>
            rw [q1, q2] at hh
            dsimp only at hh
            obtain ⟨e2, r2, q3, q4⟩ := awp_ok hX k (e :: cs') ll st h bc bs (fun z hz => hm z (List.mem_cons_of_mem _ (by rw [hcs]; exact hz))) hh
            cases q3
            rw [Nat.eq_of_beq_eq_true q1] at q4
            exact q4
    by_cases hg : ∃ o, i = .goto o
    · obtain ⟨o, rfl⟩ := hg
      dsimp only at ha
      refine aop_ok (N := fun _ _ _ _ _ => False) (J := fun ll st h bc bs => Ex l w lm X d Q tg ll st h bc bs) (G := fun _ _ _ _ _ _ => False) (E := fun _ _ _ _ _ => False) hX he (fun _ _ _ _ _ q => q.elim) (fun _ _ _ _ _ q => q) (fun _ _ _ _ _ _ q => q.elim) (fun _ _ _ _ _ q => q.elim) ?_
      show Ex l w lm X d Q tg ll st h bc bs
      cases q0 : sfx X.2.1 tg with
      | nil => rw [q0] at ha; exact ha.elim
      | cons e cs' =>
        rw [q0] at ha
        dsimp only at ha
        cases q2 : e.2.2.2.2.2.2.2 with
        | true => rw [q2] at ha; exact ha
        | false =>
          rw [q2] at ha
          obtain ⟨e2, r2, q3, q4⟩ := awp_ok hX k (e :: cs') ll st h bc bs (fun z hz => sfx_mem z (by rw [q0]; exact hz)) ha
          cases q3
          rw [sfx_head q0] at q4
          exact q4
    · refine aop_ok hX he hN (fun _ _ _ _ _ q => q) (fun _ _ _ _ _ _ q => q) (fun _ _ _ _ _ q => q) (cv := cv) (cl := cl) (J := fun ll st h bc bs => Ex l w lm X d Q tg ll st h bc bs) (G := fun t ll st h bc bs => Ex l w lm X d Q t ll st h bc bs) (E := fun ll st h bc bs => Ex l w lm X d Q nx ll st h bc bs) ?_
      split at ha
      · exact absurd ⟨_, rfl⟩ hg
      · exact ha
/-- on from here, up to the next choice -/
theorem go (hX : mdOK X) {pc : Nat} (ha : awp l w lm X d Q 400 (sfx X.2.1 pc) ll st h bc bs) : Ex l w lm X d Q pc ll st h bc bs := by
  obtain ⟨e, r, q1, q2⟩ := awp_ok hX 400 (sfx X.2.1 pc) ll st h bc bs (fun z hz => sfx_mem z hz) ha
  rw [← sfx_head q1]
  exact q2
def locs0 : List AV → List (Option AV)
  | [] => []
  | .inr (.inl x) :: r => some (.inr (.inl x)) :: none :: locs0 r
  | v :: r => some v :: locs0 r
theorem Con.of (hX : mdOK X) {as : List AV} {nones : List (Option AV)} (hlen : (locs0 as ++ nones).length = X.1.2.2.1) (hno : ∀ z ∈ nones, z = none) (hex : Ex l w lm X d Q 0 (locs0 as ++ nones) [] h bc bs) : Con l w lm d X.1 as h bc bs Q := by
  refine Met.ofW (cc := X.1.2.1) (maxL := X.1.2.2.1) (ret := X.1.2.2.2) hX.2.2.2 rfl ?_
  intro p e s m args below meth c s₁ B hml hv
  obtain ⟨rfl, hWK, hS⟩ := hv
  have hts := atoms_spec (ws := wsD X.1) B.pre
  have hCx : Cx w X p s m (as.map (rv w)).toArray meth c := ⟨B.exec, B.bytes, hml, findClass_of_methodNamed B.named, fun q hq => hts q (List.mem_cons_of_mem _ hq), B.returns, B.notSynchronized, (name_of_methodNamed B.named B.method).1, hWK⟩
  rw [lg_entry_eq]
  have hl : ∀ vs : List AV, (lg_sl (vs.map (rv w))).length = (locs0 vs).length := by
    intro vs
    induction vs with
    | nil => rfl
    | cons v r ih =>
      rcases v with x | x | x
      · show (lg_sl (rv w (.inl x) :: r.map (rv w))).length = _
        simp only [lg_sl, List.flatMap_cons, List.length_append] at ih ⊢
        rw [ih]
        show 1 + _ = _
        simp [locs0]
        omega
      · simp only [lg_sl, List.map_cons, List.flatMap_cons, List.length_append] at ih ⊢
        rw [ih]
        show 2 + _ = _
        simp [locs0]
        omega
      · simp only [lg_sl, List.map_cons, List.flatMap_cons, List.length_append] at ih ⊢
        rw [ih, show (rv w (.inr (.inr x))).category = 1 from rv_cat w _]
        show 1 + _ = _
        simp [locs0]
        omega
  have hlen2 : (lg_sl (as.map (rv w))).length ≤ X.1.2.2.1 := by rw [hl, ← hlen, List.length_append]; omega
  have hent := lv_entry (as.map (rv w)) hlen2
  have hargs : ∀ (vs : List AV) (k i : Nat) (v : AV), (locs0 vs)[i]? = some (some v) → (k + i, rv w v) ∈ lv_args k (vs.map (rv w)) := by
    intro vs
    induction vs with
    | nil => intro k i v q; simp [locs0] at q
    | cons u r ih =>
      intro k i v q
      rcases u with x | x | x
      · cases i with
        | zero => simp [locs0] at q; subst q; exact List.mem_cons_self
        | succ i =>
          have q' : (locs0 r)[i]? = some (some v) := by simpa [locs0] using q
          have := ih (k + 1) i v q'
          refine List.mem_cons_of_mem _ ?_
          rw [show k + (i + 1) = k + 1 + i by omega]
          exact this
      · match i, q with
        | 0, q => simp [locs0] at q; subst q; exact List.mem_cons_self
        | 1, q => simp [locs0] at q
        | i + 2, q =>
          have q' : (locs0 r)[i]? = some (some v) := by simpa [locs0] using q
          have := ih (k + 2) i v q'
          refine List.mem_cons_of_mem _ ?_
          rw [show k + (i + 2) = k + 2 + i by omega]
          exact this
      · cases i with
        | zero => simp [locs0] at q; subst q; exact List.mem_cons_self
        | succ i =>
          have q' : (locs0 r)[i]? = some (some v) := by simpa [locs0] using q
          have := ih (k + 1) i v q'
          refine List.mem_cons_of_mem _ ?_
          rw [show (rv w (.inr (.inr x))).category = 1 from rv_cat w _, if_neg (by decide), show k + (i + 1) = k + 1 + i by omega]
          exact this
  refine hex p e (rmD d bc bs) s m _ below meth c s.heap [] 0 0 _ hCx rfl rfl (by show 0 + bc ≤ bc; omega) (by show 0 + bs ≤ bs; omega) hS ⟨by rw [hent.1, hlen], hent.2.1, fun i v q => ?_⟩ hlen va_S.rf
  have q2 : (locs0 as)[i]? = some (some v) := by
    by_cases hi : i < (locs0 as).length
    · rw [List.getElem?_append_left hi] at q; exact q
    · rw [List.getElem?_append_right (by omega)] at q
      have := hno _ (List.mem_of_getElem? q)
      cases this
  have := hent.2.2 _ (hargs as 0 i v q2)
  simpa using this
/-- a call that makes nothing -/
theorem Cal.z {M : MH} {as : List AV} {K : Option AV → AH → Nat → Nat → Prop} (hc : Con l w lm d M as h 0 0 (fun v h' => K v h' bc bs)) : Cal l w lm d M as h bc bs K := ⟨0, 0, bc, bs, by omega, by omega, hc⟩
end Rest
end
