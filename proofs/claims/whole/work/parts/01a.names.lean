-- ===== PART A: goes FIRST, ahead of the names: the tables' words, and 'selects' of the private methods out of them =====
/-- a private method of a class that the tables say can be made, by its rows of tables_1 -/
def lw_okq (q : MethodName × Nat) : Prop := (q.1.cls ≠ "java/lang/invoke/MethodHandle" ∧ q.1.cls ≠ "java/lang/invoke/VarHandle") ∧ Cond.instantiable q.1.cls q.2 ∈ tables_1 ∧ Cond.privateMethod q.1 ∈ tables_1 ∧ Cond.instanceMethod q.1 ∈ tables_1
theorem lw_p0 : lw_okq (⟨"GroupTowers", "spareGroup", "()LGroupTowers$Group;"⟩, 7) := ⟨⟨by decide +kernel, by decide +kernel⟩, List.mem_of_getElem? (i := 13) (by decide +kernel), List.mem_of_getElem? (i := 73) (by decide +kernel), List.mem_of_getElem? (i := 74) (by decide +kernel)⟩
theorem lw_p1 : lw_okq (⟨"GroupTowers$Group", "set", "(III)V"⟩, 8) := ⟨⟨by decide +kernel, by decide +kernel⟩, List.mem_of_getElem? (i := 76) (by decide +kernel), List.mem_of_getElem? (i := 126) (by decide +kernel), List.mem_of_getElem? (i := 127) (by decide +kernel)⟩
theorem lw_p2 : lw_okq (⟨"GroupTowers", "keep", "(LGroupTowers$Group;)I"⟩, 7) := ⟨⟨by decide +kernel, by decide +kernel⟩, List.mem_of_getElem? (i := 13) (by decide +kernel), List.mem_of_getElem? (i := 130) (by decide +kernel), List.mem_of_getElem? (i := 131) (by decide +kernel)⟩
theorem lw_p3 : lw_okq (⟨"GroupTowers$Group", "findInverse", "(I)I"⟩, 8) := ⟨⟨by decide +kernel, by decide +kernel⟩, List.mem_of_getElem? (i := 76) (by decide +kernel), List.mem_of_getElem? (i := 138) (by decide +kernel), List.mem_of_getElem? (i := 139) (by decide +kernel)⟩
theorem lw_p4 : lw_okq (⟨"GroupTowers$Group", "findPeriod", "(I)I"⟩, 8) := ⟨⟨by decide +kernel, by decide +kernel⟩, List.mem_of_getElem? (i := 76) (by decide +kernel), List.mem_of_getElem? (i := 146) (by decide +kernel), List.mem_of_getElem? (i := 147) (by decide +kernel)⟩
theorem lw_p5 : lw_okq (⟨"GroupTowers", "groupAt", "(I)LGroupTowers$Group;"⟩, 7) := ⟨⟨by decide +kernel, by decide +kernel⟩, List.mem_of_getElem? (i := 13) (by decide +kernel), List.mem_of_getElem? (i := 172) (by decide +kernel), List.mem_of_getElem? (i := 173) (by decide +kernel)⟩
theorem lw_p6 : lw_okq (⟨"GroupTowers", "sheetAt", "(I)LGroupTowers$Sheet;"⟩, 7) := ⟨⟨by decide +kernel, by decide +kernel⟩, List.mem_of_getElem? (i := 13) (by decide +kernel), List.mem_of_getElem? (i := 184) (by decide +kernel), List.mem_of_getElem? (i := 185) (by decide +kernel)⟩
theorem lw_p7 : lw_okq (⟨"GroupTowers$Group", "firstUnlike", "()I"⟩, 8) := ⟨⟨by decide +kernel, by decide +kernel⟩, List.mem_of_getElem? (i := 76) (by decide +kernel), List.mem_of_getElem? (i := 222) (by decide +kernel), List.mem_of_getElem? (i := 223) (by decide +kernel)⟩
theorem lw_p8 : lw_okq (⟨"GroupTowers$Group", "firstWithoutInverse", "()I"⟩, 8) := ⟨⟨by decide +kernel, by decide +kernel⟩, List.mem_of_getElem? (i := 76) (by decide +kernel), List.mem_of_getElem? (i := 226) (by decide +kernel), List.mem_of_getElem? (i := 227) (by decide +kernel)⟩
theorem lw_p9 : lw_okq (⟨"GroupTowers$Group", "span", "([II)J"⟩, 8) := ⟨⟨by decide +kernel, by decide +kernel⟩, List.mem_of_getElem? (i := 76) (by decide +kernel), List.mem_of_getElem? (i := 272) (by decide +kernel), List.mem_of_getElem? (i := 273) (by decide +kernel)⟩
theorem lw_p10 : lw_okq (⟨"GroupTowers$Group", "bringsAllToZero", "(I)Z"⟩, 8) := ⟨⟨by decide +kernel, by decide +kernel⟩, List.mem_of_getElem? (i := 76) (by decide +kernel), List.mem_of_getElem? (i := 286) (by decide +kernel), List.mem_of_getElem? (i := 287) (by decide +kernel)⟩
theorem lw_p11 : lw_okq (⟨"GroupTowers$Matching", "likeInPeriods", "(LGroupTowers$Group;LGroupTowers$Group;)Z"⟩, 8) := ⟨⟨by decide +kernel, by decide +kernel⟩, List.mem_of_getElem? (i := 314) (by decide +kernel), List.mem_of_getElem? (i := 349) (by decide +kernel), List.mem_of_getElem? (i := 350) (by decide +kernel)⟩
theorem lw_p12 : lw_okq (⟨"GroupTowers$Matching", "layPaths", "(LGroupTowers$Group;)V"⟩, 8) := ⟨⟨by decide +kernel, by decide +kernel⟩, List.mem_of_getElem? (i := 314) (by decide +kernel), List.mem_of_getElem? (i := 355) (by decide +kernel), List.mem_of_getElem? (i := 356) (by decide +kernel)⟩
theorem lw_p13 : lw_okq (⟨"GroupTowers$Matching", "nextOfPeriod", "(LGroupTowers$Group;II)I"⟩, 8) := ⟨⟨by decide +kernel, by decide +kernel⟩, List.mem_of_getElem? (i := 314) (by decide +kernel), List.mem_of_getElem? (i := 360) (by decide +kernel), List.mem_of_getElem? (i := 361) (by decide +kernel)⟩
theorem lw_p14 : lw_okq (⟨"GroupTowers$Matching", "goesWithProducts", "(LGroupTowers$Group;LGroupTowers$Group;I)Z"⟩, 8) := ⟨⟨by decide +kernel, by decide +kernel⟩, List.mem_of_getElem? (i := 314) (by decide +kernel), List.mem_of_getElem? (i := 364) (by decide +kernel), List.mem_of_getElem? (i := 365) (by decide +kernel)⟩
theorem lw_p15 : lw_okq (⟨"GroupTowers$Matching", "stepGiven", "(LGroupTowers$Group;LGroupTowers$Group;)Z"⟩, 8) := ⟨⟨by decide +kernel, by decide +kernel⟩, List.mem_of_getElem? (i := 314) (by decide +kernel), List.mem_of_getElem? (i := 368) (by decide +kernel), List.mem_of_getElem? (i := 369) (by decide +kernel)⟩
def lw_privs_1 : List (MethodName × Nat) := [(⟨"GroupTowers", "spareGroup", "()LGroupTowers$Group;"⟩, 7), (⟨"GroupTowers$Group", "set", "(III)V"⟩, 8), (⟨"GroupTowers", "keep", "(LGroupTowers$Group;)I"⟩, 7), (⟨"GroupTowers$Group", "findInverse", "(I)I"⟩, 8), (⟨"GroupTowers$Group", "findPeriod", "(I)I"⟩, 8), (⟨"GroupTowers", "groupAt", "(I)LGroupTowers$Group;"⟩, 7), (⟨"GroupTowers", "sheetAt", "(I)LGroupTowers$Sheet;"⟩, 7), (⟨"GroupTowers$Group", "firstUnlike", "()I"⟩, 8), (⟨"GroupTowers$Group", "firstWithoutInverse", "()I"⟩, 8), (⟨"GroupTowers$Group", "span", "([II)J"⟩, 8), (⟨"GroupTowers$Group", "bringsAllToZero", "(I)Z"⟩, 8), (⟨"GroupTowers$Matching", "likeInPeriods", "(LGroupTowers$Group;LGroupTowers$Group;)Z"⟩, 8), (⟨"GroupTowers$Matching", "layPaths", "(LGroupTowers$Group;)V"⟩, 8), (⟨"GroupTowers$Matching", "nextOfPeriod", "(LGroupTowers$Group;II)I"⟩, 8), (⟨"GroupTowers$Matching", "goesWithProducts", "(LGroupTowers$Group;LGroupTowers$Group;I)Z"⟩, 8), (⟨"GroupTowers$Matching", "stepGiven", "(LGroupTowers$Group;LGroupTowers$Group;)Z"⟩, 8)]
theorem lw_r1 : ∀ q ∈ lw_privs_1, lw_okq q := List.forall_mem_cons.mpr ⟨lw_p0, List.forall_mem_cons.mpr ⟨lw_p1, List.forall_mem_cons.mpr ⟨lw_p2, List.forall_mem_cons.mpr ⟨lw_p3, List.forall_mem_cons.mpr ⟨lw_p4, List.forall_mem_cons.mpr ⟨lw_p5, List.forall_mem_cons.mpr ⟨lw_p6, List.forall_mem_cons.mpr ⟨lw_p7, List.forall_mem_cons.mpr ⟨lw_p8, List.forall_mem_cons.mpr ⟨lw_p9, List.forall_mem_cons.mpr ⟨lw_p10, List.forall_mem_cons.mpr ⟨lw_p11, List.forall_mem_cons.mpr ⟨lw_p12, List.forall_mem_cons.mpr ⟨lw_p13, List.forall_mem_cons.mpr ⟨lw_p14, List.forall_mem_cons.mpr ⟨lw_p15, fun _ h => absurd h List.not_mem_nil⟩⟩⟩⟩⟩⟩⟩⟩⟩⟩⟩⟩⟩⟩⟩⟩
theorem lw_p16 : lw_okq (⟨"GroupTowers", "actionAt", "(I)LGroupTowers$Action;"⟩, 7) := ⟨⟨by decide +kernel, by decide +kernel⟩, List.mem_of_getElem? (i := 13) (by decide +kernel), List.mem_of_getElem? (i := 490) (by decide +kernel), List.mem_of_getElem? (i := 491) (by decide +kernel)⟩
theorem lw_p17 : lw_okq (⟨"GroupTowers$Action", "goesWithProduct", "(II)Z"⟩, 7) := ⟨⟨by decide +kernel, by decide +kernel⟩, List.mem_of_getElem? (i := 375) (by decide +kernel), List.mem_of_getElem? (i := 511) (by decide +kernel), List.mem_of_getElem? (i := 512) (by decide +kernel)⟩
theorem lw_p18 : lw_okq (⟨"GroupTowers", "solve", "(LGroupTowers$Action;)V"⟩, 7) := ⟨⟨by decide +kernel, by decide +kernel⟩, List.mem_of_getElem? (i := 13) (by decide +kernel), List.mem_of_getElem? (i := 521) (by decide +kernel), List.mem_of_getElem? (i := 522) (by decide +kernel)⟩
theorem lw_p19 : lw_okq (⟨"GroupTowers$Echelon", "inverseOf", "(I)I"⟩, 6) := ⟨⟨by decide +kernel, by decide +kernel⟩, List.mem_of_getElem? (i := 387) (by decide +kernel), List.mem_of_getElem? (i := 554) (by decide +kernel), List.mem_of_getElem? (i := 555) (by decide +kernel)⟩
theorem lw_p20 : lw_okq (⟨"GroupTowers$Twists", "writeBound", "(LGroupTowers$Action;II)V"⟩, 7) := ⟨⟨by decide +kernel, by decide +kernel⟩, List.mem_of_getElem? (i := 381) (by decide +kernel), List.mem_of_getElem? (i := 566) (by decide +kernel), List.mem_of_getElem? (i := 567) (by decide +kernel)⟩
theorem lw_p21 : lw_okq (⟨"GroupTowers$Twists", "writeCocycleRule", "(LGroupTowers$Action;IIII)V"⟩, 7) := ⟨⟨by decide +kernel, by decide +kernel⟩, List.mem_of_getElem? (i := 381) (by decide +kernel), List.mem_of_getElem? (i := 585) (by decide +kernel), List.mem_of_getElem? (i := 586) (by decide +kernel)⟩
theorem lw_p22 : lw_okq (⟨"GroupTowers$Twists", "writeStandard", "(LGroupTowers$Echelon;III)V"⟩, 7) := ⟨⟨by decide +kernel, by decide +kernel⟩, List.mem_of_getElem? (i := 381) (by decide +kernel), List.mem_of_getElem? (i := 594) (by decide +kernel), List.mem_of_getElem? (i := 595) (by decide +kernel)⟩
theorem lw_p23 : lw_okq (⟨"GroupTowers$Twists", "readPair", "(LGroupTowers$Action;LGroupTowers$Sheet;)Z"⟩, 7) := ⟨⟨by decide +kernel, by decide +kernel⟩, List.mem_of_getElem? (i := 381) (by decide +kernel), List.mem_of_getElem? (i := 662) (by decide +kernel), List.mem_of_getElem? (i := 663) (by decide +kernel)⟩
theorem lw_p24 : lw_okq (⟨"GroupTowersModel", "set", "(III)V"⟩, 40) := ⟨⟨by decide +kernel, by decide +kernel⟩, List.mem_of_getElem? (i := 690) (by decide +kernel), List.mem_of_getElem? (i := 828) (by decide +kernel), List.mem_of_getElem? (i := 829) (by decide +kernel)⟩
theorem lw_p25 : lw_okq (⟨"GroupTowersModel", "added", "(I)I"⟩, 40) := ⟨⟨by decide +kernel, by decide +kernel⟩, List.mem_of_getElem? (i := 690) (by decide +kernel), List.mem_of_getElem? (i := 832) (by decide +kernel), List.mem_of_getElem? (i := 833) (by decide +kernel)⟩
theorem lw_p26 : lw_okq (⟨"GroupTowersModel", "isGroup", "(I)Z"⟩, 40) := ⟨⟨by decide +kernel, by decide +kernel⟩, List.mem_of_getElem? (i := 690) (by decide +kernel), List.mem_of_getElem? (i := 849) (by decide +kernel), List.mem_of_getElem? (i := 850) (by decide +kernel)⟩
theorem lw_p27 : lw_okq (⟨"GroupTowersModel", "prod", "(III)I"⟩, 40) := ⟨⟨by decide +kernel, by decide +kernel⟩, List.mem_of_getElem? (i := 690) (by decide +kernel), List.mem_of_getElem? (i := 853) (by decide +kernel), List.mem_of_getElem? (i := 854) (by decide +kernel)⟩
theorem lw_p28 : lw_okq (⟨"GroupTowersModel", "faultOf", "(III)I"⟩, 40) := ⟨⟨by decide +kernel, by decide +kernel⟩, List.mem_of_getElem? (i := 690) (by decide +kernel), List.mem_of_getElem? (i := 871) (by decide +kernel), List.mem_of_getElem? (i := 872) (by decide +kernel)⟩
theorem lw_p29 : lw_okq (⟨"GroupTowersModel", "isElement", "(II)Z"⟩, 40) := ⟨⟨by decide +kernel, by decide +kernel⟩, List.mem_of_getElem? (i := 690) (by decide +kernel), List.mem_of_getElem? (i := 887) (by decide +kernel), List.mem_of_getElem? (i := 888) (by decide +kernel)⟩
theorem lw_p30 : lw_okq (⟨"GroupTowersModel", "inverse", "(II)I"⟩, 40) := ⟨⟨by decide +kernel, by decide +kernel⟩, List.mem_of_getElem? (i := 690) (by decide +kernel), List.mem_of_getElem? (i := 895) (by decide +kernel), List.mem_of_getElem? (i := 896) (by decide +kernel)⟩
theorem lw_p31 : lw_okq (⟨"GroupTowersModel", "orderOf", "(II)I"⟩, 40) := ⟨⟨by decide +kernel, by decide +kernel⟩, List.mem_of_getElem? (i := 690) (by decide +kernel), List.mem_of_getElem? (i := 899) (by decide +kernel), List.mem_of_getElem? (i := 900) (by decide +kernel)⟩
def lw_privs_2 : List (MethodName × Nat) := [(⟨"GroupTowers", "actionAt", "(I)LGroupTowers$Action;"⟩, 7), (⟨"GroupTowers$Action", "goesWithProduct", "(II)Z"⟩, 7), (⟨"GroupTowers", "solve", "(LGroupTowers$Action;)V"⟩, 7), (⟨"GroupTowers$Echelon", "inverseOf", "(I)I"⟩, 6), (⟨"GroupTowers$Twists", "writeBound", "(LGroupTowers$Action;II)V"⟩, 7), (⟨"GroupTowers$Twists", "writeCocycleRule", "(LGroupTowers$Action;IIII)V"⟩, 7), (⟨"GroupTowers$Twists", "writeStandard", "(LGroupTowers$Echelon;III)V"⟩, 7), (⟨"GroupTowers$Twists", "readPair", "(LGroupTowers$Action;LGroupTowers$Sheet;)Z"⟩, 7), (⟨"GroupTowersModel", "set", "(III)V"⟩, 40), (⟨"GroupTowersModel", "added", "(I)I"⟩, 40), (⟨"GroupTowersModel", "isGroup", "(I)Z"⟩, 40), (⟨"GroupTowersModel", "prod", "(III)I"⟩, 40), (⟨"GroupTowersModel", "faultOf", "(III)I"⟩, 40), (⟨"GroupTowersModel", "isElement", "(II)Z"⟩, 40), (⟨"GroupTowersModel", "inverse", "(II)I"⟩, 40), (⟨"GroupTowersModel", "orderOf", "(II)I"⟩, 40)]
theorem lw_r2 : ∀ q ∈ lw_privs_2, lw_okq q := List.forall_mem_cons.mpr ⟨lw_p16, List.forall_mem_cons.mpr ⟨lw_p17, List.forall_mem_cons.mpr ⟨lw_p18, List.forall_mem_cons.mpr ⟨lw_p19, List.forall_mem_cons.mpr ⟨lw_p20, List.forall_mem_cons.mpr ⟨lw_p21, List.forall_mem_cons.mpr ⟨lw_p22, List.forall_mem_cons.mpr ⟨lw_p23, List.forall_mem_cons.mpr ⟨lw_p24, List.forall_mem_cons.mpr ⟨lw_p25, List.forall_mem_cons.mpr ⟨lw_p26, List.forall_mem_cons.mpr ⟨lw_p27, List.forall_mem_cons.mpr ⟨lw_p28, List.forall_mem_cons.mpr ⟨lw_p29, List.forall_mem_cons.mpr ⟨lw_p30, List.forall_mem_cons.mpr ⟨lw_p31, fun _ h => absurd h List.not_mem_nil⟩⟩⟩⟩⟩⟩⟩⟩⟩⟩⟩⟩⟩⟩⟩⟩
theorem lw_p32 : lw_okq (⟨"GroupTowersModel", "friends", "(II)I"⟩, 40) := ⟨⟨by decide +kernel, by decide +kernel⟩, List.mem_of_getElem? (i := 690) (by decide +kernel), List.mem_of_getElem? (i := 903) (by decide +kernel), List.mem_of_getElem? (i := 904) (by decide +kernel)⟩
theorem lw_p33 : lw_okq (⟨"GroupTowersModel", "leastTurned", "(II)I"⟩, 40) := ⟨⟨by decide +kernel, by decide +kernel⟩, List.mem_of_getElem? (i := 690) (by decide +kernel), List.mem_of_getElem? (i := 907) (by decide +kernel), List.mem_of_getElem? (i := 908) (by decide +kernel)⟩
theorem lw_p34 : lw_okq (⟨"GroupTowersModel", "makes", "(II)V"⟩, 40) := ⟨⟨by decide +kernel, by decide +kernel⟩, List.mem_of_getElem? (i := 690) (by decide +kernel), List.mem_of_getElem? (i := 915) (by decide +kernel), List.mem_of_getElem? (i := 916) (by decide +kernel)⟩
theorem lw_p35 : lw_okq (⟨"GroupTowersModel", "isMade", "(I)Z"⟩, 40) := ⟨⟨by decide +kernel, by decide +kernel⟩, List.mem_of_getElem? (i := 690) (by decide +kernel), List.mem_of_getElem? (i := 919) (by decide +kernel), List.mem_of_getElem? (i := 920) (by decide +kernel)⟩
theorem lw_p36 : lw_okq (⟨"GroupTowersModel", "turnsMade", "(I)I"⟩, 40) := ⟨⟨by decide +kernel, by decide +kernel⟩, List.mem_of_getElem? (i := 690) (by decide +kernel), List.mem_of_getElem? (i := 927) (by decide +kernel), List.mem_of_getElem? (i := 928) (by decide +kernel)⟩
theorem lw_p37 : lw_okq (⟨"GroupTowersModel", "leastMakers", "(I)I"⟩, 40) := ⟨⟨by decide +kernel, by decide +kernel⟩, List.mem_of_getElem? (i := 690) (by decide +kernel), List.mem_of_getElem? (i := 931) (by decide +kernel), List.mem_of_getElem? (i := 932) (by decide +kernel)⟩
theorem lw_p38 : lw_okq (⟨"GroupTowersModel", "ofOrder", "(II)I"⟩, 40) := ⟨⟨by decide +kernel, by decide +kernel⟩, List.mem_of_getElem? (i := 690) (by decide +kernel), List.mem_of_getElem? (i := 940) (by decide +kernel), List.mem_of_getElem? (i := 941) (by decide +kernel)⟩
theorem lw_p39 : lw_okq (⟨"GroupTowersModel", "leastRow", "(II)V"⟩, 40) := ⟨⟨by decide +kernel, by decide +kernel⟩, List.mem_of_getElem? (i := 690) (by decide +kernel), List.mem_of_getElem? (i := 944) (by decide +kernel), List.mem_of_getElem? (i := 945) (by decide +kernel)⟩
theorem lw_p40 : lw_okq (⟨"GroupTowersModel", "nextLike", "(IIII)I"⟩, 40) := ⟨⟨by decide +kernel, by decide +kernel⟩, List.mem_of_getElem? (i := 690) (by decide +kernel), List.mem_of_getElem? (i := 948) (by decide +kernel), List.mem_of_getElem? (i := 949) (by decide +kernel)⟩
theorem lw_p41 : lw_okq (⟨"GroupTowersModel", "goes", "(III)Z"⟩, 40) := ⟨⟨by decide +kernel, by decide +kernel⟩, List.mem_of_getElem? (i := 690) (by decide +kernel), List.mem_of_getElem? (i := 952) (by decide +kernel), List.mem_of_getElem? (i := 953) (by decide +kernel)⟩
theorem lw_p42 : lw_okq (⟨"GroupTowersModel", "isModule", "(I)Z"⟩, 40) := ⟨⟨by decide +kernel, by decide +kernel⟩, List.mem_of_getElem? (i := 690) (by decide +kernel), List.mem_of_getElem? (i := 965) (by decide +kernel), List.mem_of_getElem? (i := 966) (by decide +kernel)⟩
theorem lw_p43 : lw_okq (⟨"GroupTowersModel", "matrix", "(IIII)I"⟩, 40) := ⟨⟨by decide +kernel, by decide +kernel⟩, List.mem_of_getElem? (i := 690) (by decide +kernel), List.mem_of_getElem? (i := 973) (by decide +kernel), List.mem_of_getElem? (i := 974) (by decide +kernel)⟩
theorem lw_p44 : lw_okq (⟨"GroupTowersModel", "know", "(I)V"⟩, 40) := ⟨⟨by decide +kernel, by decide +kernel⟩, List.mem_of_getElem? (i := 690) (by decide +kernel), List.mem_of_getElem? (i := 983) (by decide +kernel), List.mem_of_getElem? (i := 984) (by decide +kernel)⟩
theorem lw_p45 : lw_okq (⟨"GroupTowersModel", "start", "(I)V"⟩, 40) := ⟨⟨by decide +kernel, by decide +kernel⟩, List.mem_of_getElem? (i := 690) (by decide +kernel), List.mem_of_getElem? (i := 987) (by decide +kernel), List.mem_of_getElem? (i := 988) (by decide +kernel)⟩
theorem lw_p46 : lw_okq (⟨"GroupTowersModel", "dimensionNone", "()V"⟩, 40) := ⟨⟨by decide +kernel, by decide +kernel⟩, List.mem_of_getElem? (i := 690) (by decide +kernel), List.mem_of_getElem? (i := 991) (by decide +kernel), List.mem_of_getElem? (i := 992) (by decide +kernel)⟩
theorem lw_p47 : lw_okq (⟨"GroupTowersModel", "clearLine", "()V"⟩, 40) := ⟨⟨by decide +kernel, by decide +kernel⟩, List.mem_of_getElem? (i := 690) (by decide +kernel), List.mem_of_getElem? (i := 995) (by decide +kernel), List.mem_of_getElem? (i := 996) (by decide +kernel)⟩
def lw_privs_3 : List (MethodName × Nat) := [(⟨"GroupTowersModel", "friends", "(II)I"⟩, 40), (⟨"GroupTowersModel", "leastTurned", "(II)I"⟩, 40), (⟨"GroupTowersModel", "makes", "(II)V"⟩, 40), (⟨"GroupTowersModel", "isMade", "(I)Z"⟩, 40), (⟨"GroupTowersModel", "turnsMade", "(I)I"⟩, 40), (⟨"GroupTowersModel", "leastMakers", "(I)I"⟩, 40), (⟨"GroupTowersModel", "ofOrder", "(II)I"⟩, 40), (⟨"GroupTowersModel", "leastRow", "(II)V"⟩, 40), (⟨"GroupTowersModel", "nextLike", "(IIII)I"⟩, 40), (⟨"GroupTowersModel", "goes", "(III)Z"⟩, 40), (⟨"GroupTowersModel", "isModule", "(I)Z"⟩, 40), (⟨"GroupTowersModel", "matrix", "(IIII)I"⟩, 40), (⟨"GroupTowersModel", "know", "(I)V"⟩, 40), (⟨"GroupTowersModel", "start", "(I)V"⟩, 40), (⟨"GroupTowersModel", "dimensionNone", "()V"⟩, 40), (⟨"GroupTowersModel", "clearLine", "()V"⟩, 40)]
theorem lw_r3 : ∀ q ∈ lw_privs_3, lw_okq q := List.forall_mem_cons.mpr ⟨lw_p32, List.forall_mem_cons.mpr ⟨lw_p33, List.forall_mem_cons.mpr ⟨lw_p34, List.forall_mem_cons.mpr ⟨lw_p35, List.forall_mem_cons.mpr ⟨lw_p36, List.forall_mem_cons.mpr ⟨lw_p37, List.forall_mem_cons.mpr ⟨lw_p38, List.forall_mem_cons.mpr ⟨lw_p39, List.forall_mem_cons.mpr ⟨lw_p40, List.forall_mem_cons.mpr ⟨lw_p41, List.forall_mem_cons.mpr ⟨lw_p42, List.forall_mem_cons.mpr ⟨lw_p43, List.forall_mem_cons.mpr ⟨lw_p44, List.forall_mem_cons.mpr ⟨lw_p45, List.forall_mem_cons.mpr ⟨lw_p46, List.forall_mem_cons.mpr ⟨lw_p47, fun _ h => absurd h List.not_mem_nil⟩⟩⟩⟩⟩⟩⟩⟩⟩⟩⟩⟩⟩⟩⟩⟩
theorem lw_p48 : lw_okq (⟨"GroupTowersModel", "addTo", "(II)V"⟩, 40) := ⟨⟨by decide +kernel, by decide +kernel⟩, List.mem_of_getElem? (i := 690) (by decide +kernel), List.mem_of_getElem? (i := 999) (by decide +kernel), List.mem_of_getElem? (i := 1000) (by decide +kernel)⟩
theorem lw_p49 : lw_okq (⟨"GroupTowersModel", "settles", "()V"⟩, 40) := ⟨⟨by decide +kernel, by decide +kernel⟩, List.mem_of_getElem? (i := 690) (by decide +kernel), List.mem_of_getElem? (i := 1003) (by decide +kernel), List.mem_of_getElem? (i := 1004) (by decide +kernel)⟩
theorem lw_p50 : lw_okq (⟨"GroupTowersModel", "reduceLine", "()V"⟩, 40) := ⟨⟨by decide +kernel, by decide +kernel⟩, List.mem_of_getElem? (i := 690) (by decide +kernel), List.mem_of_getElem? (i := 1007) (by decide +kernel), List.mem_of_getElem? (i := 1008) (by decide +kernel)⟩
theorem lw_p51 : lw_okq (⟨"GroupTowersModel", "dimensionOne", "()V"⟩, 40) := ⟨⟨by decide +kernel, by decide +kernel⟩, List.mem_of_getElem? (i := 690) (by decide +kernel), List.mem_of_getElem? (i := 1011) (by decide +kernel), List.mem_of_getElem? (i := 1012) (by decide +kernel)⟩
theorem lw_p52 : lw_okq (⟨"GroupTowersModel", "pairs", "()V"⟩, 40) := ⟨⟨by decide +kernel, by decide +kernel⟩, List.mem_of_getElem? (i := 690) (by decide +kernel), List.mem_of_getElem? (i := 1015) (by decide +kernel), List.mem_of_getElem? (i := 1016) (by decide +kernel)⟩
theorem lw_p53 : lw_okq (⟨"GroupTowersModel", "equation", "(IIII)V"⟩, 40) := ⟨⟨by decide +kernel, by decide +kernel⟩, List.mem_of_getElem? (i := 690) (by decide +kernel), List.mem_of_getElem? (i := 1019) (by decide +kernel), List.mem_of_getElem? (i := 1020) (by decide +kernel)⟩
theorem lw_p54 : lw_okq (⟨"GroupTowersModel", "placeOf", "(III)I"⟩, 40) := ⟨⟨by decide +kernel, by decide +kernel⟩, List.mem_of_getElem? (i := 690) (by decide +kernel), List.mem_of_getElem? (i := 1023) (by decide +kernel), List.mem_of_getElem? (i := 1024) (by decide +kernel)⟩
theorem lw_p55 : lw_okq (⟨"GroupTowersModel", "bounds", "()V"⟩, 40) := ⟨⟨by decide +kernel, by decide +kernel⟩, List.mem_of_getElem? (i := 690) (by decide +kernel), List.mem_of_getElem? (i := 1027) (by decide +kernel), List.mem_of_getElem? (i := 1028) (by decide +kernel)⟩
theorem lw_p56 : lw_okq (⟨"GroupTowersModel", "lessBound", "()V"⟩, 40) := ⟨⟨by decide +kernel, by decide +kernel⟩, List.mem_of_getElem? (i := 690) (by decide +kernel), List.mem_of_getElem? (i := 1031) (by decide +kernel), List.mem_of_getElem? (i := 1032) (by decide +kernel)⟩
theorem lw_p57 : lw_okq (⟨"GroupTowersModel", "lacks", "(II)I"⟩, 40) := ⟨⟨by decide +kernel, by decide +kernel⟩, List.mem_of_getElem? (i := 690) (by decide +kernel), List.mem_of_getElem? (i := 1039) (by decide +kernel), List.mem_of_getElem? (i := 1040) (by decide +kernel)⟩
theorem lw_p58 : lw_okq (⟨"GroupTowersModel", "sumOf", "(I)V"⟩, 40) := ⟨⟨by decide +kernel, by decide +kernel⟩, List.mem_of_getElem? (i := 690) (by decide +kernel), List.mem_of_getElem? (i := 1046) (by decide +kernel), List.mem_of_getElem? (i := 1047) (by decide +kernel)⟩
theorem lw_p59 : lw_okq (⟨"GroupTowersModel", "twisted", "(III)I"⟩, 40) := ⟨⟨by decide +kernel, by decide +kernel⟩, List.mem_of_getElem? (i := 690) (by decide +kernel), List.mem_of_getElem? (i := 1050) (by decide +kernel), List.mem_of_getElem? (i := 1051) (by decide +kernel)⟩
theorem lw_p60 : lw_okq (⟨"GroupTowersModel", "isCocycle", "()Z"⟩, 40) := ⟨⟨by decide +kernel, by decide +kernel⟩, List.mem_of_getElem? (i := 690) (by decide +kernel), List.mem_of_getElem? (i := 1062) (by decide +kernel), List.mem_of_getElem? (i := 1063) (by decide +kernel)⟩
theorem lw_p61 : lw_okq (⟨"GroupTowersModel", "classOfLine", "()I"⟩, 40) := ⟨⟨by decide +kernel, by decide +kernel⟩, List.mem_of_getElem? (i := 690) (by decide +kernel), List.mem_of_getElem? (i := 1066) (by decide +kernel), List.mem_of_getElem? (i := 1067) (by decide +kernel)⟩
def lw_privs_4 : List (MethodName × Nat) := [(⟨"GroupTowersModel", "addTo", "(II)V"⟩, 40), (⟨"GroupTowersModel", "settles", "()V"⟩, 40), (⟨"GroupTowersModel", "reduceLine", "()V"⟩, 40), (⟨"GroupTowersModel", "dimensionOne", "()V"⟩, 40), (⟨"GroupTowersModel", "pairs", "()V"⟩, 40), (⟨"GroupTowersModel", "equation", "(IIII)V"⟩, 40), (⟨"GroupTowersModel", "placeOf", "(III)I"⟩, 40), (⟨"GroupTowersModel", "bounds", "()V"⟩, 40), (⟨"GroupTowersModel", "lessBound", "()V"⟩, 40), (⟨"GroupTowersModel", "lacks", "(II)I"⟩, 40), (⟨"GroupTowersModel", "sumOf", "(I)V"⟩, 40), (⟨"GroupTowersModel", "twisted", "(III)I"⟩, 40), (⟨"GroupTowersModel", "isCocycle", "()Z"⟩, 40), (⟨"GroupTowersModel", "classOfLine", "()I"⟩, 40)]
theorem lw_r4 : ∀ q ∈ lw_privs_4, lw_okq q := List.forall_mem_cons.mpr ⟨lw_p48, List.forall_mem_cons.mpr ⟨lw_p49, List.forall_mem_cons.mpr ⟨lw_p50, List.forall_mem_cons.mpr ⟨lw_p51, List.forall_mem_cons.mpr ⟨lw_p52, List.forall_mem_cons.mpr ⟨lw_p53, List.forall_mem_cons.mpr ⟨lw_p54, List.forall_mem_cons.mpr ⟨lw_p55, List.forall_mem_cons.mpr ⟨lw_p56, List.forall_mem_cons.mpr ⟨lw_p57, List.forall_mem_cons.mpr ⟨lw_p58, List.forall_mem_cons.mpr ⟨lw_p59, List.forall_mem_cons.mpr ⟨lw_p60, List.forall_mem_cons.mpr ⟨lw_p61, fun _ h => absurd h List.not_mem_nil⟩⟩⟩⟩⟩⟩⟩⟩⟩⟩⟩⟩⟩⟩
def lw_privs : List (MethodName × Nat) := lw_privs_1 ++ (lw_privs_2 ++ (lw_privs_3 ++ (lw_privs_4)))
def lw_tbl : List Cond := k2_sels lw_privs ++ tables_1
theorem lw_privs_ok : ∀ q ∈ lw_privs, lw_okq q := by
  show ∀ q ∈ lw_privs_1 ++ (lw_privs_2 ++ (lw_privs_3 ++ (lw_privs_4))), lw_okq q
  exact List.forall_mem_append.mpr ⟨lw_r1, List.forall_mem_append.mpr ⟨lw_r2, List.forall_mem_append.mpr ⟨lw_r3, lw_r4⟩⟩⟩
def RX0 : String := "GroupTowers$Action"
def TX0 : u_T := fun k => match k with
  | 0 => ("GroupTowers$Action", "matrices", "[I", true)
  | 1 => ("GroupTowers$Action", "twists", "LGroupTowers$Twists;", true)
  | 2 => ("GroupTowers$Action", "group", "LGroupTowers$Group;", false)
  | 3 => ("GroupTowers$Action", "prime", "I", false)
  | 4 => ("GroupTowers$Action", "rank", "I", false)
  | 5 => ("GroupTowers$Action", "vectors", "I", false)
  | _ => ("GroupTowers$Action", "solved", "Z", false)
def tyX0 : Nat → FieldType := fun k => match k with
  | 0 => .array .int
  | 1 => .object "GroupTowers$Twists"
  | 2 => .object "GroupTowers$Group"
  | 3 => .int
  | 4 => .int
  | 5 => .int
  | _ => .boolean
abbrev wsX00 : List Cond := u_ws RX0 TX0 7
theorem nmX0 : ∀ a, a < 7 → ∀ b, b < 7 → a ≠ b → (TX0 a).2.1 ≠ (TX0 b).2.1 := by decide +kernel
theorem tyX0_ok : ∀ k, k < 7 → parseFieldDescriptor (TX0 k).2.2.1 = some (tyX0 k) := by decide +kernel
abbrev cX0_init : ByteArray := prog_2_method_1_code
def yX0_init : MethodName := ⟨RX0, "<init>", "()V"⟩
abbrev cX0_begin : ByteArray := prog_2_method_2_code
def yX0_begin : MethodName := ⟨RX0, "begin", "(LGroupTowers$Group;II)V"⟩
abbrev cX0_isNumber : ByteArray := prog_2_method_3_code
def yX0_isNumber : MethodName := ⟨RX0, "isNumber", "(I)Z"⟩
abbrev cX0_put : ByteArray := prog_2_method_4_code
def yX0_put : MethodName := ⟨RX0, "put", "(IIIII)V"⟩
abbrev cX0_entry : ByteArray := prog_2_method_5_code
def yX0_entry : MethodName := ⟨RX0, "entry", "(III)I"⟩
abbrev cX0_firstUnsound : ByteArray := prog_2_method_6_code
def yX0_firstUnsound : MethodName := ⟨RX0, "firstUnsound", "()I"⟩
abbrev cX0_goesWithProduct : ByteArray := prog_2_method_7_code
def yX0_goesWithProduct : MethodName := ⟨RX0, "goesWithProduct", "(II)Z"⟩
abbrev cX0_plus : ByteArray := prog_2_method_8_code
def yX0_plus : MethodName := ⟨RX0, "plus", "(II)I"⟩
abbrev cX0_move : ByteArray := prog_2_method_9_code
def yX0_move : MethodName := ⟨RX0, "move", "(II)I"⟩
abbrev cX0_places : ByteArray := prog_2_method_10_code
def yX0_places : MethodName := ⟨RX0, "places", "()I"⟩
abbrev cX0_place : ByteArray := prog_2_method_11_code
def yX0_place : MethodName := ⟨RX0, "place", "(III)I"⟩
def RX1 : String := "GroupTowers$Echelon"
def TX1 : u_T := fun k => match k with
  | 0 => ("GroupTowers$Echelon", "numbers", "[I", true)
  | 1 => ("GroupTowers$Echelon", "leads", "[I", true)
  | 2 => ("GroupTowers$Echelon", "rowLeading", "[I", true)
  | 3 => ("GroupTowers$Echelon", "width", "I", false)
  | 4 => ("GroupTowers$Echelon", "prime", "I", false)
  | _ => ("GroupTowers$Echelon", "count", "I", false)
def tyX1 : Nat → FieldType := fun k => match k with
  | 0 => .array .int
  | 1 => .array .int
  | 2 => .array .int
  | 3 => .int
  | 4 => .int
  | _ => .int
abbrev wsX10 : List Cond := u_ws RX1 TX1 6
theorem nmX1 : ∀ a, a < 6 → ∀ b, b < 6 → a ≠ b → (TX1 a).2.1 ≠ (TX1 b).2.1 := by decide +kernel
theorem tyX1_ok : ∀ k, k < 6 → parseFieldDescriptor (TX1 k).2.2.1 = some (tyX1 k) := by decide +kernel
abbrev cX1_init : ByteArray := prog_3_method_1_code
def yX1_init : MethodName := ⟨RX1, "<init>", "(I)V"⟩
abbrev cX1_begin : ByteArray := prog_3_method_2_code
def yX1_begin : MethodName := ⟨RX1, "begin", "(II)V"⟩
abbrev cX1_leadsAt : ByteArray := prog_3_method_3_code
def yX1_leadsAt : MethodName := ⟨RX1, "leadsAt", "(I)Z"⟩
abbrev cX1_leadOf : ByteArray := prog_3_method_4_code
def yX1_leadOf : MethodName := ⟨RX1, "leadOf", "(I)I"⟩
abbrev cX1_number : ByteArray := prog_3_method_5_code
def yX1_number : MethodName := ⟨RX1, "number", "(II)I"⟩
abbrev cX1_leadingNumber : ByteArray := prog_3_method_6_code
def yX1_leadingNumber : MethodName := ⟨RX1, "leadingNumber", "(II)I"⟩
abbrev cX1_reduce : ByteArray := prog_3_method_7_code
def yX1_reduce : MethodName := ⟨RX1, "reduce", "([I)V"⟩
abbrev cX1_add : ByteArray := prog_3_method_8_code
def yX1_add : MethodName := ⟨RX1, "add", "([I)V"⟩
abbrev cX1_firstNotZero : ByteArray := prog_3_method_9_code
def yX1_firstNotZero : MethodName := ⟨RX1, "firstNotZero", "([I)I"⟩
abbrev cX1_inverseOf : ByteArray := prog_3_method_10_code
def yX1_inverseOf : MethodName := ⟨RX1, "inverseOf", "(I)I"⟩
def RX2 : String := "GroupTowers$Group"
def TX2 : u_T := fun k => match k with
  | 0 => ("GroupTowers$Group", "entries", "[I", true)
  | 1 => ("GroupTowers$Group", "queue", "[I", true)
  | 2 => ("GroupTowers$Group", "chosen", "[I", true)
  | 3 => ("GroupTowers$Group", "inverse", "[I", true)
  | 4 => ("GroupTowers$Group", "period", "[I", true)
  | 5 => ("GroupTowers$Group", "makers", "[I", true)
  | 6 => ("GroupTowers$Group", "makerCount", "I", false)
  | _ => ("GroupTowers$Group", "size", "I", false)
def tyX2 : Nat → FieldType := fun k => match k with
  | 0 => .array .int
  | 1 => .array .int
  | 2 => .array .int
  | 3 => .array .int
  | 4 => .array .int
  | 5 => .array .int
  | 6 => .int
  | _ => .int
abbrev wsX20 : List Cond := u_ws RX2 TX2 8
theorem nmX2 : ∀ a, a < 8 → ∀ b, b < 8 → a ≠ b → (TX2 a).2.1 ≠ (TX2 b).2.1 := by decide +kernel
theorem tyX2_ok : ∀ k, k < 8 → parseFieldDescriptor (TX2 k).2.2.1 = some (tyX2 k) := by decide +kernel
abbrev cX2_init : ByteArray := prog_4_method_1_code
def yX2_init : MethodName := ⟨RX2, "<init>", "()V"⟩
abbrev cX2_has : ByteArray := prog_4_method_2_code
def yX2_has : MethodName := ⟨RX2, "has", "(I)Z"⟩
abbrev cX2_mul : ByteArray := prog_4_method_3_code
def yX2_mul : MethodName := ⟨RX2, "mul", "(II)I"⟩
abbrev cX2_set : ByteArray := prog_4_method_4_code
def yX2_set : MethodName := ⟨RX2, "set", "(III)V"⟩
abbrev cX2_fillTurns : ByteArray := prog_4_method_5_code
def yX2_fillTurns : MethodName := ⟨RX2, "fillTurns", "(I)V"⟩
abbrev cX2_fillTurnsAndFlips : ByteArray := prog_4_method_6_code
def yX2_fillTurnsAndFlips : MethodName := ⟨RX2, "fillTurnsAndFlips", "(I)V"⟩
abbrev cX2_fillUnits : ByteArray := prog_4_method_7_code
def yX2_fillUnits : MethodName := ⟨RX2, "fillUnits", "()V"⟩
abbrev cX2_fillPair : ByteArray := prog_4_method_8_code
def yX2_fillPair : MethodName := ⟨RX2, "fillPair", "(LGroupTowers$Group;LGroupTowers$Group;)V"⟩
abbrev cX2_fillOver : ByteArray := prog_4_method_9_code
def yX2_fillOver : MethodName := ⟨RX2, "fillOver", "(LGroupTowers$Action;I)V"⟩
abbrev cX2_readFrom : ByteArray := prog_4_method_10_code
def yX2_readFrom : MethodName := ⟨RX2, "readFrom", "(LGroupTowers$Sheet;I)I"⟩
abbrev cX2_firstUnlike : ByteArray := prog_4_method_11_code
def yX2_firstUnlike : MethodName := ⟨RX2, "firstUnlike", "()I"⟩
abbrev cX2_firstWithoutInverse : ByteArray := prog_4_method_12_code
def yX2_firstWithoutInverse : MethodName := ⟨RX2, "firstWithoutInverse", "()I"⟩
abbrev cX2_findInverse : ByteArray := prog_4_method_13_code
def yX2_findInverse : MethodName := ⟨RX2, "findInverse", "(I)I"⟩
abbrev cX2_settle : ByteArray := prog_4_method_14_code
def yX2_settle : MethodName := ⟨RX2, "settle", "()V"⟩
abbrev cX2_findPeriod : ByteArray := prog_4_method_15_code
def yX2_findPeriod : MethodName := ⟨RX2, "findPeriod", "(I)I"⟩
abbrev cX2_countCommuting : ByteArray := prog_4_method_16_code
def yX2_countCommuting : MethodName := ⟨RX2, "countCommuting", "(I)I"⟩
abbrev cX2_leastTurned : ByteArray := prog_4_method_17_code
def yX2_leastTurned : MethodName := ⟨RX2, "leastTurned", "(I)I"⟩
abbrev cX2_countCentral : ByteArray := prog_4_method_18_code
def yX2_countCentral : MethodName := ⟨RX2, "countCentral", "()I"⟩
abbrev cX2_countTurnClasses : ByteArray := prog_4_method_19_code
def yX2_countTurnClasses : MethodName := ⟨RX2, "countTurnClasses", "()I"⟩
abbrev cX2_countDerived : ByteArray := prog_4_method_20_code
def yX2_countDerived : MethodName := ⟨RX2, "countDerived", "()I"⟩
abbrev cX2_exponent : ByteArray := prog_4_method_21_code
def yX2_exponent : MethodName := ⟨RX2, "exponent", "()I"⟩
abbrev cX2_bringsAllToZero : ByteArray := prog_4_method_22_code
def yX2_bringsAllToZero : MethodName := ⟨RX2, "bringsAllToZero", "(I)Z"⟩
abbrev cX2_countMade : ByteArray := prog_4_method_23_code
def yX2_countMade : MethodName := ⟨RX2, "countMade", "(II)I"⟩
abbrev cX2_span : ByteArray := prog_4_method_24_code
def yX2_span : MethodName := ⟨RX2, "span", "([II)J"⟩
abbrev cX2_findMakers : ByteArray := prog_4_method_25_code
def yX2_findMakers : MethodName := ⟨RX2, "findMakers", "()I"⟩
abbrev cX2_extendMakers : ByteArray := prog_4_method_26_code
def yX2_extendMakers : MethodName := ⟨RX2, "extendMakers", "(LGroupTowers$Group;IIJ)Z"⟩
def RX3 : String := "GroupTowers$Matching"
def TX3 : u_T := fun k => match k with
  | 0 => ("GroupTowers$Matching", "reached", "[I", true)
  | 1 => ("GroupTowers$Matching", "parent", "[I", true)
  | 2 => ("GroupTowers$Matching", "through", "[I", true)
  | 3 => ("GroupTowers$Matching", "image", "[I", true)
  | 4 => ("GroupTowers$Matching", "usedBy", "[I", true)
  | 5 => ("GroupTowers$Matching", "given", "[I", true)
  | 6 => ("GroupTowers$Matching", "tally", "[I", true)
  | _ => ("GroupTowers$Matching", "length", "I", false)
def tyX3 : Nat → FieldType := fun k => match k with
  | 0 => .array .int
  | 1 => .array .int
  | 2 => .array .int
  | 3 => .array .int
  | 4 => .array .int
  | 5 => .array .int
  | 6 => .array .int
  | _ => .int
abbrev wsX30 : List Cond := u_ws RX3 TX3 8
theorem nmX3 : ∀ a, a < 8 → ∀ b, b < 8 → a ≠ b → (TX3 a).2.1 ≠ (TX3 b).2.1 := by decide +kernel
theorem tyX3_ok : ∀ k, k < 8 → parseFieldDescriptor (TX3 k).2.2.1 = some (tyX3 k) := by decide +kernel
abbrev cX3_init : ByteArray := prog_5_method_1_code
def yX3_init : MethodName := ⟨RX3, "<init>", "()V"⟩
abbrev cX3_search : ByteArray := prog_5_method_2_code
def yX3_search : MethodName := ⟨RX3, "search", "(LGroupTowers$Group;LGroupTowers$Group;I)I"⟩
abbrev cX3_likeInPeriods : ByteArray := prog_5_method_3_code
def yX3_likeInPeriods : MethodName := ⟨RX3, "likeInPeriods", "(LGroupTowers$Group;LGroupTowers$Group;)Z"⟩
abbrev cX3_layPaths : ByteArray := prog_5_method_4_code
def yX3_layPaths : MethodName := ⟨RX3, "layPaths", "(LGroupTowers$Group;)V"⟩
abbrev cX3_nextOfPeriod : ByteArray := prog_5_method_5_code
def yX3_nextOfPeriod : MethodName := ⟨RX3, "nextOfPeriod", "(LGroupTowers$Group;II)I"⟩
abbrev cX3_stepGiven : ByteArray := prog_5_method_6_code
def yX3_stepGiven : MethodName := ⟨RX3, "stepGiven", "(LGroupTowers$Group;LGroupTowers$Group;)Z"⟩
abbrev cX3_goesWithProducts : ByteArray := prog_5_method_7_code
def yX3_goesWithProducts : MethodName := ⟨RX3, "goesWithProducts", "(LGroupTowers$Group;LGroupTowers$Group;I)Z"⟩
def RX4 : String := "GroupTowers$Sheet"
def TX4 : u_T := fun k => match k with
  | 0 => ("GroupTowers$Sheet", "cells", "[I", true)
  | 1 => ("GroupTowers$Sheet", "lane", "I", false)
  | _ => ("GroupTowers$Sheet", "length", "I", false)
def tyX4 : Nat → FieldType := fun k => match k with
  | 0 => .array .int
  | 1 => .int
  | _ => .int
abbrev wsX40 : List Cond := u_ws RX4 TX4 3
theorem nmX4 : ∀ a, a < 3 → ∀ b, b < 3 → a ≠ b → (TX4 a).2.1 ≠ (TX4 b).2.1 := by decide +kernel
theorem tyX4_ok : ∀ k, k < 3 → parseFieldDescriptor (TX4 k).2.2.1 = some (tyX4 k) := by decide +kernel
abbrev cX4_init : ByteArray := prog_6_method_1_code
def yX4_init : MethodName := ⟨RX4, "<init>", "()V"⟩
abbrev cX4_renew : ByteArray := prog_6_method_2_code
def yX4_renew : MethodName := ⟨RX4, "renew", "(II)V"⟩
abbrev cX4_put : ByteArray := prog_6_method_3_code
def yX4_put : MethodName := ⟨RX4, "put", "(II)V"⟩
abbrev cX4_faultOfReading : ByteArray := prog_6_method_4_code
def yX4_faultOfReading : MethodName := ⟨RX4, "faultOfReading", "(II)I"⟩
def RX5 : String := "GroupTowers$Twists"
def TX5 : u_T := fun k => match k with
  | 0 => ("GroupTowers$Twists", "row", "[I", true)
  | 1 => ("GroupTowers$Twists", "bounds", "LGroupTowers$Echelon;", true)
  | 2 => ("GroupTowers$Twists", "standards", "LGroupTowers$Echelon;", true)
  | 3 => ("GroupTowers$Twists", "unmoved", "I", false)
  | 4 => ("GroupTowers$Twists", "bound", "I", false)
  | 5 => ("GroupTowers$Twists", "singles", "I", false)
  | _ => ("GroupTowers$Twists", "classCount", "I", false)
def tyX5 : Nat → FieldType := fun k => match k with
  | 0 => .array .int
  | 1 => .object "GroupTowers$Echelon"
  | 2 => .object "GroupTowers$Echelon"
  | 3 => .int
  | 4 => .int
  | 5 => .int
  | _ => .int
abbrev wsX50 : List Cond := u_ws RX5 TX5 7
theorem nmX5 : ∀ a, a < 7 → ∀ b, b < 7 → a ≠ b → (TX5 a).2.1 ≠ (TX5 b).2.1 := by decide +kernel
theorem tyX5_ok : ∀ k, k < 7 → parseFieldDescriptor (TX5 k).2.2.1 = some (tyX5 k) := by decide +kernel
abbrev cX5_init : ByteArray := prog_7_method_1_code
def yX5_init : MethodName := ⟨RX5, "<init>", "()V"⟩
abbrev cX5_dimensionOf : ByteArray := prog_7_method_2_code
def yX5_dimensionOf : MethodName := ⟨RX5, "dimensionOf", "(I)I"⟩
abbrev cX5_findUnmoved : ByteArray := prog_7_method_3_code
def yX5_findUnmoved : MethodName := ⟨RX5, "findUnmoved", "(LGroupTowers$Action;LGroupTowers$Echelon;)V"⟩
abbrev cX5_findBounds : ByteArray := prog_7_method_4_code
def yX5_findBounds : MethodName := ⟨RX5, "findBounds", "(LGroupTowers$Action;)V"⟩
abbrev cX5_writeBound : ByteArray := prog_7_method_5_code
def yX5_writeBound : MethodName := ⟨RX5, "writeBound", "(LGroupTowers$Action;II)V"⟩
abbrev cX5_writeEquations : ByteArray := prog_7_method_6_code
def yX5_writeEquations : MethodName := ⟨RX5, "writeEquations", "(LGroupTowers$Action;LGroupTowers$Echelon;)V"⟩
abbrev cX5_writeCocycleRule : ByteArray := prog_7_method_7_code
def yX5_writeCocycleRule : MethodName := ⟨RX5, "writeCocycleRule", "(LGroupTowers$Action;IIII)V"⟩
abbrev cX5_findStandards : ByteArray := prog_7_method_8_code
def yX5_findStandards : MethodName := ⟨RX5, "findStandards", "(LGroupTowers$Action;LGroupTowers$Echelon;)V"⟩
abbrev cX5_writeStandard : ByteArray := prog_7_method_9_code
def yX5_writeStandard : MethodName := ⟨RX5, "writeStandard", "(LGroupTowers$Echelon;III)V"⟩
abbrev cX5_numberOf : ByteArray := prog_7_method_10_code
def yX5_numberOf : MethodName := ⟨RX5, "numberOf", "(LGroupTowers$Action;IIII)I"⟩
abbrev cX5_vectorOf : ByteArray := prog_7_method_11_code
def yX5_vectorOf : MethodName := ⟨RX5, "vectorOf", "(LGroupTowers$Action;III)I"⟩
abbrev cX5_classRead : ByteArray := prog_7_method_12_code
def yX5_classRead : MethodName := ⟨RX5, "classRead", "(LGroupTowers$Action;LGroupTowers$Sheet;)I"⟩
abbrev cX5_readPair : ByteArray := prog_7_method_13_code
def yX5_readPair : MethodName := ⟨RX5, "readPair", "(LGroupTowers$Action;LGroupTowers$Sheet;)Z"⟩
def RX6 : String := "GroupTowers"
def TX6 : u_T := fun k => match k with
  | 0 => ("GroupTowers", "groups", "[LGroupTowers$Group;", true)
  | 1 => ("GroupTowers", "actions", "[LGroupTowers$Action;", true)
  | 2 => ("GroupTowers", "sheets", "[LGroupTowers$Sheet;", true)
  | 3 => ("GroupTowers", "groupCount", "I", false)
  | 4 => ("GroupTowers", "actionCount", "I", false)
  | 5 => ("GroupTowers", "matching", "LGroupTowers$Matching;", false)
  | _ => ("GroupTowers", "equations", "LGroupTowers$Echelon;", false)
def tyX6 : Nat → FieldType := fun k => match k with
  | 0 => .array (.object "GroupTowers$Group")
  | 1 => .array (.object "GroupTowers$Action")
  | 2 => .array (.object "GroupTowers$Sheet")
  | 3 => .int
  | 4 => .int
  | 5 => .object "GroupTowers$Matching"
  | _ => .object "GroupTowers$Echelon"
abbrev wsX60 : List Cond := u_ws RX6 TX6 7
theorem nmX6 : ∀ a, a < 7 → ∀ b, b < 7 → a ≠ b → (TX6 a).2.1 ≠ (TX6 b).2.1 := by decide +kernel
theorem tyX6_ok : ∀ k, k < 7 → parseFieldDescriptor (TX6 k).2.2.1 = some (tyX6 k) := by decide +kernel
abbrev cX6_init : ByteArray := prog_1_method_1_code
def yX6_init : MethodName := ⟨RX6, "<init>", "()V"⟩
abbrev cX6_cyclic : ByteArray := prog_1_method_2_code
def yX6_cyclic : MethodName := ⟨RX6, "cyclic", "(I)I"⟩
abbrev cX6_dihedral : ByteArray := prog_1_method_3_code
def yX6_dihedral : MethodName := ⟨RX6, "dihedral", "(I)I"⟩
abbrev cX6_quaternions : ByteArray := prog_1_method_4_code
def yX6_quaternions : MethodName := ⟨RX6, "quaternions", "()I"⟩
abbrev cX6_pair : ByteArray := prog_1_method_5_code
def yX6_pair : MethodName := ⟨RX6, "pair", "(II)I"⟩
abbrev cX6_sheet : ByteArray := prog_1_method_6_code
def yX6_sheet : MethodName := ⟨RX6, "sheet", "(III)I"⟩
abbrev cX6_lay : ByteArray := prog_1_method_7_code
def yX6_lay : MethodName := ⟨RX6, "lay", "(III)I"⟩
abbrev cX6_table : ByteArray := prog_1_method_8_code
def yX6_table : MethodName := ⟨RX6, "table", "(III)I"⟩
abbrev cX6_drop : ByteArray := prog_1_method_9_code
def yX6_drop : MethodName := ⟨RX6, "drop", "()I"⟩
abbrev cX6_order : ByteArray := prog_1_method_10_code
def yX6_order : MethodName := ⟨RX6, "order", "(I)I"⟩
abbrev cX6_product : ByteArray := prog_1_method_11_code
def yX6_product : MethodName := ⟨RX6, "product", "(III)I"⟩
abbrev cX6_element : ByteArray := prog_1_method_12_code
def yX6_element : MethodName := ⟨RX6, "element", "(III)I"⟩
abbrev cX6_about : ByteArray := prog_1_method_13_code
def yX6_about : MethodName := ⟨RX6, "about", "(II)I"⟩
abbrev cX6_made : ByteArray := prog_1_method_14_code
def yX6_made : MethodName := ⟨RX6, "made", "(III)I"⟩
abbrev cX6_same : ByteArray := prog_1_method_15_code
def yX6_same : MethodName := ⟨RX6, "same", "(III)I"⟩
abbrev cX6_module : ByteArray := prog_1_method_16_code
def yX6_module : MethodName := ⟨RX6, "module", "(III)I"⟩
abbrev cX6_acts : ByteArray := prog_1_method_17_code
def yX6_acts : MethodName := ⟨RX6, "acts", "(IIIIII)I"⟩
abbrev cX6_sound : ByteArray := prog_1_method_18_code
def yX6_sound : MethodName := ⟨RX6, "sound", "(I)I"⟩
abbrev cX6_dimension : ByteArray := prog_1_method_19_code
def yX6_dimension : MethodName := ⟨RX6, "dimension", "(II)I"⟩
abbrev cX6_twist : ByteArray := prog_1_method_20_code
def yX6_twist : MethodName := ⟨RX6, "twist", "(IIIII)I"⟩
abbrev cX6_over : ByteArray := prog_1_method_21_code
def yX6_over : MethodName := ⟨RX6, "over", "(II)I"⟩
abbrev cX6_classOf : ByteArray := prog_1_method_22_code
def yX6_classOf : MethodName := ⟨RX6, "classOf", "(III)I"⟩
abbrev cX6_parts : ByteArray := prog_1_method_23_code
def yX6_parts : MethodName := ⟨RX6, "parts", "(II)I"⟩
abbrev cX6_sum : ByteArray := prog_1_method_24_code
def yX6_sum : MethodName := ⟨RX6, "sum", "(III)I"⟩
abbrev cX6_times : ByteArray := prog_1_method_25_code
def yX6_times : MethodName := ⟨RX6, "times", "(III)I"⟩
abbrev cX6_count : ByteArray := prog_1_method_26_code
def yX6_count : MethodName := ⟨RX6, "count", "(I)I"⟩
abbrev cX6_leave : ByteArray := prog_1_method_27_code
def yX6_leave : MethodName := ⟨RX6, "leave", "()I"⟩
abbrev cX6_groupAt : ByteArray := prog_1_method_28_code
def yX6_groupAt : MethodName := ⟨RX6, "groupAt", "(I)LGroupTowers$Group;"⟩
abbrev cX6_actionAt : ByteArray := prog_1_method_29_code
def yX6_actionAt : MethodName := ⟨RX6, "actionAt", "(I)LGroupTowers$Action;"⟩
abbrev cX6_sheetAt : ByteArray := prog_1_method_30_code
def yX6_sheetAt : MethodName := ⟨RX6, "sheetAt", "(I)LGroupTowers$Sheet;"⟩
abbrev cX6_isLane : ByteArray := prog_1_method_31_code
def yX6_isLane : MethodName := ⟨RX6, "isLane", "(I)Z"⟩
abbrev cX6_spareGroup : ByteArray := prog_1_method_32_code
def yX6_spareGroup : MethodName := ⟨RX6, "spareGroup", "()LGroupTowers$Group;"⟩
abbrev cX6_keep : ByteArray := prog_1_method_33_code
def yX6_keep : MethodName := ⟨RX6, "keep", "(LGroupTowers$Group;)I"⟩
abbrev cX6_solve : ByteArray := prog_1_method_34_code
def yX6_solve : MethodName := ⟨RX6, "solve", "(LGroupTowers$Action;)V"⟩
abbrev cX6_refusalOf : ByteArray := prog_1_method_35_code
def yX6_refusalOf : MethodName := ⟨RX6, "refusalOf", "(LGroupTowers$Action;I)I"⟩
abbrev cX6_mod : ByteArray := prog_1_method_36_code
def yX6_mod : MethodName := ⟨RX6, "mod", "(II)I"⟩
abbrev cX6_quotient : ByteArray := prog_1_method_37_code
def yX6_quotient : MethodName := ⟨RX6, "quotient", "(II)I"⟩
abbrev cX6_power : ByteArray := prog_1_method_38_code
def yX6_power : MethodName := ⟨RX6, "power", "(II)I"⟩
abbrev cX6_addDigits : ByteArray := prog_1_method_39_code
def yX6_addDigits : MethodName := ⟨RX6, "addDigits", "(IIII)I"⟩
def RX7 : String := "GroupTowersModel"
def TX7 : u_T := fun k => match k with
  | 0 => ("GroupTowersModel", "groups", "I", false)
  | 1 => ("GroupTowersModel", "orders", "[I", true)
  | 2 => ("GroupTowersModel", "tables", "[I", true)
  | 3 => ("GroupTowersModel", "makers", "[I", true)
  | 4 => ("GroupTowersModel", "lanes", "[I", true)
  | 5 => ("GroupTowersModel", "lengths", "[I", true)
  | 6 => ("GroupTowersModel", "cells", "[I", true)
  | 7 => ("GroupTowersModel", "modules", "I", false)
  | 8 => ("GroupTowersModel", "groupOf", "[I", true)
  | 9 => ("GroupTowersModel", "primes", "[I", true)
  | 10 => ("GroupTowersModel", "ranks", "[I", true)
  | 11 => ("GroupTowersModel", "matrices", "[I", true)
  | 12 => ("GroupTowersModel", "maker", "[I", true)
  | 13 => ("GroupTowersModel", "made", "[I", true)
  | 14 => ("GroupTowersModel", "madeMany", "I", false)
  | 15 => ("GroupTowersModel", "lowBits", "J", false)
  | 16 => ("GroupTowersModel", "highBits", "J", false)
  | 17 => ("GroupTowersModel", "partLow", "[J", true)
  | 18 => ("GroupTowersModel", "partHigh", "[J", true)
  | 19 => ("GroupTowersModel", "partMaker", "[I", true)
  | 20 => ("GroupTowersModel", "row", "[I", true)
  | 21 => ("GroupTowersModel", "given", "[I", true)
  | 22 => ("GroupTowersModel", "image", "[I", true)
  | 23 => ("GroupTowersModel", "prime", "I", false)
  | 24 => ("GroupTowersModel", "wide", "I", false)
  | 25 => ("GroupTowersModel", "line", "[I", true)
  | 26 => ("GroupTowersModel", "stepRow", "[I", true)
  | 27 => ("GroupTowersModel", "lead", "[I", true)
  | 28 => ("GroupTowersModel", "steps", "I", false)
  | 29 => ("GroupTowersModel", "known", "I", false)
  | 30 => ("GroupTowersModel", "dimensions", "[I", true)
  | 31 => ("GroupTowersModel", "boundRow", "[I", true)
  | 32 => ("GroupTowersModel", "boundLead", "[I", true)
  | 33 => ("GroupTowersModel", "standardRow", "[I", true)
  | 34 => ("GroupTowersModel", "cocycleRow", "[I", true)
  | 35 => ("GroupTowersModel", "standards", "I", false)
  | 36 => ("GroupTowersModel", "size", "I", false)
  | 37 => ("GroupTowersModel", "rank", "I", false)
  | 38 => ("GroupTowersModel", "group", "I", false)
  | _ => ("GroupTowersModel", "module", "I", false)
def tyX7 : Nat → FieldType := fun k => match k with
  | 0 => .int
  | 1 => .array .int
  | 2 => .array .int
  | 3 => .array .int
  | 4 => .array .int
  | 5 => .array .int
  | 6 => .array .int
  | 7 => .int
  | 8 => .array .int
  | 9 => .array .int
  | 10 => .array .int
  | 11 => .array .int
  | 12 => .array .int
  | 13 => .array .int
  | 14 => .int
  | 15 => .long
  | 16 => .long
  | 17 => .array .long
  | 18 => .array .long
  | 19 => .array .int
  | 20 => .array .int
  | 21 => .array .int
  | 22 => .array .int
  | 23 => .int
  | 24 => .int
  | 25 => .array .int
  | 26 => .array .int
  | 27 => .array .int
  | 28 => .int
  | 29 => .int
  | 30 => .array .int
  | 31 => .array .int
  | 32 => .array .int
  | 33 => .array .int
  | 34 => .array .int
  | 35 => .int
  | 36 => .int
  | 37 => .int
  | 38 => .int
  | _ => .int
abbrev wsX70 : List Cond := u_ws RX7 TX7 40
theorem nmX7 : ∀ a, a < 40 → ∀ b, b < 40 → a ≠ b → (TX7 a).2.1 ≠ (TX7 b).2.1 := by decide +kernel
theorem tyX7_ok : ∀ k, k < 40 → parseFieldDescriptor (TX7 k).2.2.1 = some (tyX7 k) := by decide +kernel
abbrev cX7_init : ByteArray := prog_9_method_1_code
def yX7_init : MethodName := ⟨RX7, "<init>", "()V"⟩
abbrev cX7_in : ByteArray := prog_9_method_3_code
def yX7_in : MethodName := ⟨RX7, "in", "(JJJ)Z"⟩
abbrev cX7_prod : ByteArray := prog_9_method_4_code
def yX7_prod : MethodName := ⟨RX7, "prod", "(III)I"⟩
abbrev cX7_set : ByteArray := prog_9_method_5_code
def yX7_set : MethodName := ⟨RX7, "set", "(III)V"⟩
abbrev cX7_added : ByteArray := prog_9_method_6_code
def yX7_added : MethodName := ⟨RX7, "added", "(I)I"⟩
abbrev cX7_cyclic : ByteArray := prog_9_method_7_code
def yX7_cyclic : MethodName := ⟨RX7, "cyclic", "(I)I"⟩
abbrev cX7_dihedral : ByteArray := prog_9_method_8_code
def yX7_dihedral : MethodName := ⟨RX7, "dihedral", "(I)I"⟩
abbrev cX7_quaternions : ByteArray := prog_9_method_9_code
def yX7_quaternions : MethodName := ⟨RX7, "quaternions", "()I"⟩
abbrev cX7_isGroup : ByteArray := prog_9_method_10_code
def yX7_isGroup : MethodName := ⟨RX7, "isGroup", "(I)Z"⟩
abbrev cX7_pair : ByteArray := prog_9_method_11_code
def yX7_pair : MethodName := ⟨RX7, "pair", "(II)I"⟩
abbrev cX7_sheet : ByteArray := prog_9_method_12_code
def yX7_sheet : MethodName := ⟨RX7, "sheet", "(III)I"⟩
abbrev cX7_lay : ByteArray := prog_9_method_13_code
def yX7_lay : MethodName := ⟨RX7, "lay", "(III)I"⟩
abbrev cX7_faultOf : ByteArray := prog_9_method_14_code
def yX7_faultOf : MethodName := ⟨RX7, "faultOf", "(III)I"⟩
abbrev cX7_table : ByteArray := prog_9_method_15_code
def yX7_table : MethodName := ⟨RX7, "table", "(III)I"⟩
abbrev cX7_drop : ByteArray := prog_9_method_16_code
def yX7_drop : MethodName := ⟨RX7, "drop", "()I"⟩
abbrev cX7_order : ByteArray := prog_9_method_17_code
def yX7_order : MethodName := ⟨RX7, "order", "(I)I"⟩
abbrev cX7_isElement : ByteArray := prog_9_method_18_code
def yX7_isElement : MethodName := ⟨RX7, "isElement", "(II)Z"⟩
abbrev cX7_product : ByteArray := prog_9_method_19_code
def yX7_product : MethodName := ⟨RX7, "product", "(III)I"⟩
abbrev cX7_inverse : ByteArray := prog_9_method_20_code
def yX7_inverse : MethodName := ⟨RX7, "inverse", "(II)I"⟩
abbrev cX7_orderOf : ByteArray := prog_9_method_21_code
def yX7_orderOf : MethodName := ⟨RX7, "orderOf", "(II)I"⟩
abbrev cX7_leastTurned : ByteArray := prog_9_method_22_code
def yX7_leastTurned : MethodName := ⟨RX7, "leastTurned", "(II)I"⟩
abbrev cX7_friends : ByteArray := prog_9_method_23_code
def yX7_friends : MethodName := ⟨RX7, "friends", "(II)I"⟩
abbrev cX7_element : ByteArray := prog_9_method_24_code
def yX7_element : MethodName := ⟨RX7, "element", "(III)I"⟩
abbrev cX7_isMade : ByteArray := prog_9_method_25_code
def yX7_isMade : MethodName := ⟨RX7, "isMade", "(I)Z"⟩
abbrev cX7_makes : ByteArray := prog_9_method_26_code
def yX7_makes : MethodName := ⟨RX7, "makes", "(II)V"⟩
abbrev cX7_made : ByteArray := prog_9_method_27_code
def yX7_made : MethodName := ⟨RX7, "made", "(III)I"⟩
abbrev cX7_turnsMade : ByteArray := prog_9_method_28_code
def yX7_turnsMade : MethodName := ⟨RX7, "turnsMade", "(I)I"⟩
abbrev cX7_leastMakers : ByteArray := prog_9_method_29_code
def yX7_leastMakers : MethodName := ⟨RX7, "leastMakers", "(I)I"⟩
abbrev cX7_about : ByteArray := prog_9_method_30_code
def yX7_about : MethodName := ⟨RX7, "about", "(II)I"⟩
abbrev cX7_leastRow : ByteArray := prog_9_method_31_code
def yX7_leastRow : MethodName := ⟨RX7, "leastRow", "(II)V"⟩
abbrev cX7_goes : ByteArray := prog_9_method_32_code
def yX7_goes : MethodName := ⟨RX7, "goes", "(III)Z"⟩
abbrev cX7_ofOrder : ByteArray := prog_9_method_33_code
def yX7_ofOrder : MethodName := ⟨RX7, "ofOrder", "(II)I"⟩
abbrev cX7_nextLike : ByteArray := prog_9_method_34_code
def yX7_nextLike : MethodName := ⟨RX7, "nextLike", "(IIII)I"⟩
abbrev cX7_same : ByteArray := prog_9_method_35_code
def yX7_same : MethodName := ⟨RX7, "same", "(III)I"⟩
abbrev cX7_module : ByteArray := prog_9_method_36_code
def yX7_module : MethodName := ⟨RX7, "module", "(III)I"⟩
abbrev cX7_isModule : ByteArray := prog_9_method_37_code
def yX7_isModule : MethodName := ⟨RX7, "isModule", "(I)Z"⟩
abbrev cX7_acts : ByteArray := prog_9_method_38_code
def yX7_acts : MethodName := ⟨RX7, "acts", "(IIIIII)I"⟩
abbrev cX7_matrix : ByteArray := prog_9_method_39_code
def yX7_matrix : MethodName := ⟨RX7, "matrix", "(IIII)I"⟩
abbrev cX7_sound : ByteArray := prog_9_method_40_code
def yX7_sound : MethodName := ⟨RX7, "sound", "(I)I"⟩
abbrev cX7_clearLine : ByteArray := prog_9_method_41_code
def yX7_clearLine : MethodName := ⟨RX7, "clearLine", "()V"⟩
abbrev cX7_addTo : ByteArray := prog_9_method_42_code
def yX7_addTo : MethodName := ⟨RX7, "addTo", "(II)V"⟩
abbrev cX7_reduceLine : ByteArray := prog_9_method_43_code
def yX7_reduceLine : MethodName := ⟨RX7, "reduceLine", "()V"⟩
abbrev cX7_settles : ByteArray := prog_9_method_44_code
def yX7_settles : MethodName := ⟨RX7, "settles", "()V"⟩
abbrev cX7_placeOf : ByteArray := prog_9_method_45_code
def yX7_placeOf : MethodName := ⟨RX7, "placeOf", "(III)I"⟩
abbrev cX7_start : ByteArray := prog_9_method_46_code
def yX7_start : MethodName := ⟨RX7, "start", "(I)V"⟩
abbrev cX7_dimensionNone : ByteArray := prog_9_method_47_code
def yX7_dimensionNone : MethodName := ⟨RX7, "dimensionNone", "()V"⟩
abbrev cX7_dimensionOne : ByteArray := prog_9_method_48_code
def yX7_dimensionOne : MethodName := ⟨RX7, "dimensionOne", "()V"⟩
abbrev cX7_pairs : ByteArray := prog_9_method_49_code
def yX7_pairs : MethodName := ⟨RX7, "pairs", "()V"⟩
abbrev cX7_equation : ByteArray := prog_9_method_50_code
def yX7_equation : MethodName := ⟨RX7, "equation", "(IIII)V"⟩
abbrev cX7_bounds : ByteArray := prog_9_method_51_code
def yX7_bounds : MethodName := ⟨RX7, "bounds", "()V"⟩
abbrev cX7_lessBound : ByteArray := prog_9_method_52_code
def yX7_lessBound : MethodName := ⟨RX7, "lessBound", "()V"⟩
abbrev cX7_know : ByteArray := prog_9_method_53_code
def yX7_know : MethodName := ⟨RX7, "know", "(I)V"⟩
abbrev cX7_dimension : ByteArray := prog_9_method_54_code
def yX7_dimension : MethodName := ⟨RX7, "dimension", "(II)I"⟩
abbrev cX7_power : ByteArray := prog_9_method_55_code
def yX7_power : MethodName := ⟨RX7, "power", "(II)I"⟩
abbrev cX7_lacks : ByteArray := prog_9_method_56_code
def yX7_lacks : MethodName := ⟨RX7, "lacks", "(II)I"⟩
abbrev cX7_sumOf : ByteArray := prog_9_method_57_code
def yX7_sumOf : MethodName := ⟨RX7, "sumOf", "(I)V"⟩
abbrev cX7_twisted : ByteArray := prog_9_method_58_code
def yX7_twisted : MethodName := ⟨RX7, "twisted", "(III)I"⟩
abbrev cX7_twist : ByteArray := prog_9_method_59_code
def yX7_twist : MethodName := ⟨RX7, "twist", "(IIIII)I"⟩
abbrev cX7_over : ByteArray := prog_9_method_60_code
def yX7_over : MethodName := ⟨RX7, "over", "(II)I"⟩
abbrev cX7_classOfLine : ByteArray := prog_9_method_61_code
def yX7_classOfLine : MethodName := ⟨RX7, "classOfLine", "()I"⟩
abbrev cX7_classOf : ByteArray := prog_9_method_62_code
def yX7_classOf : MethodName := ⟨RX7, "classOf", "(III)I"⟩
abbrev cX7_isCocycle : ByteArray := prog_9_method_63_code
def yX7_isCocycle : MethodName := ⟨RX7, "isCocycle", "()Z"⟩
abbrev cX7_parts : ByteArray := prog_9_method_64_code
def yX7_parts : MethodName := ⟨RX7, "parts", "(II)I"⟩
abbrev cX7_sum : ByteArray := prog_9_method_65_code
def yX7_sum : MethodName := ⟨RX7, "sum", "(III)I"⟩
abbrev cX7_times : ByteArray := prog_9_method_66_code
def yX7_times : MethodName := ⟨RX7, "times", "(III)I"⟩
abbrev cX7_count : ByteArray := prog_9_method_67_code
def yX7_count : MethodName := ⟨RX7, "count", "(I)I"⟩
abbrev cX7_leave : ByteArray := prog_9_method_68_code
def yX7_leave : MethodName := ⟨RX7, "leave", "()I"⟩
def RJ13 : String := "java/lang/Long"
def TJ13 : u_T := fun k => match k with
  | _ => ("", "", "", false)
def tyJ13 : Nat → FieldType := fun k => match k with
  | _ => .int
abbrev wsJ130 : List Cond := u_ws RJ13 TJ13 0
theorem nmJ13 : ∀ a, a < 0 → ∀ b, b < 0 → a ≠ b → (TJ13 a).2.1 ≠ (TJ13 b).2.1 := by decide +kernel
theorem tyJ13_ok : ∀ k, k < 0 → parseFieldDescriptor (TJ13 k).2.2.1 = some (tyJ13 k) := by decide +kernel
abbrev cJ13_bitCount_95d88 : ByteArray := prog_10_method_50_code
def yJ13_bitCount_95d88 : MethodName := ⟨RJ13, "bitCount", "(J)I"⟩
def RJ9 : String := "java/lang/Math"
def TJ9 : u_T := fun k => match k with
  | _ => ("", "", "", false)
def tyJ9 : Nat → FieldType := fun k => match k with
  | _ => .int
abbrev wsJ90 : List Cond := u_ws RJ9 TJ9 0
theorem nmJ9 : ∀ a, a < 0 → ∀ b, b < 0 → a ≠ b → (TJ9 a).2.1 ≠ (TJ9 b).2.1 := by decide +kernel
theorem tyJ9_ok : ∀ k, k < 0 → parseFieldDescriptor (TJ9 k).2.2.1 = some (tyJ9 k) := by decide +kernel
abbrev cJ9_floorMod_7cf53 : ByteArray := prog_11_method_50_code
def yJ9_floorMod_7cf53 : MethodName := ⟨RJ9, "floorMod", "(II)I"⟩
abbrev cJ9_max_7cf53 : ByteArray := prog_11_method_65_code
def yJ9_max_7cf53 : MethodName := ⟨RJ9, "max", "(II)I"⟩
abbrev cJ9_min_7cf53 : ByteArray := prog_11_method_69_code
def yJ9_min_7cf53 : MethodName := ⟨RJ9, "min", "(II)I"⟩
def RJ7 : String := "java/util/Arrays"
def TJ7 : u_T := fun k => match k with
  | _ => ("", "", "", false)
def tyJ7 : Nat → FieldType := fun k => match k with
  | _ => .int
abbrev wsJ70 : List Cond := u_ws RJ7 TJ7 0
theorem nmJ7 : ∀ a, a < 0 → ∀ b, b < 0 → a ≠ b → (TJ7 a).2.1 ≠ (TJ7 b).2.1 := by decide +kernel
theorem tyJ7_ok : ∀ k, k < 0 → parseFieldDescriptor (TJ7 k).2.2.1 = some (tyJ7 k) := by decide +kernel
abbrev cJ7_fill_53178 : ByteArray := prog_12_method_103_code
def yJ7_fill_53178 : MethodName := ⟨RJ7, "fill", "([II)V"⟩
def RL : String := "GroupTowersLaw"
abbrev cL_law : ByteArray := code
def yL_law : MethodName := ⟨RL, "law", "([I)Z"⟩
abbrev vwCl : List vw_C := [(RX0, TX0, 7), (RX1, TX1, 6), (RX2, TX2, 8), (RX3, TX3, 8), (RX4, TX4, 3), (RX5, TX5, 7), (RX6, TX6, 7), (RX7, TX7, 40)]
