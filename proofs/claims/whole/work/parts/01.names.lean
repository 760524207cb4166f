-- ===== PART A: goes FIRST, ahead of the names: the tables' words, and 'selects' of the private methods out of them =====
/-- a private method of a class that the tables say can be made, by its rows of tables_1 -/
def lw_okq (q : MethodName × Nat) : Prop := (q.1.cls ≠ "java/lang/invoke/MethodHandle" ∧ q.1.cls ≠ "java/lang/invoke/VarHandle") ∧ Cond.instantiable q.1.cls q.2 ∈ tables_1 ∧ Cond.privateMethod q.1 ∈ tables_1 ∧ Cond.instanceMethod q.1 ∈ tables_1
theorem lw_p0 : lw_okq (⟨"ScaffoldYard", "tableAt", "(I)[I"⟩, 12) := ⟨⟨by decide +kernel, by decide +kernel⟩, List.mem_of_getElem? (i := 13) (by decide +kernel), List.mem_of_getElem? (i := 261) (by decide +kernel), List.mem_of_getElem? (i := 262) (by decide +kernel)⟩
theorem lw_p1 : lw_okq (⟨"ScaffoldYard$Rows", "reckonFewest", "([II)V"⟩, 3) := ⟨⟨by decide +kernel, by decide +kernel⟩, List.mem_of_getElem? (i := 23) (by decide +kernel), List.mem_of_getElem? (i := 278) (by decide +kernel), List.mem_of_getElem? (i := 279) (by decide +kernel)⟩
theorem lw_p2 : lw_okq (⟨"ScaffoldYard$Rows", "reckonCounts", "([I)V"⟩, 3) := ⟨⟨by decide +kernel, by decide +kernel⟩, List.mem_of_getElem? (i := 23) (by decide +kernel), List.mem_of_getElem? (i := 299) (by decide +kernel), List.mem_of_getElem? (i := 300) (by decide +kernel)⟩
theorem lw_p3 : lw_okq (⟨"ScaffoldYard$Rows", "makes", "(II)Z"⟩, 3) := ⟨⟨by decide +kernel, by decide +kernel⟩, List.mem_of_getElem? (i := 23) (by decide +kernel), List.mem_of_getElem? (i := 304) (by decide +kernel), List.mem_of_getElem? (i := 305) (by decide +kernel)⟩
theorem lw_p4 : lw_okq (⟨"ScaffoldYard", "frameAt", "(I)LScaffoldYard$Frame;"⟩, 12) := ⟨⟨by decide +kernel, by decide +kernel⟩, List.mem_of_getElem? (i := 13) (by decide +kernel), List.mem_of_getElem? (i := 317) (by decide +kernel), List.mem_of_getElem? (i := 318) (by decide +kernel)⟩
theorem lw_p5 : lw_okq (⟨"ScaffoldYard", "someoneOn", "(I)Z"⟩, 12) := ⟨⟨by decide +kernel, by decide +kernel⟩, List.mem_of_getElem? (i := 13) (by decide +kernel), List.mem_of_getElem? (i := 321) (by decide +kernel), List.mem_of_getElem? (i := 322) (by decide +kernel)⟩
theorem lw_p6 : lw_okq (⟨"ScaffoldYard$Frame", "isGate", "(I)Z"⟩, 15) := ⟨⟨by decide +kernel, by decide +kernel⟩, List.mem_of_getElem? (i := 152) (by decide +kernel), List.mem_of_getElem? (i := 337) (by decide +kernel), List.mem_of_getElem? (i := 338) (by decide +kernel)⟩
theorem lw_p7 : lw_okq (⟨"ScaffoldYard$Change", "revertRow", "()V"⟩, 6) := ⟨⟨by decide +kernel, by decide +kernel⟩, List.mem_of_getElem? (i := 96) (by decide +kernel), List.mem_of_getElem? (i := 500) (by decide +kernel), List.mem_of_getElem? (i := 501) (by decide +kernel)⟩
theorem lw_p8 : lw_okq (⟨"ScaffoldYard$Loads", "addFootless", "(LScaffoldYard$Frame;II)V"⟩, 5) := ⟨⟨by decide +kernel, by decide +kernel⟩, List.mem_of_getElem? (i := 42) (by decide +kernel), List.mem_of_getElem? (i := 586) (by decide +kernel), List.mem_of_getElem? (i := 587) (by decide +kernel)⟩
theorem lw_p9 : lw_okq (⟨"ScaffoldYard$Loads", "blow", "(LScaffoldYard$Frame;II)V"⟩, 5) := ⟨⟨by decide +kernel, by decide +kernel⟩, List.mem_of_getElem? (i := 42) (by decide +kernel), List.mem_of_getElem? (i := 610) (by decide +kernel), List.mem_of_getElem? (i := 611) (by decide +kernel)⟩
theorem lw_p10 : lw_okq (⟨"ScaffoldYard$Loads", "isOver", "(LScaffoldYard$Frame;I[I)Z"⟩, 5) := ⟨⟨by decide +kernel, by decide +kernel⟩, List.mem_of_getElem? (i := 42) (by decide +kernel), List.mem_of_getElem? (i := 647) (by decide +kernel), List.mem_of_getElem? (i := 648) (by decide +kernel)⟩
theorem lw_p11 : lw_okq (⟨"ScaffoldYard$Rules", "listTies", "(LScaffoldYard$Frame;)V"⟩, 5) := ⟨⟨by decide +kernel, by decide +kernel⟩, List.mem_of_getElem? (i := 67) (by decide +kernel), List.mem_of_getElem? (i := 677) (by decide +kernel), List.mem_of_getElem? (i := 678) (by decide +kernel)⟩
theorem lw_p12 : lw_okq (⟨"ScaffoldYard$Rules", "list", "(III)V"⟩, 5) := ⟨⟨by decide +kernel, by decide +kernel⟩, List.mem_of_getElem? (i := 67) (by decide +kernel), List.mem_of_getElem? (i := 686) (by decide +kernel), List.mem_of_getElem? (i := 687) (by decide +kernel)⟩
theorem lw_p13 : lw_okq (⟨"ScaffoldYard$Rules", "listBraces", "(LScaffoldYard$Frame;)V"⟩, 5) := ⟨⟨by decide +kernel, by decide +kernel⟩, List.mem_of_getElem? (i := 67) (by decide +kernel), List.mem_of_getElem? (i := 691) (by decide +kernel), List.mem_of_getElem? (i := 692) (by decide +kernel)⟩
theorem lw_p14 : lw_okq (⟨"ScaffoldYard$Frame", "need", "(II)I"⟩, 15) := ⟨⟨by decide +kernel, by decide +kernel⟩, List.mem_of_getElem? (i := 152) (by decide +kernel), List.mem_of_getElem? (i := 718) (by decide +kernel), List.mem_of_getElem? (i := 719) (by decide +kernel)⟩
theorem lw_p15 : lw_okq (⟨"ScaffoldYard$Frame", "needOfTube", "(III)I"⟩, 15) := ⟨⟨by decide +kernel, by decide +kernel⟩, List.mem_of_getElem? (i := 152) (by decide +kernel), List.mem_of_getElem? (i := 722) (by decide +kernel), List.mem_of_getElem? (i := 723) (by decide +kernel)⟩
def lw_privs_1 : List (MethodName × Nat) := [(⟨"ScaffoldYard", "tableAt", "(I)[I"⟩, 12), (⟨"ScaffoldYard$Rows", "reckonFewest", "([II)V"⟩, 3), (⟨"ScaffoldYard$Rows", "reckonCounts", "([I)V"⟩, 3), (⟨"ScaffoldYard$Rows", "makes", "(II)Z"⟩, 3), (⟨"ScaffoldYard", "frameAt", "(I)LScaffoldYard$Frame;"⟩, 12), (⟨"ScaffoldYard", "someoneOn", "(I)Z"⟩, 12), (⟨"ScaffoldYard$Frame", "isGate", "(I)Z"⟩, 15), (⟨"ScaffoldYard$Change", "revertRow", "()V"⟩, 6), (⟨"ScaffoldYard$Loads", "addFootless", "(LScaffoldYard$Frame;II)V"⟩, 5), (⟨"ScaffoldYard$Loads", "blow", "(LScaffoldYard$Frame;II)V"⟩, 5), (⟨"ScaffoldYard$Loads", "isOver", "(LScaffoldYard$Frame;I[I)Z"⟩, 5), (⟨"ScaffoldYard$Rules", "listTies", "(LScaffoldYard$Frame;)V"⟩, 5), (⟨"ScaffoldYard$Rules", "list", "(III)V"⟩, 5), (⟨"ScaffoldYard$Rules", "listBraces", "(LScaffoldYard$Frame;)V"⟩, 5), (⟨"ScaffoldYard$Frame", "need", "(II)I"⟩, 15), (⟨"ScaffoldYard$Frame", "needOfTube", "(III)I"⟩, 15)]
theorem lw_r1 : ∀ q ∈ lw_privs_1, lw_okq q := List.forall_mem_cons.mpr ⟨lw_p0, List.forall_mem_cons.mpr ⟨lw_p1, List.forall_mem_cons.mpr ⟨lw_p2, List.forall_mem_cons.mpr ⟨lw_p3, List.forall_mem_cons.mpr ⟨lw_p4, List.forall_mem_cons.mpr ⟨lw_p5, List.forall_mem_cons.mpr ⟨lw_p6, List.forall_mem_cons.mpr ⟨lw_p7, List.forall_mem_cons.mpr ⟨lw_p8, List.forall_mem_cons.mpr ⟨lw_p9, List.forall_mem_cons.mpr ⟨lw_p10, List.forall_mem_cons.mpr ⟨lw_p11, List.forall_mem_cons.mpr ⟨lw_p12, List.forall_mem_cons.mpr ⟨lw_p13, List.forall_mem_cons.mpr ⟨lw_p14, List.forall_mem_cons.mpr ⟨lw_p15, fun _ h => absurd h List.not_mem_nil⟩⟩⟩⟩⟩⟩⟩⟩⟩⟩⟩⟩⟩⟩⟩⟩
theorem lw_p16 : lw_okq (⟨"ScaffoldYard$Frame", "hang", "(II)V"⟩, 15) := ⟨⟨by decide +kernel, by decide +kernel⟩, List.mem_of_getElem? (i := 152) (by decide +kernel), List.mem_of_getElem? (i := 732) (by decide +kernel), List.mem_of_getElem? (i := 733) (by decide +kernel)⟩
theorem lw_p17 : lw_okq (⟨"ScaffoldYard", "tagsInAll", "()I"⟩, 12) := ⟨⟨by decide +kernel, by decide +kernel⟩, List.mem_of_getElem? (i := 13) (by decide +kernel), List.mem_of_getElem? (i := 810) (by decide +kernel), List.mem_of_getElem? (i := 811) (by decide +kernel)⟩
theorem lw_p18 : lw_okq (⟨"ScaffoldYard", "isPerson", "(I)Z"⟩, 12) := ⟨⟨by decide +kernel, by decide +kernel⟩, List.mem_of_getElem? (i := 13) (by decide +kernel), List.mem_of_getElem? (i := 848) (by decide +kernel), List.mem_of_getElem? (i := 849) (by decide +kernel)⟩
theorem lw_p19 : lw_okq (⟨"ScaffoldYard", "peopleAt", "(I)I"⟩, 12) := ⟨⟨by decide +kernel, by decide +kernel⟩, List.mem_of_getElem? (i := 13) (by decide +kernel), List.mem_of_getElem? (i := 852) (by decide +kernel), List.mem_of_getElem? (i := 853) (by decide +kernel)⟩
theorem lw_p20 : lw_okq (⟨"ScaffoldYard$Frame", "sizeOf", "(II)I"⟩, 15) := ⟨⟨by decide +kernel, by decide +kernel⟩, List.mem_of_getElem? (i := 152) (by decide +kernel), List.mem_of_getElem? (i := 883) (by decide +kernel), List.mem_of_getElem? (i := 884) (by decide +kernel)⟩
theorem lw_p21 : lw_okq (⟨"ScaffoldYard$Moves", "mostFrom", "(LScaffoldYard$Frame;LScaffoldYard$Frame;II)I"⟩, 3) := ⟨⟨by decide +kernel, by decide +kernel⟩, List.mem_of_getElem? (i := 132) (by decide +kernel), List.mem_of_getElem? (i := 900) (by decide +kernel), List.mem_of_getElem? (i := 901) (by decide +kernel)⟩
theorem lw_p22 : lw_okq (⟨"ScaffoldYard$Moves", "choose", "(LScaffoldYard$Frame;LScaffoldYard$Frame;)V"⟩, 3) := ⟨⟨by decide +kernel, by decide +kernel⟩, List.mem_of_getElem? (i := 132) (by decide +kernel), List.mem_of_getElem? (i := 910) (by decide +kernel), List.mem_of_getElem? (i := 911) (by decide +kernel)⟩
theorem lw_p23 : lw_okq (⟨"ScaffoldYard", "framesInAll", "()I"⟩, 12) := ⟨⟨by decide +kernel, by decide +kernel⟩, List.mem_of_getElem? (i := 13) (by decide +kernel), List.mem_of_getElem? (i := 927) (by decide +kernel), List.mem_of_getElem? (i := 928) (by decide +kernel)⟩
theorem lw_p24 : lw_okq (⟨"ScaffoldYard", "upsInAll", "()I"⟩, 12) := ⟨⟨by decide +kernel, by decide +kernel⟩, List.mem_of_getElem? (i := 13) (by decide +kernel), List.mem_of_getElem? (i := 931) (by decide +kernel), List.mem_of_getElem? (i := 932) (by decide +kernel)⟩
theorem lw_p25 : lw_okq (⟨"ScaffoldYardModel", "fits", "(II)Z"⟩, 30) := ⟨⟨by decide +kernel, by decide +kernel⟩, List.mem_of_getElem? (i := 935) (by decide +kernel), List.mem_of_getElem? (i := 1047) (by decide +kernel), List.mem_of_getElem? (i := 1048) (by decide +kernel)⟩
theorem lw_p26 : lw_okq (⟨"ScaffoldYardModel", "findFewest", "(I)V"⟩, 30) := ⟨⟨by decide +kernel, by decide +kernel⟩, List.mem_of_getElem? (i := 935) (by decide +kernel), List.mem_of_getElem? (i := 1051) (by decide +kernel), List.mem_of_getElem? (i := 1052) (by decide +kernel)⟩
theorem lw_p27 : lw_okq (⟨"ScaffoldYardModel", "shown", "(ZII)I"⟩, 30) := ⟨⟨by decide +kernel, by decide +kernel⟩, List.mem_of_getElem? (i := 935) (by decide +kernel), List.mem_of_getElem? (i := 1056) (by decide +kernel), List.mem_of_getElem? (i := 1057) (by decide +kernel)⟩
theorem lw_p28 : lw_okq (⟨"ScaffoldYardModel", "joins", "(II)Z"⟩, 30) := ⟨⟨by decide +kernel, by decide +kernel⟩, List.mem_of_getElem? (i := 935) (by decide +kernel), List.mem_of_getElem? (i := 1064) (by decide +kernel), List.mem_of_getElem? (i := 1065) (by decide +kernel)⟩
theorem lw_p29 : lw_okq (⟨"ScaffoldYardModel", "findSums", "()V"⟩, 30) := ⟨⟨by decide +kernel, by decide +kernel⟩, List.mem_of_getElem? (i := 935) (by decide +kernel), List.mem_of_getElem? (i := 1068) (by decide +kernel), List.mem_of_getElem? (i := 1069) (by decide +kernel)⟩
theorem lw_p30 : lw_okq (⟨"ScaffoldYardModel", "layTubes", "(II)V"⟩, 30) := ⟨⟨by decide +kernel, by decide +kernel⟩, List.mem_of_getElem? (i := 935) (by decide +kernel), List.mem_of_getElem? (i := 1072) (by decide +kernel), List.mem_of_getElem? (i := 1073) (by decide +kernel)⟩
theorem lw_p31 : lw_okq (⟨"ScaffoldYardModel", "upIn", "(I)I"⟩, 30) := ⟨⟨by decide +kernel, by decide +kernel⟩, List.mem_of_getElem? (i := 935) (by decide +kernel), List.mem_of_getElem? (i := 1083) (by decide +kernel), List.mem_of_getElem? (i := 1084) (by decide +kernel)⟩
def lw_privs_2 : List (MethodName × Nat) := [(⟨"ScaffoldYard$Frame", "hang", "(II)V"⟩, 15), (⟨"ScaffoldYard", "tagsInAll", "()I"⟩, 12), (⟨"ScaffoldYard", "isPerson", "(I)Z"⟩, 12), (⟨"ScaffoldYard", "peopleAt", "(I)I"⟩, 12), (⟨"ScaffoldYard$Frame", "sizeOf", "(II)I"⟩, 15), (⟨"ScaffoldYard$Moves", "mostFrom", "(LScaffoldYard$Frame;LScaffoldYard$Frame;II)I"⟩, 3), (⟨"ScaffoldYard$Moves", "choose", "(LScaffoldYard$Frame;LScaffoldYard$Frame;)V"⟩, 3), (⟨"ScaffoldYard", "framesInAll", "()I"⟩, 12), (⟨"ScaffoldYard", "upsInAll", "()I"⟩, 12), (⟨"ScaffoldYardModel", "fits", "(II)Z"⟩, 30), (⟨"ScaffoldYardModel", "findFewest", "(I)V"⟩, 30), (⟨"ScaffoldYardModel", "shown", "(ZII)I"⟩, 30), (⟨"ScaffoldYardModel", "joins", "(II)Z"⟩, 30), (⟨"ScaffoldYardModel", "findSums", "()V"⟩, 30), (⟨"ScaffoldYardModel", "layTubes", "(II)V"⟩, 30), (⟨"ScaffoldYardModel", "upIn", "(I)I"⟩, 30)]
theorem lw_r2 : ∀ q ∈ lw_privs_2, lw_okq q := List.forall_mem_cons.mpr ⟨lw_p16, List.forall_mem_cons.mpr ⟨lw_p17, List.forall_mem_cons.mpr ⟨lw_p18, List.forall_mem_cons.mpr ⟨lw_p19, List.forall_mem_cons.mpr ⟨lw_p20, List.forall_mem_cons.mpr ⟨lw_p21, List.forall_mem_cons.mpr ⟨lw_p22, List.forall_mem_cons.mpr ⟨lw_p23, List.forall_mem_cons.mpr ⟨lw_p24, List.forall_mem_cons.mpr ⟨lw_p25, List.forall_mem_cons.mpr ⟨lw_p26, List.forall_mem_cons.mpr ⟨lw_p27, List.forall_mem_cons.mpr ⟨lw_p28, List.forall_mem_cons.mpr ⟨lw_p29, List.forall_mem_cons.mpr ⟨lw_p30, List.forall_mem_cons.mpr ⟨lw_p31, fun _ h => absurd h List.not_mem_nil⟩⟩⟩⟩⟩⟩⟩⟩⟩⟩⟩⟩⟩⟩⟩⟩
theorem lw_p32 : lw_okq (⟨"ScaffoldYardModel", "isAnyoneOn", "(I)Z"⟩, 30) := ⟨⟨by decide +kernel, by decide +kernel⟩, List.mem_of_getElem? (i := 935) (by decide +kernel), List.mem_of_getElem? (i := 1087) (by decide +kernel), List.mem_of_getElem? (i := 1088) (by decide +kernel)⟩
theorem lw_p33 : lw_okq (⟨"ScaffoldYardModel", "emptyBay", "(II)V"⟩, 30) := ⟨⟨by decide +kernel, by decide +kernel⟩, List.mem_of_getElem? (i := 935) (by decide +kernel), List.mem_of_getElem? (i := 1092) (by decide +kernel), List.mem_of_getElem? (i := 1093) (by decide +kernel)⟩
theorem lw_p34 : lw_okq (⟨"ScaffoldYardModel", "isMissing", "(I)Z"⟩, 30) := ⟨⟨by decide +kernel, by decide +kernel⟩, List.mem_of_getElem? (i := 935) (by decide +kernel), List.mem_of_getElem? (i := 1100) (by decide +kernel), List.mem_of_getElem? (i := 1101) (by decide +kernel)⟩
theorem lw_p35 : lw_okq (⟨"ScaffoldYardModel", "emptyTies", "(II)V"⟩, 30) := ⟨⟨by decide +kernel, by decide +kernel⟩, List.mem_of_getElem? (i := 935) (by decide +kernel), List.mem_of_getElem? (i := 1105) (by decide +kernel), List.mem_of_getElem? (i := 1106) (by decide +kernel)⟩
theorem lw_p36 : lw_okq (⟨"ScaffoldYardModel", "loseTies", "(I)V"⟩, 30) := ⟨⟨by decide +kernel, by decide +kernel⟩, List.mem_of_getElem? (i := 935) (by decide +kernel), List.mem_of_getElem? (i := 1109) (by decide +kernel), List.mem_of_getElem? (i := 1110) (by decide +kernel)⟩
theorem lw_p37 : lw_okq (⟨"ScaffoldYardModel", "hasFoot", "(II)Z"⟩, 30) := ⟨⟨by decide +kernel, by decide +kernel⟩, List.mem_of_getElem? (i := 935) (by decide +kernel), List.mem_of_getElem? (i := 1113) (by decide +kernel), List.mem_of_getElem? (i := 1114) (by decide +kernel)⟩
theorem lw_p38 : lw_okq (⟨"ScaffoldYardModel", "isGate", "(II)Z"⟩, 30) := ⟨⟨by decide +kernel, by decide +kernel⟩, List.mem_of_getElem? (i := 935) (by decide +kernel), List.mem_of_getElem? (i := 1117) (by decide +kernel), List.mem_of_getElem? (i := 1118) (by decide +kernel)⟩
theorem lw_p39 : lw_okq (⟨"ScaffoldYardModel", "kind", "(II)I"⟩, 30) := ⟨⟨by decide +kernel, by decide +kernel⟩, List.mem_of_getElem? (i := 935) (by decide +kernel), List.mem_of_getElem? (i := 1121) (by decide +kernel), List.mem_of_getElem? (i := 1122) (by decide +kernel)⟩
theorem lw_p40 : lw_okq (⟨"ScaffoldYardModel", "width", "(II)I"⟩, 30) := ⟨⟨by decide +kernel, by decide +kernel⟩, List.mem_of_getElem? (i := 935) (by decide +kernel), List.mem_of_getElem? (i := 1129) (by decide +kernel), List.mem_of_getElem? (i := 1130) (by decide +kernel)⟩
theorem lw_p41 : lw_okq (⟨"ScaffoldYardModel", "isLift", "(II)Z"⟩, 30) := ⟨⟨by decide +kernel, by decide +kernel⟩, List.mem_of_getElem? (i := 935) (by decide +kernel), List.mem_of_getElem? (i := 1137) (by decide +kernel), List.mem_of_getElem? (i := 1138) (by decide +kernel)⟩
theorem lw_p42 : lw_okq (⟨"ScaffoldYardModel", "keep", "()V"⟩, 30) := ⟨⟨by decide +kernel, by decide +kernel⟩, List.mem_of_getElem? (i := 935) (by decide +kernel), List.mem_of_getElem? (i := 1142) (by decide +kernel), List.mem_of_getElem? (i := 1143) (by decide +kernel)⟩
theorem lw_p43 : lw_okq (⟨"ScaffoldYardModel", "hasFloor", "(II)Z"⟩, 30) := ⟨⟨by decide +kernel, by decide +kernel⟩, List.mem_of_getElem? (i := 935) (by decide +kernel), List.mem_of_getElem? (i := 1150) (by decide +kernel), List.mem_of_getElem? (i := 1151) (by decide +kernel)⟩
theorem lw_p44 : lw_okq (⟨"ScaffoldYardModel", "boardAt", "(III)I"⟩, 30) := ⟨⟨by decide +kernel, by decide +kernel⟩, List.mem_of_getElem? (i := 935) (by decide +kernel), List.mem_of_getElem? (i := 1155) (by decide +kernel), List.mem_of_getElem? (i := 1156) (by decide +kernel)⟩
theorem lw_p45 : lw_okq (⟨"ScaffoldYardModel", "isBay", "(II)Z"⟩, 30) := ⟨⟨by decide +kernel, by decide +kernel⟩, List.mem_of_getElem? (i := 935) (by decide +kernel), List.mem_of_getElem? (i := 1163) (by decide +kernel), List.mem_of_getElem? (i := 1164) (by decide +kernel)⟩
theorem lw_p46 : lw_okq (⟨"ScaffoldYardModel", "hasBrace", "(III)Z"⟩, 30) := ⟨⟨by decide +kernel, by decide +kernel⟩, List.mem_of_getElem? (i := 935) (by decide +kernel), List.mem_of_getElem? (i := 1171) (by decide +kernel), List.mem_of_getElem? (i := 1172) (by decide +kernel)⟩
theorem lw_p47 : lw_okq (⟨"ScaffoldYardModel", "isStandard", "(II)Z"⟩, 30) := ⟨⟨by decide +kernel, by decide +kernel⟩, List.mem_of_getElem? (i := 935) (by decide +kernel), List.mem_of_getElem? (i := 1179) (by decide +kernel), List.mem_of_getElem? (i := 1180) (by decide +kernel)⟩
def lw_privs_3 : List (MethodName × Nat) := [(⟨"ScaffoldYardModel", "isAnyoneOn", "(I)Z"⟩, 30), (⟨"ScaffoldYardModel", "emptyBay", "(II)V"⟩, 30), (⟨"ScaffoldYardModel", "isMissing", "(I)Z"⟩, 30), (⟨"ScaffoldYardModel", "emptyTies", "(II)V"⟩, 30), (⟨"ScaffoldYardModel", "loseTies", "(I)V"⟩, 30), (⟨"ScaffoldYardModel", "hasFoot", "(II)Z"⟩, 30), (⟨"ScaffoldYardModel", "isGate", "(II)Z"⟩, 30), (⟨"ScaffoldYardModel", "kind", "(II)I"⟩, 30), (⟨"ScaffoldYardModel", "width", "(II)I"⟩, 30), (⟨"ScaffoldYardModel", "isLift", "(II)Z"⟩, 30), (⟨"ScaffoldYardModel", "keep", "()V"⟩, 30), (⟨"ScaffoldYardModel", "hasFloor", "(II)Z"⟩, 30), (⟨"ScaffoldYardModel", "boardAt", "(III)I"⟩, 30), (⟨"ScaffoldYardModel", "isBay", "(II)Z"⟩, 30), (⟨"ScaffoldYardModel", "hasBrace", "(III)Z"⟩, 30), (⟨"ScaffoldYardModel", "isStandard", "(II)Z"⟩, 30)]
theorem lw_r3 : ∀ q ∈ lw_privs_3, lw_okq q := List.forall_mem_cons.mpr ⟨lw_p32, List.forall_mem_cons.mpr ⟨lw_p33, List.forall_mem_cons.mpr ⟨lw_p34, List.forall_mem_cons.mpr ⟨lw_p35, List.forall_mem_cons.mpr ⟨lw_p36, List.forall_mem_cons.mpr ⟨lw_p37, List.forall_mem_cons.mpr ⟨lw_p38, List.forall_mem_cons.mpr ⟨lw_p39, List.forall_mem_cons.mpr ⟨lw_p40, List.forall_mem_cons.mpr ⟨lw_p41, List.forall_mem_cons.mpr ⟨lw_p42, List.forall_mem_cons.mpr ⟨lw_p43, List.forall_mem_cons.mpr ⟨lw_p44, List.forall_mem_cons.mpr ⟨lw_p45, List.forall_mem_cons.mpr ⟨lw_p46, List.forall_mem_cons.mpr ⟨lw_p47, fun _ h => absurd h List.not_mem_nil⟩⟩⟩⟩⟩⟩⟩⟩⟩⟩⟩⟩⟩⟩⟩⟩
theorem lw_p48 : lw_okq (⟨"ScaffoldYardModel", "hasTie", "(III)Z"⟩, 30) := ⟨⟨by decide +kernel, by decide +kernel⟩, List.mem_of_getElem? (i := 935) (by decide +kernel), List.mem_of_getElem? (i := 1183) (by decide +kernel), List.mem_of_getElem? (i := 1184) (by decide +kernel)⟩
theorem lw_p49 : lw_okq (⟨"ScaffoldYardModel", "isPiece", "(II)Z"⟩, 30) := ⟨⟨by decide +kernel, by decide +kernel⟩, List.mem_of_getElem? (i := 935) (by decide +kernel), List.mem_of_getElem? (i := 1195) (by decide +kernel), List.mem_of_getElem? (i := 1196) (by decide +kernel)⟩
theorem lw_p50 : lw_okq (⟨"ScaffoldYardModel", "widthTo", "(III)I"⟩, 30) := ⟨⟨by decide +kernel, by decide +kernel⟩, List.mem_of_getElem? (i := 935) (by decide +kernel), List.mem_of_getElem? (i := 1203) (by decide +kernel), List.mem_of_getElem? (i := 1204) (by decide +kernel)⟩
theorem lw_p51 : lw_okq (⟨"ScaffoldYardModel", "manyOf", "(IIII)I"⟩, 30) := ⟨⟨by decide +kernel, by decide +kernel⟩, List.mem_of_getElem? (i := 935) (by decide +kernel), List.mem_of_getElem? (i := 1207) (by decide +kernel), List.mem_of_getElem? (i := 1208) (by decide +kernel)⟩
theorem lw_p52 : lw_okq (⟨"ScaffoldYardModel", "askedStandard", "(II)I"⟩, 30) := ⟨⟨by decide +kernel, by decide +kernel⟩, List.mem_of_getElem? (i := 935) (by decide +kernel), List.mem_of_getElem? (i := 1227) (by decide +kernel), List.mem_of_getElem? (i := 1228) (by decide +kernel)⟩
theorem lw_p53 : lw_okq (⟨"ScaffoldYardModel", "asked", "(I)I"⟩, 30) := ⟨⟨by decide +kernel, by decide +kernel⟩, List.mem_of_getElem? (i := 935) (by decide +kernel), List.mem_of_getElem? (i := 1231) (by decide +kernel), List.mem_of_getElem? (i := 1232) (by decide +kernel)⟩
theorem lw_p54 : lw_okq (⟨"ScaffoldYardModel", "twiceLoad", "(II)I"⟩, 30) := ⟨⟨by decide +kernel, by decide +kernel⟩, List.mem_of_getElem? (i := 935) (by decide +kernel), List.mem_of_getElem? (i := 1235) (by decide +kernel), List.mem_of_getElem? (i := 1236) (by decide +kernel)⟩
theorem lw_p55 : lw_okq (⟨"ScaffoldYardModel", "weightOf", "(III)I"⟩, 30) := ⟨⟨by decide +kernel, by decide +kernel⟩, List.mem_of_getElem? (i := 935) (by decide +kernel), List.mem_of_getElem? (i := 1239) (by decide +kernel), List.mem_of_getElem? (i := 1240) (by decide +kernel)⟩
theorem lw_p56 : lw_okq (⟨"ScaffoldYardModel", "findFoot", "(II)V"⟩, 30) := ⟨⟨by decide +kernel, by decide +kernel⟩, List.mem_of_getElem? (i := 935) (by decide +kernel), List.mem_of_getElem? (i := 1249) (by decide +kernel), List.mem_of_getElem? (i := 1250) (by decide +kernel)⟩
theorem lw_p57 : lw_okq (⟨"ScaffoldYardModel", "add", "(JJ)V"⟩, 30) := ⟨⟨by decide +kernel, by decide +kernel⟩, List.mem_of_getElem? (i := 935) (by decide +kernel), List.mem_of_getElem? (i := 1254) (by decide +kernel), List.mem_of_getElem? (i := 1255) (by decide +kernel)⟩
theorem lw_p58 : lw_okq (⟨"ScaffoldYardModel", "leftFoot", "(II)I"⟩, 30) := ⟨⟨by decide +kernel, by decide +kernel⟩, List.mem_of_getElem? (i := 935) (by decide +kernel), List.mem_of_getElem? (i := 1261) (by decide +kernel), List.mem_of_getElem? (i := 1262) (by decide +kernel)⟩
theorem lw_p59 : lw_okq (⟨"ScaffoldYardModel", "rightFoot", "(II)I"⟩, 30) := ⟨⟨by decide +kernel, by decide +kernel⟩, List.mem_of_getElem? (i := 935) (by decide +kernel), List.mem_of_getElem? (i := 1265) (by decide +kernel), List.mem_of_getElem? (i := 1266) (by decide +kernel)⟩
theorem lw_p60 : lw_okq (⟨"ScaffoldYardModel", "windTo", "(II)I"⟩, 30) := ⟨⟨by decide +kernel, by decide +kernel⟩, List.mem_of_getElem? (i := 935) (by decide +kernel), List.mem_of_getElem? (i := 1273) (by decide +kernel), List.mem_of_getElem? (i := 1274) (by decide +kernel)⟩
theorem lw_p61 : lw_okq (⟨"ScaffoldYardModel", "tieFor", "(III)I"⟩, 30) := ⟨⟨by decide +kernel, by decide +kernel⟩, List.mem_of_getElem? (i := 935) (by decide +kernel), List.mem_of_getElem? (i := 1277) (by decide +kernel), List.mem_of_getElem? (i := 1278) (by decide +kernel)⟩
theorem lw_p62 : lw_okq (⟨"ScaffoldYardModel", "freeOf", "(II)I"⟩, 30) := ⟨⟨by decide +kernel, by decide +kernel⟩, List.mem_of_getElem? (i := 935) (by decide +kernel), List.mem_of_getElem? (i := 1292) (by decide +kernel), List.mem_of_getElem? (i := 1293) (by decide +kernel)⟩
theorem lw_p63 : lw_okq (⟨"ScaffoldYardModel", "standardsOver", "(I)I"⟩, 30) := ⟨⟨by decide +kernel, by decide +kernel⟩, List.mem_of_getElem? (i := 935) (by decide +kernel), List.mem_of_getElem? (i := 1300) (by decide +kernel), List.mem_of_getElem? (i := 1301) (by decide +kernel)⟩
def lw_privs_4 : List (MethodName × Nat) := [(⟨"ScaffoldYardModel", "hasTie", "(III)Z"⟩, 30), (⟨"ScaffoldYardModel", "isPiece", "(II)Z"⟩, 30), (⟨"ScaffoldYardModel", "widthTo", "(III)I"⟩, 30), (⟨"ScaffoldYardModel", "manyOf", "(IIII)I"⟩, 30), (⟨"ScaffoldYardModel", "askedStandard", "(II)I"⟩, 30), (⟨"ScaffoldYardModel", "asked", "(I)I"⟩, 30), (⟨"ScaffoldYardModel", "twiceLoad", "(II)I"⟩, 30), (⟨"ScaffoldYardModel", "weightOf", "(III)I"⟩, 30), (⟨"ScaffoldYardModel", "findFoot", "(II)V"⟩, 30), (⟨"ScaffoldYardModel", "add", "(JJ)V"⟩, 30), (⟨"ScaffoldYardModel", "leftFoot", "(II)I"⟩, 30), (⟨"ScaffoldYardModel", "rightFoot", "(II)I"⟩, 30), (⟨"ScaffoldYardModel", "windTo", "(II)I"⟩, 30), (⟨"ScaffoldYardModel", "tieFor", "(III)I"⟩, 30), (⟨"ScaffoldYardModel", "freeOf", "(II)I"⟩, 30), (⟨"ScaffoldYardModel", "standardsOver", "(I)I"⟩, 30)]
theorem lw_r4 : ∀ q ∈ lw_privs_4, lw_okq q := List.forall_mem_cons.mpr ⟨lw_p48, List.forall_mem_cons.mpr ⟨lw_p49, List.forall_mem_cons.mpr ⟨lw_p50, List.forall_mem_cons.mpr ⟨lw_p51, List.forall_mem_cons.mpr ⟨lw_p52, List.forall_mem_cons.mpr ⟨lw_p53, List.forall_mem_cons.mpr ⟨lw_p54, List.forall_mem_cons.mpr ⟨lw_p55, List.forall_mem_cons.mpr ⟨lw_p56, List.forall_mem_cons.mpr ⟨lw_p57, List.forall_mem_cons.mpr ⟨lw_p58, List.forall_mem_cons.mpr ⟨lw_p59, List.forall_mem_cons.mpr ⟨lw_p60, List.forall_mem_cons.mpr ⟨lw_p61, List.forall_mem_cons.mpr ⟨lw_p62, List.forall_mem_cons.mpr ⟨lw_p63, fun _ h => absurd h List.not_mem_nil⟩⟩⟩⟩⟩⟩⟩⟩⟩⟩⟩⟩⟩⟩⟩⟩
theorem lw_p64 : lw_okq (⟨"ScaffoldYardModel", "isOver", "(II)Z"⟩, 30) := ⟨⟨by decide +kernel, by decide +kernel⟩, List.mem_of_getElem? (i := 935) (by decide +kernel), List.mem_of_getElem? (i := 1304) (by decide +kernel), List.mem_of_getElem? (i := 1305) (by decide +kernel)⟩
theorem lw_p65 : lw_okq (⟨"ScaffoldYardModel", "findBreaches", "(II)I"⟩, 30) := ⟨⟨by decide +kernel, by decide +kernel⟩, List.mem_of_getElem? (i := 935) (by decide +kernel), List.mem_of_getElem? (i := 1316) (by decide +kernel), List.mem_of_getElem? (i := 1317) (by decide +kernel)⟩
theorem lw_p66 : lw_okq (⟨"ScaffoldYardModel", "isTied", "(IIIII)Z"⟩, 30) := ⟨⟨by decide +kernel, by decide +kernel⟩, List.mem_of_getElem? (i := 935) (by decide +kernel), List.mem_of_getElem? (i := 1323) (by decide +kernel), List.mem_of_getElem? (i := 1324) (by decide +kernel)⟩
theorem lw_p67 : lw_okq (⟨"ScaffoldYardModel", "note", "(III)V"⟩, 30) := ⟨⟨by decide +kernel, by decide +kernel⟩, List.mem_of_getElem? (i := 935) (by decide +kernel), List.mem_of_getElem? (i := 1327) (by decide +kernel), List.mem_of_getElem? (i := 1328) (by decide +kernel)⟩
theorem lw_p68 : lw_okq (⟨"ScaffoldYardModel", "isBraced", "(IIII)Z"⟩, 30) := ⟨⟨by decide +kernel, by decide +kernel⟩, List.mem_of_getElem? (i := 935) (by decide +kernel), List.mem_of_getElem? (i := 1331) (by decide +kernel), List.mem_of_getElem? (i := 1332) (by decide +kernel)⟩
theorem lw_p69 : lw_okq (⟨"ScaffoldYardModel", "act", "(IIZ)I"⟩, 30) := ⟨⟨by decide +kernel, by decide +kernel⟩, List.mem_of_getElem? (i := 935) (by decide +kernel), List.mem_of_getElem? (i := 1343) (by decide +kernel), List.mem_of_getElem? (i := 1344) (by decide +kernel)⟩
theorem lw_p70 : lw_okq (⟨"ScaffoldYardModel", "mayPut", "(II)Z"⟩, 30) := ⟨⟨by decide +kernel, by decide +kernel⟩, List.mem_of_getElem? (i := 935) (by decide +kernel), List.mem_of_getElem? (i := 1347) (by decide +kernel), List.mem_of_getElem? (i := 1348) (by decide +kernel)⟩
theorem lw_p71 : lw_okq (⟨"ScaffoldYardModel", "isUpNow", "(II)Z"⟩, 30) := ⟨⟨by decide +kernel, by decide +kernel⟩, List.mem_of_getElem? (i := 935) (by decide +kernel), List.mem_of_getElem? (i := 1351) (by decide +kernel), List.mem_of_getElem? (i := 1352) (by decide +kernel)⟩
theorem lw_p72 : lw_okq (⟨"ScaffoldYardModel", "needs", "(III)Z"⟩, 30) := ⟨⟨by decide +kernel, by decide +kernel⟩, List.mem_of_getElem? (i := 935) (by decide +kernel), List.mem_of_getElem? (i := 1355) (by decide +kernel), List.mem_of_getElem? (i := 1356) (by decide +kernel)⟩
theorem lw_p73 : lw_okq (⟨"ScaffoldYardModel", "isTubeBelow", "(IIII)Z"⟩, 30) := ⟨⟨by decide +kernel, by decide +kernel⟩, List.mem_of_getElem? (i := 935) (by decide +kernel), List.mem_of_getElem? (i := 1359) (by decide +kernel), List.mem_of_getElem? (i := 1360) (by decide +kernel)⟩
theorem lw_p74 : lw_okq (⟨"ScaffoldYardModel", "isFootOf", "(III)Z"⟩, 30) := ⟨⟨by decide +kernel, by decide +kernel⟩, List.mem_of_getElem? (i := 935) (by decide +kernel), List.mem_of_getElem? (i := 1366) (by decide +kernel), List.mem_of_getElem? (i := 1367) (by decide +kernel)⟩
theorem lw_p75 : lw_okq (⟨"ScaffoldYardModel", "mayTake", "(II)Z"⟩, 30) := ⟨⟨by decide +kernel, by decide +kernel⟩, List.mem_of_getElem? (i := 935) (by decide +kernel), List.mem_of_getElem? (i := 1370) (by decide +kernel), List.mem_of_getElem? (i := 1371) (by decide +kernel)⟩
theorem lw_p76 : lw_okq (⟨"ScaffoldYardModel", "set", "(IIZ)V"⟩, 30) := ⟨⟨by decide +kernel, by decide +kernel⟩, List.mem_of_getElem? (i := 935) (by decide +kernel), List.mem_of_getElem? (i := 1374) (by decide +kernel), List.mem_of_getElem? (i := 1375) (by decide +kernel)⟩
theorem lw_p77 : lw_okq (⟨"ScaffoldYardModel", "leastPut", "(I)I"⟩, 30) := ⟨⟨by decide +kernel, by decide +kernel⟩, List.mem_of_getElem? (i := 935) (by decide +kernel), List.mem_of_getElem? (i := 1386) (by decide +kernel), List.mem_of_getElem? (i := 1387) (by decide +kernel)⟩
theorem lw_p78 : lw_okq (⟨"ScaffoldYardModel", "greatestTaken", "(I)I"⟩, 30) := ⟨⟨by decide +kernel, by decide +kernel⟩, List.mem_of_getElem? (i := 935) (by decide +kernel), List.mem_of_getElem? (i := 1390) (by decide +kernel), List.mem_of_getElem? (i := 1391) (by decide +kernel)⟩
theorem lw_p79 : lw_okq (⟨"ScaffoldYardModel", "leastDown", "(I)I"⟩, 30) := ⟨⟨by decide +kernel, by decide +kernel⟩, List.mem_of_getElem? (i := 935) (by decide +kernel), List.mem_of_getElem? (i := 1394) (by decide +kernel), List.mem_of_getElem? (i := 1395) (by decide +kernel)⟩
def lw_privs_5 : List (MethodName × Nat) := [(⟨"ScaffoldYardModel", "isOver", "(II)Z"⟩, 30), (⟨"ScaffoldYardModel", "findBreaches", "(II)I"⟩, 30), (⟨"ScaffoldYardModel", "isTied", "(IIIII)Z"⟩, 30), (⟨"ScaffoldYardModel", "note", "(III)V"⟩, 30), (⟨"ScaffoldYardModel", "isBraced", "(IIII)Z"⟩, 30), (⟨"ScaffoldYardModel", "act", "(IIZ)I"⟩, 30), (⟨"ScaffoldYardModel", "mayPut", "(II)Z"⟩, 30), (⟨"ScaffoldYardModel", "isUpNow", "(II)Z"⟩, 30), (⟨"ScaffoldYardModel", "needs", "(III)Z"⟩, 30), (⟨"ScaffoldYardModel", "isTubeBelow", "(IIII)Z"⟩, 30), (⟨"ScaffoldYardModel", "isFootOf", "(III)Z"⟩, 30), (⟨"ScaffoldYardModel", "mayTake", "(II)Z"⟩, 30), (⟨"ScaffoldYardModel", "set", "(IIZ)V"⟩, 30), (⟨"ScaffoldYardModel", "leastPut", "(I)I"⟩, 30), (⟨"ScaffoldYardModel", "greatestTaken", "(I)I"⟩, 30), (⟨"ScaffoldYardModel", "leastDown", "(I)I"⟩, 30)]
theorem lw_r5 : ∀ q ∈ lw_privs_5, lw_okq q := List.forall_mem_cons.mpr ⟨lw_p64, List.forall_mem_cons.mpr ⟨lw_p65, List.forall_mem_cons.mpr ⟨lw_p66, List.forall_mem_cons.mpr ⟨lw_p67, List.forall_mem_cons.mpr ⟨lw_p68, List.forall_mem_cons.mpr ⟨lw_p69, List.forall_mem_cons.mpr ⟨lw_p70, List.forall_mem_cons.mpr ⟨lw_p71, List.forall_mem_cons.mpr ⟨lw_p72, List.forall_mem_cons.mpr ⟨lw_p73, List.forall_mem_cons.mpr ⟨lw_p74, List.forall_mem_cons.mpr ⟨lw_p75, List.forall_mem_cons.mpr ⟨lw_p76, List.forall_mem_cons.mpr ⟨lw_p77, List.forall_mem_cons.mpr ⟨lw_p78, List.forall_mem_cons.mpr ⟨lw_p79, fun _ h => absurd h List.not_mem_nil⟩⟩⟩⟩⟩⟩⟩⟩⟩⟩⟩⟩⟩⟩⟩⟩
theorem lw_p80 : lw_okq (⟨"ScaffoldYardModel", "tagsNow", "()I"⟩, 30) := ⟨⟨by decide +kernel, by decide +kernel⟩, List.mem_of_getElem? (i := 935) (by decide +kernel), List.mem_of_getElem? (i := 1414) (by decide +kernel), List.mem_of_getElem? (i := 1415) (by decide +kernel)⟩
theorem lw_p81 : lw_okq (⟨"ScaffoldYardModel", "tagOf", "(II)I"⟩, 30) := ⟨⟨by decide +kernel, by decide +kernel⟩, List.mem_of_getElem? (i := 935) (by decide +kernel), List.mem_of_getElem? (i := 1418) (by decide +kernel), List.mem_of_getElem? (i := 1419) (by decide +kernel)⟩
theorem lw_p82 : lw_okq (⟨"ScaffoldYardModel", "askedLift", "(II)I"⟩, 30) := ⟨⟨by decide +kernel, by decide +kernel⟩, List.mem_of_getElem? (i := 935) (by decide +kernel), List.mem_of_getElem? (i := 1426) (by decide +kernel), List.mem_of_getElem? (i := 1427) (by decide +kernel)⟩
theorem lw_p83 : lw_okq (⟨"ScaffoldYardModel", "mayTag", "(II)Z"⟩, 30) := ⟨⟨by decide +kernel, by decide +kernel⟩, List.mem_of_getElem? (i := 935) (by decide +kernel), List.mem_of_getElem? (i := 1430) (by decide +kernel), List.mem_of_getElem? (i := 1431) (by decide +kernel)⟩
theorem lw_p84 : lw_okq (⟨"ScaffoldYardModel", "manyOn", "(II)I"⟩, 30) := ⟨⟨by decide +kernel, by decide +kernel⟩, List.mem_of_getElem? (i := 935) (by decide +kernel), List.mem_of_getElem? (i := 1442) (by decide +kernel), List.mem_of_getElem? (i := 1443) (by decide +kernel)⟩
theorem lw_p85 : lw_okq (⟨"ScaffoldYardModel", "wantsOf", "(III)I"⟩, 30) := ⟨⟨by decide +kernel, by decide +kernel⟩, List.mem_of_getElem? (i := 935) (by decide +kernel), List.mem_of_getElem? (i := 1465) (by decide +kernel), List.mem_of_getElem? (i := 1466) (by decide +kernel)⟩
theorem lw_p86 : lw_okq (⟨"ScaffoldYardModel", "findStay", "(II)V"⟩, 30) := ⟨⟨by decide +kernel, by decide +kernel⟩, List.mem_of_getElem? (i := 935) (by decide +kernel), List.mem_of_getElem? (i := 1477) (by decide +kernel), List.mem_of_getElem? (i := 1478) (by decide +kernel)⟩
theorem lw_p87 : lw_okq (⟨"ScaffoldYardModel", "isLike", "(IIII)Z"⟩, 30) := ⟨⟨by decide +kernel, by decide +kernel⟩, List.mem_of_getElem? (i := 935) (by decide +kernel), List.mem_of_getElem? (i := 1481) (by decide +kernel), List.mem_of_getElem? (i := 1482) (by decide +kernel)⟩
def lw_privs_6 : List (MethodName × Nat) := [(⟨"ScaffoldYardModel", "tagsNow", "()I"⟩, 30), (⟨"ScaffoldYardModel", "tagOf", "(II)I"⟩, 30), (⟨"ScaffoldYardModel", "askedLift", "(II)I"⟩, 30), (⟨"ScaffoldYardModel", "mayTag", "(II)Z"⟩, 30), (⟨"ScaffoldYardModel", "manyOn", "(II)I"⟩, 30), (⟨"ScaffoldYardModel", "wantsOf", "(III)I"⟩, 30), (⟨"ScaffoldYardModel", "findStay", "(II)V"⟩, 30), (⟨"ScaffoldYardModel", "isLike", "(IIII)Z"⟩, 30)]
theorem lw_r6 : ∀ q ∈ lw_privs_6, lw_okq q := List.forall_mem_cons.mpr ⟨lw_p80, List.forall_mem_cons.mpr ⟨lw_p81, List.forall_mem_cons.mpr ⟨lw_p82, List.forall_mem_cons.mpr ⟨lw_p83, List.forall_mem_cons.mpr ⟨lw_p84, List.forall_mem_cons.mpr ⟨lw_p85, List.forall_mem_cons.mpr ⟨lw_p86, List.forall_mem_cons.mpr ⟨lw_p87, fun _ h => absurd h List.not_mem_nil⟩⟩⟩⟩⟩⟩⟩⟩
def lw_privs : List (MethodName × Nat) := lw_privs_1 ++ (lw_privs_2 ++ (lw_privs_3 ++ (lw_privs_4 ++ (lw_privs_5 ++ (lw_privs_6)))))
def lw_tbl : List Cond := k2_sels lw_privs ++ tables_1
theorem lw_privs_ok : ∀ q ∈ lw_privs, lw_okq q := by
  show ∀ q ∈ lw_privs_1 ++ (lw_privs_2 ++ (lw_privs_3 ++ (lw_privs_4 ++ (lw_privs_5 ++ (lw_privs_6))))), lw_okq q
  exact List.forall_mem_append.mpr ⟨lw_r1, List.forall_mem_append.mpr ⟨lw_r2, List.forall_mem_append.mpr ⟨lw_r3, List.forall_mem_append.mpr ⟨lw_r4, List.forall_mem_append.mpr ⟨lw_r5, lw_r6⟩⟩⟩⟩⟩

def RX0 : String := "ScaffoldYard$Change"
def TX0 : u_T := fun k => match k with
  | 0 => ("ScaffoldYard$Change", "kind", "I", false)
  | 1 => ("ScaffoldYard$Change", "frame", "LScaffoldYard$Frame;", false)
  | 2 => ("ScaffoldYard$Change", "lift", "I", false)
  | 3 => ("ScaffoldYard$Change", "place", "I", false)
  | 4 => ("ScaffoldYard$Change", "old", "I", false)
  | _ => ("ScaffoldYard$Change", "row", "[I", true)
def tyX0 : Nat → FieldType := fun k => match k with
  | 0 => .int
  | 1 => .object "ScaffoldYard$Frame"
  | 2 => .int
  | 3 => .int
  | 4 => .int
  | _ => .array .int
abbrev wsX00 : List Cond := u_ws RX0 TX0 6
theorem nmX0 : ∀ a, a < 6 → ∀ b, b < 6 → a ≠ b → (TX0 a).2.1 ≠ (TX0 b).2.1 := by decide +kernel
theorem tyX0_ok : ∀ k, k < 6 → parseFieldDescriptor (TX0 k).2.2.1 = some (tyX0 k) := by decide +kernel
abbrev cX0_init : ByteArray := prog_2_method_1_code
def yX0_init : MethodName := ⟨RX0, "<init>", "()V"⟩
abbrev cX0_remember : ByteArray := prog_2_method_2_code
def yX0_remember : MethodName := ⟨RX0, "remember", "(ILScaffoldYard$Frame;III)V"⟩
abbrev cX0_bearsPiece : ByteArray := prog_2_method_3_code
def yX0_bearsPiece : MethodName := ⟨RX0, "bearsPiece", "()Z"⟩
abbrev cX0_revert : ByteArray := prog_2_method_4_code
def yX0_revert : MethodName := ⟨RX0, "revert", "()V"⟩
abbrev cX0_revertRow : ByteArray := prog_2_method_5_code
def yX0_revertRow : MethodName := ⟨RX0, "revertRow", "()V"⟩
def RX1 : String := "ScaffoldYard$Frame"
def TX1 : u_T := fun k => match k with
  | 0 => ("ScaffoldYard$Frame", "there", "Z", false)
  | 1 => ("ScaffoldYard$Frame", "bays", "I", false)
  | 2 => ("ScaffoldYard$Frame", "lifts", "I", false)
  | 3 => ("ScaffoldYard$Frame", "height", "I", false)
  | 4 => ("ScaffoldYard$Frame", "pressure", "I", false)
  | 5 => ("ScaffoldYard$Frame", "ups", "I", false)
  | 6 => ("ScaffoldYard$Frame", "kinds", "[I", true)
  | 7 => ("ScaffoldYard$Frame", "widths", "[I", true)
  | 8 => ("ScaffoldYard$Frame", "lowest", "[I", true)
  | 9 => ("ScaffoldYard$Frame", "floors", "[Z", true)
  | 10 => ("ScaffoldYard$Frame", "classes", "[I", true)
  | 11 => ("ScaffoldYard$Frame", "braces", "[Z", true)
  | 12 => ("ScaffoldYard$Frame", "ties", "[Z", true)
  | 13 => ("ScaffoldYard$Frame", "hangers", "[I", true)
  | _ => ("ScaffoldYard$Frame", "tags", "[I", true)
def tyX1 : Nat → FieldType := fun k => match k with
  | 0 => .boolean
  | 1 => .int
  | 2 => .int
  | 3 => .int
  | 4 => .int
  | 5 => .int
  | 6 => .array .int
  | 7 => .array .int
  | 8 => .array .int
  | 9 => .array .boolean
  | 10 => .array .int
  | 11 => .array .boolean
  | 12 => .array .boolean
  | 13 => .array .int
  | _ => .array .int
abbrev wsX10 : List Cond := u_ws RX1 TX1 15
theorem nmX1 : ∀ a, a < 15 → ∀ b, b < 15 → a ≠ b → (TX1 a).2.1 ≠ (TX1 b).2.1 := by decide +kernel
theorem tyX1_ok : ∀ k, k < 15 → parseFieldDescriptor (TX1 k).2.2.1 = some (tyX1 k) := by decide +kernel
abbrev cX1_init : ByteArray := prog_3_method_1_code
def yX1_init : MethodName := ⟨RX1, "<init>", "()V"⟩
abbrev cX1_begin : ByteArray := prog_3_method_2_code
def yX1_begin : MethodName := ⟨RX1, "begin", "(II)V"⟩
abbrev cX1_clear : ByteArray := prog_3_method_3_code
def yX1_clear : MethodName := ⟨RX1, "clear", "([Z)V"⟩
abbrev cX1_addBay : ByteArray := prog_3_method_4_code
def yX1_addBay : MethodName := ⟨RX1, "addBay", "(II)V"⟩
abbrev cX1_dropBay : ByteArray := prog_3_method_5_code
def yX1_dropBay : MethodName := ⟨RX1, "dropBay", "()V"⟩
abbrev cX1_hasBay : ByteArray := prog_3_method_6_code
def yX1_hasBay : MethodName := ⟨RX1, "hasBay", "(I)Z"⟩
abbrev cX1_hasStandard : ByteArray := prog_3_method_7_code
def yX1_hasStandard : MethodName := ⟨RX1, "hasStandard", "(I)Z"⟩
abbrev cX1_hasLift : ByteArray := prog_3_method_8_code
def yX1_hasLift : MethodName := ⟨RX1, "hasLift", "(I)Z"⟩
abbrev cX1_kindOf : ByteArray := prog_3_method_9_code
def yX1_kindOf : MethodName := ⟨RX1, "kindOf", "(I)I"⟩
abbrev cX1_widthOf : ByteArray := prog_3_method_10_code
def yX1_widthOf : MethodName := ⟨RX1, "widthOf", "(I)I"⟩
abbrev cX1_isOfKind : ByteArray := prog_3_method_11_code
def yX1_isOfKind : MethodName := ⟨RX1, "isOfKind", "(II)Z"⟩
abbrev cX1_isGate : ByteArray := prog_3_method_12_code
def yX1_isGate : MethodName := ⟨RX1, "isGate", "(I)Z"⟩
abbrev cX1_isOpening : ByteArray := prog_3_method_13_code
def yX1_isOpening : MethodName := ⟨RX1, "isOpening", "(II)Z"⟩
abbrev cX1_hasFoot : ByteArray := prog_3_method_14_code
def yX1_hasFoot : MethodName := ⟨RX1, "hasFoot", "(I)Z"⟩
abbrev cX1_lowestLift : ByteArray := prog_3_method_15_code
def yX1_lowestLift : MethodName := ⟨RX1, "lowestLift", "(I)I"⟩
abbrev cX1_footFrom : ByteArray := prog_3_method_16_code
def yX1_footFrom : MethodName := ⟨RX1, "footFrom", "(II)I"⟩
abbrev cX1_span : ByteArray := prog_3_method_17_code
def yX1_span : MethodName := ⟨RX1, "span", "(II)I"⟩
abbrev cX1_hasRow : ByteArray := prog_3_method_18_code
def yX1_hasRow : MethodName := ⟨RX1, "hasRow", "(I)Z"⟩
abbrev cX1_setRow : ByteArray := prog_3_method_19_code
def yX1_setRow : MethodName := ⟨RX1, "setRow", "(IZ)V"⟩
abbrev cX1_clearRow : ByteArray := prog_3_method_20_code
def yX1_clearRow : MethodName := ⟨RX1, "clearRow", "(I)V"⟩
abbrev cX1_classOf : ByteArray := prog_3_method_21_code
def yX1_classOf : MethodName := ⟨RX1, "classOf", "(II)I"⟩
abbrev cX1_setClass : ByteArray := prog_3_method_22_code
def yX1_setClass : MethodName := ⟨RX1, "setClass", "(III)V"⟩
abbrev cX1_hasBrace : ByteArray := prog_3_method_23_code
def yX1_hasBrace : MethodName := ⟨RX1, "hasBrace", "(II)Z"⟩
abbrev cX1_setBrace : ByteArray := prog_3_method_24_code
def yX1_setBrace : MethodName := ⟨RX1, "setBrace", "(IIZ)V"⟩
abbrev cX1_hasTie : ByteArray := prog_3_method_25_code
def yX1_hasTie : MethodName := ⟨RX1, "hasTie", "(II)Z"⟩
abbrev cX1_setTie : ByteArray := prog_3_method_26_code
def yX1_setTie : MethodName := ⟨RX1, "setTie", "(IIZ)V"⟩
abbrev cX1_boardsOn : ByteArray := prog_3_method_27_code
def yX1_boardsOn : MethodName := ⟨RX1, "boardsOn", "(I)I"⟩
abbrev cX1_boardsStandOn : ByteArray := prog_3_method_28_code
def yX1_boardsStandOn : MethodName := ⟨RX1, "boardsStandOn", "(I)Z"⟩
abbrev cX1_boardsWeight : ByteArray := prog_3_method_29_code
def yX1_boardsWeight : MethodName := ⟨RX1, "boardsWeight", "(II)I"⟩
abbrev cX1_twiceLoad : ByteArray := prog_3_method_30_code
def yX1_twiceLoad : MethodName := ⟨RX1, "twiceLoad", "(I)I"⟩
abbrev cX1_freeLifts : ByteArray := prog_3_method_31_code
def yX1_freeLifts : MethodName := ⟨RX1, "freeLifts", "(I)I"⟩
abbrev cX1_hasPiece : ByteArray := prog_3_method_32_code
def yX1_hasPiece : MethodName := ⟨RX1, "hasPiece", "(I)Z"⟩
abbrev cX1_piecesOf : ByteArray := prog_3_method_33_code
def yX1_piecesOf : MethodName := ⟨RX1, "piecesOf", "(I)I"⟩
abbrev cX1_piecesOfSize : ByteArray := prog_3_method_34_code
def yX1_piecesOfSize : MethodName := ⟨RX1, "piecesOfSize", "(II)I"⟩
abbrev cX1_sizeOf : ByteArray := prog_3_method_35_code
def yX1_sizeOf : MethodName := ⟨RX1, "sizeOf", "(II)I"⟩
abbrev cX1_need : ByteArray := prog_3_method_36_code
def yX1_need : MethodName := ⟨RX1, "need", "(II)I"⟩
abbrev cX1_needOfTube : ByteArray := prog_3_method_37_code
def yX1_needOfTube : MethodName := ⟨RX1, "needOfTube", "(III)I"⟩
abbrev cX1_stands : ByteArray := prog_3_method_38_code
def yX1_stands : MethodName := ⟨RX1, "stands", "(I)Z"⟩
abbrev cX1_canRaise : ByteArray := prog_3_method_39_code
def yX1_canRaise : MethodName := ⟨RX1, "canRaise", "(I)Z"⟩
abbrev cX1_canLower : ByteArray := prog_3_method_40_code
def yX1_canLower : MethodName := ⟨RX1, "canLower", "(I)Z"⟩
abbrev cX1_raise : ByteArray := prog_3_method_41_code
def yX1_raise : MethodName := ⟨RX1, "raise", "(I)V"⟩
abbrev cX1_lower : ByteArray := prog_3_method_42_code
def yX1_lower : MethodName := ⟨RX1, "lower", "(I)V"⟩
abbrev cX1_hang : ByteArray := prog_3_method_43_code
def yX1_hang : MethodName := ⟨RX1, "hang", "(II)V"⟩
abbrev cX1_leastToRaise : ByteArray := prog_3_method_44_code
def yX1_leastToRaise : MethodName := ⟨RX1, "leastToRaise", "(I)I"⟩
abbrev cX1_greatestToLower : ByteArray := prog_3_method_45_code
def yX1_greatestToLower : MethodName := ⟨RX1, "greatestToLower", "(I)I"⟩
abbrev cX1_leastDown : ByteArray := prog_3_method_46_code
def yX1_leastDown : MethodName := ⟨RX1, "leastDown", "()I"⟩
abbrev cX1_raiseUpTo : ByteArray := prog_3_method_47_code
def yX1_raiseUpTo : MethodName := ⟨RX1, "raiseUpTo", "(I)I"⟩
abbrev cX1_lowerUpTo : ByteArray := prog_3_method_48_code
def yX1_lowerUpTo : MethodName := ⟨RX1, "lowerUpTo", "(I)I"⟩
abbrev cX1_standsUpTo : ByteArray := prog_3_method_49_code
def yX1_standsUpTo : MethodName := ⟨RX1, "standsUpTo", "(I)Z"⟩
abbrev cX1_hasTag : ByteArray := prog_3_method_50_code
def yX1_hasTag : MethodName := ⟨RX1, "hasTag", "(I)Z"⟩
abbrev cX1_tagOf : ByteArray := prog_3_method_51_code
def yX1_tagOf : MethodName := ⟨RX1, "tagOf", "(I)I"⟩
abbrev cX1_setTag : ByteArray := prog_3_method_52_code
def yX1_setTag : MethodName := ⟨RX1, "setTag", "(II)V"⟩
abbrev cX1_tagsHere : ByteArray := prog_3_method_53_code
def yX1_tagsHere : MethodName := ⟨RX1, "tagsHere", "()I"⟩
abbrev cX1_endTagsFrom : ByteArray := prog_3_method_54_code
def yX1_endTagsFrom : MethodName := ⟨RX1, "endTagsFrom", "(I)V"⟩
abbrev cX1_endTagsBefore : ByteArray := prog_3_method_55_code
def yX1_endTagsBefore : MethodName := ⟨RX1, "endTagsBefore", "(I)V"⟩
def RX2 : String := "ScaffoldYard$History"
def TX2 : u_T := fun k => match k with
  | 0 => ("ScaffoldYard$History", "size", "I", false)
  | 1 => ("ScaffoldYard$History", "newest", "I", false)
  | _ => ("ScaffoldYard$History", "kept", "[LScaffoldYard$Change;", true)
def tyX2 : Nat → FieldType := fun k => match k with
  | 0 => .int
  | 1 => .int
  | _ => .array (.object "ScaffoldYard$Change")
abbrev wsX20 : List Cond := u_ws RX2 TX2 3
theorem nmX2 : ∀ a, a < 3 → ∀ b, b < 3 → a ≠ b → (TX2 a).2.1 ≠ (TX2 b).2.1 := by decide +kernel
theorem tyX2_ok : ∀ k, k < 3 → parseFieldDescriptor (TX2 k).2.2.1 = some (tyX2 k) := by decide +kernel
abbrev cX2_init : ByteArray := prog_4_method_1_code
def yX2_init : MethodName := ⟨RX2, "<init>", "()V"⟩
abbrev cX2_note : ByteArray := prog_4_method_2_code
def yX2_note : MethodName := ⟨RX2, "note", "(ILScaffoldYard$Frame;III)V"⟩
abbrev cX2_forget : ByteArray := prog_4_method_3_code
def yX2_forget : MethodName := ⟨RX2, "forget", "()V"⟩
abbrev cX2_takeBack : ByteArray := prog_4_method_4_code
def yX2_takeBack : MethodName := ⟨RX2, "takeBack", "()Z"⟩
def RX3 : String := "ScaffoldYard$Loads"
def TX3 : u_T := fun k => match k with
  | 0 => ("ScaffoldYard$Loads", "above", "J", false)
  | 1 => ("ScaffoldYard$Loads", "below", "J", false)
  | 2 => ("ScaffoldYard$Loads", "windLost", "I", false)
  | 3 => ("ScaffoldYard$Loads", "windOn", "[I", true)
  | _ => ("ScaffoldYard$Loads", "twice", "[I", true)
def tyX3 : Nat → FieldType := fun k => match k with
  | 0 => .long
  | 1 => .long
  | 2 => .int
  | 3 => .array .int
  | _ => .array .int
abbrev wsX30 : List Cond := u_ws RX3 TX3 5
theorem nmX3 : ∀ a, a < 5 → ∀ b, b < 5 → a ≠ b → (TX3 a).2.1 ≠ (TX3 b).2.1 := by decide +kernel
theorem tyX3_ok : ∀ k, k < 5 → parseFieldDescriptor (TX3 k).2.2.1 = some (tyX3 k) := by decide +kernel
abbrev cX3_init : ByteArray := prog_5_method_1_code
def yX3_init : MethodName := ⟨RX3, "<init>", "()V"⟩
abbrev cX3_weigh : ByteArray := prog_5_method_2_code
def yX3_weigh : MethodName := ⟨RX3, "weigh", "(LScaffoldYard$Frame;)V"⟩
abbrev cX3_reckonFoot : ByteArray := prog_5_method_3_code
def yX3_reckonFoot : MethodName := ⟨RX3, "reckonFoot", "(LScaffoldYard$Frame;I)V"⟩
abbrev cX3_addFootless : ByteArray := prog_5_method_4_code
def yX3_addFootless : MethodName := ⟨RX3, "addFootless", "(LScaffoldYard$Frame;II)V"⟩
abbrev cX3_commonDivisor : ByteArray := prog_5_method_5_code
def yX3_commonDivisor : MethodName := ⟨RX3, "commonDivisor", "(JJ)J"⟩
abbrev cX3_standardsOver : ByteArray := prog_5_method_6_code
def yX3_standardsOver : MethodName := ⟨RX3, "standardsOver", "(LScaffoldYard$Frame;[I)I"⟩
abbrev cX3_isOver : ByteArray := prog_5_method_7_code
def yX3_isOver : MethodName := ⟨RX3, "isOver", "(LScaffoldYard$Frame;I[I)Z"⟩
abbrev cX3_tiesOver : ByteArray := prog_5_method_8_code
def yX3_tiesOver : MethodName := ⟨RX3, "tiesOver", "(LScaffoldYard$Frame;[I)I"⟩
abbrev cX3_reckonWind : ByteArray := prog_5_method_9_code
def yX3_reckonWind : MethodName := ⟨RX3, "reckonWind", "(LScaffoldYard$Frame;)V"⟩
abbrev cX3_blow : ByteArray := prog_5_method_10_code
def yX3_blow : MethodName := ⟨RX3, "blow", "(LScaffoldYard$Frame;II)V"⟩
abbrev cX3_nearestTie : ByteArray := prog_5_method_11_code
def yX3_nearestTie : MethodName := ⟨RX3, "nearestTie", "(LScaffoldYard$Frame;II)I"⟩
abbrev cX3_windAt : ByteArray := prog_5_method_12_code
def yX3_windAt : MethodName := ⟨RX3, "windAt", "(II)I"⟩
def RX4 : String := "ScaffoldYard$Moves"
def TX4 : u_T := fun k => match k with
  | 0 => ("ScaffoldYard$Moves", "many", "I", false)
  | 1 => ("ScaffoldYard$Moves", "staying", "[I", true)
  | _ => ("ScaffoldYard$Moves", "most", "[[I", true)
def tyX4 : Nat → FieldType := fun k => match k with
  | 0 => .int
  | 1 => .array .int
  | _ => .array (.array .int)
abbrev wsX40 : List Cond := u_ws RX4 TX4 3
theorem nmX4 : ∀ a, a < 3 → ∀ b, b < 3 → a ≠ b → (TX4 a).2.1 ≠ (TX4 b).2.1 := by decide +kernel
theorem tyX4_ok : ∀ k, k < 3 → parseFieldDescriptor (TX4 k).2.2.1 = some (tyX4 k) := by decide +kernel
abbrev cX4_init : ByteArray := prog_6_method_1_code
def yX4_init : MethodName := ⟨RX4, "<init>", "()V"⟩
abbrev cX4_reckon : ByteArray := prog_6_method_2_code
def yX4_reckon : MethodName := ⟨RX4, "reckon", "(LScaffoldYard$Frame;LScaffoldYard$Frame;)I"⟩
abbrev cX4_mostFrom : ByteArray := prog_6_method_3_code
def yX4_mostFrom : MethodName := ⟨RX4, "mostFrom", "(LScaffoldYard$Frame;LScaffoldYard$Frame;II)I"⟩
abbrev cX4_isLike : ByteArray := prog_6_method_4_code
def yX4_isLike : MethodName := ⟨RX4, "isLike", "(LScaffoldYard$Frame;ILScaffoldYard$Frame;I)Z"⟩
abbrev cX4_choose : ByteArray := prog_6_method_5_code
def yX4_choose : MethodName := ⟨RX4, "choose", "(LScaffoldYard$Frame;LScaffoldYard$Frame;)V"⟩
abbrev cX4_firstLike : ByteArray := prog_6_method_6_code
def yX4_firstLike : MethodName := ⟨RX4, "firstLike", "(LScaffoldYard$Frame;ILScaffoldYard$Frame;I)I"⟩
abbrev cX4_bayThatStays : ByteArray := prog_6_method_7_code
def yX4_bayThatStays : MethodName := ⟨RX4, "bayThatStays", "(I)I"⟩
def RX5 : String := "ScaffoldYard$Rows"
def TX5 : u_T := fun k => match k with
  | 0 => ("ScaffoldYard$Rows", "many", "I", false)
  | 1 => ("ScaffoldYard$Rows", "sum", "I", false)
  | _ => ("ScaffoldYard$Rows", "reach", "[I", true)
def tyX5 : Nat → FieldType := fun k => match k with
  | 0 => .int
  | 1 => .int
  | _ => .array .int
abbrev wsX50 : List Cond := u_ws RX5 TX5 3
theorem nmX5 : ∀ a, a < 3 → ∀ b, b < 3 → a ≠ b → (TX5 a).2.1 ≠ (TX5 b).2.1 := by decide +kernel
theorem tyX5_ok : ∀ k, k < 3 → parseFieldDescriptor (TX5 k).2.2.1 = some (tyX5 k) := by decide +kernel
abbrev cX5_init : ByteArray := prog_7_method_1_code
def yX5_init : MethodName := ⟨RX5, "<init>", "()V"⟩
abbrev cX5_findFit : ByteArray := prog_7_method_2_code
def yX5_findFit : MethodName := ⟨RX5, "findFit", "([III)Z"⟩
abbrev cX5_reckonFewest : ByteArray := prog_7_method_3_code
def yX5_reckonFewest : MethodName := ⟨RX5, "reckonFewest", "([II)V"⟩
abbrev cX5_fittedSize : ByteArray := prog_7_method_4_code
def yX5_fittedSize : MethodName := ⟨RX5, "fittedSize", "([II)I"⟩
abbrev cX5_findJoin : ByteArray := prog_7_method_5_code
def yX5_findJoin : MethodName := ⟨RX5, "findJoin", "([III)Z"⟩
abbrev cX5_reckonCounts : ByteArray := prog_7_method_6_code
def yX5_reckonCounts : MethodName := ⟨RX5, "reckonCounts", "([I)V"⟩
abbrev cX5_makes : ByteArray := prog_7_method_7_code
def yX5_makes : MethodName := ⟨RX5, "makes", "(II)Z"⟩
abbrev cX5_joinedSize : ByteArray := prog_7_method_8_code
def yX5_joinedSize : MethodName := ⟨RX5, "joinedSize", "([II)I"⟩
def RX6 : String := "ScaffoldYard$Rules"
def TX6 : u_T := fun k => match k with
  | 0 => ("ScaffoldYard$Rules", "standardsBetween", "I", false)
  | 1 => ("ScaffoldYard$Rules", "liftsTogether", "I", false)
  | 2 => ("ScaffoldYard$Rules", "baysTogether", "I", false)
  | 3 => ("ScaffoldYard$Rules", "found", "I", false)
  | _ => ("ScaffoldYard$Rules", "codes", "[I", true)
def tyX6 : Nat → FieldType := fun k => match k with
  | 0 => .int
  | 1 => .int
  | 2 => .int
  | 3 => .int
  | _ => .array .int
abbrev wsX60 : List Cond := u_ws RX6 TX6 5
theorem nmX6 : ∀ a, a < 5 → ∀ b, b < 5 → a ≠ b → (TX6 a).2.1 ≠ (TX6 b).2.1 := by decide +kernel
theorem tyX6_ok : ∀ k, k < 5 → parseFieldDescriptor (TX6 k).2.2.1 = some (tyX6 k) := by decide +kernel
abbrev cX6_init : ByteArray := prog_8_method_1_code
def yX6_init : MethodName := ⟨RX6, "<init>", "()V"⟩
abbrev cX6_change : ByteArray := prog_8_method_2_code
def yX6_change : MethodName := ⟨RX6, "change", "(II)I"⟩
abbrev cX6_reckon : ByteArray := prog_8_method_3_code
def yX6_reckon : MethodName := ⟨RX6, "reckon", "(LScaffoldYard$Frame;)I"⟩
abbrev cX6_listTies : ByteArray := prog_8_method_4_code
def yX6_listTies : MethodName := ⟨RX6, "listTies", "(LScaffoldYard$Frame;)V"⟩
abbrev cX6_isTied : ByteArray := prog_8_method_5_code
def yX6_isTied : MethodName := ⟨RX6, "isTied", "(LScaffoldYard$Frame;IIII)Z"⟩
abbrev cX6_listBraces : ByteArray := prog_8_method_6_code
def yX6_listBraces : MethodName := ⟨RX6, "listBraces", "(LScaffoldYard$Frame;)V"⟩
abbrev cX6_isBraced : ByteArray := prog_8_method_7_code
def yX6_isBraced : MethodName := ⟨RX6, "isBraced", "(LScaffoldYard$Frame;III)Z"⟩
abbrev cX6_list : ByteArray := prog_8_method_8_code
def yX6_list : MethodName := ⟨RX6, "list", "(III)V"⟩
abbrev cX6_partOf : ByteArray := prog_8_method_9_code
def yX6_partOf : MethodName := ⟨RX6, "partOf", "(II)I"⟩
abbrev cX6_brokenUpTo : ByteArray := prog_8_method_10_code
def yX6_brokenUpTo : MethodName := ⟨RX6, "brokenUpTo", "(LScaffoldYard$Frame;I)Z"⟩
def RX7 : String := "ScaffoldYard"
def TX7 : u_T := fun k => match k with
  | 0 => ("ScaffoldYard", "baySizes", "[I", true)
  | 1 => ("ScaffoldYard", "tubeSizes", "[I", true)
  | 2 => ("ScaffoldYard", "bears", "[I", true)
  | 3 => ("ScaffoldYard", "frames", "[LScaffoldYard$Frame;", true)
  | 4 => ("ScaffoldYard", "rows", "LScaffoldYard$Rows;", true)
  | 5 => ("ScaffoldYard", "loads", "LScaffoldYard$Loads;", true)
  | 6 => ("ScaffoldYard", "rules", "LScaffoldYard$Rules;", true)
  | 7 => ("ScaffoldYard", "history", "LScaffoldYard$History;", true)
  | 8 => ("ScaffoldYard", "moves", "LScaffoldYard$Moves;", true)
  | 9 => ("ScaffoldYard", "whereabouts", "[I", true)
  | 10 => ("ScaffoldYard", "stocks", "[I", true)
  | _ => ("ScaffoldYard", "today", "I", false)
def tyX7 : Nat → FieldType := fun k => match k with
  | 0 => .array .int
  | 1 => .array .int
  | 2 => .array .int
  | 3 => .array (.object "ScaffoldYard$Frame")
  | 4 => .object "ScaffoldYard$Rows"
  | 5 => .object "ScaffoldYard$Loads"
  | 6 => .object "ScaffoldYard$Rules"
  | 7 => .object "ScaffoldYard$History"
  | 8 => .object "ScaffoldYard$Moves"
  | 9 => .array .int
  | 10 => .array .int
  | _ => .int
abbrev wsX70 : List Cond := u_ws RX7 TX7 12
theorem nmX7 : ∀ a, a < 12 → ∀ b, b < 12 → a ≠ b → (TX7 a).2.1 ≠ (TX7 b).2.1 := by decide +kernel
theorem tyX7_ok : ∀ k, k < 12 → parseFieldDescriptor (TX7 k).2.2.1 = some (tyX7 k) := by decide +kernel
abbrev cX7_init : ByteArray := prog_1_method_1_code
def yX7_init : MethodName := ⟨RX7, "<init>", "()V"⟩
abbrev cX7_table : ByteArray := prog_1_method_2_code
def yX7_table : MethodName := ⟨RX7, "table", "(III)I"⟩
abbrev cX7_fit : ByteArray := prog_1_method_3_code
def yX7_fit : MethodName := ⟨RX7, "fit", "(IIII)I"⟩
abbrev cX7_join : ByteArray := prog_1_method_4_code
def yX7_join : MethodName := ⟨RX7, "join", "(IIII)I"⟩
abbrev cX7_frame : ByteArray := prog_1_method_5_code
def yX7_frame : MethodName := ⟨RX7, "frame", "(IIII)I"⟩
abbrev cX7_bay : ByteArray := prog_1_method_6_code
def yX7_bay : MethodName := ⟨RX7, "bay", "(III)I"⟩
abbrev cX7_drop : ByteArray := prog_1_method_7_code
def yX7_drop : MethodName := ⟨RX7, "drop", "(I)I"⟩
abbrev cX7_floor : ByteArray := prog_1_method_8_code
def yX7_floor : MethodName := ⟨RX7, "floor", "(II)I"⟩
abbrev cX7_strip : ByteArray := prog_1_method_9_code
def yX7_strip : MethodName := ⟨RX7, "strip", "(II)I"⟩
abbrev cX7_board : ByteArray := prog_1_method_10_code
def yX7_board : MethodName := ⟨RX7, "board", "(IIII)I"⟩
abbrev cX7_brace : ByteArray := prog_1_method_11_code
def yX7_brace : MethodName := ⟨RX7, "brace", "(IIII)I"⟩
abbrev cX7_tie : ByteArray := prog_1_method_12_code
def yX7_tie : MethodName := ⟨RX7, "tie", "(IIII)I"⟩
abbrev cX7_gust : ByteArray := prog_1_method_13_code
def yX7_gust : MethodName := ⟨RX7, "gust", "(II)I"⟩
abbrev cX7_undo : ByteArray := prog_1_method_14_code
def yX7_undo : MethodName := ⟨RX7, "undo", "()I"⟩
abbrev cX7_about : ByteArray := prog_1_method_15_code
def yX7_about : MethodName := ⟨RX7, "about", "(II)I"⟩
abbrev cX7_told : ByteArray := prog_1_method_16_code
def yX7_told : MethodName := ⟨RX7, "told", "(III)I"⟩
abbrev cX7_isOf : ByteArray := prog_1_method_17_code
def yX7_isOf : MethodName := ⟨RX7, "isOf", "(III)I"⟩
abbrev cX7_plan : ByteArray := prog_1_method_18_code
def yX7_plan : MethodName := ⟨RX7, "plan", "(IIII)I"⟩
abbrev cX7_load : ByteArray := prog_1_method_19_code
def yX7_load : MethodName := ⟨RX7, "load", "(II)I"⟩
abbrev cX7_foot : ByteArray := prog_1_method_20_code
def yX7_foot : MethodName := ⟨RX7, "foot", "(III)J"⟩
abbrev cX7_wind : ByteArray := prog_1_method_21_code
def yX7_wind : MethodName := ⟨RX7, "wind", "(III)I"⟩
abbrev cX7_lost : ByteArray := prog_1_method_22_code
def yX7_lost : MethodName := ⟨RX7, "lost", "(I)I"⟩
abbrev cX7_free : ByteArray := prog_1_method_23_code
def yX7_free : MethodName := ⟨RX7, "free", "(II)I"⟩
abbrev cX7_over : ByteArray := prog_1_method_24_code
def yX7_over : MethodName := ⟨RX7, "over", "(II)I"⟩
abbrev cX7_rule : ByteArray := prog_1_method_25_code
def yX7_rule : MethodName := ⟨RX7, "rule", "(II)I"⟩
abbrev cX7_breaches : ByteArray := prog_1_method_26_code
def yX7_breaches : MethodName := ⟨RX7, "breaches", "(I)I"⟩
abbrev cX7_breach : ByteArray := prog_1_method_27_code
def yX7_breach : MethodName := ⟨RX7, "breach", "(III)I"⟩
abbrev cX7_put : ByteArray := prog_1_method_28_code
def yX7_put : MethodName := ⟨RX7, "put", "(II)I"⟩
abbrev cX7_take : ByteArray := prog_1_method_29_code
def yX7_take : MethodName := ⟨RX7, "take", "(II)I"⟩
abbrev cX7_next : ByteArray := prog_1_method_30_code
def yX7_next : MethodName := ⟨RX7, "next", "(II)I"⟩
abbrev cX7_go : ByteArray := prog_1_method_31_code
def yX7_go : MethodName := ⟨RX7, "go", "(III)I"⟩
abbrev cX7_isUp : ByteArray := prog_1_method_32_code
def yX7_isUp : MethodName := ⟨RX7, "isUp", "(II)I"⟩
abbrev cX7_day : ByteArray := prog_1_method_33_code
def yX7_day : MethodName := ⟨RX7, "day", "(I)I"⟩
abbrev cX7_storm : ByteArray := prog_1_method_34_code
def yX7_storm : MethodName := ⟨RX7, "storm", "()I"⟩
abbrev cX7_tag : ByteArray := prog_1_method_35_code
def yX7_tag : MethodName := ⟨RX7, "tag", "(III)I"⟩
abbrev cX7_tagged : ByteArray := prog_1_method_36_code
def yX7_tagged : MethodName := ⟨RX7, "tagged", "(II)I"⟩
abbrev cX7_enter : ByteArray := prog_1_method_37_code
def yX7_enter : MethodName := ⟨RX7, "enter", "(III)I"⟩
abbrev cX7_leave : ByteArray := prog_1_method_38_code
def yX7_leave : MethodName := ⟨RX7, "leave", "(I)I"⟩
abbrev cX7_stranded : ByteArray := prog_1_method_39_code
def yX7_stranded : MethodName := ⟨RX7, "stranded", "()I"⟩
abbrev cX7_stock : ByteArray := prog_1_method_40_code
def yX7_stock : MethodName := ⟨RX7, "stock", "(III)I"⟩
abbrev cX7_wants : ByteArray := prog_1_method_41_code
def yX7_wants : MethodName := ⟨RX7, "wants", "(III)I"⟩
abbrev cX7_lacks : ByteArray := prog_1_method_42_code
def yX7_lacks : MethodName := ⟨RX7, "lacks", "(II)I"⟩
abbrev cX7_stays : ByteArray := prog_1_method_43_code
def yX7_stays : MethodName := ⟨RX7, "stays", "(III)I"⟩
abbrev cX7_count : ByteArray := prog_1_method_44_code
def yX7_count : MethodName := ⟨RX7, "count", "(I)I"⟩
abbrev cX7_within : ByteArray := prog_1_method_45_code
def yX7_within : MethodName := ⟨RX7, "within", "(III)Z"⟩
abbrev cX7_pieceAt : ByteArray := prog_1_method_46_code
def yX7_pieceAt : MethodName := ⟨RX7, "pieceAt", "(III)I"⟩
abbrev cX7_isPieceSize : ByteArray := prog_1_method_47_code
def yX7_isPieceSize : MethodName := ⟨RX7, "isPieceSize", "(II)Z"⟩
abbrev cX7_shelfOf : ByteArray := prog_1_method_48_code
def yX7_shelfOf : MethodName := ⟨RX7, "shelfOf", "(II)I"⟩
abbrev cX7_tableAt : ByteArray := prog_1_method_49_code
def yX7_tableAt : MethodName := ⟨RX7, "tableAt", "(I)[I"⟩
abbrev cX7_frameAt : ByteArray := prog_1_method_50_code
def yX7_frameAt : MethodName := ⟨RX7, "frameAt", "(I)LScaffoldYard$Frame;"⟩
abbrev cX7_isPerson : ByteArray := prog_1_method_51_code
def yX7_isPerson : MethodName := ⟨RX7, "isPerson", "(I)Z"⟩
abbrev cX7_someoneOn : ByteArray := prog_1_method_52_code
def yX7_someoneOn : MethodName := ⟨RX7, "someoneOn", "(I)Z"⟩
abbrev cX7_peopleAt : ByteArray := prog_1_method_53_code
def yX7_peopleAt : MethodName := ⟨RX7, "peopleAt", "(I)I"⟩
abbrev cX7_framesInAll : ByteArray := prog_1_method_54_code
def yX7_framesInAll : MethodName := ⟨RX7, "framesInAll", "()I"⟩
abbrev cX7_upsInAll : ByteArray := prog_1_method_55_code
def yX7_upsInAll : MethodName := ⟨RX7, "upsInAll", "()I"⟩
abbrev cX7_tagsInAll : ByteArray := prog_1_method_56_code
def yX7_tagsInAll : MethodName := ⟨RX7, "tagsInAll", "()I"⟩
def RX8 : String := "ScaffoldYardModel"
def TX8 : u_T := fun k => match k with
  | 0 => ("ScaffoldYardModel", "sizes", "[I", true)
  | 1 => ("ScaffoldYardModel", "bears", "[I", true)
  | 2 => ("ScaffoldYardModel", "lifts", "[I", true)
  | 3 => ("ScaffoldYardModel", "heights", "[I", true)
  | 4 => ("ScaffoldYardModel", "bays", "[I", true)
  | 5 => ("ScaffoldYardModel", "kinds", "[I", true)
  | 6 => ("ScaffoldYardModel", "widths", "[I", true)
  | 7 => ("ScaffoldYardModel", "plan", "[I", true)
  | 8 => ("ScaffoldYardModel", "before", "[I", true)
  | 9 => ("ScaffoldYardModel", "aside", "[I", true)
  | 10 => ("ScaffoldYardModel", "kept", "I", false)
  | 11 => ("ScaffoldYardModel", "up", "[Z", true)
  | 12 => ("ScaffoldYardModel", "tags", "[I", true)
  | 13 => ("ScaffoldYardModel", "at", "[I", true)
  | 14 => ("ScaffoldYardModel", "today", "I", false)
  | 15 => ("ScaffoldYardModel", "ruleA", "I", false)
  | 16 => ("ScaffoldYardModel", "ruleB", "I", false)
  | 17 => ("ScaffoldYardModel", "ruleC", "I", false)
  | 18 => ("ScaffoldYardModel", "stocks", "[I", true)
  | 19 => ("ScaffoldYardModel", "fewest", "[I", true)
  | 20 => ("ScaffoldYardModel", "found", "[I", true)
  | 21 => ("ScaffoldYardModel", "foundCount", "I", false)
  | 22 => ("ScaffoldYardModel", "foundSum", "I", false)
  | 23 => ("ScaffoldYardModel", "sums", "[Z", true)
  | 24 => ("ScaffoldYardModel", "above", "J", false)
  | 25 => ("ScaffoldYardModel", "below", "J", false)
  | 26 => ("ScaffoldYardModel", "breachRule", "I", false)
  | 27 => ("ScaffoldYardModel", "breachLift", "I", false)
  | 28 => ("ScaffoldYardModel", "breachPlace", "I", false)
  | _ => ("ScaffoldYardModel", "stay", "[I", true)
def tyX8 : Nat → FieldType := fun k => match k with
  | 0 => .array .int
  | 1 => .array .int
  | 2 => .array .int
  | 3 => .array .int
  | 4 => .array .int
  | 5 => .array .int
  | 6 => .array .int
  | 7 => .array .int
  | 8 => .array .int
  | 9 => .array .int
  | 10 => .int
  | 11 => .array .boolean
  | 12 => .array .int
  | 13 => .array .int
  | 14 => .int
  | 15 => .int
  | 16 => .int
  | 17 => .int
  | 18 => .array .int
  | 19 => .array .int
  | 20 => .array .int
  | 21 => .int
  | 22 => .int
  | 23 => .array .boolean
  | 24 => .long
  | 25 => .long
  | 26 => .int
  | 27 => .int
  | 28 => .int
  | _ => .array .int
abbrev wsX80 : List Cond := u_ws RX8 TX8 30
theorem nmX8 : ∀ a, a < 30 → ∀ b, b < 30 → a ≠ b → (TX8 a).2.1 ≠ (TX8 b).2.1 := by decide +kernel
theorem tyX8_ok : ∀ k, k < 30 → parseFieldDescriptor (TX8 k).2.2.1 = some (tyX8 k) := by decide +kernel
abbrev cX8_init : ByteArray := prog_10_method_1_code
def yX8_init : MethodName := ⟨RX8, "<init>", "()V"⟩
abbrev cX8_isIn : ByteArray := prog_10_method_2_code
def yX8_isIn : MethodName := ⟨RX8, "isIn", "(III)Z"⟩
abbrev cX8_table : ByteArray := prog_10_method_3_code
def yX8_table : MethodName := ⟨RX8, "table", "(III)I"⟩
abbrev cX8_findFewest : ByteArray := prog_10_method_4_code
def yX8_findFewest : MethodName := ⟨RX8, "findFewest", "(I)V"⟩
abbrev cX8_fits : ByteArray := prog_10_method_5_code
def yX8_fits : MethodName := ⟨RX8, "fits", "(II)Z"⟩
abbrev cX8_shown : ByteArray := prog_10_method_6_code
def yX8_shown : MethodName := ⟨RX8, "shown", "(ZII)I"⟩
abbrev cX8_fit : ByteArray := prog_10_method_7_code
def yX8_fit : MethodName := ⟨RX8, "fit", "(IIII)I"⟩
abbrev cX8_findSums : ByteArray := prog_10_method_8_code
def yX8_findSums : MethodName := ⟨RX8, "findSums", "()V"⟩
abbrev cX8_joins : ByteArray := prog_10_method_9_code
def yX8_joins : MethodName := ⟨RX8, "joins", "(II)Z"⟩
abbrev cX8_layTubes : ByteArray := prog_10_method_10_code
def yX8_layTubes : MethodName := ⟨RX8, "layTubes", "(II)V"⟩
abbrev cX8_join : ByteArray := prog_10_method_11_code
def yX8_join : MethodName := ⟨RX8, "join", "(IIII)I"⟩
abbrev cX8_isFrame : ByteArray := prog_10_method_12_code
def yX8_isFrame : MethodName := ⟨RX8, "isFrame", "(I)Z"⟩
abbrev cX8_isMissing : ByteArray := prog_10_method_13_code
def yX8_isMissing : MethodName := ⟨RX8, "isMissing", "(I)Z"⟩
abbrev cX8_kind : ByteArray := prog_10_method_14_code
def yX8_kind : MethodName := ⟨RX8, "kind", "(II)I"⟩
abbrev cX8_width : ByteArray := prog_10_method_15_code
def yX8_width : MethodName := ⟨RX8, "width", "(II)I"⟩
abbrev cX8_isGate : ByteArray := prog_10_method_16_code
def yX8_isGate : MethodName := ⟨RX8, "isGate", "(II)Z"⟩
abbrev cX8_hasFoot : ByteArray := prog_10_method_17_code
def yX8_hasFoot : MethodName := ⟨RX8, "hasFoot", "(II)Z"⟩
abbrev cX8_isLift : ByteArray := prog_10_method_18_code
def yX8_isLift : MethodName := ⟨RX8, "isLift", "(II)Z"⟩
abbrev cX8_isBay : ByteArray := prog_10_method_19_code
def yX8_isBay : MethodName := ⟨RX8, "isBay", "(II)Z"⟩
abbrev cX8_isStandard : ByteArray := prog_10_method_20_code
def yX8_isStandard : MethodName := ⟨RX8, "isStandard", "(II)Z"⟩
abbrev cX8_hasFloor : ByteArray := prog_10_method_21_code
def yX8_hasFloor : MethodName := ⟨RX8, "hasFloor", "(II)Z"⟩
abbrev cX8_boardAt : ByteArray := prog_10_method_22_code
def yX8_boardAt : MethodName := ⟨RX8, "boardAt", "(III)I"⟩
abbrev cX8_hasBrace : ByteArray := prog_10_method_23_code
def yX8_hasBrace : MethodName := ⟨RX8, "hasBrace", "(III)Z"⟩
abbrev cX8_hasTie : ByteArray := prog_10_method_24_code
def yX8_hasTie : MethodName := ⟨RX8, "hasTie", "(III)Z"⟩
abbrev cX8_upIn : ByteArray := prog_10_method_25_code
def yX8_upIn : MethodName := ⟨RX8, "upIn", "(I)I"⟩
abbrev cX8_isAnyoneOn : ByteArray := prog_10_method_26_code
def yX8_isAnyoneOn : MethodName := ⟨RX8, "isAnyoneOn", "(I)Z"⟩
abbrev cX8_emptyBay : ByteArray := prog_10_method_27_code
def yX8_emptyBay : MethodName := ⟨RX8, "emptyBay", "(II)V"⟩
abbrev cX8_emptyTies : ByteArray := prog_10_method_28_code
def yX8_emptyTies : MethodName := ⟨RX8, "emptyTies", "(II)V"⟩
abbrev cX8_loseTies : ByteArray := prog_10_method_29_code
def yX8_loseTies : MethodName := ⟨RX8, "loseTies", "(I)V"⟩
abbrev cX8_frame : ByteArray := prog_10_method_30_code
def yX8_frame : MethodName := ⟨RX8, "frame", "(IIII)I"⟩
abbrev cX8_bay : ByteArray := prog_10_method_31_code
def yX8_bay : MethodName := ⟨RX8, "bay", "(III)I"⟩
abbrev cX8_drop : ByteArray := prog_10_method_32_code
def yX8_drop : MethodName := ⟨RX8, "drop", "(I)I"⟩
abbrev cX8_keep : ByteArray := prog_10_method_33_code
def yX8_keep : MethodName := ⟨RX8, "keep", "()V"⟩
abbrev cX8_floor : ByteArray := prog_10_method_34_code
def yX8_floor : MethodName := ⟨RX8, "floor", "(II)I"⟩
abbrev cX8_strip : ByteArray := prog_10_method_35_code
def yX8_strip : MethodName := ⟨RX8, "strip", "(II)I"⟩
abbrev cX8_board : ByteArray := prog_10_method_36_code
def yX8_board : MethodName := ⟨RX8, "board", "(IIII)I"⟩
abbrev cX8_brace : ByteArray := prog_10_method_37_code
def yX8_brace : MethodName := ⟨RX8, "brace", "(IIII)I"⟩
abbrev cX8_tie : ByteArray := prog_10_method_38_code
def yX8_tie : MethodName := ⟨RX8, "tie", "(IIII)I"⟩
abbrev cX8_gust : ByteArray := prog_10_method_39_code
def yX8_gust : MethodName := ⟨RX8, "gust", "(II)I"⟩
abbrev cX8_undo : ByteArray := prog_10_method_40_code
def yX8_undo : MethodName := ⟨RX8, "undo", "()I"⟩
abbrev cX8_manyOf : ByteArray := prog_10_method_41_code
def yX8_manyOf : MethodName := ⟨RX8, "manyOf", "(IIII)I"⟩
abbrev cX8_widthTo : ByteArray := prog_10_method_42_code
def yX8_widthTo : MethodName := ⟨RX8, "widthTo", "(III)I"⟩
abbrev cX8_about : ByteArray := prog_10_method_43_code
def yX8_about : MethodName := ⟨RX8, "about", "(II)I"⟩
abbrev cX8_told : ByteArray := prog_10_method_44_code
def yX8_told : MethodName := ⟨RX8, "told", "(III)I"⟩
abbrev cX8_isOf : ByteArray := prog_10_method_45_code
def yX8_isOf : MethodName := ⟨RX8, "isOf", "(III)I"⟩
abbrev cX8_plan : ByteArray := prog_10_method_46_code
def yX8_plan : MethodName := ⟨RX8, "plan", "(IIII)I"⟩
abbrev cX8_weightOf : ByteArray := prog_10_method_47_code
def yX8_weightOf : MethodName := ⟨RX8, "weightOf", "(III)I"⟩
abbrev cX8_twiceLoad : ByteArray := prog_10_method_48_code
def yX8_twiceLoad : MethodName := ⟨RX8, "twiceLoad", "(II)I"⟩
abbrev cX8_asked : ByteArray := prog_10_method_49_code
def yX8_asked : MethodName := ⟨RX8, "asked", "(I)I"⟩
abbrev cX8_askedStandard : ByteArray := prog_10_method_50_code
def yX8_askedStandard : MethodName := ⟨RX8, "askedStandard", "(II)I"⟩
abbrev cX8_load : ByteArray := prog_10_method_51_code
def yX8_load : MethodName := ⟨RX8, "load", "(II)I"⟩
abbrev cX8_leftFoot : ByteArray := prog_10_method_52_code
def yX8_leftFoot : MethodName := ⟨RX8, "leftFoot", "(II)I"⟩
abbrev cX8_rightFoot : ByteArray := prog_10_method_53_code
def yX8_rightFoot : MethodName := ⟨RX8, "rightFoot", "(II)I"⟩
abbrev cX8_common : ByteArray := prog_10_method_54_code
def yX8_common : MethodName := ⟨RX8, "common", "(JJ)J"⟩
abbrev cX8_add : ByteArray := prog_10_method_55_code
def yX8_add : MethodName := ⟨RX8, "add", "(JJ)V"⟩
abbrev cX8_findFoot : ByteArray := prog_10_method_56_code
def yX8_findFoot : MethodName := ⟨RX8, "findFoot", "(II)V"⟩
abbrev cX8_foot : ByteArray := prog_10_method_57_code
def yX8_foot : MethodName := ⟨RX8, "foot", "(III)J"⟩
abbrev cX8_size : ByteArray := prog_10_method_58_code
def yX8_size : MethodName := ⟨RX8, "size", "(I)I"⟩
abbrev cX8_tieFor : ByteArray := prog_10_method_59_code
def yX8_tieFor : MethodName := ⟨RX8, "tieFor", "(III)I"⟩
abbrev cX8_windTo : ByteArray := prog_10_method_60_code
def yX8_windTo : MethodName := ⟨RX8, "windTo", "(II)I"⟩
abbrev cX8_wind : ByteArray := prog_10_method_61_code
def yX8_wind : MethodName := ⟨RX8, "wind", "(III)I"⟩
abbrev cX8_lost : ByteArray := prog_10_method_62_code
def yX8_lost : MethodName := ⟨RX8, "lost", "(I)I"⟩
abbrev cX8_freeOf : ByteArray := prog_10_method_63_code
def yX8_freeOf : MethodName := ⟨RX8, "freeOf", "(II)I"⟩
abbrev cX8_free : ByteArray := prog_10_method_64_code
def yX8_free : MethodName := ⟨RX8, "free", "(II)I"⟩
abbrev cX8_isOver : ByteArray := prog_10_method_65_code
def yX8_isOver : MethodName := ⟨RX8, "isOver", "(II)Z"⟩
abbrev cX8_standardsOver : ByteArray := prog_10_method_66_code
def yX8_standardsOver : MethodName := ⟨RX8, "standardsOver", "(I)I"⟩
abbrev cX8_over : ByteArray := prog_10_method_67_code
def yX8_over : MethodName := ⟨RX8, "over", "(II)I"⟩
abbrev cX8_rule : ByteArray := prog_10_method_68_code
def yX8_rule : MethodName := ⟨RX8, "rule", "(II)I"⟩
abbrev cX8_less : ByteArray := prog_10_method_69_code
def yX8_less : MethodName := ⟨RX8, "less", "(II)I"⟩
abbrev cX8_isTied : ByteArray := prog_10_method_70_code
def yX8_isTied : MethodName := ⟨RX8, "isTied", "(IIIII)Z"⟩
abbrev cX8_isBraced : ByteArray := prog_10_method_71_code
def yX8_isBraced : MethodName := ⟨RX8, "isBraced", "(IIII)Z"⟩
abbrev cX8_note : ByteArray := prog_10_method_72_code
def yX8_note : MethodName := ⟨RX8, "note", "(III)V"⟩
abbrev cX8_findBreaches : ByteArray := prog_10_method_73_code
def yX8_findBreaches : MethodName := ⟨RX8, "findBreaches", "(II)I"⟩
abbrev cX8_breaches : ByteArray := prog_10_method_74_code
def yX8_breaches : MethodName := ⟨RX8, "breaches", "(I)I"⟩
abbrev cX8_breach : ByteArray := prog_10_method_75_code
def yX8_breach : MethodName := ⟨RX8, "breach", "(III)I"⟩
abbrev cX8_pieceOf : ByteArray := prog_10_method_76_code
def yX8_pieceOf : MethodName := ⟨RX8, "pieceOf", "(III)I"⟩
abbrev cX8_isPiece : ByteArray := prog_10_method_77_code
def yX8_isPiece : MethodName := ⟨RX8, "isPiece", "(II)Z"⟩
abbrev cX8_needs : ByteArray := prog_10_method_78_code
def yX8_needs : MethodName := ⟨RX8, "needs", "(III)Z"⟩
abbrev cX8_isTubeBelow : ByteArray := prog_10_method_79_code
def yX8_isTubeBelow : MethodName := ⟨RX8, "isTubeBelow", "(IIII)Z"⟩
abbrev cX8_isFootOf : ByteArray := prog_10_method_80_code
def yX8_isFootOf : MethodName := ⟨RX8, "isFootOf", "(III)Z"⟩
abbrev cX8_isUpNow : ByteArray := prog_10_method_81_code
def yX8_isUpNow : MethodName := ⟨RX8, "isUpNow", "(II)Z"⟩
abbrev cX8_mayPut : ByteArray := prog_10_method_82_code
def yX8_mayPut : MethodName := ⟨RX8, "mayPut", "(II)Z"⟩
abbrev cX8_mayTake : ByteArray := prog_10_method_83_code
def yX8_mayTake : MethodName := ⟨RX8, "mayTake", "(II)Z"⟩
abbrev cX8_set : ByteArray := prog_10_method_84_code
def yX8_set : MethodName := ⟨RX8, "set", "(IIZ)V"⟩
abbrev cX8_act : ByteArray := prog_10_method_85_code
def yX8_act : MethodName := ⟨RX8, "act", "(IIZ)I"⟩
abbrev cX8_put : ByteArray := prog_10_method_86_code
def yX8_put : MethodName := ⟨RX8, "put", "(II)I"⟩
abbrev cX8_take : ByteArray := prog_10_method_87_code
def yX8_take : MethodName := ⟨RX8, "take", "(II)I"⟩
abbrev cX8_leastPut : ByteArray := prog_10_method_88_code
def yX8_leastPut : MethodName := ⟨RX8, "leastPut", "(I)I"⟩
abbrev cX8_greatestTaken : ByteArray := prog_10_method_89_code
def yX8_greatestTaken : MethodName := ⟨RX8, "greatestTaken", "(I)I"⟩
abbrev cX8_leastDown : ByteArray := prog_10_method_90_code
def yX8_leastDown : MethodName := ⟨RX8, "leastDown", "(I)I"⟩
abbrev cX8_next : ByteArray := prog_10_method_91_code
def yX8_next : MethodName := ⟨RX8, "next", "(II)I"⟩
abbrev cX8_go : ByteArray := prog_10_method_92_code
def yX8_go : MethodName := ⟨RX8, "go", "(III)I"⟩
abbrev cX8_isUp : ByteArray := prog_10_method_93_code
def yX8_isUp : MethodName := ⟨RX8, "isUp", "(II)I"⟩
abbrev cX8_tagOf : ByteArray := prog_10_method_94_code
def yX8_tagOf : MethodName := ⟨RX8, "tagOf", "(II)I"⟩
abbrev cX8_day : ByteArray := prog_10_method_95_code
def yX8_day : MethodName := ⟨RX8, "day", "(I)I"⟩
abbrev cX8_tagsNow : ByteArray := prog_10_method_96_code
def yX8_tagsNow : MethodName := ⟨RX8, "tagsNow", "()I"⟩
abbrev cX8_storm : ByteArray := prog_10_method_97_code
def yX8_storm : MethodName := ⟨RX8, "storm", "()I"⟩
abbrev cX8_askedLift : ByteArray := prog_10_method_98_code
def yX8_askedLift : MethodName := ⟨RX8, "askedLift", "(II)I"⟩
abbrev cX8_mayTag : ByteArray := prog_10_method_99_code
def yX8_mayTag : MethodName := ⟨RX8, "mayTag", "(II)Z"⟩
abbrev cX8_tag : ByteArray := prog_10_method_100_code
def yX8_tag : MethodName := ⟨RX8, "tag", "(III)I"⟩
abbrev cX8_tagged : ByteArray := prog_10_method_101_code
def yX8_tagged : MethodName := ⟨RX8, "tagged", "(II)I"⟩
abbrev cX8_manyOn : ByteArray := prog_10_method_102_code
def yX8_manyOn : MethodName := ⟨RX8, "manyOn", "(II)I"⟩
abbrev cX8_enter : ByteArray := prog_10_method_103_code
def yX8_enter : MethodName := ⟨RX8, "enter", "(III)I"⟩
abbrev cX8_leave : ByteArray := prog_10_method_104_code
def yX8_leave : MethodName := ⟨RX8, "leave", "(I)I"⟩
abbrev cX8_stranded : ByteArray := prog_10_method_105_code
def yX8_stranded : MethodName := ⟨RX8, "stranded", "()I"⟩
abbrev cX8_isWare : ByteArray := prog_10_method_106_code
def yX8_isWare : MethodName := ⟨RX8, "isWare", "(II)Z"⟩
abbrev cX8_stock : ByteArray := prog_10_method_107_code
def yX8_stock : MethodName := ⟨RX8, "stock", "(III)I"⟩
abbrev cX8_wantsOf : ByteArray := prog_10_method_108_code
def yX8_wantsOf : MethodName := ⟨RX8, "wantsOf", "(III)I"⟩
abbrev cX8_wants : ByteArray := prog_10_method_109_code
def yX8_wants : MethodName := ⟨RX8, "wants", "(III)I"⟩
abbrev cX8_lacks : ByteArray := prog_10_method_110_code
def yX8_lacks : MethodName := ⟨RX8, "lacks", "(II)I"⟩
abbrev cX8_isLike : ByteArray := prog_10_method_111_code
def yX8_isLike : MethodName := ⟨RX8, "isLike", "(IIII)Z"⟩
abbrev cX8_findStay : ByteArray := prog_10_method_112_code
def yX8_findStay : MethodName := ⟨RX8, "findStay", "(II)V"⟩
abbrev cX8_stays : ByteArray := prog_10_method_113_code
def yX8_stays : MethodName := ⟨RX8, "stays", "(III)I"⟩
abbrev cX8_count : ByteArray := prog_10_method_114_code
def yX8_count : MethodName := ⟨RX8, "count", "(I)I"⟩
def RJ9 : String := "java/lang/Math"
def TJ9 : u_T := fun k => match k with
  | _ => ("", "", "", false)
def tyJ9 : Nat → FieldType := fun k => match k with
  | _ => .int
abbrev wsJ90 : List Cond := u_ws RJ9 TJ9 0
abbrev cJ9_abs_0f7a4 : ByteArray := prog_11_method_59_code
def yJ9_abs_0f7a4 : MethodName := ⟨RJ9, "abs", "(I)I"⟩
abbrev cJ9_max_7cf53 : ByteArray := prog_11_method_65_code
def yJ9_max_7cf53 : MethodName := ⟨RJ9, "max", "(II)I"⟩
abbrev cJ9_min_7cf53 : ByteArray := prog_11_method_69_code
def yJ9_min_7cf53 : MethodName := ⟨RJ9, "min", "(II)I"⟩
def RJ7 : String := "java/util/Arrays"
def TJ7 : u_T := fun k => match k with
  | _ => ("", "", "", false)
def tyJ7 : Nat → FieldType := fun k => match k with
  | _ => .int
abbrev wsJ70 : List Cond := u_ws RJ7 TJ7 0
abbrev cJ7_fill_53178 : ByteArray := prog_12_method_103_code
def yJ7_fill_53178 : MethodName := ⟨RJ7, "fill", "([II)V"⟩
def RL : String := "ScaffoldYardLaw"
abbrev cL_law : ByteArray := code
def yL_law : MethodName := ⟨RL, "law", "([I)Z"⟩
abbrev vwCl : List vw_C := [(RX0, TX0, 6), (RX1, TX1, 15), (RX2, TX2, 3), (RX3, TX3, 5), (RX4, TX4, 3), (RX5, TX5, 3), (RX6, TX6, 5), (RX7, TX7, 12), (RX8, TX8, 30)]
