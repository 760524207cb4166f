section
-- ===== PART A: goes FIRST, ahead of the names: the tables' words, and 'selects' of the private methods out of them =====
/-- a private method of a class that the tables say can be made, by its rows of tables_1 -/
def lw_okq (q : MethodName × Nat) : Prop := (q.1.cls ≠ "java/lang/invoke/MethodHandle" ∧ q.1.cls ≠ "java/lang/invoke/VarHandle") ∧ Cond.instantiable q.1.cls q.2 ∈ tables_1 ∧ Cond.privateMethod q.1 ∈ tables_1 ∧ Cond.instanceMethod q.1 ∈ tables_1
theorem lw_p0 : lw_okq (⟨"ScaffoldYard", "tableAt", "(I)[I"⟩, 12) := ⟨⟨by decide +kernel, by decide +kernel⟩, List.mem_of_getElem? (i := 13) (by decide +kernel), List.mem_of_getElem? (i := 261) (by decide +kernel), List.mem_of_getElem? (i := 262) (by decide +kernel)⟩
theorem lw_p1 : lw_okq (⟨"ScaffoldYard$Rows", "reckonFewest", "([II)V"⟩, 3) := ⟨⟨by decide +kernel, by decide +kernel⟩, List.mem_of_getElem? (i := 23) (by decide +kernel), List.mem_of_getElem? (i := 278) (by decide +kernel), List.mem_of_getElem? (i := 279) (by decide +kernel)⟩
theorem lw_p2 : lw_okq (⟨"ScaffoldYard$Rows", "reckonCounts", "([I)V"⟩, 3) := ⟨⟨by decide +kernel, by decide +kernel⟩, List.mem_of_getElem? (i := 23) (by decide +kernel), List.mem_of_getElem? (i := 299) (by decide +kernel), List.mem_of_getElem? (i := 300) (by decide +kernel)⟩
theorem lw_p3 : lw_okq (⟨"ScaffoldYard$Rows", "makes", "(II)Z"⟩, 3) := ⟨⟨by decide +kernel, by decide +kernel⟩, List.mem_of_getElem? (i := 23) (by decide +kernel), List.mem_of_getElem? (i := 304) (by decide +kernel), List.mem_of_getElem? (i := 305) (by decide +kernel)⟩
theorem lw_p4 : lw_okq (⟨"ScaffoldYard", "frameAt", "(I)LScaffoldYard$Frame;"⟩, 12) := ⟨⟨by decide +kernel, by decide +kernel⟩, List.mem_of_getElem? (i := 13) (by decide +kernel), List.mem_of_getElem? (i := 317) (by decide +kernel), List.mem_of_getElem? (i := 318) (by decide +kernel)⟩
theorem lw_p5 : lw_okq (⟨"ScaffoldYard", "someoneOn", "(I)Z"⟩, 12) := ⟨⟨by decide +kernel, by decide +kernel⟩, List.mem_of_getElem? (i := 13) (by decide +kernel), List.mem_of_getElem? (i := 321) (by decide +kernel), List.mem_of_getElem? (i := 322) (by decide +kernel)⟩
theorem lw_p6 : lw_okq (⟨"ScaffoldYard$Frame", "isGate", "(I)Z"⟩, 15) := ⟨⟨by decide +kernel, by decide +kernel⟩, List.mem_of_getElem? (i := 152) (by decide +kernel), List.mem_of_getElem? (i := 337) (by decide +kernel), List.mem_of_getElem? (i := 338) (by decide +kernel)⟩
theorem lw_p7 : lw_okq (⟨"ScaffoldYard$Change", "revertRow", "()V"⟩, 6) := ⟨⟨by decide +kernel, by decide +kernel⟩, List.mem_of_getElem? (i := 96) (by decide +kernel), List.mem_of_getElem? (i := 500) (by decide +kernel), List.mem_of_getElem? (i := 501) (by decide +kernel)⟩
theorem lw_p8 : lw_okq (⟨"ScaffoldYard$Loads", "addFootless", "(LScaffoldYard$Frame;II)V"⟩, 5) := ⟨⟨by decide +kernel, by decide +kernel⟩, List.mem_of_getElem? (i := 42) (by decide +kernel), List.mem_of_getElem? (i := 586) (by decide +kernel), List.mem_of_getElem? (i := 587) (by decide +kernel)⟩
theorem lw_p9 : lw_okq (⟨"ScaffoldYard$Loads", "blow", "(LScaffoldYard$Frame;II)V"⟩, 5) := ⟨⟨by decide +kernel, by decide +kernel⟩, List.mem_of_getElem? (i := 42) (by decide +kernel), List.mem_of_getElem? (i := 610) (by decide +kernel), List.mem_of_getElem? (i := 611) (by decide +kernel)⟩
theorem lw_p10 : lw_okq (⟨"ScaffoldYard$Loads", "isOver", "(LScaffoldYard$Frame;I[I)Z"⟩, 5) := ⟨⟨by decide +kernel, by decide +kernel⟩, List.mem_of_getElem? (i := 42) (by decide +kernel), List.mem_of_getElem? (i := 647) (by decide +kernel), List.mem_of_getElem? (i := 648) (by decide +kernel)⟩
theorem lw_p11 : lw_okq (⟨"ScaffoldYard$Rules", "listTies", "(LScaffoldYard$Frame;)V"⟩, 5) := ⟨⟨by decide +kernel, by decide +kernel⟩, List.mem_of_getElem? (i := 67) (by decide +kernel), List.mem_of_getElem? (i := 677) (by decide +kernel), List.mem_of_getElem? (i := 678) (by decide +kernel)⟩
theorem lw_p12 : lw_okq (⟨"ScaffoldYard$Rules", "list", "(III)V"⟩, 5) := ⟨⟨by decide +kernel, by decide +kernel⟩, List.mem_of_getElem? (i := 67) (by decide +kernel), List.mem_of_getElem? (i := 686) (by decide +kernel), List.mem_of_getElem? (i := 687) (by decide +kernel)⟩
theorem lw_p13 : lw_okq (⟨"ScaffoldYard$Rules", "listBraces", "(LScaffoldYard$Frame;)V"⟩, 5) := ⟨⟨by decide +kernel, by decide +kernel⟩, List.mem_of_getElem? (i := 67) (by decide +kernel), List.mem_of_getElem? (i := 691) (by decide +kernel), List.mem_of_getElem? (i := 692) (by decide +kernel)⟩
theorem lw_p14 : lw_okq (⟨"ScaffoldYard$Frame", "need", "(II)I"⟩, 15) := ⟨⟨by decide +kernel, by decide +kernel⟩, List.mem_of_getElem? (i := 152) (by decide +kernel), List.mem_of_getElem? (i := 718) (by decide +kernel), List.mem_of_getElem? (i := 719) (by decide +kernel)⟩
theorem lw_p15 : lw_okq (⟨"ScaffoldYard$Frame", "needOfTube", "(III)I"⟩, 15) := ⟨⟨by decide +kernel, by decide +kernel⟩, List.mem_of_getElem? (i := 152) (by decide +kernel), List.mem_of_getElem? (i := 722) (by decide +kernel), List.mem_of_getElem? (i := 723) (by decide +kernel)⟩
def lw_privs_1 : List (MethodName × Nat) := [(⟨"ScaffoldYard", "tableAt", "(I)[I"⟩, 12), (⟨"ScaffoldYard$Rows", "reckonFewest", "([II)V"⟩, 3), (⟨"ScaffoldYard$Rows", "reckonCounts", "([I)V"⟩, 3), (⟨"ScaffoldYard$Rows", "makes", "(II)Z"⟩, 3), (⟨"ScaffoldYard", "frameAt", "(I)LScaffoldYard$Frame;"⟩, 12), (⟨"ScaffoldYard", "someoneOn", "(I)Z"⟩, 12), (⟨"ScaffoldYard$Frame", "isGate", "(I)Z"⟩, 15), (⟨"ScaffoldYard$Change", "revertRow", "()V"⟩, 6), (⟨"ScaffoldYard$Loads", "addFootless", "(LScaffoldYard$Frame;II)V"⟩, 5), (⟨"ScaffoldYard$Loads", "blow", "(LScaffoldYard$Frame;II)V"⟩, 5), (⟨"ScaffoldYard$Loads", "isOver", "(LScaffoldYard$Frame;I[I)Z"⟩, 5), (⟨"ScaffoldYard$Rules", "listTies", "(LScaffoldYard$Frame;)V"⟩, 5), (⟨"ScaffoldYard$Rules", "list", "(III)V"⟩, 5), (⟨"ScaffoldYard$Rules", "listBraces", "(LScaffoldYard$Frame;)V"⟩, 5), (⟨"ScaffoldYard$Frame", "need", "(II)I"⟩, 15), (⟨"ScaffoldYard$Frame", "needOfTube", "(III)I"⟩, 15)]
theorem lw_r1 : ∀ q ∈ lw_privs_1, lw_okq q := List.forall_mem_cons.mpr ⟨lw_p0, List.forall_mem_cons.mpr ⟨lw_p1, List.forall_mem_cons.mpr ⟨lw_p2, List.forall_mem_cons.mpr ⟨lw_p3, List.forall_mem_cons.mpr ⟨lw_p4, List.forall_mem_cons.mpr ⟨lw_p5, List.forall_mem_cons.mpr ⟨lw_p6, List.forall_mem_cons.mpr ⟨lw_p7, List.forall_mem_cons.mpr ⟨lw_p8, List.forall_mem_cons.mpr ⟨lw_p9, List.forall_mem_cons.mpr ⟨lw_p10, List.forall_mem_cons.mpr ⟨lw_p11, List.forall_mem_cons.mpr ⟨lw_p12, List.forall_mem_cons.mpr ⟨lw_p13, List.forall_mem_cons.mpr ⟨lw_p14, List.forall_mem_cons.mpr ⟨lw_p15, fun _ h => absurd h List.not_mem_nil⟩⟩⟩⟩⟩⟩⟩⟩⟩⟩⟩⟩⟩⟩⟩⟩
theorem lw_p16 : lw_okq (⟨"ScaffoldYard$Frame", "hang", "(II)V"⟩, 15) := ⟨⟨by decide +kernel, by decide +kernel⟩, List.mem_of_getElem? (i := 152) (by decide +kernel), List.mem_of_getElem? (i := 732) (by decide +kernel), List.mem_of_getElem? (i := 733) (by decide +kernel)⟩
theorem lw_p17 : lw_okq (⟨"ScaffoldYard", "tagsInAll", "()I"⟩, 12) := ⟨⟨by decide +kernel, by decide +kernel⟩, List.mem_of_getElem? (i := 13) (by decide +kernel), List.mem_of_getElem? (i := 810) (by decide +kernel), List.mem_of_getElem? (i := 811) (by decide +kernel)⟩
theorem lw_p18 : lw_okq (⟨"ScaffoldYard", "isPerson", "(I)Z"⟩, 12) := ⟨⟨by decide +kernel, by decide +kernel⟩, List.mem_of_getElem? (i := 13) (by decide +kernel), List.mem_of_getElem? (i := 848) (by decide +kernel), List.mem_of_getElem? (i := 849) (by decide +kernel)⟩
theorem lw_p19 : lw_okq (⟨"ScaffoldYard", "peopleAt", "(I)I"⟩, 12) := ⟨⟨by decide +kernel, by decide +kernel⟩, List.mem_of_getElem? (i := 13) (by decide +kernel), List.mem_of_getElem? (i := 852) (by decide +kernel), List.mem_of_getElem? (i := 853) (by decide +kernel)⟩
theorem lw_p20 : lw_okq (⟨"ScaffoldYard$Frame", "sizeOf", "(II)I"⟩, 15) := ⟨⟨by decide +kernel, by decide +kernel⟩, List.mem_of_getElem? (i := 152) (by decide +kernel), List.mem_of_getElem? (i := 883) (by decide +kernel), List.mem_of_getElem? (i := 884) (by decide +kernel)⟩
theorem lw_p21 : lw_okq (⟨"ScaffoldYard$Moves", "mostFrom", "(LScaffoldYard$Frame;LScaffoldYard$Frame;II)I"⟩, 3) := ⟨⟨by decide +kernel, by decide +kernel⟩, List.mem_of_getElem? (i := 132) (by decide +kernel), List.mem_of_getElem? (i := 900) (by decide +kernel), List.mem_of_getElem? (i := 901) (by decide +kernel)⟩
theorem lw_p22 : lw_okq (⟨"ScaffoldYard$Moves", "choose", "(LScaffoldYard$Frame;LScaffoldYard$Frame;)V"⟩, 3) := ⟨⟨by decide +kernel, by decide +kernel⟩, List.mem_of_getElem? (i := 132) (by decide +kernel), List.mem_of_getElem? (i := 910) (by decide +kernel), List.mem_of_getElem? (i := 911) (by decide +kernel)⟩
theorem lw_p23 : lw_okq (⟨"ScaffoldYard", "framesInAll", "()I"⟩, 12) := ⟨⟨by decide +kernel, by decide +kernel⟩, List.mem_of_getElem? (i := 13) (by decide +kernel), List.mem_of_getElem? (i := 927) (by decide +kernel), List.mem_of_getElem? (i := 928) (by decide +kernel)⟩
theorem lw_p24 : lw_okq (⟨"ScaffoldYard", "upsInAll", "()I"⟩, 12) := ⟨⟨by decide +kernel, by decide +kernel⟩, List.mem_of_getElem? (i := 13) (by decide +kernel), List.mem_of_getElem? (i := 931) (by decide +kernel), List.mem_of_getElem? (i := 932) (by decide +kernel)⟩
theorem lw_p25 : lw_okq (⟨"ScaffoldYardModel", "fits", "(II)Z"⟩, 30) := ⟨⟨by decide +kernel, by decide +kernel⟩, List.mem_of_getElem? (i := 935) (by decide +kernel), List.mem_of_getElem? (i := 1047) (by decide +kernel), List.mem_of_getElem? (i := 1048) (by decide +kernel)⟩
theorem lw_p26 : lw_okq (⟨"ScaffoldYardModel", "findFewest", "(I)V"⟩, 30) := ⟨⟨by decide +kernel, by decide +kernel⟩, List.mem_of_getElem? (i := 935) (by decide +kernel), List.mem_of_getElem? (i := 1051) (by decide +kernel), List.mem_of_getElem? (i := 1052) (by decide +kernel)⟩
theorem lw_p27 : lw_okq (⟨"ScaffoldYardModel", "shown", "(ZII)I"⟩, 30) := ⟨⟨by decide +kernel, by decide +kernel⟩, List.mem_of_getElem? (i := 935) (by decide +kernel), List.mem_of_getElem? (i := 1056) (by decide +kernel), List.mem_of_getElem? (i := 1057) (by decide +kernel)⟩
theorem lw_p28 : lw_okq (⟨"ScaffoldYardModel", "joins", "(II)Z"⟩, 30) := ⟨⟨by decide +kernel, by decide +kernel⟩, List.mem_of_getElem? (i := 935) (by decide +kernel), List.mem_of_getElem? (i := 1064) (by decide +kernel), List.mem_of_getElem? (i := 1065) (by decide +kernel)⟩
theorem lw_p29 : lw_okq (⟨"ScaffoldYardModel", "findSums", "()V"⟩, 30) := ⟨⟨by decide +kernel, by decide +kernel⟩, List.mem_of_getElem? (i := 935) (by decide +kernel), List.mem_of_getElem? (i := 1068) (by decide +kernel), List.mem_of_getElem? (i := 1069) (by decide +kernel)⟩
theorem lw_p30 : lw_okq (⟨"ScaffoldYardModel", "layTubes", "(II)V"⟩, 30) := ⟨⟨by decide +kernel, by decide +kernel⟩, List.mem_of_getElem? (i := 935) (by decide +kernel), List.mem_of_getElem? (i := 1072) (by decide +kernel), List.mem_of_getElem? (i := 1073) (by decide +kernel)⟩
theorem lw_p31 : lw_okq (⟨"ScaffoldYardModel", "upIn", "(I)I"⟩, 30) := ⟨⟨by decide +kernel, by decide +kernel⟩, List.mem_of_getElem? (i := 935) (by decide +kernel), List.mem_of_getElem? (i := 1083) (by decide +kernel), List.mem_of_getElem? (i := 1084) (by decide +kernel)⟩
def lw_privs_2 : List (MethodName × Nat) := [(⟨"ScaffoldYard$Frame", "hang", "(II)V"⟩, 15), (⟨"ScaffoldYard", "tagsInAll", "()I"⟩, 12), (⟨"ScaffoldYard", "isPerson", "(I)Z"⟩, 12), (⟨"ScaffoldYard", "peopleAt", "(I)I"⟩, 12), (⟨"ScaffoldYard$Frame", "sizeOf", "(II)I"⟩, 15), (⟨"ScaffoldYard$Moves", "mostFrom", "(LScaffoldYard$Frame;LScaffoldYard$Frame;II)I"⟩, 3), (⟨"ScaffoldYard$Moves", "choose", "(LScaffoldYard$Frame;LScaffoldYard$Frame;)V"⟩, 3), (⟨"ScaffoldYard", "framesInAll", "()I"⟩, 12), (⟨"ScaffoldYard", "upsInAll", "()I"⟩, 12), (⟨"ScaffoldYardModel", "fits", "(II)Z"⟩, 30), (⟨"ScaffoldYardModel", "findFewest", "(I)V"⟩, 30), (⟨"ScaffoldYardModel", "shown", "(ZII)I"⟩, 30), (⟨"ScaffoldYardModel", "joins", "(II)Z"⟩, 30), (⟨"ScaffoldYardModel", "findSums", "()V"⟩, 30), (⟨"ScaffoldYardModel", "layTubes", "(II)V"⟩, 30), (⟨"ScaffoldYardModel", "upIn", "(I)I"⟩, 30)]
theorem lw_r2 : ∀ q ∈ lw_privs_2, lw_okq q := List.forall_mem_cons.mpr ⟨lw_p16, List.forall_mem_cons.mpr ⟨lw_p17, List.forall_mem_cons.mpr ⟨lw_p18, List.forall_mem_cons.mpr ⟨lw_p19, List.forall_mem_cons.mpr ⟨lw_p20, List.forall_mem_cons.mpr ⟨lw_p21, List.forall_mem_cons.mpr ⟨lw_p22, List.forall_mem_cons.mpr ⟨lw_p23, List.forall_mem_cons.mpr ⟨lw_p24, List.forall_mem_cons.mpr ⟨lw_p25, List.forall_mem_cons.mpr ⟨lw_p26, List.forall_mem_cons.mpr ⟨lw_p27, List.forall_mem_cons.mpr ⟨lw_p28, List.forall_mem_cons.mpr ⟨lw_p29, List.forall_mem_cons.mpr ⟨lw_p30, List.forall_mem_cons.mpr ⟨lw_p31, fun _ h => absurd h List.not_mem_nil⟩⟩⟩⟩⟩⟩⟩⟩⟩⟩⟩⟩⟩⟩⟩⟩
theorem lw_p32 : lw_okq (⟨"ScaffoldYardModel", "isAnyoneOn", "(I)Z"⟩, 30) := ⟨⟨by decide +kernel, by decide +kernel⟩, List.mem_of_getElem? (i := 935) (by decide +kernel), List.mem_of_getElem? (i := 1087) (by decide +kernel), List.mem_of_getElem? (i := 1088) (by decide +kernel)⟩
theorem lw_p33 : lw_okq (⟨"ScaffoldYardModel", "emptyBay", "(II)V"⟩, 30) := ⟨⟨by decide +kernel, by decide +kernel⟩, List.mem_of_getElem? (i := 935) (by decide +kernel), List.mem_of_getElem? (i := 1092) (by decide +kernel), List.mem_of_getElem? (i := 1093) (by decide +kernel)⟩
theorem lw_p34 : lw_okq (⟨"ScaffoldYardModel", "isMissing", "(I)Z"⟩, 30) := ⟨⟨by decide +kernel, by decide +kernel⟩, List.mem_of_getElem? (i := 935) (by decide +kernel), List.mem_of_getElem? (i := 1100) (by decide +kernel), List.mem_of_getElem? (i := 1101) (by decide +kernel)⟩
theorem lw_p35 : lw_okq (⟨"ScaffoldYardModel", "emptyTies", "(II)V"⟩, 30) := ⟨⟨by decide +kernel, by decide +kernel⟩, List.mem_of_getElem? (i := 935) (by decide +kernel), List.mem_of_getElem? (i := 1105) (by decide +kernel), List.mem_of_getElem? (i := 1106) (by decide +kernel)⟩
theorem lw_p36 : lw_okq (⟨"ScaffoldYardModel", "loseTies", "(I)V"⟩, 30) := ⟨⟨by decide +kernel, by decide +kernel⟩, List.mem_of_getElem? (i := 935) (by decide +kernel), List.mem_of_getElem? (i := 1109) (by decide +kernel), List.mem_of_getElem? (i := 1110) (by decide +kernel)⟩
theorem lw_p37 : lw_okq (⟨"ScaffoldYardModel", "hasFoot", "(II)Z"⟩, 30) := ⟨⟨by decide +kernel, by decide +kernel⟩, List.mem_of_getElem? (i := 935) (by decide +kernel), List.mem_of_getElem? (i := 1113) (by decide +kernel), List.mem_of_getElem? (i := 1114) (by decide +kernel)⟩
theorem lw_p38 : lw_okq (⟨"ScaffoldYardModel", "isGate", "(II)Z"⟩, 30) := ⟨⟨by decide +kernel, by decide +kernel⟩, List.mem_of_getElem? (i := 935) (by decide +kernel), List.mem_of_getElem? (i := 1117) (by decide +kernel), List.mem_of_getElem? (i := 1118) (by decide +kernel)⟩
theorem lw_p39 : lw_okq (⟨"ScaffoldYardModel", "kind", "(II)I"⟩, 30) := ⟨⟨by decide +kernel, by decide +kernel⟩, List.mem_of_getElem? (i := 935) (by decide +kernel), List.mem_of_getElem? (i := 1121) (by decide +kernel), List.mem_of_getElem? (i := 1122) (by decide +kernel)⟩
theorem lw_p40 : lw_okq (⟨"ScaffoldYardModel", "width", "(II)I"⟩, 30) := ⟨⟨by decide +kernel, by decide +kernel⟩, List.mem_of_getElem? (i := 935) (by decide +kernel), List.mem_of_getElem? (i := 1129) (by decide +kernel), List.mem_of_getElem? (i := 1130) (by decide +kernel)⟩
theorem lw_p41 : lw_okq (⟨"ScaffoldYardModel", "isLift", "(II)Z"⟩, 30) := ⟨⟨by decide +kernel, by decide +kernel⟩, List.mem_of_getElem? (i := 935) (by decide +kernel), List.mem_of_getElem? (i := 1137) (by decide +kernel), List.mem_of_getElem? (i := 1138) (by decide +kernel)⟩
theorem lw_p42 : lw_okq (⟨"ScaffoldYardModel", "keep", "()V"⟩, 30) := ⟨⟨by decide +kernel, by decide +kernel⟩, List.mem_of_getElem? (i := 935) (by decide +kernel), List.mem_of_getElem? (i := 1142) (by decide +kernel), List.mem_of_getElem? (i := 1143) (by decide +kernel)⟩
theorem lw_p43 : lw_okq (⟨"ScaffoldYardModel", "hasFloor", "(II)Z"⟩, 30) := ⟨⟨by decide +kernel, by decide +kernel⟩, List.mem_of_getElem? (i := 935) (by decide +kernel), List.mem_of_getElem? (i := 1150) (by decide +kernel), List.mem_of_getElem? (i := 1151) (by decide +kernel)⟩
theorem lw_p44 : lw_okq (⟨"ScaffoldYardModel", "boardAt", "(III)I"⟩, 30) := ⟨⟨by decide +kernel, by decide +kernel⟩, List.mem_of_getElem? (i := 935) (by decide +kernel), List.mem_of_getElem? (i := 1155) (by decide +kernel), List.mem_of_getElem? (i := 1156) (by decide +kernel)⟩
theorem lw_p45 : lw_okq (⟨"ScaffoldYardModel", "isBay", "(II)Z"⟩, 30) := ⟨⟨by decide +kernel, by decide +kernel⟩, List.mem_of_getElem? (i := 935) (by decide +kernel), List.mem_of_getElem? (i := 1163) (by decide +kernel), List.mem_of_getElem? (i := 1164) (by decide +kernel)⟩
theorem lw_p46 : lw_okq (⟨"ScaffoldYardModel", "hasBrace", "(III)Z"⟩, 30) := ⟨⟨by decide +kernel, by decide +kernel⟩, List.mem_of_getElem? (i := 935) (by decide +kernel), List.mem_of_getElem? (i := 1171) (by decide +kernel), List.mem_of_getElem? (i := 1172) (by decide +kernel)⟩
theorem lw_p47 : lw_okq (⟨"ScaffoldYardModel", "isStandard", "(II)Z"⟩, 30) := ⟨⟨by decide +kernel, by decide +kernel⟩, List.mem_of_getElem? (i := 935) (by decide +kernel), List.mem_of_getElem? (i := 1179) (by decide +kernel), List.mem_of_getElem? (i := 1180) (by decide +kernel)⟩
def lw_privs_3 : List (MethodName × Nat) := [(⟨"ScaffoldYardModel", "isAnyoneOn", "(I)Z"⟩, 30), (⟨"ScaffoldYardModel", "emptyBay", "(II)V"⟩, 30), (⟨"ScaffoldYardModel", "isMissing", "(I)Z"⟩, 30), (⟨"ScaffoldYardModel", "emptyTies", "(II)V"⟩, 30), (⟨"ScaffoldYardModel", "loseTies", "(I)V"⟩, 30), (⟨"ScaffoldYardModel", "hasFoot", "(II)Z"⟩, 30), (⟨"ScaffoldYardModel", "isGate", "(II)Z"⟩, 30), (⟨"ScaffoldYardModel", "kind", "(II)I"⟩, 30), (⟨"ScaffoldYardModel", "width", "(II)I"⟩, 30), (⟨"ScaffoldYardModel", "isLift", "(II)Z"⟩, 30), (⟨"ScaffoldYardModel", "keep", "()V"⟩, 30), (⟨"ScaffoldYardModel", "hasFloor", "(II)Z"⟩, 30), (⟨"ScaffoldYardModel", "boardAt", "(III)I"⟩, 30), (⟨"ScaffoldYardModel", "isBay", "(II)Z"⟩, 30), (⟨"ScaffoldYardModel", "hasBrace", "(III)Z"⟩, 30), (⟨"ScaffoldYardModel", "isStandard", "(II)Z"⟩, 30)]
theorem lw_r3 : ∀ q ∈ lw_privs_3, lw_okq q := List.forall_mem_cons.mpr ⟨lw_p32, List.forall_mem_cons.mpr ⟨lw_p33, List.forall_mem_cons.mpr ⟨lw_p34, List.forall_mem_cons.mpr ⟨lw_p35, List.forall_mem_cons.mpr ⟨lw_p36, List.forall_mem_cons.mpr ⟨lw_p37, List.forall_mem_cons.mpr ⟨lw_p38, List.forall_mem_cons.mpr ⟨lw_p39, List.forall_mem_cons.mpr ⟨lw_p40, List.forall_mem_cons.mpr ⟨lw_p41, List.forall_mem_cons.mpr ⟨lw_p42, List.forall_mem_cons.mpr ⟨lw_p43, List.forall_mem_cons.mpr ⟨lw_p44, List.forall_mem_cons.mpr ⟨lw_p45, List.forall_mem_cons.mpr ⟨lw_p46, List.forall_mem_cons.mpr ⟨lw_p47, fun _ h => absurd h List.not_mem_nil⟩⟩⟩⟩⟩⟩⟩⟩⟩⟩⟩⟩⟩⟩⟩⟩
theorem lw_p48 : lw_okq (⟨"ScaffoldYardModel", "hasTie", "(III)Z"⟩, 30) := ⟨⟨by decide +kernel, by decide +kernel⟩, List.mem_of_getElem? (i := 935) (by decide +kernel), List.mem_of_getElem? (i := 1183) (by decide +kernel), List.mem_of_getElem? (i := 1184) (by decide +kernel)⟩
theorem lw_p49 : lw_okq (⟨"ScaffoldYardModel", "isPiece", "(II)Z"⟩, 30) := ⟨⟨by decide +kernel, by decide +kernel⟩, List.mem_of_getElem? (i := 935) (by decide +kernel), List.mem_of_getElem? (i := 1195) (by decide +kernel), List.mem_of_getElem? (i := 1196) (by decide +kernel)⟩
theorem lw_p50 : lw_okq (⟨"ScaffoldYardModel", "widthTo", "(III)I"⟩, 30) := ⟨⟨by decide +kernel, by decide +kernel⟩, List.mem_of_getElem? (i := 935) (by decide +kernel), List.mem_of_getElem? (i := 1203) (by decide +kernel), List.mem_of_getElem? (i := 1204) (by decide +kernel)⟩
theorem lw_p51 : lw_okq (⟨"ScaffoldYardModel", "manyOf", "(IIII)I"⟩, 30) := ⟨⟨by decide +kernel, by decide +kernel⟩, List.mem_of_getElem? (i := 935) (by decide +kernel), List.mem_of_getElem? (i := 1207) (by decide +kernel), List.mem_of_getElem? (i := 1208) (by decide +kernel)⟩
theorem lw_p52 : lw_okq (⟨"ScaffoldYardModel", "askedStandard", "(II)I"⟩, 30) := ⟨⟨by decide +kernel, by decide +kernel⟩, List.mem_of_getElem? (i := 935) (by decide +kernel), List.mem_of_getElem? (i := 1227) (by decide +kernel), List.mem_of_getElem? (i := 1228) (by decide +kernel)⟩
theorem lw_p53 : lw_okq (⟨"ScaffoldYardModel", "asked", "(I)I"⟩, 30) := ⟨⟨by decide +kernel, by decide +kernel⟩, List.mem_of_getElem? (i := 935) (by decide +kernel), List.mem_of_getElem? (i := 1231) (by decide +kernel), List.mem_of_getElem? (i := 1232) (by decide +kernel)⟩
theorem lw_p54 : lw_okq (⟨"ScaffoldYardModel", "twiceLoad", "(II)I"⟩, 30) := ⟨⟨by decide +kernel, by decide +kernel⟩, List.mem_of_getElem? (i := 935) (by decide +kernel), List.mem_of_getElem? (i := 1235) (by decide +kernel), List.mem_of_getElem? (i := 1236) (by decide +kernel)⟩
theorem lw_p55 : lw_okq (⟨"ScaffoldYardModel", "weightOf", "(III)I"⟩, 30) := ⟨⟨by decide +kernel, by decide +kernel⟩, List.mem_of_getElem? (i := 935) (by decide +kernel), List.mem_of_getElem? (i := 1239) (by decide +kernel), List.mem_of_getElem? (i := 1240) (by decide +kernel)⟩
theorem lw_p56 : lw_okq (⟨"ScaffoldYardModel", "findFoot", "(II)V"⟩, 30) := ⟨⟨by decide +kernel, by decide +kernel⟩, List.mem_of_getElem? (i := 935) (by decide +kernel), List.mem_of_getElem? (i := 1249) (by decide +kernel), List.mem_of_getElem? (i := 1250) (by decide +kernel)⟩
theorem lw_p57 : lw_okq (⟨"ScaffoldYardModel", "add", "(JJ)V"⟩, 30) := ⟨⟨by decide +kernel, by decide +kernel⟩, List.mem_of_getElem? (i := 935) (by decide +kernel), List.mem_of_getElem? (i := 1254) (by decide +kernel), List.mem_of_getElem? (i := 1255) (by decide +kernel)⟩
theorem lw_p58 : lw_okq (⟨"ScaffoldYardModel", "leftFoot", "(II)I"⟩, 30) := ⟨⟨by decide +kernel, by decide +kernel⟩, List.mem_of_getElem? (i := 935) (by decide +kernel), List.mem_of_getElem? (i := 1261) (by decide +kernel), List.mem_of_getElem? (i := 1262) (by decide +kernel)⟩
theorem lw_p59 : lw_okq (⟨"ScaffoldYardModel", "rightFoot", "(II)I"⟩, 30) := ⟨⟨by decide +kernel, by decide +kernel⟩, List.mem_of_getElem? (i := 935) (by decide +kernel), List.mem_of_getElem? (i := 1265) (by decide +kernel), List.mem_of_getElem? (i := 1266) (by decide +kernel)⟩
theorem lw_p60 : lw_okq (⟨"ScaffoldYardModel", "windTo", "(II)I"⟩, 30) := ⟨⟨by decide +kernel, by decide +kernel⟩, List.mem_of_getElem? (i := 935) (by decide +kernel), List.mem_of_getElem? (i := 1273) (by decide +kernel), List.mem_of_getElem? (i := 1274) (by decide +kernel)⟩
theorem lw_p61 : lw_okq (⟨"ScaffoldYardModel", "tieFor", "(III)I"⟩, 30) := ⟨⟨by decide +kernel, by decide +kernel⟩, List.mem_of_getElem? (i := 935) (by decide +kernel), List.mem_of_getElem? (i := 1277) (by decide +kernel), List.mem_of_getElem? (i := 1278) (by decide +kernel)⟩
theorem lw_p62 : lw_okq (⟨"ScaffoldYardModel", "freeOf", "(II)I"⟩, 30) := ⟨⟨by decide +kernel, by decide +kernel⟩, List.mem_of_getElem? (i := 935) (by decide +kernel), List.mem_of_getElem? (i := 1292) (by decide +kernel), List.mem_of_getElem? (i := 1293) (by decide +kernel)⟩
theorem lw_p63 : lw_okq (⟨"ScaffoldYardModel", "standardsOver", "(I)I"⟩, 30) := ⟨⟨by decide +kernel, by decide +kernel⟩, List.mem_of_getElem? (i := 935) (by decide +kernel), List.mem_of_getElem? (i := 1300) (by decide +kernel), List.mem_of_getElem? (i := 1301) (by decide +kernel)⟩
def lw_privs_4 : List (MethodName × Nat) := [(⟨"ScaffoldYardModel", "hasTie", "(III)Z"⟩, 30), (⟨"ScaffoldYardModel", "isPiece", "(II)Z"⟩, 30), (⟨"ScaffoldYardModel", "widthTo", "(III)I"⟩, 30), (⟨"ScaffoldYardModel", "manyOf", "(IIII)I"⟩, 30), (⟨"ScaffoldYardModel", "askedStandard", "(II)I"⟩, 30), (⟨"ScaffoldYardModel", "asked", "(I)I"⟩, 30), (⟨"ScaffoldYardModel", "twiceLoad", "(II)I"⟩, 30), (⟨"ScaffoldYardModel", "weightOf", "(III)I"⟩, 30), (⟨"ScaffoldYardModel", "findFoot", "(II)V"⟩, 30), (⟨"ScaffoldYardModel", "add", "(JJ)V"⟩, 30), (⟨"ScaffoldYardModel", "leftFoot", "(II)I"⟩, 30), (⟨"ScaffoldYardModel", "rightFoot", "(II)I"⟩, 30), (⟨"ScaffoldYardModel", "windTo", "(II)I"⟩, 30), (⟨"ScaffoldYardModel", "tieFor", "(III)I"⟩, 30), (⟨"ScaffoldYardModel", "freeOf", "(II)I"⟩, 30), (⟨"ScaffoldYardModel", "standardsOver", "(I)I"⟩, 30)]
theorem lw_r4 : ∀ q ∈ lw_privs_4, lw_okq q := List.forall_mem_cons.mpr ⟨lw_p48, List.forall_mem_cons.mpr ⟨lw_p49, List.forall_mem_cons.mpr ⟨lw_p50, List.forall_mem_cons.mpr ⟨lw_p51, List.forall_mem_cons.mpr ⟨lw_p52, List.forall_mem_cons.mpr ⟨lw_p53, List.forall_mem_cons.mpr ⟨lw_p54, List.forall_mem_cons.mpr ⟨lw_p55, List.forall_mem_cons.mpr ⟨lw_p56, List.forall_mem_cons.mpr ⟨lw_p57, List.forall_mem_cons.mpr ⟨lw_p58, List.forall_mem_cons.mpr ⟨lw_p59, List.forall_mem_cons.mpr ⟨lw_p60, List.forall_mem_cons.mpr ⟨lw_p61, List.forall_mem_cons.mpr ⟨lw_p62, List.forall_mem_cons.mpr ⟨lw_p63, fun _ h => absurd h List.not_mem_nil⟩⟩⟩⟩⟩⟩⟩⟩⟩⟩⟩⟩⟩⟩⟩⟩
theorem lw_p64 : lw_okq (⟨"ScaffoldYardModel", "isOver", "(II)Z"⟩, 30) := ⟨⟨by decide +kernel, by decide +kernel⟩, List.mem_of_getElem? (i := 935) (by decide +kernel), List.mem_of_getElem? (i := 1304) (by decide +kernel), List.mem_of_getElem? (i := 1305) (by decide +kernel)⟩
theorem lw_p65 : lw_okq (⟨"ScaffoldYardModel", "findBreaches", "(II)I"⟩, 30) := ⟨⟨by decide +kernel, by decide +kernel⟩, List.mem_of_getElem? (i := 935) (by decide +kernel), List.mem_of_getElem? (i := 1316) (by decide +kernel), List.mem_of_getElem? (i := 1317) (by decide +kernel)⟩
theorem lw_p66 : lw_okq (⟨"ScaffoldYardModel", "isTied", "(IIIII)Z"⟩, 30) := ⟨⟨by decide +kernel, by decide +kernel⟩, List.mem_of_getElem? (i := 935) (by decide +kernel), List.mem_of_getElem? (i := 1323) (by decide +kernel), List.mem_of_getElem? (i := 1324) (by decide +kernel)⟩
theorem lw_p67 : lw_okq (⟨"ScaffoldYardModel", "note", "(III)V"⟩, 30) := ⟨⟨by decide +kernel, by decide +kernel⟩, List.mem_of_getElem? (i := 935) (by decide +kernel), List.mem_of_getElem? (i := 1327) (by decide +kernel), List.mem_of_getElem? (i := 1328) (by decide +kernel)⟩
theorem lw_p68 : lw_okq (⟨"ScaffoldYardModel", "isBraced", "(IIII)Z"⟩, 30) := ⟨⟨by decide +kernel, by decide +kernel⟩, List.mem_of_getElem? (i := 935) (by decide +kernel), List.mem_of_getElem? (i := 1331) (by decide +kernel), List.mem_of_getElem? (i := 1332) (by decide +kernel)⟩
theorem lw_p69 : lw_okq (⟨"ScaffoldYardModel", "act", "(IIZ)I"⟩, 30) := ⟨⟨by decide +kernel, by decide +kernel⟩, List.mem_of_getElem? (i := 935) (by decide +kernel), List.mem_of_getElem? (i := 1343) (by decide +kernel), List.mem_of_getElem? (i := 1344) (by decide +kernel)⟩
theorem lw_p70 : lw_okq (⟨"ScaffoldYardModel", "mayPut", "(II)Z"⟩, 30) := ⟨⟨by decide +kernel, by decide +kernel⟩, List.mem_of_getElem? (i := 935) (by decide +kernel), List.mem_of_getElem? (i := 1347) (by decide +kernel), List.mem_of_getElem? (i := 1348) (by decide +kernel)⟩
theorem lw_p71 : lw_okq (⟨"ScaffoldYardModel", "isUpNow", "(II)Z"⟩, 30) := ⟨⟨by decide +kernel, by decide +kernel⟩, List.mem_of_getElem? (i := 935) (by decide +kernel), List.mem_of_getElem? (i := 1351) (by decide +kernel), List.mem_of_getElem? (i := 1352) (by decide +kernel)⟩
theorem lw_p72 : lw_okq (⟨"ScaffoldYardModel", "needs", "(III)Z"⟩, 30) := ⟨⟨by decide +kernel, by decide +kernel⟩, List.mem_of_getElem? (i := 935) (by decide +kernel), List.mem_of_getElem? (i := 1355) (by decide +kernel), List.mem_of_getElem? (i := 1356) (by decide +kernel)⟩
theorem lw_p73 : lw_okq (⟨"ScaffoldYardModel", "isTubeBelow", "(IIII)Z"⟩, 30) := ⟨⟨by decide +kernel, by decide +kernel⟩, List.mem_of_getElem? (i := 935) (by decide +kernel), List.mem_of_getElem? (i := 1359) (by decide +kernel), List.mem_of_getElem? (i := 1360) (by decide +kernel)⟩
theorem lw_p74 : lw_okq (⟨"ScaffoldYardModel", "isFootOf", "(III)Z"⟩, 30) := ⟨⟨by decide +kernel, by decide +kernel⟩, List.mem_of_getElem? (i := 935) (by decide +kernel), List.mem_of_getElem? (i := 1366) (by decide +kernel), List.mem_of_getElem? (i := 1367) (by decide +kernel)⟩
theorem lw_p75 : lw_okq (⟨"ScaffoldYardModel", "mayTake", "(II)Z"⟩, 30) := ⟨⟨by decide +kernel, by decide +kernel⟩, List.mem_of_getElem? (i := 935) (by decide +kernel), List.mem_of_getElem? (i := 1370) (by decide +kernel), List.mem_of_getElem? (i := 1371) (by decide +kernel)⟩
theorem lw_p76 : lw_okq (⟨"ScaffoldYardModel", "set", "(IIZ)V"⟩, 30) := ⟨⟨by decide +kernel, by decide +kernel⟩, List.mem_of_getElem? (i := 935) (by decide +kernel), List.mem_of_getElem? (i := 1374) (by decide +kernel), List.mem_of_getElem? (i := 1375) (by decide +kernel)⟩
theorem lw_p77 : lw_okq (⟨"ScaffoldYardModel", "leastPut", "(I)I"⟩, 30) := ⟨⟨by decide +kernel, by decide +kernel⟩, List.mem_of_getElem? (i := 935) (by decide +kernel), List.mem_of_getElem? (i := 1386) (by decide +kernel), List.mem_of_getElem? (i := 1387) (by decide +kernel)⟩
theorem lw_p78 : lw_okq (⟨"ScaffoldYardModel", "greatestTaken", "(I)I"⟩, 30) := ⟨⟨by decide +kernel, by decide +kernel⟩, List.mem_of_getElem? (i := 935) (by decide +kernel), List.mem_of_getElem? (i := 1390) (by decide +kernel), List.mem_of_getElem? (i := 1391) (by decide +kernel)⟩
theorem lw_p79 : lw_okq (⟨"ScaffoldYardModel", "leastDown", "(I)I"⟩, 30) := ⟨⟨by decide +kernel, by decide +kernel⟩, List.mem_of_getElem? (i := 935) (by decide +kernel), List.mem_of_getElem? (i := 1394) (by decide +kernel), List.mem_of_getElem? (i := 1395) (by decide +kernel)⟩
def lw_privs_5 : List (MethodName × Nat) := [(⟨"ScaffoldYardModel", "isOver", "(II)Z"⟩, 30), (⟨"ScaffoldYardModel", "findBreaches", "(II)I"⟩, 30), (⟨"ScaffoldYardModel", "isTied", "(IIIII)Z"⟩, 30), (⟨"ScaffoldYardModel", "note", "(III)V"⟩, 30), (⟨"ScaffoldYardModel", "isBraced", "(IIII)Z"⟩, 30), (⟨"ScaffoldYardModel", "act", "(IIZ)I"⟩, 30), (⟨"ScaffoldYardModel", "mayPut", "(II)Z"⟩, 30), (⟨"ScaffoldYardModel", "isUpNow", "(II)Z"⟩, 30), (⟨"ScaffoldYardModel", "needs", "(III)Z"⟩, 30), (⟨"ScaffoldYardModel", "isTubeBelow", "(IIII)Z"⟩, 30), (⟨"ScaffoldYardModel", "isFootOf", "(III)Z"⟩, 30), (⟨"ScaffoldYardModel", "mayTake", "(II)Z"⟩, 30), (⟨"ScaffoldYardModel", "set", "(IIZ)V"⟩, 30), (⟨"ScaffoldYardModel", "leastPut", "(I)I"⟩, 30), (⟨"ScaffoldYardModel", "greatestTaken", "(I)I"⟩, 30), (⟨"ScaffoldYardModel", "leastDown", "(I)I"⟩, 30)]
theorem lw_r5 : ∀ q ∈ lw_privs_5, lw_okq q := List.forall_mem_cons.mpr ⟨lw_p64, List.forall_mem_cons.mpr ⟨lw_p65, List.forall_mem_cons.mpr ⟨lw_p66, List.forall_mem_cons.mpr ⟨lw_p67, List.forall_mem_cons.mpr ⟨lw_p68, List.forall_mem_cons.mpr ⟨lw_p69, List.forall_mem_cons.mpr ⟨lw_p70, List.forall_mem_cons.mpr ⟨lw_p71, List.forall_mem_cons.mpr ⟨lw_p72, List.forall_mem_cons.mpr ⟨lw_p73, List.forall_mem_cons.mpr ⟨lw_p74, List.forall_mem_cons.mpr ⟨lw_p75, List.forall_mem_cons.mpr ⟨lw_p76, List.forall_mem_cons.mpr ⟨lw_p77, List.forall_mem_cons.mpr ⟨lw_p78, List.forall_mem_cons.mpr ⟨lw_p79, fun _ h => absurd h List.not_mem_nil⟩⟩⟩⟩⟩⟩⟩⟩⟩⟩⟩⟩⟩⟩⟩⟩
theorem lw_p80 : lw_okq (⟨"ScaffoldYardModel", "tagsNow", "()I"⟩, 30) := ⟨⟨by decide +kernel, by decide +kernel⟩, List.mem_of_getElem? (i := 935) (by decide +kernel), List.mem_of_getElem? (i := 1414) (by decide +kernel), List.mem_of_getElem? (i := 1415) (by decide +kernel)⟩
theorem lw_p81 : lw_okq (⟨"ScaffoldYardModel", "tagOf", "(II)I"⟩, 30) := ⟨⟨by decide +kernel, by decide +kernel⟩, List.mem_of_getElem? (i := 935) (by decide +kernel), List.mem_of_getElem? (i := 1418) (by decide +kernel), List.mem_of_getElem? (i := 1419) (by decide +kernel)⟩
theorem lw_p82 : lw_okq (⟨"ScaffoldYardModel", "askedLift", "(II)I"⟩, 30) := ⟨⟨by decide +kernel, by decide +kernel⟩, List.mem_of_getElem? (i := 935) (by decide +kernel), List.mem_of_getElem? (i := 1426) (by decide +kernel), List.mem_of_getElem? (i := 1427) (by decide +kernel)⟩
theorem lw_p83 : lw_okq (⟨"ScaffoldYardModel", "mayTag", "(II)Z"⟩, 30) := ⟨⟨by decide +kernel, by decide +kernel⟩, List.mem_of_getElem? (i := 935) (by decide +kernel), List.mem_of_getElem? (i := 1430) (by decide +kernel), List.mem_of_getElem? (i := 1431) (by decide +kernel)⟩
theorem lw_p84 : lw_okq (⟨"ScaffoldYardModel", "manyOn", "(II)I"⟩, 30) := ⟨⟨by decide +kernel, by decide +kernel⟩, List.mem_of_getElem? (i := 935) (by decide +kernel), List.mem_of_getElem? (i := 1442) (by decide +kernel), List.mem_of_getElem? (i := 1443) (by decide +kernel)⟩
theorem lw_p85 : lw_okq (⟨"ScaffoldYardModel", "wantsOf", "(III)I"⟩, 30) := ⟨⟨by decide +kernel, by decide +kernel⟩, List.mem_of_getElem? (i := 935) (by decide +kernel), List.mem_of_getElem? (i := 1465) (by decide +kernel), List.mem_of_getElem? (i := 1466) (by decide +kernel)⟩
theorem lw_p86 : lw_okq (⟨"ScaffoldYardModel", "findStay", "(II)V"⟩, 30) := ⟨⟨by decide +kernel, by decide +kernel⟩, List.mem_of_getElem? (i := 935) (by decide +kernel), List.mem_of_getElem? (i := 1477) (by decide +kernel), List.mem_of_getElem? (i := 1478) (by decide +kernel)⟩
theorem lw_p87 : lw_okq (⟨"ScaffoldYardModel", "isLike", "(IIII)Z"⟩, 30) := ⟨⟨by decide +kernel, by decide +kernel⟩, List.mem_of_getElem? (i := 935) (by decide +kernel), List.mem_of_getElem? (i := 1481) (by decide +kernel), List.mem_of_getElem? (i := 1482) (by decide +kernel)⟩
def lw_privs_6 : List (MethodName × Nat) := [(⟨"ScaffoldYardModel", "tagsNow", "()I"⟩, 30), (⟨"ScaffoldYardModel", "tagOf", "(II)I"⟩, 30), (⟨"ScaffoldYardModel", "askedLift", "(II)I"⟩, 30), (⟨"ScaffoldYardModel", "mayTag", "(II)Z"⟩, 30), (⟨"ScaffoldYardModel", "manyOn", "(II)I"⟩, 30), (⟨"ScaffoldYardModel", "wantsOf", "(III)I"⟩, 30), (⟨"ScaffoldYardModel", "findStay", "(II)V"⟩, 30), (⟨"ScaffoldYardModel", "isLike", "(IIII)Z"⟩, 30)]
theorem lw_r6 : ∀ q ∈ lw_privs_6, lw_okq q := List.forall_mem_cons.mpr ⟨lw_p80, List.forall_mem_cons.mpr ⟨lw_p81, List.forall_mem_cons.mpr ⟨lw_p82, List.forall_mem_cons.mpr ⟨lw_p83, List.forall_mem_cons.mpr ⟨lw_p84, List.forall_mem_cons.mpr ⟨lw_p85, List.forall_mem_cons.mpr ⟨lw_p86, List.forall_mem_cons.mpr ⟨lw_p87, fun _ h => absurd h List.not_mem_nil⟩⟩⟩⟩⟩⟩⟩⟩
def lw_privs : List (MethodName × Nat) := lw_privs_1 ++ (lw_privs_2 ++ (lw_privs_3 ++ (lw_privs_4 ++ (lw_privs_5 ++ (lw_privs_6)))))
def lw_tbl : List Cond := k2_sels lw_privs ++ tables_1
theorem lw_privs_ok : ∀ q ∈ lw_privs, lw_okq q := by
  show ∀ q ∈ lw_privs_1 ++ (lw_privs_2 ++ (lw_privs_3 ++ (lw_privs_4 ++ (lw_privs_5 ++ (lw_privs_6))))), lw_okq q
  exact List.forall_mem_append.mpr ⟨lw_r1, List.forall_mem_append.mpr ⟨lw_r2, List.forall_mem_append.mpr ⟨lw_r3, List.forall_mem_append.mpr ⟨lw_r4, List.forall_mem_append.mpr ⟨lw_r5, lw_r6⟩⟩⟩⟩⟩

def RX0 : String := "ScaffoldYard$Change"
def TX0 : u_T := fun k => match k with
  | 0 => ("ScaffoldYard$Change", "kind", "I", false)
  | 1 => ("ScaffoldYard$Change", "frame", "LScaffoldYard$Frame;", false)
  | 2 => ("ScaffoldYard$Change", "lift", "I", false)
  | 3 => ("ScaffoldYard$Change", "place", "I", false)
  | 4 => ("ScaffoldYard$Change", "old", "I", false)
  | _ => ("ScaffoldYard$Change", "row", "[I", true)
def tyX0 : Nat → FieldType := fun k => match k with
  | 0 => .int
  | 1 => .object "ScaffoldYard$Frame"
  | 2 => .int
  | 3 => .int
  | 4 => .int
  | _ => .array .int
abbrev wsX00 : List Cond := u_ws RX0 TX0 6
theorem nmX0 : ∀ a, a < 6 → ∀ b, b < 6 → a ≠ b → (TX0 a).2.1 ≠ (TX0 b).2.1 := by decide +kernel
theorem tyX0_ok : ∀ k, k < 6 → parseFieldDescriptor (TX0 k).2.2.1 = some (tyX0 k) := by decide +kernel
abbrev cX0_init : ByteArray := prog_2_method_1_code
def yX0_init : MethodName := ⟨RX0, "<init>", "()V"⟩
abbrev cX0_remember : ByteArray := prog_2_method_2_code
def yX0_remember : MethodName := ⟨RX0, "remember", "(ILScaffoldYard$Frame;III)V"⟩
abbrev cX0_bearsPiece : ByteArray := prog_2_method_3_code
def yX0_bearsPiece : MethodName := ⟨RX0, "bearsPiece", "()Z"⟩
abbrev cX0_revert : ByteArray := prog_2_method_4_code
def yX0_revert : MethodName := ⟨RX0, "revert", "()V"⟩
abbrev cX0_revertRow : ByteArray := prog_2_method_5_code
def yX0_revertRow : MethodName := ⟨RX0, "revertRow", "()V"⟩
def RX1 : String := "ScaffoldYard$Frame"
def TX1 : u_T := fun k => match k with
  | 0 => ("ScaffoldYard$Frame", "there", "Z", false)
  | 1 => ("ScaffoldYard$Frame", "bays", "I", false)
  | 2 => ("ScaffoldYard$Frame", "lifts", "I", false)
  | 3 => ("ScaffoldYard$Frame", "height", "I", false)
  | 4 => ("ScaffoldYard$Frame", "pressure", "I", false)
  | 5 => ("ScaffoldYard$Frame", "ups", "I", false)
  | 6 => ("ScaffoldYard$Frame", "kinds", "[I", true)
  | 7 => ("ScaffoldYard$Frame", "widths", "[I", true)
  | 8 => ("ScaffoldYard$Frame", "lowest", "[I", true)
  | 9 => ("ScaffoldYard$Frame", "floors", "[Z", true)
  | 10 => ("ScaffoldYard$Frame", "classes", "[I", true)
  | 11 => ("ScaffoldYard$Frame", "braces", "[Z", true)
  | 12 => ("ScaffoldYard$Frame", "ties", "[Z", true)
  | 13 => ("ScaffoldYard$Frame", "hangers", "[I", true)
  | _ => ("ScaffoldYard$Frame", "tags", "[I", true)
def tyX1 : Nat → FieldType := fun k => match k with
  | 0 => .boolean
  | 1 => .int
  | 2 => .int
  | 3 => .int
  | 4 => .int
  | 5 => .int
  | 6 => .array .int
  | 7 => .array .int
  | 8 => .array .int
  | 9 => .array .boolean
  | 10 => .array .int
  | 11 => .array .boolean
  | 12 => .array .boolean
  | 13 => .array .int
  | _ => .array .int
abbrev wsX10 : List Cond := u_ws RX1 TX1 15
theorem nmX1 : ∀ a, a < 15 → ∀ b, b < 15 → a ≠ b → (TX1 a).2.1 ≠ (TX1 b).2.1 := by decide +kernel
theorem tyX1_ok : ∀ k, k < 15 → parseFieldDescriptor (TX1 k).2.2.1 = some (tyX1 k) := by decide +kernel
abbrev cX1_init : ByteArray := prog_3_method_1_code
def yX1_init : MethodName := ⟨RX1, "<init>", "()V"⟩
abbrev cX1_begin : ByteArray := prog_3_method_2_code
def yX1_begin : MethodName := ⟨RX1, "begin", "(II)V"⟩
abbrev cX1_clear : ByteArray := prog_3_method_3_code
def yX1_clear : MethodName := ⟨RX1, "clear", "([Z)V"⟩
abbrev cX1_addBay : ByteArray := prog_3_method_4_code
def yX1_addBay : MethodName := ⟨RX1, "addBay", "(II)V"⟩
abbrev cX1_dropBay : ByteArray := prog_3_method_5_code
def yX1_dropBay : MethodName := ⟨RX1, "dropBay", "()V"⟩
abbrev cX1_hasBay : ByteArray := prog_3_method_6_code
def yX1_hasBay : MethodName := ⟨RX1, "hasBay", "(I)Z"⟩
abbrev cX1_hasStandard : ByteArray := prog_3_method_7_code
def yX1_hasStandard : MethodName := ⟨RX1, "hasStandard", "(I)Z"⟩
abbrev cX1_hasLift : ByteArray := prog_3_method_8_code
def yX1_hasLift : MethodName := ⟨RX1, "hasLift", "(I)Z"⟩
abbrev cX1_kindOf : ByteArray := prog_3_method_9_code
def yX1_kindOf : MethodName := ⟨RX1, "kindOf", "(I)I"⟩
abbrev cX1_widthOf : ByteArray := prog_3_method_10_code
def yX1_widthOf : MethodName := ⟨RX1, "widthOf", "(I)I"⟩
abbrev cX1_isOfKind : ByteArray := prog_3_method_11_code
def yX1_isOfKind : MethodName := ⟨RX1, "isOfKind", "(II)Z"⟩
abbrev cX1_isGate : ByteArray := prog_3_method_12_code
def yX1_isGate : MethodName := ⟨RX1, "isGate", "(I)Z"⟩
abbrev cX1_isOpening : ByteArray := prog_3_method_13_code
def yX1_isOpening : MethodName := ⟨RX1, "isOpening", "(II)Z"⟩
abbrev cX1_hasFoot : ByteArray := prog_3_method_14_code
def yX1_hasFoot : MethodName := ⟨RX1, "hasFoot", "(I)Z"⟩
abbrev cX1_lowestLift : ByteArray := prog_3_method_15_code
def yX1_lowestLift : MethodName := ⟨RX1, "lowestLift", "(I)I"⟩
abbrev cX1_footFrom : ByteArray := prog_3_method_16_code
def yX1_footFrom : MethodName := ⟨RX1, "footFrom", "(II)I"⟩
abbrev cX1_span : ByteArray := prog_3_method_17_code
def yX1_span : MethodName := ⟨RX1, "span", "(II)I"⟩
abbrev cX1_hasRow : ByteArray := prog_3_method_18_code
def yX1_hasRow : MethodName := ⟨RX1, "hasRow", "(I)Z"⟩
abbrev cX1_setRow : ByteArray := prog_3_method_19_code
def yX1_setRow : MethodName := ⟨RX1, "setRow", "(IZ)V"⟩
abbrev cX1_clearRow : ByteArray := prog_3_method_20_code
def yX1_clearRow : MethodName := ⟨RX1, "clearRow", "(I)V"⟩
abbrev cX1_classOf : ByteArray := prog_3_method_21_code
def yX1_classOf : MethodName := ⟨RX1, "classOf", "(II)I"⟩
abbrev cX1_setClass : ByteArray := prog_3_method_22_code
def yX1_setClass : MethodName := ⟨RX1, "setClass", "(III)V"⟩
abbrev cX1_hasBrace : ByteArray := prog_3_method_23_code
def yX1_hasBrace : MethodName := ⟨RX1, "hasBrace", "(II)Z"⟩
abbrev cX1_setBrace : ByteArray := prog_3_method_24_code
def yX1_setBrace : MethodName := ⟨RX1, "setBrace", "(IIZ)V"⟩
abbrev cX1_hasTie : ByteArray := prog_3_method_25_code
def yX1_hasTie : MethodName := ⟨RX1, "hasTie", "(II)Z"⟩
abbrev cX1_setTie : ByteArray := prog_3_method_26_code
def yX1_setTie : MethodName := ⟨RX1, "setTie", "(IIZ)V"⟩
abbrev cX1_boardsOn : ByteArray := prog_3_method_27_code
def yX1_boardsOn : MethodName := ⟨RX1, "boardsOn", "(I)I"⟩
abbrev cX1_boardsStandOn : ByteArray := prog_3_method_28_code
def yX1_boardsStandOn : MethodName := ⟨RX1, "boardsStandOn", "(I)Z"⟩
abbrev cX1_boardsWeight : ByteArray := prog_3_method_29_code
def yX1_boardsWeight : MethodName := ⟨RX1, "boardsWeight", "(II)I"⟩
abbrev cX1_twiceLoad : ByteArray := prog_3_method_30_code
def yX1_twiceLoad : MethodName := ⟨RX1, "twiceLoad", "(I)I"⟩
abbrev cX1_freeLifts : ByteArray := prog_3_method_31_code
def yX1_freeLifts : MethodName := ⟨RX1, "freeLifts", "(I)I"⟩
abbrev cX1_hasPiece : ByteArray := prog_3_method_32_code
def yX1_hasPiece : MethodName := ⟨RX1, "hasPiece", "(I)Z"⟩
abbrev cX1_piecesOf : ByteArray := prog_3_method_33_code
def yX1_piecesOf : MethodName := ⟨RX1, "piecesOf", "(I)I"⟩
abbrev cX1_piecesOfSize : ByteArray := prog_3_method_34_code
def yX1_piecesOfSize : MethodName := ⟨RX1, "piecesOfSize", "(II)I"⟩
abbrev cX1_sizeOf : ByteArray := prog_3_method_35_code
def yX1_sizeOf : MethodName := ⟨RX1, "sizeOf", "(II)I"⟩
abbrev cX1_need : ByteArray := prog_3_method_36_code
def yX1_need : MethodName := ⟨RX1, "need", "(II)I"⟩
abbrev cX1_needOfTube : ByteArray := prog_3_method_37_code
def yX1_needOfTube : MethodName := ⟨RX1, "needOfTube", "(III)I"⟩
abbrev cX1_stands : ByteArray := prog_3_method_38_code
def yX1_stands : MethodName := ⟨RX1, "stands", "(I)Z"⟩
abbrev cX1_canRaise : ByteArray := prog_3_method_39_code
def yX1_canRaise : MethodName := ⟨RX1, "canRaise", "(I)Z"⟩
abbrev cX1_canLower : ByteArray := prog_3_method_40_code
def yX1_canLower : MethodName := ⟨RX1, "canLower", "(I)Z"⟩
abbrev cX1_raise : ByteArray := prog_3_method_41_code
def yX1_raise : MethodName := ⟨RX1, "raise", "(I)V"⟩
abbrev cX1_lower : ByteArray := prog_3_method_42_code
def yX1_lower : MethodName := ⟨RX1, "lower", "(I)V"⟩
abbrev cX1_hang : ByteArray := prog_3_method_43_code
def yX1_hang : MethodName := ⟨RX1, "hang", "(II)V"⟩
abbrev cX1_leastToRaise : ByteArray := prog_3_method_44_code
def yX1_leastToRaise : MethodName := ⟨RX1, "leastToRaise", "(I)I"⟩
abbrev cX1_greatestToLower : ByteArray := prog_3_method_45_code
def yX1_greatestToLower : MethodName := ⟨RX1, "greatestToLower", "(I)I"⟩
abbrev cX1_leastDown : ByteArray := prog_3_method_46_code
def yX1_leastDown : MethodName := ⟨RX1, "leastDown", "()I"⟩
abbrev cX1_raiseUpTo : ByteArray := prog_3_method_47_code
def yX1_raiseUpTo : MethodName := ⟨RX1, "raiseUpTo", "(I)I"⟩
abbrev cX1_lowerUpTo : ByteArray := prog_3_method_48_code
def yX1_lowerUpTo : MethodName := ⟨RX1, "lowerUpTo", "(I)I"⟩
abbrev cX1_standsUpTo : ByteArray := prog_3_method_49_code
def yX1_standsUpTo : MethodName := ⟨RX1, "standsUpTo", "(I)Z"⟩
abbrev cX1_hasTag : ByteArray := prog_3_method_50_code
def yX1_hasTag : MethodName := ⟨RX1, "hasTag", "(I)Z"⟩
abbrev cX1_tagOf : ByteArray := prog_3_method_51_code
def yX1_tagOf : MethodName := ⟨RX1, "tagOf", "(I)I"⟩
abbrev cX1_setTag : ByteArray := prog_3_method_52_code
def yX1_setTag : MethodName := ⟨RX1, "setTag", "(II)V"⟩
abbrev cX1_tagsHere : ByteArray := prog_3_method_53_code
def yX1_tagsHere : MethodName := ⟨RX1, "tagsHere", "()I"⟩
abbrev cX1_endTagsFrom : ByteArray := prog_3_method_54_code
def yX1_endTagsFrom : MethodName := ⟨RX1, "endTagsFrom", "(I)V"⟩
abbrev cX1_endTagsBefore : ByteArray := prog_3_method_55_code
def yX1_endTagsBefore : MethodName := ⟨RX1, "endTagsBefore", "(I)V"⟩
def RX2 : String := "ScaffoldYard$History"
def TX2 : u_T := fun k => match k with
  | 0 => ("ScaffoldYard$History", "size", "I", false)
  | 1 => ("ScaffoldYard$History", "newest", "I", false)
  | _ => ("ScaffoldYard$History", "kept", "[LScaffoldYard$Change;", true)
def tyX2 : Nat → FieldType := fun k => match k with
  | 0 => .int
  | 1 => .int
  | _ => .array (.object "ScaffoldYard$Change")
abbrev wsX20 : List Cond := u_ws RX2 TX2 3
theorem nmX2 : ∀ a, a < 3 → ∀ b, b < 3 → a ≠ b → (TX2 a).2.1 ≠ (TX2 b).2.1 := by decide +kernel
theorem tyX2_ok : ∀ k, k < 3 → parseFieldDescriptor (TX2 k).2.2.1 = some (tyX2 k) := by decide +kernel
abbrev cX2_init : ByteArray := prog_4_method_1_code
def yX2_init : MethodName := ⟨RX2, "<init>", "()V"⟩
abbrev cX2_note : ByteArray := prog_4_method_2_code
def yX2_note : MethodName := ⟨RX2, "note", "(ILScaffoldYard$Frame;III)V"⟩
abbrev cX2_forget : ByteArray := prog_4_method_3_code
def yX2_forget : MethodName := ⟨RX2, "forget", "()V"⟩
abbrev cX2_takeBack : ByteArray := prog_4_method_4_code
def yX2_takeBack : MethodName := ⟨RX2, "takeBack", "()Z"⟩
def RX3 : String := "ScaffoldYard$Loads"
def TX3 : u_T := fun k => match k with
  | 0 => ("ScaffoldYard$Loads", "above", "J", false)
  | 1 => ("ScaffoldYard$Loads", "below", "J", false)
  | 2 => ("ScaffoldYard$Loads", "windLost", "I", false)
  | 3 => ("ScaffoldYard$Loads", "windOn", "[I", true)
  | _ => ("ScaffoldYard$Loads", "twice", "[I", true)
def tyX3 : Nat → FieldType := fun k => match k with
  | 0 => .long
  | 1 => .long
  | 2 => .int
  | 3 => .array .int
  | _ => .array .int
abbrev wsX30 : List Cond := u_ws RX3 TX3 5
theorem nmX3 : ∀ a, a < 5 → ∀ b, b < 5 → a ≠ b → (TX3 a).2.1 ≠ (TX3 b).2.1 := by decide +kernel
theorem tyX3_ok : ∀ k, k < 5 → parseFieldDescriptor (TX3 k).2.2.1 = some (tyX3 k) := by decide +kernel
abbrev cX3_init : ByteArray := prog_5_method_1_code
def yX3_init : MethodName := ⟨RX3, "<init>", "()V"⟩
abbrev cX3_weigh : ByteArray := prog_5_method_2_code
def yX3_weigh : MethodName := ⟨RX3, "weigh", "(LScaffoldYard$Frame;)V"⟩
abbrev cX3_reckonFoot : ByteArray := prog_5_method_3_code
def yX3_reckonFoot : MethodName := ⟨RX3, "reckonFoot", "(LScaffoldYard$Frame;I)V"⟩
abbrev cX3_addFootless : ByteArray := prog_5_method_4_code
def yX3_addFootless : MethodName := ⟨RX3, "addFootless", "(LScaffoldYard$Frame;II)V"⟩
abbrev cX3_commonDivisor : ByteArray := prog_5_method_5_code
def yX3_commonDivisor : MethodName := ⟨RX3, "commonDivisor", "(JJ)J"⟩
abbrev cX3_standardsOver : ByteArray := prog_5_method_6_code
def yX3_standardsOver : MethodName := ⟨RX3, "standardsOver", "(LScaffoldYard$Frame;[I)I"⟩
abbrev cX3_isOver : ByteArray := prog_5_method_7_code
def yX3_isOver : MethodName := ⟨RX3, "isOver", "(LScaffoldYard$Frame;I[I)Z"⟩
abbrev cX3_tiesOver : ByteArray := prog_5_method_8_code
def yX3_tiesOver : MethodName := ⟨RX3, "tiesOver", "(LScaffoldYard$Frame;[I)I"⟩
abbrev cX3_reckonWind : ByteArray := prog_5_method_9_code
def yX3_reckonWind : MethodName := ⟨RX3, "reckonWind", "(LScaffoldYard$Frame;)V"⟩
abbrev cX3_blow : ByteArray := prog_5_method_10_code
def yX3_blow : MethodName := ⟨RX3, "blow", "(LScaffoldYard$Frame;II)V"⟩
abbrev cX3_nearestTie : ByteArray := prog_5_method_11_code
def yX3_nearestTie : MethodName := ⟨RX3, "nearestTie", "(LScaffoldYard$Frame;II)I"⟩
abbrev cX3_windAt : ByteArray := prog_5_method_12_code
def yX3_windAt : MethodName := ⟨RX3, "windAt", "(II)I"⟩
def RX4 : String := "ScaffoldYard$Moves"
def TX4 : u_T := fun k => match k with
  | 0 => ("ScaffoldYard$Moves", "many", "I", false)
  | 1 => ("ScaffoldYard$Moves", "staying", "[I", true)
  | _ => ("ScaffoldYard$Moves", "most", "[[I", true)
def tyX4 : Nat → FieldType := fun k => match k with
  | 0 => .int
  | 1 => .array .int
  | _ => .array (.array .int)
abbrev wsX40 : List Cond := u_ws RX4 TX4 3
theorem nmX4 : ∀ a, a < 3 → ∀ b, b < 3 → a ≠ b → (TX4 a).2.1 ≠ (TX4 b).2.1 := by decide +kernel
theorem tyX4_ok : ∀ k, k < 3 → parseFieldDescriptor (TX4 k).2.2.1 = some (tyX4 k) := by decide +kernel
abbrev cX4_init : ByteArray := prog_6_method_1_code
def yX4_init : MethodName := ⟨RX4, "<init>", "()V"⟩
abbrev cX4_reckon : ByteArray := prog_6_method_2_code
def yX4_reckon : MethodName := ⟨RX4, "reckon", "(LScaffoldYard$Frame;LScaffoldYard$Frame;)I"⟩
abbrev cX4_mostFrom : ByteArray := prog_6_method_3_code
def yX4_mostFrom : MethodName := ⟨RX4, "mostFrom", "(LScaffoldYard$Frame;LScaffoldYard$Frame;II)I"⟩
abbrev cX4_isLike : ByteArray := prog_6_method_4_code
def yX4_isLike : MethodName := ⟨RX4, "isLike", "(LScaffoldYard$Frame;ILScaffoldYard$Frame;I)Z"⟩
abbrev cX4_choose : ByteArray := prog_6_method_5_code
def yX4_choose : MethodName := ⟨RX4, "choose", "(LScaffoldYard$Frame;LScaffoldYard$Frame;)V"⟩
abbrev cX4_firstLike : ByteArray := prog_6_method_6_code
def yX4_firstLike : MethodName := ⟨RX4, "firstLike", "(LScaffoldYard$Frame;ILScaffoldYard$Frame;I)I"⟩
abbrev cX4_bayThatStays : ByteArray := prog_6_method_7_code
def yX4_bayThatStays : MethodName := ⟨RX4, "bayThatStays", "(I)I"⟩
def RX5 : String := "ScaffoldYard$Rows"
def TX5 : u_T := fun k => match k with
  | 0 => ("ScaffoldYard$Rows", "many", "I", false)
  | 1 => ("ScaffoldYard$Rows", "sum", "I", false)
  | _ => ("ScaffoldYard$Rows", "reach", "[I", true)
def tyX5 : Nat → FieldType := fun k => match k with
  | 0 => .int
  | 1 => .int
  | _ => .array .int
abbrev wsX50 : List Cond := u_ws RX5 TX5 3
theorem nmX5 : ∀ a, a < 3 → ∀ b, b < 3 → a ≠ b → (TX5 a).2.1 ≠ (TX5 b).2.1 := by decide +kernel
theorem tyX5_ok : ∀ k, k < 3 → parseFieldDescriptor (TX5 k).2.2.1 = some (tyX5 k) := by decide +kernel
abbrev cX5_init : ByteArray := prog_7_method_1_code
def yX5_init : MethodName := ⟨RX5, "<init>", "()V"⟩
abbrev cX5_findFit : ByteArray := prog_7_method_2_code
def yX5_findFit : MethodName := ⟨RX5, "findFit", "([III)Z"⟩
abbrev cX5_reckonFewest : ByteArray := prog_7_method_3_code
def yX5_reckonFewest : MethodName := ⟨RX5, "reckonFewest", "([II)V"⟩
abbrev cX5_fittedSize : ByteArray := prog_7_method_4_code
def yX5_fittedSize : MethodName := ⟨RX5, "fittedSize", "([II)I"⟩
abbrev cX5_findJoin : ByteArray := prog_7_method_5_code
def yX5_findJoin : MethodName := ⟨RX5, "findJoin", "([III)Z"⟩
abbrev cX5_reckonCounts : ByteArray := prog_7_method_6_code
def yX5_reckonCounts : MethodName := ⟨RX5, "reckonCounts", "([I)V"⟩
abbrev cX5_makes : ByteArray := prog_7_method_7_code
def yX5_makes : MethodName := ⟨RX5, "makes", "(II)Z"⟩
abbrev cX5_joinedSize : ByteArray := prog_7_method_8_code
def yX5_joinedSize : MethodName := ⟨RX5, "joinedSize", "([II)I"⟩
def RX6 : String := "ScaffoldYard$Rules"
def TX6 : u_T := fun k => match k with
  | 0 => ("ScaffoldYard$Rules", "standardsBetween", "I", false)
  | 1 => ("ScaffoldYard$Rules", "liftsTogether", "I", false)
  | 2 => ("ScaffoldYard$Rules", "baysTogether", "I", false)
  | 3 => ("ScaffoldYard$Rules", "found", "I", false)
  | _ => ("ScaffoldYard$Rules", "codes", "[I", true)
def tyX6 : Nat → FieldType := fun k => match k with
  | 0 => .int
  | 1 => .int
  | 2 => .int
  | 3 => .int
  | _ => .array .int
abbrev wsX60 : List Cond := u_ws RX6 TX6 5
theorem nmX6 : ∀ a, a < 5 → ∀ b, b < 5 → a ≠ b → (TX6 a).2.1 ≠ (TX6 b).2.1 := by decide +kernel
theorem tyX6_ok : ∀ k, k < 5 → parseFieldDescriptor (TX6 k).2.2.1 = some (tyX6 k) := by decide +kernel
abbrev cX6_init : ByteArray := prog_8_method_1_code
def yX6_init : MethodName := ⟨RX6, "<init>", "()V"⟩
abbrev cX6_change : ByteArray := prog_8_method_2_code
def yX6_change : MethodName := ⟨RX6, "change", "(II)I"⟩
abbrev cX6_reckon : ByteArray := prog_8_method_3_code
def yX6_reckon : MethodName := ⟨RX6, "reckon", "(LScaffoldYard$Frame;)I"⟩
abbrev cX6_listTies : ByteArray := prog_8_method_4_code
def yX6_listTies : MethodName := ⟨RX6, "listTies", "(LScaffoldYard$Frame;)V"⟩
abbrev cX6_isTied : ByteArray := prog_8_method_5_code
def yX6_isTied : MethodName := ⟨RX6, "isTied", "(LScaffoldYard$Frame;IIII)Z"⟩
abbrev cX6_listBraces : ByteArray := prog_8_method_6_code
def yX6_listBraces : MethodName := ⟨RX6, "listBraces", "(LScaffoldYard$Frame;)V"⟩
abbrev cX6_isBraced : ByteArray := prog_8_method_7_code
def yX6_isBraced : MethodName := ⟨RX6, "isBraced", "(LScaffoldYard$Frame;III)Z"⟩
abbrev cX6_list : ByteArray := prog_8_method_8_code
def yX6_list : MethodName := ⟨RX6, "list", "(III)V"⟩
abbrev cX6_partOf : ByteArray := prog_8_method_9_code
def yX6_partOf : MethodName := ⟨RX6, "partOf", "(II)I"⟩
abbrev cX6_brokenUpTo : ByteArray := prog_8_method_10_code
def yX6_brokenUpTo : MethodName := ⟨RX6, "brokenUpTo", "(LScaffoldYard$Frame;I)Z"⟩
def RX7 : String := "ScaffoldYard"
def TX7 : u_T := fun k => match k with
  | 0 => ("ScaffoldYard", "baySizes", "[I", true)
  | 1 => ("ScaffoldYard", "tubeSizes", "[I", true)
  | 2 => ("ScaffoldYard", "bears", "[I", true)
  | 3 => ("ScaffoldYard", "frames", "[LScaffoldYard$Frame;", true)
  | 4 => ("ScaffoldYard", "rows", "LScaffoldYard$Rows;", true)
  | 5 => ("ScaffoldYard", "loads", "LScaffoldYard$Loads;", true)
  | 6 => ("ScaffoldYard", "rules", "LScaffoldYard$Rules;", true)
  | 7 => ("ScaffoldYard", "history", "LScaffoldYard$History;", true)
  | 8 => ("ScaffoldYard", "moves", "LScaffoldYard$Moves;", true)
  | 9 => ("ScaffoldYard", "whereabouts", "[I", true)
  | 10 => ("ScaffoldYard", "stocks", "[I", true)
  | _ => ("ScaffoldYard", "today", "I", false)
def tyX7 : Nat → FieldType := fun k => match k with
  | 0 => .array .int
  | 1 => .array .int
  | 2 => .array .int
  | 3 => .array (.object "ScaffoldYard$Frame")
  | 4 => .object "ScaffoldYard$Rows"
  | 5 => .object "ScaffoldYard$Loads"
  | 6 => .object "ScaffoldYard$Rules"
  | 7 => .object "ScaffoldYard$History"
  | 8 => .object "ScaffoldYard$Moves"
  | 9 => .array .int
  | 10 => .array .int
  | _ => .int
abbrev wsX70 : List Cond := u_ws RX7 TX7 12
theorem nmX7 : ∀ a, a < 12 → ∀ b, b < 12 → a ≠ b → (TX7 a).2.1 ≠ (TX7 b).2.1 := by decide +kernel
theorem tyX7_ok : ∀ k, k < 12 → parseFieldDescriptor (TX7 k).2.2.1 = some (tyX7 k) := by decide +kernel
abbrev cX7_init : ByteArray := prog_1_method_1_code
def yX7_init : MethodName := ⟨RX7, "<init>", "()V"⟩
abbrev cX7_table : ByteArray := prog_1_method_2_code
def yX7_table : MethodName := ⟨RX7, "table", "(III)I"⟩
abbrev cX7_fit : ByteArray := prog_1_method_3_code
def yX7_fit : MethodName := ⟨RX7, "fit", "(IIII)I"⟩
abbrev cX7_join : ByteArray := prog_1_method_4_code
def yX7_join : MethodName := ⟨RX7, "join", "(IIII)I"⟩
abbrev cX7_frame : ByteArray := prog_1_method_5_code
def yX7_frame : MethodName := ⟨RX7, "frame", "(IIII)I"⟩
abbrev cX7_bay : ByteArray := prog_1_method_6_code
def yX7_bay : MethodName := ⟨RX7, "bay", "(III)I"⟩
abbrev cX7_drop : ByteArray := prog_1_method_7_code
def yX7_drop : MethodName := ⟨RX7, "drop", "(I)I"⟩
abbrev cX7_floor : ByteArray := prog_1_method_8_code
def yX7_floor : MethodName := ⟨RX7, "floor", "(II)I"⟩
abbrev cX7_strip : ByteArray := prog_1_method_9_code
def yX7_strip : MethodName := ⟨RX7, "strip", "(II)I"⟩
abbrev cX7_board : ByteArray := prog_1_method_10_code
def yX7_board : MethodName := ⟨RX7, "board", "(IIII)I"⟩
abbrev cX7_brace : ByteArray := prog_1_method_11_code
def yX7_brace : MethodName := ⟨RX7, "brace", "(IIII)I"⟩
abbrev cX7_tie : ByteArray := prog_1_method_12_code
def yX7_tie : MethodName := ⟨RX7, "tie", "(IIII)I"⟩
abbrev cX7_gust : ByteArray := prog_1_method_13_code
def yX7_gust : MethodName := ⟨RX7, "gust", "(II)I"⟩
abbrev cX7_undo : ByteArray := prog_1_method_14_code
def yX7_undo : MethodName := ⟨RX7, "undo", "()I"⟩
abbrev cX7_about : ByteArray := prog_1_method_15_code
def yX7_about : MethodName := ⟨RX7, "about", "(II)I"⟩
abbrev cX7_told : ByteArray := prog_1_method_16_code
def yX7_told : MethodName := ⟨RX7, "told", "(III)I"⟩
abbrev cX7_isOf : ByteArray := prog_1_method_17_code
def yX7_isOf : MethodName := ⟨RX7, "isOf", "(III)I"⟩
abbrev cX7_plan : ByteArray := prog_1_method_18_code
def yX7_plan : MethodName := ⟨RX7, "plan", "(IIII)I"⟩
abbrev cX7_load : ByteArray := prog_1_method_19_code
def yX7_load : MethodName := ⟨RX7, "load", "(II)I"⟩
abbrev cX7_foot : ByteArray := prog_1_method_20_code
def yX7_foot : MethodName := ⟨RX7, "foot", "(III)J"⟩
abbrev cX7_wind : ByteArray := prog_1_method_21_code
def yX7_wind : MethodName := ⟨RX7, "wind", "(III)I"⟩
abbrev cX7_lost : ByteArray := prog_1_method_22_code
def yX7_lost : MethodName := ⟨RX7, "lost", "(I)I"⟩
abbrev cX7_free : ByteArray := prog_1_method_23_code
def yX7_free : MethodName := ⟨RX7, "free", "(II)I"⟩
abbrev cX7_over : ByteArray := prog_1_method_24_code
def yX7_over : MethodName := ⟨RX7, "over", "(II)I"⟩
abbrev cX7_rule : ByteArray := prog_1_method_25_code
def yX7_rule : MethodName := ⟨RX7, "rule", "(II)I"⟩
abbrev cX7_breaches : ByteArray := prog_1_method_26_code
def yX7_breaches : MethodName := ⟨RX7, "breaches", "(I)I"⟩
abbrev cX7_breach : ByteArray := prog_1_method_27_code
def yX7_breach : MethodName := ⟨RX7, "breach", "(III)I"⟩
abbrev cX7_put : ByteArray := prog_1_method_28_code
def yX7_put : MethodName := ⟨RX7, "put", "(II)I"⟩
abbrev cX7_take : ByteArray := prog_1_method_29_code
def yX7_take : MethodName := ⟨RX7, "take", "(II)I"⟩
abbrev cX7_next : ByteArray := prog_1_method_30_code
def yX7_next : MethodName := ⟨RX7, "next", "(II)I"⟩
abbrev cX7_go : ByteArray := prog_1_method_31_code
def yX7_go : MethodName := ⟨RX7, "go", "(III)I"⟩
abbrev cX7_isUp : ByteArray := prog_1_method_32_code
def yX7_isUp : MethodName := ⟨RX7, "isUp", "(II)I"⟩
abbrev cX7_day : ByteArray := prog_1_method_33_code
def yX7_day : MethodName := ⟨RX7, "day", "(I)I"⟩
abbrev cX7_storm : ByteArray := prog_1_method_34_code
def yX7_storm : MethodName := ⟨RX7, "storm", "()I"⟩
abbrev cX7_tag : ByteArray := prog_1_method_35_code
def yX7_tag : MethodName := ⟨RX7, "tag", "(III)I"⟩
abbrev cX7_tagged : ByteArray := prog_1_method_36_code
def yX7_tagged : MethodName := ⟨RX7, "tagged", "(II)I"⟩
abbrev cX7_enter : ByteArray := prog_1_method_37_code
def yX7_enter : MethodName := ⟨RX7, "enter", "(III)I"⟩
abbrev cX7_leave : ByteArray := prog_1_method_38_code
def yX7_leave : MethodName := ⟨RX7, "leave", "(I)I"⟩
abbrev cX7_stranded : ByteArray := prog_1_method_39_code
def yX7_stranded : MethodName := ⟨RX7, "stranded", "()I"⟩
abbrev cX7_stock : ByteArray := prog_1_method_40_code
def yX7_stock : MethodName := ⟨RX7, "stock", "(III)I"⟩
abbrev cX7_wants : ByteArray := prog_1_method_41_code
def yX7_wants : MethodName := ⟨RX7, "wants", "(III)I"⟩
abbrev cX7_lacks : ByteArray := prog_1_method_42_code
def yX7_lacks : MethodName := ⟨RX7, "lacks", "(II)I"⟩
abbrev cX7_stays : ByteArray := prog_1_method_43_code
def yX7_stays : MethodName := ⟨RX7, "stays", "(III)I"⟩
abbrev cX7_count : ByteArray := prog_1_method_44_code
def yX7_count : MethodName := ⟨RX7, "count", "(I)I"⟩
abbrev cX7_within : ByteArray := prog_1_method_45_code
def yX7_within : MethodName := ⟨RX7, "within", "(III)Z"⟩
abbrev cX7_pieceAt : ByteArray := prog_1_method_46_code
def yX7_pieceAt : MethodName := ⟨RX7, "pieceAt", "(III)I"⟩
abbrev cX7_isPieceSize : ByteArray := prog_1_method_47_code
def yX7_isPieceSize : MethodName := ⟨RX7, "isPieceSize", "(II)Z"⟩
abbrev cX7_shelfOf : ByteArray := prog_1_method_48_code
def yX7_shelfOf : MethodName := ⟨RX7, "shelfOf", "(II)I"⟩
abbrev cX7_tableAt : ByteArray := prog_1_method_49_code
def yX7_tableAt : MethodName := ⟨RX7, "tableAt", "(I)[I"⟩
abbrev cX7_frameAt : ByteArray := prog_1_method_50_code
def yX7_frameAt : MethodName := ⟨RX7, "frameAt", "(I)LScaffoldYard$Frame;"⟩
abbrev cX7_isPerson : ByteArray := prog_1_method_51_code
def yX7_isPerson : MethodName := ⟨RX7, "isPerson", "(I)Z"⟩
abbrev cX7_someoneOn : ByteArray := prog_1_method_52_code
def yX7_someoneOn : MethodName := ⟨RX7, "someoneOn", "(I)Z"⟩
abbrev cX7_peopleAt : ByteArray := prog_1_method_53_code
def yX7_peopleAt : MethodName := ⟨RX7, "peopleAt", "(I)I"⟩
abbrev cX7_framesInAll : ByteArray := prog_1_method_54_code
def yX7_framesInAll : MethodName := ⟨RX7, "framesInAll", "()I"⟩
abbrev cX7_upsInAll : ByteArray := prog_1_method_55_code
def yX7_upsInAll : MethodName := ⟨RX7, "upsInAll", "()I"⟩
abbrev cX7_tagsInAll : ByteArray := prog_1_method_56_code
def yX7_tagsInAll : MethodName := ⟨RX7, "tagsInAll", "()I"⟩
def RX8 : String := "ScaffoldYardModel"
def TX8 : u_T := fun k => match k with
  | 0 => ("ScaffoldYardModel", "sizes", "[I", true)
  | 1 => ("ScaffoldYardModel", "bears", "[I", true)
  | 2 => ("ScaffoldYardModel", "lifts", "[I", true)
  | 3 => ("ScaffoldYardModel", "heights", "[I", true)
  | 4 => ("ScaffoldYardModel", "bays", "[I", true)
  | 5 => ("ScaffoldYardModel", "kinds", "[I", true)
  | 6 => ("ScaffoldYardModel", "widths", "[I", true)
  | 7 => ("ScaffoldYardModel", "plan", "[I", true)
  | 8 => ("ScaffoldYardModel", "before", "[I", true)
  | 9 => ("ScaffoldYardModel", "aside", "[I", true)
  | 10 => ("ScaffoldYardModel", "kept", "I", false)
  | 11 => ("ScaffoldYardModel", "up", "[Z", true)
  | 12 => ("ScaffoldYardModel", "tags", "[I", true)
  | 13 => ("ScaffoldYardModel", "at", "[I", true)
  | 14 => ("ScaffoldYardModel", "today", "I", false)
  | 15 => ("ScaffoldYardModel", "ruleA", "I", false)
  | 16 => ("ScaffoldYardModel", "ruleB", "I", false)
  | 17 => ("ScaffoldYardModel", "ruleC", "I", false)
  | 18 => ("ScaffoldYardModel", "stocks", "[I", true)
  | 19 => ("ScaffoldYardModel", "fewest", "[I", true)
  | 20 => ("ScaffoldYardModel", "found", "[I", true)
  | 21 => ("ScaffoldYardModel", "foundCount", "I", false)
  | 22 => ("ScaffoldYardModel", "foundSum", "I", false)
  | 23 => ("ScaffoldYardModel", "sums", "[Z", true)
  | 24 => ("ScaffoldYardModel", "above", "J", false)
  | 25 => ("ScaffoldYardModel", "below", "J", false)
  | 26 => ("ScaffoldYardModel", "breachRule", "I", false)
  | 27 => ("ScaffoldYardModel", "breachLift", "I", false)
  | 28 => ("ScaffoldYardModel", "breachPlace", "I", false)
  | _ => ("ScaffoldYardModel", "stay", "[I", true)
def tyX8 : Nat → FieldType := fun k => match k with
  | 0 => .array .int
  | 1 => .array .int
  | 2 => .array .int
  | 3 => .array .int
  | 4 => .array .int
  | 5 => .array .int
  | 6 => .array .int
  | 7 => .array .int
  | 8 => .array .int
  | 9 => .array .int
  | 10 => .int
  | 11 => .array .boolean
  | 12 => .array .int
  | 13 => .array .int
  | 14 => .int
  | 15 => .int
  | 16 => .int
  | 17 => .int
  | 18 => .array .int
  | 19 => .array .int
  | 20 => .array .int
  | 21 => .int
  | 22 => .int
  | 23 => .array .boolean
  | 24 => .long
  | 25 => .long
  | 26 => .int
  | 27 => .int
  | 28 => .int
  | _ => .array .int
abbrev wsX80 : List Cond := u_ws RX8 TX8 30
theorem nmX8 : ∀ a, a < 30 → ∀ b, b < 30 → a ≠ b → (TX8 a).2.1 ≠ (TX8 b).2.1 := by decide +kernel
theorem tyX8_ok : ∀ k, k < 30 → parseFieldDescriptor (TX8 k).2.2.1 = some (tyX8 k) := by decide +kernel
abbrev cX8_init : ByteArray := prog_10_method_1_code
def yX8_init : MethodName := ⟨RX8, "<init>", "()V"⟩
abbrev cX8_isIn : ByteArray := prog_10_method_2_code
def yX8_isIn : MethodName := ⟨RX8, "isIn", "(III)Z"⟩
abbrev cX8_table : ByteArray := prog_10_method_3_code
def yX8_table : MethodName := ⟨RX8, "table", "(III)I"⟩
abbrev cX8_findFewest : ByteArray := prog_10_method_4_code
def yX8_findFewest : MethodName := ⟨RX8, "findFewest", "(I)V"⟩
abbrev cX8_fits : ByteArray := prog_10_method_5_code
def yX8_fits : MethodName := ⟨RX8, "fits", "(II)Z"⟩
abbrev cX8_shown : ByteArray := prog_10_method_6_code
def yX8_shown : MethodName := ⟨RX8, "shown", "(ZII)I"⟩
abbrev cX8_fit : ByteArray := prog_10_method_7_code
def yX8_fit : MethodName := ⟨RX8, "fit", "(IIII)I"⟩
abbrev cX8_findSums : ByteArray := prog_10_method_8_code
def yX8_findSums : MethodName := ⟨RX8, "findSums", "()V"⟩
abbrev cX8_joins : ByteArray := prog_10_method_9_code
def yX8_joins : MethodName := ⟨RX8, "joins", "(II)Z"⟩
abbrev cX8_layTubes : ByteArray := prog_10_method_10_code
def yX8_layTubes : MethodName := ⟨RX8, "layTubes", "(II)V"⟩
abbrev cX8_join : ByteArray := prog_10_method_11_code
def yX8_join : MethodName := ⟨RX8, "join", "(IIII)I"⟩
abbrev cX8_isFrame : ByteArray := prog_10_method_12_code
def yX8_isFrame : MethodName := ⟨RX8, "isFrame", "(I)Z"⟩
abbrev cX8_isMissing : ByteArray := prog_10_method_13_code
def yX8_isMissing : MethodName := ⟨RX8, "isMissing", "(I)Z"⟩
abbrev cX8_kind : ByteArray := prog_10_method_14_code
def yX8_kind : MethodName := ⟨RX8, "kind", "(II)I"⟩
abbrev cX8_width : ByteArray := prog_10_method_15_code
def yX8_width : MethodName := ⟨RX8, "width", "(II)I"⟩
abbrev cX8_isGate : ByteArray := prog_10_method_16_code
def yX8_isGate : MethodName := ⟨RX8, "isGate", "(II)Z"⟩
abbrev cX8_hasFoot : ByteArray := prog_10_method_17_code
def yX8_hasFoot : MethodName := ⟨RX8, "hasFoot", "(II)Z"⟩
abbrev cX8_isLift : ByteArray := prog_10_method_18_code
def yX8_isLift : MethodName := ⟨RX8, "isLift", "(II)Z"⟩
abbrev cX8_isBay : ByteArray := prog_10_method_19_code
def yX8_isBay : MethodName := ⟨RX8, "isBay", "(II)Z"⟩
abbrev cX8_isStandard : ByteArray := prog_10_method_20_code
def yX8_isStandard : MethodName := ⟨RX8, "isStandard", "(II)Z"⟩
abbrev cX8_hasFloor : ByteArray := prog_10_method_21_code
def yX8_hasFloor : MethodName := ⟨RX8, "hasFloor", "(II)Z"⟩
abbrev cX8_boardAt : ByteArray := prog_10_method_22_code
def yX8_boardAt : MethodName := ⟨RX8, "boardAt", "(III)I"⟩
abbrev cX8_hasBrace : ByteArray := prog_10_method_23_code
def yX8_hasBrace : MethodName := ⟨RX8, "hasBrace", "(III)Z"⟩
abbrev cX8_hasTie : ByteArray := prog_10_method_24_code
def yX8_hasTie : MethodName := ⟨RX8, "hasTie", "(III)Z"⟩
abbrev cX8_upIn : ByteArray := prog_10_method_25_code
def yX8_upIn : MethodName := ⟨RX8, "upIn", "(I)I"⟩
abbrev cX8_isAnyoneOn : ByteArray := prog_10_method_26_code
def yX8_isAnyoneOn : MethodName := ⟨RX8, "isAnyoneOn", "(I)Z"⟩
abbrev cX8_emptyBay : ByteArray := prog_10_method_27_code
def yX8_emptyBay : MethodName := ⟨RX8, "emptyBay", "(II)V"⟩
abbrev cX8_emptyTies : ByteArray := prog_10_method_28_code
def yX8_emptyTies : MethodName := ⟨RX8, "emptyTies", "(II)V"⟩
abbrev cX8_loseTies : ByteArray := prog_10_method_29_code
def yX8_loseTies : MethodName := ⟨RX8, "loseTies", "(I)V"⟩
abbrev cX8_frame : ByteArray := prog_10_method_30_code
def yX8_frame : MethodName := ⟨RX8, "frame", "(IIII)I"⟩
abbrev cX8_bay : ByteArray := prog_10_method_31_code
def yX8_bay : MethodName := ⟨RX8, "bay", "(III)I"⟩
abbrev cX8_drop : ByteArray := prog_10_method_32_code
def yX8_drop : MethodName := ⟨RX8, "drop", "(I)I"⟩
abbrev cX8_keep : ByteArray := prog_10_method_33_code
def yX8_keep : MethodName := ⟨RX8, "keep", "()V"⟩
abbrev cX8_floor : ByteArray := prog_10_method_34_code
def yX8_floor : MethodName := ⟨RX8, "floor", "(II)I"⟩
abbrev cX8_strip : ByteArray := prog_10_method_35_code
def yX8_strip : MethodName := ⟨RX8, "strip", "(II)I"⟩
abbrev cX8_board : ByteArray := prog_10_method_36_code
def yX8_board : MethodName := ⟨RX8, "board", "(IIII)I"⟩
abbrev cX8_brace : ByteArray := prog_10_method_37_code
def yX8_brace : MethodName := ⟨RX8, "brace", "(IIII)I"⟩
abbrev cX8_tie : ByteArray := prog_10_method_38_code
def yX8_tie : MethodName := ⟨RX8, "tie", "(IIII)I"⟩
abbrev cX8_gust : ByteArray := prog_10_method_39_code
def yX8_gust : MethodName := ⟨RX8, "gust", "(II)I"⟩
abbrev cX8_undo : ByteArray := prog_10_method_40_code
def yX8_undo : MethodName := ⟨RX8, "undo", "()I"⟩
abbrev cX8_manyOf : ByteArray := prog_10_method_41_code
def yX8_manyOf : MethodName := ⟨RX8, "manyOf", "(IIII)I"⟩
abbrev cX8_widthTo : ByteArray := prog_10_method_42_code
def yX8_widthTo : MethodName := ⟨RX8, "widthTo", "(III)I"⟩
abbrev cX8_about : ByteArray := prog_10_method_43_code
def yX8_about : MethodName := ⟨RX8, "about", "(II)I"⟩
abbrev cX8_told : ByteArray := prog_10_method_44_code
def yX8_told : MethodName := ⟨RX8, "told", "(III)I"⟩
abbrev cX8_isOf : ByteArray := prog_10_method_45_code
def yX8_isOf : MethodName := ⟨RX8, "isOf", "(III)I"⟩
abbrev cX8_plan : ByteArray := prog_10_method_46_code
def yX8_plan : MethodName := ⟨RX8, "plan", "(IIII)I"⟩
abbrev cX8_weightOf : ByteArray := prog_10_method_47_code
def yX8_weightOf : MethodName := ⟨RX8, "weightOf", "(III)I"⟩
abbrev cX8_twiceLoad : ByteArray := prog_10_method_48_code
def yX8_twiceLoad : MethodName := ⟨RX8, "twiceLoad", "(II)I"⟩
abbrev cX8_asked : ByteArray := prog_10_method_49_code
def yX8_asked : MethodName := ⟨RX8, "asked", "(I)I"⟩
abbrev cX8_askedStandard : ByteArray := prog_10_method_50_code
def yX8_askedStandard : MethodName := ⟨RX8, "askedStandard", "(II)I"⟩
abbrev cX8_load : ByteArray := prog_10_method_51_code
def yX8_load : MethodName := ⟨RX8, "load", "(II)I"⟩
abbrev cX8_leftFoot : ByteArray := prog_10_method_52_code
def yX8_leftFoot : MethodName := ⟨RX8, "leftFoot", "(II)I"⟩
abbrev cX8_rightFoot : ByteArray := prog_10_method_53_code
def yX8_rightFoot : MethodName := ⟨RX8, "rightFoot", "(II)I"⟩
abbrev cX8_common : ByteArray := prog_10_method_54_code
def yX8_common : MethodName := ⟨RX8, "common", "(JJ)J"⟩
abbrev cX8_add : ByteArray := prog_10_method_55_code
def yX8_add : MethodName := ⟨RX8, "add", "(JJ)V"⟩
abbrev cX8_findFoot : ByteArray := prog_10_method_56_code
def yX8_findFoot : MethodName := ⟨RX8, "findFoot", "(II)V"⟩
abbrev cX8_foot : ByteArray := prog_10_method_57_code
def yX8_foot : MethodName := ⟨RX8, "foot", "(III)J"⟩
abbrev cX8_size : ByteArray := prog_10_method_58_code
def yX8_size : MethodName := ⟨RX8, "size", "(I)I"⟩
abbrev cX8_tieFor : ByteArray := prog_10_method_59_code
def yX8_tieFor : MethodName := ⟨RX8, "tieFor", "(III)I"⟩
abbrev cX8_windTo : ByteArray := prog_10_method_60_code
def yX8_windTo : MethodName := ⟨RX8, "windTo", "(II)I"⟩
abbrev cX8_wind : ByteArray := prog_10_method_61_code
def yX8_wind : MethodName := ⟨RX8, "wind", "(III)I"⟩
abbrev cX8_lost : ByteArray := prog_10_method_62_code
def yX8_lost : MethodName := ⟨RX8, "lost", "(I)I"⟩
abbrev cX8_freeOf : ByteArray := prog_10_method_63_code
def yX8_freeOf : MethodName := ⟨RX8, "freeOf", "(II)I"⟩
abbrev cX8_free : ByteArray := prog_10_method_64_code
def yX8_free : MethodName := ⟨RX8, "free", "(II)I"⟩
abbrev cX8_isOver : ByteArray := prog_10_method_65_code
def yX8_isOver : MethodName := ⟨RX8, "isOver", "(II)Z"⟩
abbrev cX8_standardsOver : ByteArray := prog_10_method_66_code
def yX8_standardsOver : MethodName := ⟨RX8, "standardsOver", "(I)I"⟩
abbrev cX8_over : ByteArray := prog_10_method_67_code
def yX8_over : MethodName := ⟨RX8, "over", "(II)I"⟩
abbrev cX8_rule : ByteArray := prog_10_method_68_code
def yX8_rule : MethodName := ⟨RX8, "rule", "(II)I"⟩
abbrev cX8_less : ByteArray := prog_10_method_69_code
def yX8_less : MethodName := ⟨RX8, "less", "(II)I"⟩
abbrev cX8_isTied : ByteArray := prog_10_method_70_code
def yX8_isTied : MethodName := ⟨RX8, "isTied", "(IIIII)Z"⟩
abbrev cX8_isBraced : ByteArray := prog_10_method_71_code
def yX8_isBraced : MethodName := ⟨RX8, "isBraced", "(IIII)Z"⟩
abbrev cX8_note : ByteArray := prog_10_method_72_code
def yX8_note : MethodName := ⟨RX8, "note", "(III)V"⟩
abbrev cX8_findBreaches : ByteArray := prog_10_method_73_code
def yX8_findBreaches : MethodName := ⟨RX8, "findBreaches", "(II)I"⟩
abbrev cX8_breaches : ByteArray := prog_10_method_74_code
def yX8_breaches : MethodName := ⟨RX8, "breaches", "(I)I"⟩
abbrev cX8_breach : ByteArray := prog_10_method_75_code
def yX8_breach : MethodName := ⟨RX8, "breach", "(III)I"⟩
abbrev cX8_pieceOf : ByteArray := prog_10_method_76_code
def yX8_pieceOf : MethodName := ⟨RX8, "pieceOf", "(III)I"⟩
abbrev cX8_isPiece : ByteArray := prog_10_method_77_code
def yX8_isPiece : MethodName := ⟨RX8, "isPiece", "(II)Z"⟩
abbrev cX8_needs : ByteArray := prog_10_method_78_code
def yX8_needs : MethodName := ⟨RX8, "needs", "(III)Z"⟩
abbrev cX8_isTubeBelow : ByteArray := prog_10_method_79_code
def yX8_isTubeBelow : MethodName := ⟨RX8, "isTubeBelow", "(IIII)Z"⟩
abbrev cX8_isFootOf : ByteArray := prog_10_method_80_code
def yX8_isFootOf : MethodName := ⟨RX8, "isFootOf", "(III)Z"⟩
abbrev cX8_isUpNow : ByteArray := prog_10_method_81_code
def yX8_isUpNow : MethodName := ⟨RX8, "isUpNow", "(II)Z"⟩
abbrev cX8_mayPut : ByteArray := prog_10_method_82_code
def yX8_mayPut : MethodName := ⟨RX8, "mayPut", "(II)Z"⟩
abbrev cX8_mayTake : ByteArray := prog_10_method_83_code
def yX8_mayTake : MethodName := ⟨RX8, "mayTake", "(II)Z"⟩
abbrev cX8_set : ByteArray := prog_10_method_84_code
def yX8_set : MethodName := ⟨RX8, "set", "(IIZ)V"⟩
abbrev cX8_act : ByteArray := prog_10_method_85_code
def yX8_act : MethodName := ⟨RX8, "act", "(IIZ)I"⟩
abbrev cX8_put : ByteArray := prog_10_method_86_code
def yX8_put : MethodName := ⟨RX8, "put", "(II)I"⟩
abbrev cX8_take : ByteArray := prog_10_method_87_code
def yX8_take : MethodName := ⟨RX8, "take", "(II)I"⟩
abbrev cX8_leastPut : ByteArray := prog_10_method_88_code
def yX8_leastPut : MethodName := ⟨RX8, "leastPut", "(I)I"⟩
abbrev cX8_greatestTaken : ByteArray := prog_10_method_89_code
def yX8_greatestTaken : MethodName := ⟨RX8, "greatestTaken", "(I)I"⟩
abbrev cX8_leastDown : ByteArray := prog_10_method_90_code
def yX8_leastDown : MethodName := ⟨RX8, "leastDown", "(I)I"⟩
abbrev cX8_next : ByteArray := prog_10_method_91_code
def yX8_next : MethodName := ⟨RX8, "next", "(II)I"⟩
abbrev cX8_go : ByteArray := prog_10_method_92_code
def yX8_go : MethodName := ⟨RX8, "go", "(III)I"⟩
abbrev cX8_isUp : ByteArray := prog_10_method_93_code
def yX8_isUp : MethodName := ⟨RX8, "isUp", "(II)I"⟩
abbrev cX8_tagOf : ByteArray := prog_10_method_94_code
def yX8_tagOf : MethodName := ⟨RX8, "tagOf", "(II)I"⟩
abbrev cX8_day : ByteArray := prog_10_method_95_code
def yX8_day : MethodName := ⟨RX8, "day", "(I)I"⟩
abbrev cX8_tagsNow : ByteArray := prog_10_method_96_code
def yX8_tagsNow : MethodName := ⟨RX8, "tagsNow", "()I"⟩
abbrev cX8_storm : ByteArray := prog_10_method_97_code
def yX8_storm : MethodName := ⟨RX8, "storm", "()I"⟩
abbrev cX8_askedLift : ByteArray := prog_10_method_98_code
def yX8_askedLift : MethodName := ⟨RX8, "askedLift", "(II)I"⟩
abbrev cX8_mayTag : ByteArray := prog_10_method_99_code
def yX8_mayTag : MethodName := ⟨RX8, "mayTag", "(II)Z"⟩
abbrev cX8_tag : ByteArray := prog_10_method_100_code
def yX8_tag : MethodName := ⟨RX8, "tag", "(III)I"⟩
abbrev cX8_tagged : ByteArray := prog_10_method_101_code
def yX8_tagged : MethodName := ⟨RX8, "tagged", "(II)I"⟩
abbrev cX8_manyOn : ByteArray := prog_10_method_102_code
def yX8_manyOn : MethodName := ⟨RX8, "manyOn", "(II)I"⟩
abbrev cX8_enter : ByteArray := prog_10_method_103_code
def yX8_enter : MethodName := ⟨RX8, "enter", "(III)I"⟩
abbrev cX8_leave : ByteArray := prog_10_method_104_code
def yX8_leave : MethodName := ⟨RX8, "leave", "(I)I"⟩
abbrev cX8_stranded : ByteArray := prog_10_method_105_code
def yX8_stranded : MethodName := ⟨RX8, "stranded", "()I"⟩
abbrev cX8_isWare : ByteArray := prog_10_method_106_code
def yX8_isWare : MethodName := ⟨RX8, "isWare", "(II)Z"⟩
abbrev cX8_stock : ByteArray := prog_10_method_107_code
def yX8_stock : MethodName := ⟨RX8, "stock", "(III)I"⟩
abbrev cX8_wantsOf : ByteArray := prog_10_method_108_code
def yX8_wantsOf : MethodName := ⟨RX8, "wantsOf", "(III)I"⟩
abbrev cX8_wants : ByteArray := prog_10_method_109_code
def yX8_wants : MethodName := ⟨RX8, "wants", "(III)I"⟩
abbrev cX8_lacks : ByteArray := prog_10_method_110_code
def yX8_lacks : MethodName := ⟨RX8, "lacks", "(II)I"⟩
abbrev cX8_isLike : ByteArray := prog_10_method_111_code
def yX8_isLike : MethodName := ⟨RX8, "isLike", "(IIII)Z"⟩
abbrev cX8_findStay : ByteArray := prog_10_method_112_code
def yX8_findStay : MethodName := ⟨RX8, "findStay", "(II)V"⟩
abbrev cX8_stays : ByteArray := prog_10_method_113_code
def yX8_stays : MethodName := ⟨RX8, "stays", "(III)I"⟩
abbrev cX8_count : ByteArray := prog_10_method_114_code
def yX8_count : MethodName := ⟨RX8, "count", "(I)I"⟩
def RJ9 : String := "java/lang/Math"
def TJ9 : u_T := fun k => match k with
  | _ => ("", "", "", false)
def tyJ9 : Nat → FieldType := fun k => match k with
  | _ => .int
abbrev wsJ90 : List Cond := u_ws RJ9 TJ9 0
abbrev cJ9_abs_0f7a4 : ByteArray := prog_11_method_59_code
def yJ9_abs_0f7a4 : MethodName := ⟨RJ9, "abs", "(I)I"⟩
abbrev cJ9_max_7cf53 : ByteArray := prog_11_method_65_code
def yJ9_max_7cf53 : MethodName := ⟨RJ9, "max", "(II)I"⟩
abbrev cJ9_min_7cf53 : ByteArray := prog_11_method_69_code
def yJ9_min_7cf53 : MethodName := ⟨RJ9, "min", "(II)I"⟩
def RJ7 : String := "java/util/Arrays"
def TJ7 : u_T := fun k => match k with
  | _ => ("", "", "", false)
def tyJ7 : Nat → FieldType := fun k => match k with
  | _ => .int
abbrev wsJ70 : List Cond := u_ws RJ7 TJ7 0
abbrev cJ7_fill_53178 : ByteArray := prog_12_method_103_code
def yJ7_fill_53178 : MethodName := ⟨RJ7, "fill", "([II)V"⟩
def RL : String := "ScaffoldYardLaw"
abbrev cL_law : ByteArray := code
def yL_law : MethodName := ⟨RL, "law", "([I)Z"⟩
abbrev vwCl : List vw_C := [(RX0, TX0, 6), (RX1, TX1, 15), (RX2, TX2, 3), (RX3, TX3, 5), (RX4, TX4, 3), (RX5, TX5, 3), (RX6, TX6, 5), (RX7, TX7, 12), (RX8, TX8, 30)]
end
section
/-! the program as data: what a row says is told in NOTES.md -/
abbrev II : Type := Nat × Nat × Nat × Nat × Nat × Nat × Int × List (Int × Nat)
def CT : List (Nat × Nat) := [(99, 0), (7, 12), (20, 6), (20, 6), (20, 7), (22, 3), (5, 3), (20, 2001), (3, 5), (20, 66), (20, 11), (6, 5), (20, 132), (2, 3), (23, 5), (0, 6), (20, 10), (0, 6), (20, 10), (0, 6), (20, 10), (0, 6), (20, 10), (0, 6), (20, 10), (4, 3), (20, 10), (24, 11), (20, 11), (20, 11), (20, 11), (20, 11), (20, 11), (20, 11), (20, 11), (20, 11), (20, 11), (20, 11), (20, 11), (20, 10), (20, 606), (1, 15), (20, 10), (20, 10), (20, 11), (21, 6), (20, 66), (21, 66), (21, 66), (20, 396), (20, 6), (1, 15), (20, 10), (20, 10), (20, 11), (21, 6), (20, 66), (21, 66), (21, 66), (20, 396), (20, 6), (1, 15), (20, 10), (20, 10), (20, 11), (21, 6), (20, 66), (21, 66), (21, 66), (20, 396), (20, 6), (8, 30), (20, 12), (20, 7), (20, 3), (20, 3), (20, 3), (20, 30), (20, 30), (20, 579), (20, 2895), (20, 579), (21, 1188), (20, 18), (20, 10), (20, 606), (20, 1001), (20, 1000), (21, 42021), (20, 121)]
noncomputable def tl0 : List (Nat × II) := [(0, (25, 3, 7, 0, 0, 100, 0, [])), (3, (22, 4, 0, 0, 0, 0, 0, [])), (4, (20, 7, 102, 2, 9, 102, 0, [(2, 1), (0, 47)])), (7, (2, 8, 1, 2, 0, 0, 0, [])), (8, (25, 11, 8, 0, 0, 1022, 0, [])), (11, (22, 12, 0, 0, 0, 0, 0, [])), (12, (20, 15, 158, 2, 9, 1024, 0, [(2, 1), (0, 48)])), (15, (2, 16, 2, 2, 0, 0, 0, [])), (16, (0, 17, 0, 0, 0, 0, 0, [])), (17, (2, 18, 3, 0, 0, 0, 0, [])), (18, (1, 19, 3, 0, 0, 0, 0, [])), (19, (1, 20, 0, 2, 0, 0, 0, [])), (20, (31, 21, 0, 0, 0, 0, 0, [])), (21, (0, 22, 0, 0, 0, 0, 5, [])), (22, (4, 23, 1, 0, 0, 0, 0, [])), (23, (11, 26, 4, 1796, 0, 0, 0, [])), (26, (1, 27, 0, 2, 0, 0, 0, [])), (27, (1, 28, 3, 0, 0, 0, 0, [])), (28, (30, 29, 0, 0, 0, 0, 0, [])), (29, (0, 31, 0, 0, 0, 0, 63, [])), (31, (4, 32, 3, 0, 0, 0, 0, []))]
noncomputable def tl1 : List (Nat × II) := [(32, (14, 220, 0, 1790, 0, 0, 0, [(0, 220), (1, 263), (2, 316), (3, 369), (4, 422), (5, 465), (6, 488), (7, 521), (8, 554), (9, 607), (10, 660), (11, 713), (12, 746), (13, 759), (14, 792), (15, 835), (16, 878), (17, 931), (18, 964), (19, 1008), (20, 1051), (21, 1074), (22, 1107), (23, 1140), (24, 1173), (25, 1196), (26, 1239), (27, 1272), (28, 1305), (29, 1338), (30, 1381), (31, 1414), (32, 1437), (33, 1450), (34, 1493), (35, 1526), (36, 1569), (37, 1592), (38, 1605), (39, 1648), (40, 1691), (41, 1724), (42, 1767)]))]
noncomputable def tl2 : List (Nat × II) := []
noncomputable def tl3 : List (Nat × II) := []
noncomputable def tl4 : List (Nat × II) := []
noncomputable def tl5 : List (Nat × II) := []
noncomputable def tl6 : List (Nat × II) := [(220, (1, 221, 1, 2, 0, 0, 0, [])), (221, (1, 222, 0, 2, 0, 0, 0, [])), (222, (1, 223, 3, 0, 0, 0, 0, [])), (223, (0, 224, 0, 0, 0, 0, 1, []))]
noncomputable def tl7 : List (Nat × II) := [(224, (4, 225, 0, 0, 0, 0, 0, [])), (225, (30, 226, 0, 0, 0, 0, 0, [])), (226, (1, 227, 0, 2, 0, 0, 0, [])), (227, (1, 228, 3, 0, 0, 0, 0, [])), (228, (0, 229, 0, 0, 0, 0, 2, [])), (229, (4, 230, 0, 0, 0, 0, 0, [])), (230, (30, 231, 0, 0, 0, 0, 0, [])), (231, (1, 232, 0, 2, 0, 0, 0, [])), (232, (1, 233, 3, 0, 0, 0, 0, [])), (233, (0, 234, 0, 0, 0, 0, 3, [])), (234, (4, 235, 0, 0, 0, 0, 0, [])), (235, (30, 236, 0, 0, 0, 0, 0, [])), (236, (20, 239, 103, 1, 0, 344, 0, [(6, 4), (0, 47), (0, 0), (0, 0), (0, 0)])), (239, (1, 240, 2, 2, 0, 0, 0, [])), (240, (1, 241, 0, 2, 0, 0, 0, [])), (241, (1, 242, 3, 0, 0, 0, 0, [])), (242, (0, 243, 0, 0, 0, 0, 1, [])), (243, (4, 244, 0, 0, 0, 0, 0, [])), (244, (30, 245, 0, 0, 0, 0, 0, [])), (245, (1, 246, 0, 2, 0, 0, 0, [])), (246, (1, 247, 3, 0, 0, 0, 0, [])), (247, (0, 248, 0, 0, 0, 0, 2, [])), (248, (4, 249, 0, 0, 0, 0, 0, [])), (249, (30, 250, 0, 0, 0, 0, 0, [])), (250, (1, 251, 0, 2, 0, 0, 0, [])), (251, (1, 252, 3, 0, 0, 0, 0, [])), (252, (0, 253, 0, 0, 0, 0, 3, [])), (253, (4, 254, 0, 0, 0, 0, 0, [])), (254, (30, 255, 0, 0, 0, 0, 0, [])), (255, (20, 258, 160, 1, 0, 1121, 0, [(6, 4), (0, 48), (0, 0), (0, 0), (0, 0)]))]
noncomputable def tl8 : List (Nat × II) := [(258, (11, 261, 0, 1790, 0, 0, 0, [])), (261, (0, 262, 0, 0, 0, 0, 0, [])), (262, (21, 263, 2, 0, 3, 0, 0, [])), (263, (1, 264, 1, 2, 0, 0, 0, [])), (264, (1, 265, 0, 2, 0, 0, 0, [])), (265, (1, 266, 3, 0, 0, 0, 0, [])), (266, (0, 267, 0, 0, 0, 0, 1, [])), (267, (4, 268, 0, 0, 0, 0, 0, [])), (268, (30, 269, 0, 0, 0, 0, 0, [])), (269, (1, 270, 0, 2, 0, 0, 0, [])), (270, (1, 271, 3, 0, 0, 0, 0, [])), (271, (0, 272, 0, 0, 0, 0, 2, [])), (272, (4, 273, 0, 0, 0, 0, 0, [])), (273, (30, 274, 0, 0, 0, 0, 0, [])), (274, (1, 275, 0, 2, 0, 0, 0, [])), (275, (1, 276, 3, 0, 0, 0, 0, [])), (276, (0, 277, 0, 0, 0, 0, 3, [])), (277, (4, 278, 0, 0, 0, 0, 0, [])), (278, (30, 279, 0, 0, 0, 0, 0, [])), (279, (1, 280, 0, 2, 0, 0, 0, [])), (280, (1, 281, 3, 0, 0, 0, 0, [])), (281, (0, 282, 0, 0, 0, 0, 4, [])), (282, (4, 283, 0, 0, 0, 0, 0, [])), (283, (30, 284, 0, 0, 0, 0, 0, [])), (284, (20, 287, 104, 1, 0, 357, 0, [(5, 5), (0, 47), (0, 0), (0, 0), (0, 0), (0, 0)])), (287, (1, 288, 2, 2, 0, 0, 0, []))]
noncomputable def tl9 : List (Nat × II) := [(288, (1, 289, 0, 2, 0, 0, 0, [])), (289, (1, 290, 3, 0, 0, 0, 0, [])), (290, (0, 291, 0, 0, 0, 0, 1, [])), (291, (4, 292, 0, 0, 0, 0, 0, [])), (292, (30, 293, 0, 0, 0, 0, 0, [])), (293, (1, 294, 0, 2, 0, 0, 0, [])), (294, (1, 295, 3, 0, 0, 0, 0, [])), (295, (0, 296, 0, 0, 0, 0, 2, [])), (296, (4, 297, 0, 0, 0, 0, 0, [])), (297, (30, 298, 0, 0, 0, 0, 0, [])), (298, (1, 299, 0, 2, 0, 0, 0, [])), (299, (1, 300, 3, 0, 0, 0, 0, [])), (300, (0, 301, 0, 0, 0, 0, 3, [])), (301, (4, 302, 0, 0, 0, 0, 0, [])), (302, (30, 303, 0, 0, 0, 0, 0, [])), (303, (1, 304, 0, 2, 0, 0, 0, [])), (304, (1, 305, 3, 0, 0, 0, 0, [])), (305, (0, 306, 0, 0, 0, 0, 4, [])), (306, (4, 307, 0, 0, 0, 0, 0, [])), (307, (30, 308, 0, 0, 0, 0, 0, [])), (308, (20, 311, 164, 1, 0, 1130, 0, [(5, 5), (0, 48), (0, 0), (0, 0), (0, 0), (0, 0)])), (311, (11, 314, 0, 1790, 0, 0, 0, [])), (314, (0, 315, 0, 0, 0, 0, 0, [])), (315, (21, 316, 2, 0, 3, 0, 0, [])), (316, (1, 317, 1, 2, 0, 0, 0, [])), (317, (1, 318, 0, 2, 0, 0, 0, [])), (318, (1, 319, 3, 0, 0, 0, 0, [])), (319, (0, 320, 0, 0, 0, 0, 1, []))]
noncomputable def tl10 : List (Nat × II) := [(320, (4, 321, 0, 0, 0, 0, 0, [])), (321, (30, 322, 0, 0, 0, 0, 0, [])), (322, (1, 323, 0, 2, 0, 0, 0, [])), (323, (1, 324, 3, 0, 0, 0, 0, [])), (324, (0, 325, 0, 0, 0, 0, 2, [])), (325, (4, 326, 0, 0, 0, 0, 0, [])), (326, (30, 327, 0, 0, 0, 0, 0, [])), (327, (1, 328, 0, 2, 0, 0, 0, [])), (328, (1, 329, 3, 0, 0, 0, 0, [])), (329, (0, 330, 0, 0, 0, 0, 3, [])), (330, (4, 331, 0, 0, 0, 0, 0, [])), (331, (30, 332, 0, 0, 0, 0, 0, [])), (332, (1, 333, 0, 2, 0, 0, 0, [])), (333, (1, 334, 3, 0, 0, 0, 0, [])), (334, (0, 335, 0, 0, 0, 0, 4, [])), (335, (4, 336, 0, 0, 0, 0, 0, [])), (336, (30, 337, 0, 0, 0, 0, 0, [])), (337, (20, 340, 105, 1, 0, 378, 0, [(5, 5), (0, 47), (0, 0), (0, 0), (0, 0), (0, 0)])), (340, (1, 341, 2, 2, 0, 0, 0, [])), (341, (1, 342, 0, 2, 0, 0, 0, [])), (342, (1, 343, 3, 0, 0, 0, 0, [])), (343, (0, 344, 0, 0, 0, 0, 1, [])), (344, (4, 345, 0, 0, 0, 0, 0, [])), (345, (30, 346, 0, 0, 0, 0, 0, [])), (346, (1, 347, 0, 2, 0, 0, 0, [])), (347, (1, 348, 3, 0, 0, 0, 0, [])), (348, (0, 349, 0, 0, 0, 0, 2, [])), (349, (4, 350, 0, 0, 0, 0, 0, [])), (350, (30, 351, 0, 0, 0, 0, 0, [])), (351, (1, 352, 0, 2, 0, 0, 0, []))]
noncomputable def tl11 : List (Nat × II) := [(352, (1, 353, 3, 0, 0, 0, 0, [])), (353, (0, 354, 0, 0, 0, 0, 3, [])), (354, (4, 355, 0, 0, 0, 0, 0, [])), (355, (30, 356, 0, 0, 0, 0, 0, [])), (356, (1, 357, 0, 2, 0, 0, 0, [])), (357, (1, 358, 3, 0, 0, 0, 0, [])), (358, (0, 359, 0, 0, 0, 0, 4, [])), (359, (4, 360, 0, 0, 0, 0, 0, [])), (360, (30, 361, 0, 0, 0, 0, 0, [])), (361, (20, 364, 168, 1, 0, 1147, 0, [(5, 5), (0, 48), (0, 0), (0, 0), (0, 0), (0, 0)])), (364, (11, 367, 0, 1790, 0, 0, 0, [])), (367, (0, 368, 0, 0, 0, 0, 0, [])), (368, (21, 369, 2, 0, 3, 0, 0, [])), (369, (1, 370, 1, 2, 0, 0, 0, [])), (370, (1, 371, 0, 2, 0, 0, 0, [])), (371, (1, 372, 3, 0, 0, 0, 0, [])), (372, (0, 373, 0, 0, 0, 0, 1, [])), (373, (4, 374, 0, 0, 0, 0, 0, [])), (374, (30, 375, 0, 0, 0, 0, 0, [])), (375, (1, 376, 0, 2, 0, 0, 0, [])), (376, (1, 377, 3, 0, 0, 0, 0, [])), (377, (0, 378, 0, 0, 0, 0, 2, [])), (378, (4, 379, 0, 0, 0, 0, 0, [])), (379, (30, 380, 0, 0, 0, 0, 0, [])), (380, (1, 381, 0, 2, 0, 0, 0, [])), (381, (1, 382, 3, 0, 0, 0, 0, [])), (382, (0, 383, 0, 0, 0, 0, 3, [])), (383, (4, 384, 0, 0, 0, 0, 0, []))]
noncomputable def tl12 : List (Nat × II) := [(384, (30, 385, 0, 0, 0, 0, 0, [])), (385, (1, 386, 0, 2, 0, 0, 0, [])), (386, (1, 387, 3, 0, 0, 0, 0, [])), (387, (0, 388, 0, 0, 0, 0, 4, [])), (388, (4, 389, 0, 0, 0, 0, 0, [])), (389, (30, 390, 0, 0, 0, 0, 0, [])), (390, (20, 393, 106, 1, 0, 400, 0, [(6, 5), (0, 47), (0, 0), (0, 0), (0, 0), (0, 0)])), (393, (1, 394, 2, 2, 0, 0, 0, [])), (394, (1, 395, 0, 2, 0, 0, 0, [])), (395, (1, 396, 3, 0, 0, 0, 0, [])), (396, (0, 397, 0, 0, 0, 0, 1, [])), (397, (4, 398, 0, 0, 0, 0, 0, [])), (398, (30, 399, 0, 0, 0, 0, 0, [])), (399, (1, 400, 0, 2, 0, 0, 0, [])), (400, (1, 401, 3, 0, 0, 0, 0, [])), (401, (0, 402, 0, 0, 0, 0, 2, [])), (402, (4, 403, 0, 0, 0, 0, 0, [])), (403, (30, 404, 0, 0, 0, 0, 0, [])), (404, (1, 405, 0, 2, 0, 0, 0, [])), (405, (1, 406, 3, 0, 0, 0, 0, [])), (406, (0, 407, 0, 0, 0, 0, 3, [])), (407, (4, 408, 0, 0, 0, 0, 0, [])), (408, (30, 409, 0, 0, 0, 0, 0, [])), (409, (1, 410, 0, 2, 0, 0, 0, [])), (410, (1, 411, 3, 0, 0, 0, 0, [])), (411, (0, 412, 0, 0, 0, 0, 4, [])), (412, (4, 413, 0, 0, 0, 0, 0, [])), (413, (30, 414, 0, 0, 0, 0, 0, [])), (414, (20, 417, 187, 1, 0, 1163, 0, [(6, 5), (0, 48), (0, 0), (0, 0), (0, 0), (0, 0)]))]
noncomputable def tl13 : List (Nat × II) := [(417, (11, 420, 0, 1790, 0, 0, 0, [])), (420, (0, 421, 0, 0, 0, 0, 0, [])), (421, (21, 422, 2, 0, 3, 0, 0, [])), (422, (1, 423, 1, 2, 0, 0, 0, [])), (423, (1, 424, 0, 2, 0, 0, 0, [])), (424, (1, 425, 3, 0, 0, 0, 0, [])), (425, (0, 426, 0, 0, 0, 0, 1, [])), (426, (4, 427, 0, 0, 0, 0, 0, [])), (427, (30, 428, 0, 0, 0, 0, 0, [])), (428, (1, 429, 0, 2, 0, 0, 0, [])), (429, (1, 430, 3, 0, 0, 0, 0, [])), (430, (0, 431, 0, 0, 0, 0, 2, [])), (431, (4, 432, 0, 0, 0, 0, 0, [])), (432, (30, 433, 0, 0, 0, 0, 0, [])), (433, (1, 434, 0, 2, 0, 0, 0, [])), (434, (1, 435, 3, 0, 0, 0, 0, [])), (435, (0, 436, 0, 0, 0, 0, 3, [])), (436, (4, 437, 0, 0, 0, 0, 0, [])), (437, (30, 438, 0, 0, 0, 0, 0, [])), (438, (20, 441, 107, 1, 0, 448, 0, [(5, 4), (0, 47), (0, 0), (0, 0), (0, 0)])), (441, (1, 442, 2, 2, 0, 0, 0, [])), (442, (1, 443, 0, 2, 0, 0, 0, [])), (443, (1, 444, 3, 0, 0, 0, 0, [])), (444, (0, 445, 0, 0, 0, 0, 1, [])), (445, (4, 446, 0, 0, 0, 0, 0, [])), (446, (30, 447, 0, 0, 0, 0, 0, [])), (447, (1, 448, 0, 2, 0, 0, 0, []))]
noncomputable def tl14 : List (Nat × II) := [(448, (1, 449, 3, 0, 0, 0, 0, [])), (449, (0, 450, 0, 0, 0, 0, 2, [])), (450, (4, 451, 0, 0, 0, 0, 0, [])), (451, (30, 452, 0, 0, 0, 0, 0, [])), (452, (1, 453, 0, 2, 0, 0, 0, [])), (453, (1, 454, 3, 0, 0, 0, 0, [])), (454, (0, 455, 0, 0, 0, 0, 3, [])), (455, (4, 456, 0, 0, 0, 0, 0, [])), (456, (30, 457, 0, 0, 0, 0, 0, [])), (457, (20, 460, 188, 1, 0, 1183, 0, [(5, 4), (0, 48), (0, 0), (0, 0), (0, 0)])), (460, (11, 463, 0, 1790, 0, 0, 0, [])), (463, (0, 464, 0, 0, 0, 0, 0, [])), (464, (21, 465, 2, 0, 3, 0, 0, [])), (465, (1, 466, 1, 2, 0, 0, 0, [])), (466, (1, 467, 0, 2, 0, 0, 0, [])), (467, (1, 468, 3, 0, 0, 0, 0, [])), (468, (0, 469, 0, 0, 0, 0, 1, [])), (469, (4, 470, 0, 0, 0, 0, 0, [])), (470, (30, 471, 0, 0, 0, 0, 0, [])), (471, (20, 474, 108, 1, 0, 453, 0, [(4, 2), (0, 47), (0, 0)])), (474, (1, 475, 2, 2, 0, 0, 0, [])), (475, (1, 476, 0, 2, 0, 0, 0, [])), (476, (1, 477, 3, 0, 0, 0, 0, [])), (477, (0, 478, 0, 0, 0, 0, 1, [])), (478, (4, 479, 0, 0, 0, 0, 0, [])), (479, (30, 480, 0, 0, 0, 0, 0, []))]
noncomputable def tl15 : List (Nat × II) := [(480, (20, 483, 189, 1, 0, 1212, 0, [(4, 2), (0, 48), (0, 0)])), (483, (11, 486, 0, 1790, 0, 0, 0, [])), (486, (0, 487, 0, 0, 0, 0, 0, [])), (487, (21, 488, 2, 0, 3, 0, 0, [])), (488, (1, 489, 1, 2, 0, 0, 0, [])), (489, (1, 490, 0, 2, 0, 0, 0, [])), (490, (1, 491, 3, 0, 0, 0, 0, [])), (491, (0, 492, 0, 0, 0, 0, 1, [])), (492, (4, 493, 0, 0, 0, 0, 0, [])), (493, (30, 494, 0, 0, 0, 0, 0, [])), (494, (1, 495, 0, 2, 0, 0, 0, [])), (495, (1, 496, 3, 0, 0, 0, 0, [])), (496, (0, 497, 0, 0, 0, 0, 2, [])), (497, (4, 498, 0, 0, 0, 0, 0, [])), (498, (30, 499, 0, 0, 0, 0, 0, [])), (499, (20, 502, 109, 1, 0, 473, 0, [(5, 3), (0, 47), (0, 0), (0, 0)])), (502, (1, 503, 2, 2, 0, 0, 0, [])), (503, (1, 504, 0, 2, 0, 0, 0, [])), (504, (1, 505, 3, 0, 0, 0, 0, [])), (505, (0, 506, 0, 0, 0, 0, 1, [])), (506, (4, 507, 0, 0, 0, 0, 0, [])), (507, (30, 508, 0, 0, 0, 0, 0, [])), (508, (1, 509, 0, 2, 0, 0, 0, [])), (509, (1, 510, 3, 0, 0, 0, 0, [])), (510, (0, 511, 0, 0, 0, 0, 2, [])), (511, (4, 512, 0, 0, 0, 0, 0, []))]
noncomputable def tl16 : List (Nat × II) := [(512, (30, 513, 0, 0, 0, 0, 0, [])), (513, (20, 516, 191, 1, 0, 1220, 0, [(4, 3), (0, 48), (0, 0), (0, 0)])), (516, (11, 519, 0, 1790, 0, 0, 0, [])), (519, (0, 520, 0, 0, 0, 0, 0, [])), (520, (21, 521, 2, 0, 3, 0, 0, [])), (521, (1, 522, 1, 2, 0, 0, 0, [])), (522, (1, 523, 0, 2, 0, 0, 0, [])), (523, (1, 524, 3, 0, 0, 0, 0, [])), (524, (0, 525, 0, 0, 0, 0, 1, [])), (525, (4, 526, 0, 0, 0, 0, 0, [])), (526, (30, 527, 0, 0, 0, 0, 0, [])), (527, (1, 528, 0, 2, 0, 0, 0, [])), (528, (1, 529, 3, 0, 0, 0, 0, [])), (529, (0, 530, 0, 0, 0, 0, 2, [])), (530, (4, 531, 0, 0, 0, 0, 0, [])), (531, (30, 532, 0, 0, 0, 0, 0, [])), (532, (20, 535, 110, 1, 0, 500, 0, [(5, 3), (0, 47), (0, 0), (0, 0)])), (535, (1, 536, 2, 2, 0, 0, 0, [])), (536, (1, 537, 0, 2, 0, 0, 0, [])), (537, (1, 538, 3, 0, 0, 0, 0, [])), (538, (0, 539, 0, 0, 0, 0, 1, [])), (539, (4, 540, 0, 0, 0, 0, 0, [])), (540, (30, 541, 0, 0, 0, 0, 0, [])), (541, (1, 542, 0, 2, 0, 0, 0, [])), (542, (1, 543, 3, 0, 0, 0, 0, [])), (543, (0, 544, 0, 0, 0, 0, 2, []))]
noncomputable def tl17 : List (Nat × II) := [(544, (4, 545, 0, 0, 0, 0, 0, [])), (545, (30, 546, 0, 0, 0, 0, 0, [])), (546, (20, 549, 192, 1, 0, 1233, 0, [(5, 3), (0, 48), (0, 0), (0, 0)])), (549, (11, 552, 0, 1790, 0, 0, 0, [])), (552, (0, 553, 0, 0, 0, 0, 0, [])), (553, (21, 554, 2, 0, 3, 0, 0, [])), (554, (1, 555, 1, 2, 0, 0, 0, [])), (555, (1, 556, 0, 2, 0, 0, 0, [])), (556, (1, 557, 3, 0, 0, 0, 0, [])), (557, (0, 558, 0, 0, 0, 0, 1, [])), (558, (4, 559, 0, 0, 0, 0, 0, [])), (559, (30, 560, 0, 0, 0, 0, 0, [])), (560, (1, 561, 0, 2, 0, 0, 0, [])), (561, (1, 562, 3, 0, 0, 0, 0, [])), (562, (0, 563, 0, 0, 0, 0, 2, [])), (563, (4, 564, 0, 0, 0, 0, 0, [])), (564, (30, 565, 0, 0, 0, 0, 0, [])), (565, (1, 566, 0, 2, 0, 0, 0, [])), (566, (1, 567, 3, 0, 0, 0, 0, [])), (567, (0, 568, 0, 0, 0, 0, 3, [])), (568, (4, 569, 0, 0, 0, 0, 0, [])), (569, (30, 570, 0, 0, 0, 0, 0, [])), (570, (1, 571, 0, 2, 0, 0, 0, [])), (571, (1, 572, 3, 0, 0, 0, 0, [])), (572, (0, 573, 0, 0, 0, 0, 4, [])), (573, (4, 574, 0, 0, 0, 0, 0, [])), (574, (30, 575, 0, 0, 0, 0, 0, [])), (575, (20, 578, 111, 1, 0, 526, 0, [(7, 5), (0, 47), (0, 0), (0, 0), (0, 0), (0, 0)]))]
noncomputable def tl18 : List (Nat × II) := [(578, (1, 579, 2, 2, 0, 0, 0, [])), (579, (1, 580, 0, 2, 0, 0, 0, [])), (580, (1, 581, 3, 0, 0, 0, 0, [])), (581, (0, 582, 0, 0, 0, 0, 1, [])), (582, (4, 583, 0, 0, 0, 0, 0, [])), (583, (30, 584, 0, 0, 0, 0, 0, [])), (584, (1, 585, 0, 2, 0, 0, 0, [])), (585, (1, 586, 3, 0, 0, 0, 0, [])), (586, (0, 587, 0, 0, 0, 0, 2, [])), (587, (4, 588, 0, 0, 0, 0, 0, [])), (588, (30, 589, 0, 0, 0, 0, 0, [])), (589, (1, 590, 0, 2, 0, 0, 0, [])), (590, (1, 591, 3, 0, 0, 0, 0, [])), (591, (0, 592, 0, 0, 0, 0, 3, [])), (592, (4, 593, 0, 0, 0, 0, 0, [])), (593, (30, 594, 0, 0, 0, 0, 0, [])), (594, (1, 595, 0, 2, 0, 0, 0, [])), (595, (1, 596, 3, 0, 0, 0, 0, [])), (596, (0, 597, 0, 0, 0, 0, 4, [])), (597, (4, 598, 0, 0, 0, 0, 0, [])), (598, (30, 599, 0, 0, 0, 0, 0, [])), (599, (20, 602, 193, 1, 0, 1246, 0, [(6, 5), (0, 48), (0, 0), (0, 0), (0, 0), (0, 0)])), (602, (11, 605, 0, 1790, 0, 0, 0, [])), (605, (0, 606, 0, 0, 0, 0, 0, [])), (606, (21, 607, 2, 0, 3, 0, 0, [])), (607, (1, 608, 1, 2, 0, 0, 0, []))]
noncomputable def tl19 : List (Nat × II) := [(608, (1, 609, 0, 2, 0, 0, 0, [])), (609, (1, 610, 3, 0, 0, 0, 0, [])), (610, (0, 611, 0, 0, 0, 0, 1, [])), (611, (4, 612, 0, 0, 0, 0, 0, [])), (612, (30, 613, 0, 0, 0, 0, 0, [])), (613, (1, 614, 0, 2, 0, 0, 0, [])), (614, (1, 615, 3, 0, 0, 0, 0, [])), (615, (0, 616, 0, 0, 0, 0, 2, [])), (616, (4, 617, 0, 0, 0, 0, 0, [])), (617, (30, 618, 0, 0, 0, 0, 0, [])), (618, (1, 619, 0, 2, 0, 0, 0, [])), (619, (1, 620, 3, 0, 0, 0, 0, [])), (620, (0, 621, 0, 0, 0, 0, 3, [])), (621, (4, 622, 0, 0, 0, 0, 0, [])), (622, (30, 623, 0, 0, 0, 0, 0, [])), (623, (1, 624, 0, 2, 0, 0, 0, [])), (624, (1, 625, 3, 0, 0, 0, 0, [])), (625, (0, 626, 0, 0, 0, 0, 4, [])), (626, (4, 627, 0, 0, 0, 0, 0, [])), (627, (30, 628, 0, 0, 0, 0, 0, [])), (628, (20, 631, 112, 1, 0, 539, 0, [(7, 5), (0, 47), (0, 0), (0, 0), (0, 0), (0, 0)])), (631, (1, 632, 2, 2, 0, 0, 0, [])), (632, (1, 633, 0, 2, 0, 0, 0, [])), (633, (1, 634, 3, 0, 0, 0, 0, [])), (634, (0, 635, 0, 0, 0, 0, 1, [])), (635, (4, 636, 0, 0, 0, 0, 0, [])), (636, (30, 637, 0, 0, 0, 0, 0, [])), (637, (1, 638, 0, 2, 0, 0, 0, [])), (638, (1, 639, 3, 0, 0, 0, 0, [])), (639, (0, 640, 0, 0, 0, 0, 2, []))]
noncomputable def tl20 : List (Nat × II) := [(640, (4, 641, 0, 0, 0, 0, 0, [])), (641, (30, 642, 0, 0, 0, 0, 0, [])), (642, (1, 643, 0, 2, 0, 0, 0, [])), (643, (1, 644, 3, 0, 0, 0, 0, [])), (644, (0, 645, 0, 0, 0, 0, 3, [])), (645, (4, 646, 0, 0, 0, 0, 0, [])), (646, (30, 647, 0, 0, 0, 0, 0, [])), (647, (1, 648, 0, 2, 0, 0, 0, [])), (648, (1, 649, 3, 0, 0, 0, 0, [])), (649, (0, 650, 0, 0, 0, 0, 4, [])), (650, (4, 651, 0, 0, 0, 0, 0, [])), (651, (30, 652, 0, 0, 0, 0, 0, [])), (652, (20, 655, 194, 1, 0, 1254, 0, [(6, 5), (0, 48), (0, 0), (0, 0), (0, 0), (0, 0)])), (655, (11, 658, 0, 1790, 0, 0, 0, [])), (658, (0, 659, 0, 0, 0, 0, 0, [])), (659, (21, 660, 2, 0, 3, 0, 0, [])), (660, (1, 661, 1, 2, 0, 0, 0, [])), (661, (1, 662, 0, 2, 0, 0, 0, [])), (662, (1, 663, 3, 0, 0, 0, 0, [])), (663, (0, 664, 0, 0, 0, 0, 1, [])), (664, (4, 665, 0, 0, 0, 0, 0, [])), (665, (30, 666, 0, 0, 0, 0, 0, [])), (666, (1, 667, 0, 2, 0, 0, 0, [])), (667, (1, 668, 3, 0, 0, 0, 0, [])), (668, (0, 669, 0, 0, 0, 0, 2, [])), (669, (4, 670, 0, 0, 0, 0, 0, [])), (670, (30, 671, 0, 0, 0, 0, 0, [])), (671, (1, 672, 0, 2, 0, 0, 0, []))]
noncomputable def tl21 : List (Nat × II) := [(672, (1, 673, 3, 0, 0, 0, 0, [])), (673, (0, 674, 0, 0, 0, 0, 3, [])), (674, (4, 675, 0, 0, 0, 0, 0, [])), (675, (30, 676, 0, 0, 0, 0, 0, [])), (676, (1, 677, 0, 2, 0, 0, 0, [])), (677, (1, 678, 3, 0, 0, 0, 0, [])), (678, (0, 679, 0, 0, 0, 0, 4, [])), (679, (4, 680, 0, 0, 0, 0, 0, [])), (680, (30, 681, 0, 0, 0, 0, 0, [])), (681, (20, 684, 113, 1, 0, 548, 0, [(7, 5), (0, 47), (0, 0), (0, 0), (0, 0), (0, 0)])), (684, (1, 685, 2, 2, 0, 0, 0, [])), (685, (1, 686, 0, 2, 0, 0, 0, [])), (686, (1, 687, 3, 0, 0, 0, 0, [])), (687, (0, 688, 0, 0, 0, 0, 1, [])), (688, (4, 689, 0, 0, 0, 0, 0, [])), (689, (30, 690, 0, 0, 0, 0, 0, [])), (690, (1, 691, 0, 2, 0, 0, 0, [])), (691, (1, 692, 3, 0, 0, 0, 0, [])), (692, (0, 693, 0, 0, 0, 0, 2, [])), (693, (4, 694, 0, 0, 0, 0, 0, [])), (694, (30, 695, 0, 0, 0, 0, 0, [])), (695, (1, 696, 0, 2, 0, 0, 0, [])), (696, (1, 697, 3, 0, 0, 0, 0, [])), (697, (0, 698, 0, 0, 0, 0, 3, [])), (698, (4, 699, 0, 0, 0, 0, 0, [])), (699, (30, 700, 0, 0, 0, 0, 0, [])), (700, (1, 701, 0, 2, 0, 0, 0, [])), (701, (1, 702, 3, 0, 0, 0, 0, [])), (702, (0, 703, 0, 0, 0, 0, 4, [])), (703, (4, 704, 0, 0, 0, 0, 0, []))]
noncomputable def tl22 : List (Nat × II) := [(704, (30, 705, 0, 0, 0, 0, 0, [])), (705, (20, 708, 195, 1, 0, 1262, 0, [(6, 5), (0, 48), (0, 0), (0, 0), (0, 0), (0, 0)])), (708, (11, 711, 0, 1790, 0, 0, 0, [])), (711, (0, 712, 0, 0, 0, 0, 0, [])), (712, (21, 713, 2, 0, 3, 0, 0, [])), (713, (1, 714, 1, 2, 0, 0, 0, [])), (714, (1, 715, 0, 2, 0, 0, 0, [])), (715, (1, 716, 3, 0, 0, 0, 0, [])), (716, (0, 717, 0, 0, 0, 0, 1, [])), (717, (4, 718, 0, 0, 0, 0, 0, [])), (718, (30, 719, 0, 0, 0, 0, 0, [])), (719, (1, 720, 0, 2, 0, 0, 0, [])), (720, (1, 721, 3, 0, 0, 0, 0, [])), (721, (0, 722, 0, 0, 0, 0, 2, [])), (722, (4, 723, 0, 0, 0, 0, 0, [])), (723, (30, 724, 0, 0, 0, 0, 0, [])), (724, (20, 727, 114, 1, 0, 562, 0, [(5, 3), (0, 47), (0, 0), (0, 0)])), (727, (1, 728, 2, 2, 0, 0, 0, [])), (728, (1, 729, 0, 2, 0, 0, 0, [])), (729, (1, 730, 3, 0, 0, 0, 0, [])), (730, (0, 731, 0, 0, 0, 0, 1, [])), (731, (4, 732, 0, 0, 0, 0, 0, [])), (732, (30, 733, 0, 0, 0, 0, 0, [])), (733, (1, 734, 0, 2, 0, 0, 0, [])), (734, (1, 735, 3, 0, 0, 0, 0, [])), (735, (0, 736, 0, 0, 0, 0, 2, []))]
noncomputable def tl23 : List (Nat × II) := [(736, (4, 737, 0, 0, 0, 0, 0, [])), (737, (30, 738, 0, 0, 0, 0, 0, [])), (738, (20, 741, 196, 1, 0, 1274, 0, [(4, 3), (0, 48), (0, 0), (0, 0)])), (741, (11, 744, 0, 1790, 0, 0, 0, [])), (744, (0, 745, 0, 0, 0, 0, 0, [])), (745, (21, 746, 2, 0, 3, 0, 0, [])), (746, (1, 747, 1, 2, 0, 0, 0, [])), (747, (20, 750, 115, 1, 0, 566, 0, [(1, 1), (0, 47)])), (750, (1, 751, 2, 2, 0, 0, 0, [])), (751, (20, 754, 197, 1, 0, 1278, 0, [(4, 1), (0, 48)])), (754, (11, 757, 0, 1790, 0, 0, 0, [])), (757, (0, 758, 0, 0, 0, 0, 0, [])), (758, (21, 759, 2, 0, 3, 0, 0, [])), (759, (1, 760, 1, 2, 0, 0, 0, [])), (760, (1, 761, 0, 2, 0, 0, 0, [])), (761, (1, 762, 3, 0, 0, 0, 0, [])), (762, (0, 763, 0, 0, 0, 0, 1, [])), (763, (4, 764, 0, 0, 0, 0, 0, [])), (764, (30, 765, 0, 0, 0, 0, 0, [])), (765, (1, 766, 0, 2, 0, 0, 0, [])), (766, (1, 767, 3, 0, 0, 0, 0, [])), (767, (0, 768, 0, 0, 0, 0, 2, []))]
noncomputable def tl24 : List (Nat × II) := [(768, (4, 769, 0, 0, 0, 0, 0, [])), (769, (30, 770, 0, 0, 0, 0, 0, [])), (770, (20, 773, 116, 1, 0, 592, 0, [(4, 3), (0, 47), (0, 0), (0, 0)])), (773, (1, 774, 2, 2, 0, 0, 0, [])), (774, (1, 775, 0, 2, 0, 0, 0, [])), (775, (1, 776, 3, 0, 0, 0, 0, [])), (776, (0, 777, 0, 0, 0, 0, 1, [])), (777, (4, 778, 0, 0, 0, 0, 0, [])), (778, (30, 779, 0, 0, 0, 0, 0, [])), (779, (1, 780, 0, 2, 0, 0, 0, [])), (780, (1, 781, 3, 0, 0, 0, 0, [])), (781, (0, 782, 0, 0, 0, 0, 2, [])), (782, (4, 783, 0, 0, 0, 0, 0, [])), (783, (30, 784, 0, 0, 0, 0, 0, [])), (784, (20, 787, 200, 1, 0, 1286, 0, [(3, 3), (0, 48), (0, 0), (0, 0)])), (787, (11, 790, 0, 1790, 0, 0, 0, [])), (790, (0, 791, 0, 0, 0, 0, 0, [])), (791, (21, 792, 2, 0, 3, 0, 0, [])), (792, (1, 793, 1, 2, 0, 0, 0, [])), (793, (1, 794, 0, 2, 0, 0, 0, [])), (794, (1, 795, 3, 0, 0, 0, 0, [])), (795, (0, 796, 0, 0, 0, 0, 1, [])), (796, (4, 797, 0, 0, 0, 0, 0, [])), (797, (30, 798, 0, 0, 0, 0, 0, [])), (798, (1, 799, 0, 2, 0, 0, 0, [])), (799, (1, 800, 3, 0, 0, 0, 0, []))]
noncomputable def tl25 : List (Nat × II) := [(800, (0, 801, 0, 0, 0, 0, 2, [])), (801, (4, 802, 0, 0, 0, 0, 0, [])), (802, (30, 803, 0, 0, 0, 0, 0, [])), (803, (1, 804, 0, 2, 0, 0, 0, [])), (804, (1, 805, 3, 0, 0, 0, 0, [])), (805, (0, 806, 0, 0, 0, 0, 3, [])), (806, (4, 807, 0, 0, 0, 0, 0, [])), (807, (30, 808, 0, 0, 0, 0, 0, [])), (808, (20, 811, 117, 1, 0, 616, 0, [(5, 4), (0, 47), (0, 0), (0, 0), (0, 0)])), (811, (1, 812, 2, 2, 0, 0, 0, [])), (812, (1, 813, 0, 2, 0, 0, 0, [])), (813, (1, 814, 3, 0, 0, 0, 0, [])), (814, (0, 815, 0, 0, 0, 0, 1, [])), (815, (4, 816, 0, 0, 0, 0, 0, [])), (816, (30, 817, 0, 0, 0, 0, 0, [])), (817, (1, 818, 0, 2, 0, 0, 0, [])), (818, (1, 819, 3, 0, 0, 0, 0, [])), (819, (0, 820, 0, 0, 0, 0, 2, [])), (820, (4, 821, 0, 0, 0, 0, 0, [])), (821, (30, 822, 0, 0, 0, 0, 0, [])), (822, (1, 823, 0, 2, 0, 0, 0, [])), (823, (1, 824, 3, 0, 0, 0, 0, [])), (824, (0, 825, 0, 0, 0, 0, 3, [])), (825, (4, 826, 0, 0, 0, 0, 0, [])), (826, (30, 827, 0, 0, 0, 0, 0, [])), (827, (20, 830, 201, 1, 0, 1298, 0, [(4, 4), (0, 48), (0, 0), (0, 0), (0, 0)])), (830, (11, 833, 0, 1790, 0, 0, 0, []))]
noncomputable def tl26 : List (Nat × II) := [(833, (0, 834, 0, 0, 0, 0, 0, [])), (834, (21, 835, 2, 0, 3, 0, 0, [])), (835, (1, 836, 1, 2, 0, 0, 0, [])), (836, (1, 837, 0, 2, 0, 0, 0, [])), (837, (1, 838, 3, 0, 0, 0, 0, [])), (838, (0, 839, 0, 0, 0, 0, 1, [])), (839, (4, 840, 0, 0, 0, 0, 0, [])), (840, (30, 841, 0, 0, 0, 0, 0, [])), (841, (1, 842, 0, 2, 0, 0, 0, [])), (842, (1, 843, 3, 0, 0, 0, 0, [])), (843, (0, 844, 0, 0, 0, 0, 2, [])), (844, (4, 845, 0, 0, 0, 0, 0, [])), (845, (30, 846, 0, 0, 0, 0, 0, [])), (846, (1, 847, 0, 2, 0, 0, 0, [])), (847, (1, 848, 3, 0, 0, 0, 0, [])), (848, (0, 849, 0, 0, 0, 0, 3, [])), (849, (4, 850, 0, 0, 0, 0, 0, [])), (850, (30, 851, 0, 0, 0, 0, 0, [])), (851, (20, 854, 118, 1, 0, 624, 0, [(5, 4), (0, 47), (0, 0), (0, 0), (0, 0)])), (854, (1, 855, 2, 2, 0, 0, 0, [])), (855, (1, 856, 0, 2, 0, 0, 0, [])), (856, (1, 857, 3, 0, 0, 0, 0, [])), (857, (0, 858, 0, 0, 0, 0, 1, [])), (858, (4, 859, 0, 0, 0, 0, 0, [])), (859, (30, 860, 0, 0, 0, 0, 0, [])), (860, (1, 861, 0, 2, 0, 0, 0, [])), (861, (1, 862, 3, 0, 0, 0, 0, [])), (862, (0, 863, 0, 0, 0, 0, 2, [])), (863, (4, 864, 0, 0, 0, 0, 0, []))]
noncomputable def tl27 : List (Nat × II) := [(864, (30, 865, 0, 0, 0, 0, 0, [])), (865, (1, 866, 0, 2, 0, 0, 0, [])), (866, (1, 867, 3, 0, 0, 0, 0, [])), (867, (0, 868, 0, 0, 0, 0, 3, [])), (868, (4, 869, 0, 0, 0, 0, 0, [])), (869, (30, 870, 0, 0, 0, 0, 0, [])), (870, (20, 873, 202, 1, 0, 1302, 0, [(5, 4), (0, 48), (0, 0), (0, 0), (0, 0)])), (873, (11, 876, 0, 1790, 0, 0, 0, [])), (876, (0, 877, 0, 0, 0, 0, 0, [])), (877, (21, 878, 2, 0, 3, 0, 0, [])), (878, (1, 879, 1, 2, 0, 0, 0, [])), (879, (1, 880, 0, 2, 0, 0, 0, [])), (880, (1, 881, 3, 0, 0, 0, 0, [])), (881, (0, 882, 0, 0, 0, 0, 1, [])), (882, (4, 883, 0, 0, 0, 0, 0, [])), (883, (30, 884, 0, 0, 0, 0, 0, [])), (884, (1, 885, 0, 2, 0, 0, 0, [])), (885, (1, 886, 3, 0, 0, 0, 0, [])), (886, (0, 887, 0, 0, 0, 0, 2, [])), (887, (4, 888, 0, 0, 0, 0, 0, [])), (888, (30, 889, 0, 0, 0, 0, 0, [])), (889, (1, 890, 0, 2, 0, 0, 0, [])), (890, (1, 891, 3, 0, 0, 0, 0, [])), (891, (0, 892, 0, 0, 0, 0, 3, [])), (892, (4, 893, 0, 0, 0, 0, 0, [])), (893, (30, 894, 0, 0, 0, 0, 0, [])), (894, (1, 895, 0, 2, 0, 0, 0, [])), (895, (1, 896, 3, 0, 0, 0, 0, []))]
noncomputable def tl28 : List (Nat × II) := [(896, (0, 897, 0, 0, 0, 0, 4, [])), (897, (4, 898, 0, 0, 0, 0, 0, [])), (898, (30, 899, 0, 0, 0, 0, 0, [])), (899, (20, 902, 119, 1, 0, 632, 0, [(8, 5), (0, 47), (0, 0), (0, 0), (0, 0), (0, 0)])), (902, (1, 903, 2, 2, 0, 0, 0, [])), (903, (1, 904, 0, 2, 0, 0, 0, [])), (904, (1, 905, 3, 0, 0, 0, 0, [])), (905, (0, 906, 0, 0, 0, 0, 1, [])), (906, (4, 907, 0, 0, 0, 0, 0, [])), (907, (30, 908, 0, 0, 0, 0, 0, [])), (908, (1, 909, 0, 2, 0, 0, 0, [])), (909, (1, 910, 3, 0, 0, 0, 0, [])), (910, (0, 911, 0, 0, 0, 0, 2, [])), (911, (4, 912, 0, 0, 0, 0, 0, [])), (912, (30, 913, 0, 0, 0, 0, 0, [])), (913, (1, 914, 0, 2, 0, 0, 0, [])), (914, (1, 915, 3, 0, 0, 0, 0, [])), (915, (0, 916, 0, 0, 0, 0, 3, [])), (916, (4, 917, 0, 0, 0, 0, 0, [])), (917, (30, 918, 0, 0, 0, 0, 0, [])), (918, (1, 919, 0, 2, 0, 0, 0, [])), (919, (1, 920, 3, 0, 0, 0, 0, [])), (920, (0, 921, 0, 0, 0, 0, 4, [])), (921, (4, 922, 0, 0, 0, 0, 0, [])), (922, (30, 923, 0, 0, 0, 0, 0, [])), (923, (20, 926, 203, 1, 0, 1306, 0, [(6, 5), (0, 48), (0, 0), (0, 0), (0, 0), (0, 0)])), (926, (11, 929, 0, 1790, 0, 0, 0, []))]
noncomputable def tl29 : List (Nat × II) := [(929, (0, 930, 0, 0, 0, 0, 0, [])), (930, (21, 931, 2, 0, 3, 0, 0, [])), (931, (1, 932, 1, 2, 0, 0, 0, [])), (932, (1, 933, 0, 2, 0, 0, 0, [])), (933, (1, 934, 3, 0, 0, 0, 0, [])), (934, (0, 935, 0, 0, 0, 0, 1, [])), (935, (4, 936, 0, 0, 0, 0, 0, [])), (936, (30, 937, 0, 0, 0, 0, 0, [])), (937, (1, 938, 0, 2, 0, 0, 0, [])), (938, (1, 939, 3, 0, 0, 0, 0, [])), (939, (0, 940, 0, 0, 0, 0, 2, [])), (940, (4, 941, 0, 0, 0, 0, 0, [])), (941, (30, 942, 0, 0, 0, 0, 0, [])), (942, (20, 945, 120, 1, 0, 636, 0, [(4, 3), (0, 47), (0, 0), (0, 0)])), (945, (1, 946, 2, 2, 0, 0, 0, [])), (946, (1, 947, 0, 2, 0, 0, 0, [])), (947, (1, 948, 3, 0, 0, 0, 0, [])), (948, (0, 949, 0, 0, 0, 0, 1, [])), (949, (4, 950, 0, 0, 0, 0, 0, [])), (950, (30, 951, 0, 0, 0, 0, 0, [])), (951, (1, 952, 0, 2, 0, 0, 0, [])), (952, (1, 953, 3, 0, 0, 0, 0, [])), (953, (0, 954, 0, 0, 0, 0, 2, [])), (954, (4, 955, 0, 0, 0, 0, 0, [])), (955, (30, 956, 0, 0, 0, 0, 0, [])), (956, (20, 959, 208, 1, 0, 1310, 0, [(4, 3), (0, 48), (0, 0), (0, 0)])), (959, (11, 962, 0, 1790, 0, 0, 0, []))]
noncomputable def tl30 : List (Nat × II) := [(962, (0, 963, 0, 0, 0, 0, 0, [])), (963, (21, 964, 2, 0, 3, 0, 0, [])), (964, (1, 965, 1, 2, 0, 0, 0, [])), (965, (1, 966, 0, 2, 0, 0, 0, [])), (966, (1, 967, 3, 0, 0, 0, 0, [])), (967, (0, 968, 0, 0, 0, 0, 1, [])), (968, (4, 969, 0, 0, 0, 0, 0, [])), (969, (30, 970, 0, 0, 0, 0, 0, [])), (970, (1, 971, 0, 2, 0, 0, 0, [])), (971, (1, 972, 3, 0, 0, 0, 0, [])), (972, (0, 973, 0, 0, 0, 0, 2, [])), (973, (4, 974, 0, 0, 0, 0, 0, [])), (974, (30, 975, 0, 0, 0, 0, 0, [])), (975, (1, 976, 0, 2, 0, 0, 0, [])), (976, (1, 977, 3, 0, 0, 0, 0, [])), (977, (0, 978, 0, 0, 0, 0, 3, [])), (978, (4, 979, 0, 0, 0, 0, 0, [])), (979, (30, 980, 0, 0, 0, 0, 0, [])), (980, (20, 983, 121, 1, 1, 650, 0, [(5, 4), (0, 47), (0, 0), (0, 0), (0, 0)])), (983, (1, 984, 2, 2, 0, 0, 0, [])), (984, (1, 985, 0, 2, 0, 0, 0, [])), (985, (1, 986, 3, 0, 0, 0, 0, [])), (986, (0, 987, 0, 0, 0, 0, 1, [])), (987, (4, 988, 0, 0, 0, 0, 0, [])), (988, (30, 989, 0, 0, 0, 0, 0, [])), (989, (1, 990, 0, 2, 0, 0, 0, [])), (990, (1, 991, 3, 0, 0, 0, 0, [])), (991, (0, 992, 0, 0, 0, 0, 2, []))]
noncomputable def tl31 : List (Nat × II) := [(992, (4, 993, 0, 0, 0, 0, 0, [])), (993, (30, 994, 0, 0, 0, 0, 0, [])), (994, (1, 995, 0, 2, 0, 0, 0, [])), (995, (1, 996, 3, 0, 0, 0, 0, [])), (996, (0, 997, 0, 0, 0, 0, 3, [])), (997, (4, 998, 0, 0, 0, 0, 0, [])), (998, (30, 999, 0, 0, 0, 0, 0, [])), (999, (20, 1002, 214, 1, 1, 1330, 0, [(5, 4), (0, 48), (0, 0), (0, 0), (0, 0)])), (1002, (8, 1003, 0, 0, 0, 0, 0, [])), (1003, (10, 1006, 0, 1790, 0, 0, 0, [])), (1006, (0, 1007, 0, 0, 0, 0, 0, [])), (1007, (21, 1008, 2, 0, 3, 0, 0, [])), (1008, (1, 1009, 1, 2, 0, 0, 0, [])), (1009, (1, 1010, 0, 2, 0, 0, 0, [])), (1010, (1, 1011, 3, 0, 0, 0, 0, [])), (1011, (0, 1012, 0, 0, 0, 0, 1, [])), (1012, (4, 1013, 0, 0, 0, 0, 0, [])), (1013, (30, 1014, 0, 0, 0, 0, 0, [])), (1014, (1, 1015, 0, 2, 0, 0, 0, [])), (1015, (1, 1016, 3, 0, 0, 0, 0, [])), (1016, (0, 1017, 0, 0, 0, 0, 2, [])), (1017, (4, 1018, 0, 0, 0, 0, 0, [])), (1018, (30, 1019, 0, 0, 0, 0, 0, [])), (1019, (1, 1020, 0, 2, 0, 0, 0, [])), (1020, (1, 1021, 3, 0, 0, 0, 0, [])), (1021, (0, 1022, 0, 0, 0, 0, 3, [])), (1022, (4, 1023, 0, 0, 0, 0, 0, [])), (1023, (30, 1024, 0, 0, 0, 0, 0, []))]
noncomputable def tl32 : List (Nat × II) := [(1024, (20, 1027, 122, 1, 0, 687, 0, [(5, 4), (0, 47), (0, 0), (0, 0), (0, 0)])), (1027, (1, 1028, 2, 2, 0, 0, 0, [])), (1028, (1, 1029, 0, 2, 0, 0, 0, [])), (1029, (1, 1030, 3, 0, 0, 0, 0, [])), (1030, (0, 1031, 0, 0, 0, 0, 1, [])), (1031, (4, 1032, 0, 0, 0, 0, 0, [])), (1032, (30, 1033, 0, 0, 0, 0, 0, [])), (1033, (1, 1034, 0, 2, 0, 0, 0, [])), (1034, (1, 1035, 3, 0, 0, 0, 0, [])), (1035, (0, 1036, 0, 0, 0, 0, 2, [])), (1036, (4, 1037, 0, 0, 0, 0, 0, [])), (1037, (30, 1038, 0, 0, 0, 0, 0, [])), (1038, (1, 1039, 0, 2, 0, 0, 0, [])), (1039, (1, 1040, 3, 0, 0, 0, 0, [])), (1040, (0, 1041, 0, 0, 0, 0, 3, [])), (1041, (4, 1042, 0, 0, 0, 0, 0, [])), (1042, (30, 1043, 0, 0, 0, 0, 0, [])), (1043, (20, 1046, 218, 1, 0, 1356, 0, [(5, 4), (0, 48), (0, 0), (0, 0), (0, 0)])), (1046, (11, 1049, 0, 1790, 0, 0, 0, [])), (1049, (0, 1050, 0, 0, 0, 0, 0, [])), (1050, (21, 1051, 2, 0, 3, 0, 0, [])), (1051, (1, 1052, 1, 2, 0, 0, 0, [])), (1052, (1, 1053, 0, 2, 0, 0, 0, [])), (1053, (1, 1054, 3, 0, 0, 0, 0, [])), (1054, (0, 1055, 0, 0, 0, 0, 1, [])), (1055, (4, 1056, 0, 0, 0, 0, 0, []))]
noncomputable def tl33 : List (Nat × II) := [(1056, (30, 1057, 0, 0, 0, 0, 0, [])), (1057, (20, 1060, 123, 1, 0, 713, 0, [(3, 2), (0, 47), (0, 0)])), (1060, (1, 1061, 2, 2, 0, 0, 0, [])), (1061, (1, 1062, 0, 2, 0, 0, 0, [])), (1062, (1, 1063, 3, 0, 0, 0, 0, [])), (1063, (0, 1064, 0, 0, 0, 0, 1, [])), (1064, (4, 1065, 0, 0, 0, 0, 0, [])), (1065, (30, 1066, 0, 0, 0, 0, 0, [])), (1066, (20, 1069, 219, 1, 0, 1371, 0, [(3, 2), (0, 48), (0, 0)])), (1069, (11, 1072, 0, 1790, 0, 0, 0, [])), (1072, (0, 1073, 0, 0, 0, 0, 0, [])), (1073, (21, 1074, 2, 0, 3, 0, 0, [])), (1074, (1, 1075, 1, 2, 0, 0, 0, [])), (1075, (1, 1076, 0, 2, 0, 0, 0, [])), (1076, (1, 1077, 3, 0, 0, 0, 0, [])), (1077, (0, 1078, 0, 0, 0, 0, 1, [])), (1078, (4, 1079, 0, 0, 0, 0, 0, [])), (1079, (30, 1080, 0, 0, 0, 0, 0, [])), (1080, (1, 1081, 0, 2, 0, 0, 0, [])), (1081, (1, 1082, 3, 0, 0, 0, 0, [])), (1082, (0, 1083, 0, 0, 0, 0, 2, [])), (1083, (4, 1084, 0, 0, 0, 0, 0, [])), (1084, (30, 1085, 0, 0, 0, 0, 0, [])), (1085, (20, 1088, 124, 1, 0, 717, 0, [(4, 3), (0, 47), (0, 0), (0, 0)]))]
noncomputable def tl34 : List (Nat × II) := [(1088, (1, 1089, 2, 2, 0, 0, 0, [])), (1089, (1, 1090, 0, 2, 0, 0, 0, [])), (1090, (1, 1091, 3, 0, 0, 0, 0, [])), (1091, (0, 1092, 0, 0, 0, 0, 1, [])), (1092, (4, 1093, 0, 0, 0, 0, 0, [])), (1093, (30, 1094, 0, 0, 0, 0, 0, [])), (1094, (1, 1095, 0, 2, 0, 0, 0, [])), (1095, (1, 1096, 3, 0, 0, 0, 0, [])), (1096, (0, 1097, 0, 0, 0, 0, 2, [])), (1097, (4, 1098, 0, 0, 0, 0, 0, [])), (1098, (30, 1099, 0, 0, 0, 0, 0, [])), (1099, (20, 1102, 221, 1, 0, 1375, 0, [(4, 3), (0, 48), (0, 0), (0, 0)])), (1102, (11, 1105, 0, 1790, 0, 0, 0, [])), (1105, (0, 1106, 0, 0, 0, 0, 0, [])), (1106, (21, 1107, 2, 0, 3, 0, 0, [])), (1107, (1, 1108, 1, 2, 0, 0, 0, [])), (1108, (1, 1109, 0, 2, 0, 0, 0, [])), (1109, (1, 1110, 3, 0, 0, 0, 0, [])), (1110, (0, 1111, 0, 0, 0, 0, 1, [])), (1111, (4, 1112, 0, 0, 0, 0, 0, [])), (1112, (30, 1113, 0, 0, 0, 0, 0, [])), (1113, (1, 1114, 0, 2, 0, 0, 0, [])), (1114, (1, 1115, 3, 0, 0, 0, 0, [])), (1115, (0, 1116, 0, 0, 0, 0, 2, [])), (1116, (4, 1117, 0, 0, 0, 0, 0, [])), (1117, (30, 1118, 0, 0, 0, 0, 0, [])), (1118, (20, 1121, 125, 1, 0, 725, 0, [(4, 3), (0, 47), (0, 0), (0, 0)]))]
noncomputable def tl35 : List (Nat × II) := [(1121, (1, 1122, 2, 2, 0, 0, 0, [])), (1122, (1, 1123, 0, 2, 0, 0, 0, [])), (1123, (1, 1124, 3, 0, 0, 0, 0, [])), (1124, (0, 1125, 0, 0, 0, 0, 1, [])), (1125, (4, 1126, 0, 0, 0, 0, 0, [])), (1126, (30, 1127, 0, 0, 0, 0, 0, [])), (1127, (1, 1128, 0, 2, 0, 0, 0, [])), (1128, (1, 1129, 3, 0, 0, 0, 0, [])), (1129, (0, 1130, 0, 0, 0, 0, 2, [])), (1130, (4, 1131, 0, 0, 0, 0, 0, [])), (1131, (30, 1132, 0, 0, 0, 0, 0, [])), (1132, (20, 1135, 224, 1, 0, 1383, 0, [(6, 3), (0, 48), (0, 0), (0, 0)])), (1135, (11, 1138, 0, 1790, 0, 0, 0, [])), (1138, (0, 1139, 0, 0, 0, 0, 0, [])), (1139, (21, 1140, 2, 0, 3, 0, 0, [])), (1140, (1, 1141, 1, 2, 0, 0, 0, [])), (1141, (1, 1142, 0, 2, 0, 0, 0, [])), (1142, (1, 1143, 3, 0, 0, 0, 0, [])), (1143, (0, 1144, 0, 0, 0, 0, 1, [])), (1144, (4, 1145, 0, 0, 0, 0, 0, [])), (1145, (30, 1146, 0, 0, 0, 0, 0, [])), (1146, (1, 1147, 0, 2, 0, 0, 0, [])), (1147, (1, 1148, 3, 0, 0, 0, 0, [])), (1148, (0, 1149, 0, 0, 0, 0, 2, [])), (1149, (4, 1150, 0, 0, 0, 0, 0, [])), (1150, (30, 1151, 0, 0, 0, 0, 0, [])), (1151, (20, 1154, 126, 1, 0, 746, 0, [(3, 3), (0, 47), (0, 0), (0, 0)]))]
noncomputable def tl36 : List (Nat × II) := [(1154, (1, 1155, 2, 2, 0, 0, 0, [])), (1155, (1, 1156, 0, 2, 0, 0, 0, [])), (1156, (1, 1157, 3, 0, 0, 0, 0, [])), (1157, (0, 1158, 0, 0, 0, 0, 1, [])), (1158, (4, 1159, 0, 0, 0, 0, 0, [])), (1159, (30, 1160, 0, 0, 0, 0, 0, [])), (1160, (1, 1161, 0, 2, 0, 0, 0, [])), (1161, (1, 1162, 3, 0, 0, 0, 0, [])), (1162, (0, 1163, 0, 0, 0, 0, 2, [])), (1163, (4, 1164, 0, 0, 0, 0, 0, [])), (1164, (30, 1165, 0, 0, 0, 0, 0, [])), (1165, (20, 1168, 225, 1, 0, 1395, 0, [(5, 3), (0, 48), (0, 0), (0, 0)])), (1168, (11, 1171, 0, 1790, 0, 0, 0, [])), (1171, (0, 1172, 0, 0, 0, 0, 0, [])), (1172, (21, 1173, 2, 0, 3, 0, 0, [])), (1173, (1, 1174, 1, 2, 0, 0, 0, [])), (1174, (1, 1175, 0, 2, 0, 0, 0, [])), (1175, (1, 1176, 3, 0, 0, 0, 0, [])), (1176, (0, 1177, 0, 0, 0, 0, 1, [])), (1177, (4, 1178, 0, 0, 0, 0, 0, [])), (1178, (30, 1179, 0, 0, 0, 0, 0, [])), (1179, (20, 1182, 127, 1, 0, 756, 0, [(3, 2), (0, 47), (0, 0)])), (1182, (1, 1183, 2, 2, 0, 0, 0, [])), (1183, (1, 1184, 0, 2, 0, 0, 0, []))]
noncomputable def tl37 : List (Nat × II) := [(1184, (1, 1185, 3, 0, 0, 0, 0, [])), (1185, (0, 1186, 0, 0, 0, 0, 1, [])), (1186, (4, 1187, 0, 0, 0, 0, 0, [])), (1187, (30, 1188, 0, 0, 0, 0, 0, [])), (1188, (20, 1191, 231, 1, 0, 1399, 0, [(3, 2), (0, 48), (0, 0)])), (1191, (11, 1194, 0, 1790, 0, 0, 0, [])), (1194, (0, 1195, 0, 0, 0, 0, 0, [])), (1195, (21, 1196, 2, 0, 3, 0, 0, [])), (1196, (1, 1197, 1, 2, 0, 0, 0, [])), (1197, (1, 1198, 0, 2, 0, 0, 0, [])), (1198, (1, 1199, 3, 0, 0, 0, 0, [])), (1199, (0, 1200, 0, 0, 0, 0, 1, [])), (1200, (4, 1201, 0, 0, 0, 0, 0, [])), (1201, (30, 1202, 0, 0, 0, 0, 0, [])), (1202, (1, 1203, 0, 2, 0, 0, 0, [])), (1203, (1, 1204, 3, 0, 0, 0, 0, [])), (1204, (0, 1205, 0, 0, 0, 0, 2, [])), (1205, (4, 1206, 0, 0, 0, 0, 0, [])), (1206, (30, 1207, 0, 0, 0, 0, 0, [])), (1207, (1, 1208, 0, 2, 0, 0, 0, [])), (1208, (1, 1209, 3, 0, 0, 0, 0, [])), (1209, (0, 1210, 0, 0, 0, 0, 3, [])), (1210, (4, 1211, 0, 0, 0, 0, 0, [])), (1211, (30, 1212, 0, 0, 0, 0, 0, [])), (1212, (20, 1215, 128, 1, 0, 787, 0, [(5, 4), (0, 47), (0, 0), (0, 0), (0, 0)])), (1215, (1, 1216, 2, 2, 0, 0, 0, []))]
noncomputable def tl38 : List (Nat × II) := [(1216, (1, 1217, 0, 2, 0, 0, 0, [])), (1217, (1, 1218, 3, 0, 0, 0, 0, [])), (1218, (0, 1219, 0, 0, 0, 0, 1, [])), (1219, (4, 1220, 0, 0, 0, 0, 0, [])), (1220, (30, 1221, 0, 0, 0, 0, 0, [])), (1221, (1, 1222, 0, 2, 0, 0, 0, [])), (1222, (1, 1223, 3, 0, 0, 0, 0, [])), (1223, (0, 1224, 0, 0, 0, 0, 2, [])), (1224, (4, 1225, 0, 0, 0, 0, 0, [])), (1225, (30, 1226, 0, 0, 0, 0, 0, [])), (1226, (1, 1227, 0, 2, 0, 0, 0, [])), (1227, (1, 1228, 3, 0, 0, 0, 0, [])), (1228, (0, 1229, 0, 0, 0, 0, 3, [])), (1229, (4, 1230, 0, 0, 0, 0, 0, [])), (1230, (30, 1231, 0, 0, 0, 0, 0, [])), (1231, (20, 1234, 232, 1, 0, 1422, 0, [(4, 4), (0, 48), (0, 0), (0, 0), (0, 0)])), (1234, (11, 1237, 0, 1790, 0, 0, 0, [])), (1237, (0, 1238, 0, 0, 0, 0, 0, [])), (1238, (21, 1239, 2, 0, 3, 0, 0, [])), (1239, (1, 1240, 1, 2, 0, 0, 0, [])), (1240, (1, 1241, 0, 2, 0, 0, 0, [])), (1241, (1, 1242, 3, 0, 0, 0, 0, [])), (1242, (0, 1243, 0, 0, 0, 0, 1, [])), (1243, (4, 1244, 0, 0, 0, 0, 0, [])), (1244, (30, 1245, 0, 0, 0, 0, 0, [])), (1245, (1, 1246, 0, 2, 0, 0, 0, [])), (1246, (1, 1247, 3, 0, 0, 0, 0, [])), (1247, (0, 1248, 0, 0, 0, 0, 2, []))]
noncomputable def tl39 : List (Nat × II) := [(1248, (4, 1249, 0, 0, 0, 0, 0, [])), (1249, (30, 1250, 0, 0, 0, 0, 0, [])), (1250, (20, 1253, 129, 1, 0, 796, 0, [(4, 3), (0, 47), (0, 0), (0, 0)])), (1253, (1, 1254, 2, 2, 0, 0, 0, [])), (1254, (1, 1255, 0, 2, 0, 0, 0, [])), (1255, (1, 1256, 3, 0, 0, 0, 0, [])), (1256, (0, 1257, 0, 0, 0, 0, 1, [])), (1257, (4, 1258, 0, 0, 0, 0, 0, [])), (1258, (30, 1259, 0, 0, 0, 0, 0, [])), (1259, (1, 1260, 0, 2, 0, 0, 0, [])), (1260, (1, 1261, 3, 0, 0, 0, 0, [])), (1261, (0, 1262, 0, 0, 0, 0, 2, [])), (1262, (4, 1263, 0, 0, 0, 0, 0, [])), (1263, (30, 1264, 0, 0, 0, 0, 0, [])), (1264, (20, 1267, 243, 1, 0, 1426, 0, [(3, 3), (0, 48), (0, 0), (0, 0)])), (1267, (11, 1270, 0, 1790, 0, 0, 0, [])), (1270, (0, 1271, 0, 0, 0, 0, 0, [])), (1271, (21, 1272, 2, 0, 3, 0, 0, [])), (1272, (1, 1273, 1, 2, 0, 0, 0, [])), (1273, (1, 1274, 0, 2, 0, 0, 0, [])), (1274, (1, 1275, 3, 0, 0, 0, 0, [])), (1275, (0, 1276, 0, 0, 0, 0, 1, [])), (1276, (4, 1277, 0, 0, 0, 0, 0, [])), (1277, (30, 1278, 0, 0, 0, 0, 0, [])), (1278, (1, 1279, 0, 2, 0, 0, 0, [])), (1279, (1, 1280, 3, 0, 0, 0, 0, []))]
noncomputable def tl40 : List (Nat × II) := [(1280, (0, 1281, 0, 0, 0, 0, 2, [])), (1281, (4, 1282, 0, 0, 0, 0, 0, [])), (1282, (30, 1283, 0, 0, 0, 0, 0, [])), (1283, (20, 1286, 130, 1, 0, 831, 0, [(4, 3), (0, 47), (0, 0), (0, 0)])), (1286, (1, 1287, 2, 2, 0, 0, 0, [])), (1287, (1, 1288, 0, 2, 0, 0, 0, [])), (1288, (1, 1289, 3, 0, 0, 0, 0, [])), (1289, (0, 1290, 0, 0, 0, 0, 1, [])), (1290, (4, 1291, 0, 0, 0, 0, 0, [])), (1291, (30, 1292, 0, 0, 0, 0, 0, [])), (1292, (1, 1293, 0, 2, 0, 0, 0, [])), (1293, (1, 1294, 3, 0, 0, 0, 0, [])), (1294, (0, 1295, 0, 0, 0, 0, 2, [])), (1295, (4, 1296, 0, 0, 0, 0, 0, [])), (1296, (30, 1297, 0, 0, 0, 0, 0, [])), (1297, (20, 1300, 244, 1, 0, 1465, 0, [(3, 3), (0, 48), (0, 0), (0, 0)])), (1300, (11, 1303, 0, 1790, 0, 0, 0, [])), (1303, (0, 1304, 0, 0, 0, 0, 0, [])), (1304, (21, 1305, 2, 0, 3, 0, 0, [])), (1305, (1, 1306, 1, 2, 0, 0, 0, [])), (1306, (1, 1307, 0, 2, 0, 0, 0, [])), (1307, (1, 1308, 3, 0, 0, 0, 0, [])), (1308, (0, 1309, 0, 0, 0, 0, 1, [])), (1309, (4, 1310, 0, 0, 0, 0, 0, [])), (1310, (30, 1311, 0, 0, 0, 0, 0, [])), (1311, (1, 1312, 0, 2, 0, 0, 0, []))]
noncomputable def tl41 : List (Nat × II) := [(1312, (1, 1313, 3, 0, 0, 0, 0, [])), (1313, (0, 1314, 0, 0, 0, 0, 2, [])), (1314, (4, 1315, 0, 0, 0, 0, 0, [])), (1315, (30, 1316, 0, 0, 0, 0, 0, [])), (1316, (20, 1319, 131, 1, 0, 844, 0, [(4, 3), (0, 47), (0, 0), (0, 0)])), (1319, (1, 1320, 2, 2, 0, 0, 0, [])), (1320, (1, 1321, 0, 2, 0, 0, 0, [])), (1321, (1, 1322, 3, 0, 0, 0, 0, [])), (1322, (0, 1323, 0, 0, 0, 0, 1, [])), (1323, (4, 1324, 0, 0, 0, 0, 0, [])), (1324, (30, 1325, 0, 0, 0, 0, 0, [])), (1325, (1, 1326, 0, 2, 0, 0, 0, [])), (1326, (1, 1327, 3, 0, 0, 0, 0, [])), (1327, (0, 1328, 0, 0, 0, 0, 2, [])), (1328, (4, 1329, 0, 0, 0, 0, 0, [])), (1329, (30, 1330, 0, 0, 0, 0, 0, [])), (1330, (20, 1333, 248, 1, 0, 1469, 0, [(3, 3), (0, 48), (0, 0), (0, 0)])), (1333, (11, 1336, 0, 1790, 0, 0, 0, [])), (1336, (0, 1337, 0, 0, 0, 0, 0, [])), (1337, (21, 1338, 2, 0, 3, 0, 0, [])), (1338, (1, 1339, 1, 2, 0, 0, 0, [])), (1339, (1, 1340, 0, 2, 0, 0, 0, [])), (1340, (1, 1341, 3, 0, 0, 0, 0, [])), (1341, (0, 1342, 0, 0, 0, 0, 1, [])), (1342, (4, 1343, 0, 0, 0, 0, 0, [])), (1343, (30, 1344, 0, 0, 0, 0, 0, []))]
noncomputable def tl42 : List (Nat × II) := [(1344, (1, 1345, 0, 2, 0, 0, 0, [])), (1345, (1, 1346, 3, 0, 0, 0, 0, [])), (1346, (0, 1347, 0, 0, 0, 0, 2, [])), (1347, (4, 1348, 0, 0, 0, 0, 0, [])), (1348, (30, 1349, 0, 0, 0, 0, 0, [])), (1349, (1, 1350, 0, 2, 0, 0, 0, [])), (1350, (1, 1351, 3, 0, 0, 0, 0, [])), (1351, (0, 1352, 0, 0, 0, 0, 3, [])), (1352, (4, 1353, 0, 0, 0, 0, 0, [])), (1353, (30, 1354, 0, 0, 0, 0, 0, [])), (1354, (20, 1357, 132, 1, 0, 861, 0, [(5, 4), (0, 47), (0, 0), (0, 0), (0, 0)])), (1357, (1, 1358, 2, 2, 0, 0, 0, [])), (1358, (1, 1359, 0, 2, 0, 0, 0, [])), (1359, (1, 1360, 3, 0, 0, 0, 0, [])), (1360, (0, 1361, 0, 0, 0, 0, 1, [])), (1361, (4, 1362, 0, 0, 0, 0, 0, [])), (1362, (30, 1363, 0, 0, 0, 0, 0, [])), (1363, (1, 1364, 0, 2, 0, 0, 0, [])), (1364, (1, 1365, 3, 0, 0, 0, 0, [])), (1365, (0, 1366, 0, 0, 0, 0, 2, [])), (1366, (4, 1367, 0, 0, 0, 0, 0, [])), (1367, (30, 1368, 0, 0, 0, 0, 0, [])), (1368, (1, 1369, 0, 2, 0, 0, 0, [])), (1369, (1, 1370, 3, 0, 0, 0, 0, [])), (1370, (0, 1371, 0, 0, 0, 0, 3, [])), (1371, (4, 1372, 0, 0, 0, 0, 0, [])), (1372, (30, 1373, 0, 0, 0, 0, 0, [])), (1373, (20, 1376, 249, 1, 0, 1485, 0, [(6, 4), (0, 48), (0, 0), (0, 0), (0, 0)]))]
noncomputable def tl43 : List (Nat × II) := [(1376, (11, 1379, 0, 1790, 0, 0, 0, [])), (1379, (0, 1380, 0, 0, 0, 0, 0, [])), (1380, (21, 1381, 2, 0, 3, 0, 0, [])), (1381, (1, 1382, 1, 2, 0, 0, 0, [])), (1382, (1, 1383, 0, 2, 0, 0, 0, [])), (1383, (1, 1384, 3, 0, 0, 0, 0, [])), (1384, (0, 1385, 0, 0, 0, 0, 1, [])), (1385, (4, 1386, 0, 0, 0, 0, 0, [])), (1386, (30, 1387, 0, 0, 0, 0, 0, [])), (1387, (1, 1388, 0, 2, 0, 0, 0, [])), (1388, (1, 1389, 3, 0, 0, 0, 0, [])), (1389, (0, 1390, 0, 0, 0, 0, 2, [])), (1390, (4, 1391, 0, 0, 0, 0, 0, [])), (1391, (30, 1392, 0, 0, 0, 0, 0, [])), (1392, (20, 1395, 133, 1, 0, 877, 0, [(4, 3), (0, 47), (0, 0), (0, 0)])), (1395, (1, 1396, 2, 2, 0, 0, 0, [])), (1396, (1, 1397, 0, 2, 0, 0, 0, [])), (1397, (1, 1398, 3, 0, 0, 0, 0, [])), (1398, (0, 1399, 0, 0, 0, 0, 1, [])), (1399, (4, 1400, 0, 0, 0, 0, 0, [])), (1400, (30, 1401, 0, 0, 0, 0, 0, [])), (1401, (1, 1402, 0, 2, 0, 0, 0, [])), (1402, (1, 1403, 3, 0, 0, 0, 0, [])), (1403, (0, 1404, 0, 0, 0, 0, 2, [])), (1404, (4, 1405, 0, 0, 0, 0, 0, [])), (1405, (30, 1406, 0, 0, 0, 0, 0, [])), (1406, (20, 1409, 250, 1, 0, 1489, 0, [(4, 3), (0, 48), (0, 0), (0, 0)]))]
noncomputable def tl44 : List (Nat × II) := [(1409, (11, 1412, 0, 1790, 0, 0, 0, [])), (1412, (0, 1413, 0, 0, 0, 0, 0, [])), (1413, (21, 1414, 2, 0, 3, 0, 0, [])), (1414, (1, 1415, 1, 2, 0, 0, 0, [])), (1415, (1, 1416, 0, 2, 0, 0, 0, [])), (1416, (1, 1417, 3, 0, 0, 0, 0, [])), (1417, (0, 1418, 0, 0, 0, 0, 1, [])), (1418, (4, 1419, 0, 0, 0, 0, 0, [])), (1419, (30, 1420, 0, 0, 0, 0, 0, [])), (1420, (20, 1423, 134, 1, 0, 881, 0, [(3, 2), (0, 47), (0, 0)])), (1423, (1, 1424, 2, 2, 0, 0, 0, [])), (1424, (1, 1425, 0, 2, 0, 0, 0, [])), (1425, (1, 1426, 3, 0, 0, 0, 0, [])), (1426, (0, 1427, 0, 0, 0, 0, 1, [])), (1427, (4, 1428, 0, 0, 0, 0, 0, [])), (1428, (30, 1429, 0, 0, 0, 0, 0, [])), (1429, (20, 1432, 252, 1, 0, 1493, 0, [(2, 2), (0, 48), (0, 0)])), (1432, (11, 1435, 0, 1790, 0, 0, 0, [])), (1435, (0, 1436, 0, 0, 0, 0, 0, [])), (1436, (21, 1437, 2, 0, 3, 0, 0, [])), (1437, (1, 1438, 1, 2, 0, 0, 0, [])), (1438, (20, 1441, 135, 1, 0, 893, 0, [(3, 1), (0, 47)]))]
noncomputable def tl45 : List (Nat × II) := [(1441, (1, 1442, 2, 2, 0, 0, 0, [])), (1442, (20, 1445, 254, 1, 0, 1497, 0, [(3, 1), (0, 48)])), (1445, (11, 1448, 0, 1790, 0, 0, 0, [])), (1448, (0, 1449, 0, 0, 0, 0, 0, [])), (1449, (21, 1450, 2, 0, 3, 0, 0, [])), (1450, (1, 1451, 1, 2, 0, 0, 0, [])), (1451, (1, 1452, 0, 2, 0, 0, 0, [])), (1452, (1, 1453, 3, 0, 0, 0, 0, [])), (1453, (0, 1454, 0, 0, 0, 0, 1, [])), (1454, (4, 1455, 0, 0, 0, 0, 0, [])), (1455, (30, 1456, 0, 0, 0, 0, 0, [])), (1456, (1, 1457, 0, 2, 0, 0, 0, [])), (1457, (1, 1458, 3, 0, 0, 0, 0, [])), (1458, (0, 1459, 0, 0, 0, 0, 2, [])), (1459, (4, 1460, 0, 0, 0, 0, 0, [])), (1460, (30, 1461, 0, 0, 0, 0, 0, [])), (1461, (1, 1462, 0, 2, 0, 0, 0, [])), (1462, (1, 1463, 3, 0, 0, 0, 0, [])), (1463, (0, 1464, 0, 0, 0, 0, 3, [])), (1464, (4, 1465, 0, 0, 0, 0, 0, [])), (1465, (30, 1466, 0, 0, 0, 0, 0, [])), (1466, (20, 1469, 136, 1, 0, 910, 0, [(6, 4), (0, 47), (0, 0), (0, 0), (0, 0)])), (1469, (1, 1470, 2, 2, 0, 0, 0, [])), (1470, (1, 1471, 0, 2, 0, 0, 0, [])), (1471, (1, 1472, 3, 0, 0, 0, 0, []))]
noncomputable def tl46 : List (Nat × II) := [(1472, (0, 1473, 0, 0, 0, 0, 1, [])), (1473, (4, 1474, 0, 0, 0, 0, 0, [])), (1474, (30, 1475, 0, 0, 0, 0, 0, [])), (1475, (1, 1476, 0, 2, 0, 0, 0, [])), (1476, (1, 1477, 3, 0, 0, 0, 0, [])), (1477, (0, 1478, 0, 0, 0, 0, 2, [])), (1478, (4, 1479, 0, 0, 0, 0, 0, [])), (1479, (30, 1480, 0, 0, 0, 0, 0, [])), (1480, (1, 1481, 0, 2, 0, 0, 0, [])), (1481, (1, 1482, 3, 0, 0, 0, 0, [])), (1482, (0, 1483, 0, 0, 0, 0, 3, [])), (1483, (4, 1484, 0, 0, 0, 0, 0, [])), (1484, (30, 1485, 0, 0, 0, 0, 0, [])), (1485, (20, 1488, 257, 1, 0, 1509, 0, [(5, 4), (0, 48), (0, 0), (0, 0), (0, 0)])), (1488, (11, 1491, 0, 1790, 0, 0, 0, [])), (1491, (0, 1492, 0, 0, 0, 0, 0, [])), (1492, (21, 1493, 2, 0, 3, 0, 0, [])), (1493, (1, 1494, 1, 2, 0, 0, 0, [])), (1494, (1, 1495, 0, 2, 0, 0, 0, [])), (1495, (1, 1496, 3, 0, 0, 0, 0, [])), (1496, (0, 1497, 0, 0, 0, 0, 1, [])), (1497, (4, 1498, 0, 0, 0, 0, 0, [])), (1498, (30, 1499, 0, 0, 0, 0, 0, [])), (1499, (1, 1500, 0, 2, 0, 0, 0, [])), (1500, (1, 1501, 3, 0, 0, 0, 0, [])), (1501, (0, 1502, 0, 0, 0, 0, 2, [])), (1502, (4, 1503, 0, 0, 0, 0, 0, [])), (1503, (30, 1504, 0, 0, 0, 0, 0, []))]
noncomputable def tl47 : List (Nat × II) := [(1504, (20, 1507, 137, 1, 0, 925, 0, [(4, 3), (0, 47), (0, 0), (0, 0)])), (1507, (1, 1508, 2, 2, 0, 0, 0, [])), (1508, (1, 1509, 0, 2, 0, 0, 0, [])), (1509, (1, 1510, 3, 0, 0, 0, 0, [])), (1510, (0, 1511, 0, 0, 0, 0, 1, [])), (1511, (4, 1512, 0, 0, 0, 0, 0, [])), (1512, (30, 1513, 0, 0, 0, 0, 0, [])), (1513, (1, 1514, 0, 2, 0, 0, 0, [])), (1514, (1, 1515, 3, 0, 0, 0, 0, [])), (1515, (0, 1516, 0, 0, 0, 0, 2, [])), (1516, (4, 1517, 0, 0, 0, 0, 0, [])), (1517, (30, 1518, 0, 0, 0, 0, 0, [])), (1518, (20, 1521, 258, 1, 0, 1521, 0, [(4, 3), (0, 48), (0, 0), (0, 0)])), (1521, (11, 1524, 0, 1790, 0, 0, 0, [])), (1524, (0, 1525, 0, 0, 0, 0, 0, [])), (1525, (21, 1526, 2, 0, 3, 0, 0, [])), (1526, (1, 1527, 1, 2, 0, 0, 0, [])), (1527, (1, 1528, 0, 2, 0, 0, 0, [])), (1528, (1, 1529, 3, 0, 0, 0, 0, [])), (1529, (0, 1530, 0, 0, 0, 0, 1, [])), (1530, (4, 1531, 0, 0, 0, 0, 0, [])), (1531, (30, 1532, 0, 0, 0, 0, 0, [])), (1532, (1, 1533, 0, 2, 0, 0, 0, [])), (1533, (1, 1534, 3, 0, 0, 0, 0, [])), (1534, (0, 1535, 0, 0, 0, 0, 2, [])), (1535, (4, 1536, 0, 0, 0, 0, 0, []))]
noncomputable def tl48 : List (Nat × II) := [(1536, (30, 1537, 0, 0, 0, 0, 0, [])), (1537, (1, 1538, 0, 2, 0, 0, 0, [])), (1538, (1, 1539, 3, 0, 0, 0, 0, [])), (1539, (0, 1540, 0, 0, 0, 0, 3, [])), (1540, (4, 1541, 0, 0, 0, 0, 0, [])), (1541, (30, 1542, 0, 0, 0, 0, 0, [])), (1542, (20, 1545, 138, 1, 0, 931, 0, [(5, 4), (0, 47), (0, 0), (0, 0), (0, 0)])), (1545, (1, 1546, 2, 2, 0, 0, 0, [])), (1546, (1, 1547, 0, 2, 0, 0, 0, [])), (1547, (1, 1548, 3, 0, 0, 0, 0, [])), (1548, (0, 1549, 0, 0, 0, 0, 1, [])), (1549, (4, 1550, 0, 0, 0, 0, 0, [])), (1550, (30, 1551, 0, 0, 0, 0, 0, [])), (1551, (1, 1552, 0, 2, 0, 0, 0, [])), (1552, (1, 1553, 3, 0, 0, 0, 0, [])), (1553, (0, 1554, 0, 0, 0, 0, 2, [])), (1554, (4, 1555, 0, 0, 0, 0, 0, [])), (1555, (30, 1556, 0, 0, 0, 0, 0, [])), (1556, (1, 1557, 0, 2, 0, 0, 0, [])), (1557, (1, 1558, 3, 0, 0, 0, 0, [])), (1558, (0, 1559, 0, 0, 0, 0, 3, [])), (1559, (4, 1560, 0, 0, 0, 0, 0, [])), (1560, (30, 1561, 0, 0, 0, 0, 0, [])), (1561, (20, 1564, 260, 1, 0, 1525, 0, [(5, 4), (0, 48), (0, 0), (0, 0), (0, 0)])), (1564, (11, 1567, 0, 1790, 0, 0, 0, [])), (1567, (0, 1568, 0, 0, 0, 0, 0, []))]
noncomputable def tl49 : List (Nat × II) := [(1568, (21, 1569, 2, 0, 3, 0, 0, [])), (1569, (1, 1570, 1, 2, 0, 0, 0, [])), (1570, (1, 1571, 0, 2, 0, 0, 0, [])), (1571, (1, 1572, 3, 0, 0, 0, 0, [])), (1572, (0, 1573, 0, 0, 0, 0, 1, [])), (1573, (4, 1574, 0, 0, 0, 0, 0, [])), (1574, (30, 1575, 0, 0, 0, 0, 0, [])), (1575, (20, 1578, 139, 1, 0, 943, 0, [(3, 2), (0, 47), (0, 0)])), (1578, (1, 1579, 2, 2, 0, 0, 0, [])), (1579, (1, 1580, 0, 2, 0, 0, 0, [])), (1580, (1, 1581, 3, 0, 0, 0, 0, [])), (1581, (0, 1582, 0, 0, 0, 0, 1, [])), (1582, (4, 1583, 0, 0, 0, 0, 0, [])), (1583, (30, 1584, 0, 0, 0, 0, 0, [])), (1584, (20, 1587, 261, 1, 0, 1533, 0, [(3, 2), (0, 48), (0, 0)])), (1587, (11, 1590, 0, 1790, 0, 0, 0, [])), (1590, (0, 1591, 0, 0, 0, 0, 0, [])), (1591, (21, 1592, 2, 0, 3, 0, 0, [])), (1592, (1, 1593, 1, 2, 0, 0, 0, [])), (1593, (20, 1596, 140, 1, 0, 947, 0, [(5, 1), (0, 47)])), (1596, (1, 1597, 2, 2, 0, 0, 0, [])), (1597, (20, 1600, 262, 1, 0, 1537, 0, [(3, 1), (0, 48)]))]
noncomputable def tl50 : List (Nat × II) := [(1600, (11, 1603, 0, 1790, 0, 0, 0, [])), (1603, (0, 1604, 0, 0, 0, 0, 0, [])), (1604, (21, 1605, 2, 0, 3, 0, 0, [])), (1605, (1, 1606, 1, 2, 0, 0, 0, [])), (1606, (1, 1607, 0, 2, 0, 0, 0, [])), (1607, (1, 1608, 3, 0, 0, 0, 0, [])), (1608, (0, 1609, 0, 0, 0, 0, 1, [])), (1609, (4, 1610, 0, 0, 0, 0, 0, [])), (1610, (30, 1611, 0, 0, 0, 0, 0, [])), (1611, (1, 1612, 0, 2, 0, 0, 0, [])), (1612, (1, 1613, 3, 0, 0, 0, 0, [])), (1613, (0, 1614, 0, 0, 0, 0, 2, [])), (1614, (4, 1615, 0, 0, 0, 0, 0, [])), (1615, (30, 1616, 0, 0, 0, 0, 0, [])), (1616, (1, 1617, 0, 2, 0, 0, 0, [])), (1617, (1, 1618, 3, 0, 0, 0, 0, [])), (1618, (0, 1619, 0, 0, 0, 0, 3, [])), (1619, (4, 1620, 0, 0, 0, 0, 0, [])), (1620, (30, 1621, 0, 0, 0, 0, 0, [])), (1621, (20, 1624, 141, 1, 0, 951, 0, [(6, 4), (0, 47), (0, 0), (0, 0), (0, 0)])), (1624, (1, 1625, 2, 2, 0, 0, 0, [])), (1625, (1, 1626, 0, 2, 0, 0, 0, [])), (1626, (1, 1627, 3, 0, 0, 0, 0, [])), (1627, (0, 1628, 0, 0, 0, 0, 1, [])), (1628, (4, 1629, 0, 0, 0, 0, 0, [])), (1629, (30, 1630, 0, 0, 0, 0, 0, [])), (1630, (1, 1631, 0, 2, 0, 0, 0, [])), (1631, (1, 1632, 3, 0, 0, 0, 0, []))]
noncomputable def tl51 : List (Nat × II) := [(1632, (0, 1633, 0, 0, 0, 0, 2, [])), (1633, (4, 1634, 0, 0, 0, 0, 0, [])), (1634, (30, 1635, 0, 0, 0, 0, 0, [])), (1635, (1, 1636, 0, 2, 0, 0, 0, [])), (1636, (1, 1637, 3, 0, 0, 0, 0, [])), (1637, (0, 1638, 0, 0, 0, 0, 3, [])), (1638, (4, 1639, 0, 0, 0, 0, 0, [])), (1639, (30, 1640, 0, 0, 0, 0, 0, [])), (1640, (20, 1643, 264, 1, 0, 1541, 0, [(5, 4), (0, 48), (0, 0), (0, 0), (0, 0)])), (1643, (11, 1646, 0, 1790, 0, 0, 0, [])), (1646, (0, 1647, 0, 0, 0, 0, 0, [])), (1647, (21, 1648, 2, 0, 3, 0, 0, [])), (1648, (1, 1649, 1, 2, 0, 0, 0, [])), (1649, (1, 1650, 0, 2, 0, 0, 0, [])), (1650, (1, 1651, 3, 0, 0, 0, 0, [])), (1651, (0, 1652, 0, 0, 0, 0, 1, [])), (1652, (4, 1653, 0, 0, 0, 0, 0, [])), (1653, (30, 1654, 0, 0, 0, 0, 0, [])), (1654, (1, 1655, 0, 2, 0, 0, 0, [])), (1655, (1, 1656, 3, 0, 0, 0, 0, [])), (1656, (0, 1657, 0, 0, 0, 0, 2, [])), (1657, (4, 1658, 0, 0, 0, 0, 0, [])), (1658, (30, 1659, 0, 0, 0, 0, 0, [])), (1659, (1, 1660, 0, 2, 0, 0, 0, [])), (1660, (1, 1661, 3, 0, 0, 0, 0, [])), (1661, (0, 1662, 0, 0, 0, 0, 3, [])), (1662, (4, 1663, 0, 0, 0, 0, 0, [])), (1663, (30, 1664, 0, 0, 0, 0, 0, []))]
noncomputable def tl52 : List (Nat × II) := [(1664, (20, 1667, 142, 1, 0, 962, 0, [(5, 4), (0, 47), (0, 0), (0, 0), (0, 0)])), (1667, (1, 1668, 2, 2, 0, 0, 0, [])), (1668, (1, 1669, 0, 2, 0, 0, 0, [])), (1669, (1, 1670, 3, 0, 0, 0, 0, [])), (1670, (0, 1671, 0, 0, 0, 0, 1, [])), (1671, (4, 1672, 0, 0, 0, 0, 0, [])), (1672, (30, 1673, 0, 0, 0, 0, 0, [])), (1673, (1, 1674, 0, 2, 0, 0, 0, [])), (1674, (1, 1675, 3, 0, 0, 0, 0, [])), (1675, (0, 1676, 0, 0, 0, 0, 2, [])), (1676, (4, 1677, 0, 0, 0, 0, 0, [])), (1677, (30, 1678, 0, 0, 0, 0, 0, [])), (1678, (1, 1679, 0, 2, 0, 0, 0, [])), (1679, (1, 1680, 3, 0, 0, 0, 0, [])), (1680, (0, 1681, 0, 0, 0, 0, 3, [])), (1681, (4, 1682, 0, 0, 0, 0, 0, [])), (1682, (30, 1683, 0, 0, 0, 0, 0, [])), (1683, (20, 1686, 266, 1, 0, 1548, 0, [(4, 4), (0, 48), (0, 0), (0, 0), (0, 0)])), (1686, (11, 1689, 0, 1790, 0, 0, 0, [])), (1689, (0, 1690, 0, 0, 0, 0, 0, [])), (1690, (21, 1691, 2, 0, 3, 0, 0, [])), (1691, (1, 1692, 1, 2, 0, 0, 0, [])), (1692, (1, 1693, 0, 2, 0, 0, 0, [])), (1693, (1, 1694, 3, 0, 0, 0, 0, [])), (1694, (0, 1695, 0, 0, 0, 0, 1, [])), (1695, (4, 1696, 0, 0, 0, 0, 0, []))]
noncomputable def tl53 : List (Nat × II) := [(1696, (30, 1697, 0, 0, 0, 0, 0, [])), (1697, (1, 1698, 0, 2, 0, 0, 0, [])), (1698, (1, 1699, 3, 0, 0, 0, 0, [])), (1699, (0, 1700, 0, 0, 0, 0, 2, [])), (1700, (4, 1701, 0, 0, 0, 0, 0, [])), (1701, (30, 1702, 0, 0, 0, 0, 0, [])), (1702, (20, 1705, 143, 1, 0, 974, 0, [(5, 3), (0, 47), (0, 0), (0, 0)])), (1705, (1, 1706, 2, 2, 0, 0, 0, [])), (1706, (1, 1707, 0, 2, 0, 0, 0, [])), (1707, (1, 1708, 3, 0, 0, 0, 0, [])), (1708, (0, 1709, 0, 0, 0, 0, 1, [])), (1709, (4, 1710, 0, 0, 0, 0, 0, [])), (1710, (30, 1711, 0, 0, 0, 0, 0, [])), (1711, (1, 1712, 0, 2, 0, 0, 0, [])), (1712, (1, 1713, 3, 0, 0, 0, 0, [])), (1713, (0, 1714, 0, 0, 0, 0, 2, [])), (1714, (4, 1715, 0, 0, 0, 0, 0, [])), (1715, (30, 1716, 0, 0, 0, 0, 0, [])), (1716, (20, 1719, 267, 1, 0, 1556, 0, [(5, 3), (0, 48), (0, 0), (0, 0)])), (1719, (11, 1722, 0, 1790, 0, 0, 0, [])), (1722, (0, 1723, 0, 0, 0, 0, 0, [])), (1723, (21, 1724, 2, 0, 3, 0, 0, [])), (1724, (1, 1725, 1, 2, 0, 0, 0, [])), (1725, (1, 1726, 0, 2, 0, 0, 0, [])), (1726, (1, 1727, 3, 0, 0, 0, 0, [])), (1727, (0, 1728, 0, 0, 0, 0, 1, []))]
noncomputable def tl54 : List (Nat × II) := [(1728, (4, 1729, 0, 0, 0, 0, 0, [])), (1729, (30, 1730, 0, 0, 0, 0, 0, [])), (1730, (1, 1731, 0, 2, 0, 0, 0, [])), (1731, (1, 1732, 3, 0, 0, 0, 0, [])), (1732, (0, 1733, 0, 0, 0, 0, 2, [])), (1733, (4, 1734, 0, 0, 0, 0, 0, [])), (1734, (30, 1735, 0, 0, 0, 0, 0, [])), (1735, (1, 1736, 0, 2, 0, 0, 0, [])), (1736, (1, 1737, 3, 0, 0, 0, 0, [])), (1737, (0, 1738, 0, 0, 0, 0, 3, [])), (1738, (4, 1739, 0, 0, 0, 0, 0, [])), (1739, (30, 1740, 0, 0, 0, 0, 0, [])), (1740, (20, 1743, 144, 1, 0, 979, 0, [(7, 4), (0, 47), (0, 0), (0, 0), (0, 0)])), (1743, (1, 1744, 2, 2, 0, 0, 0, [])), (1744, (1, 1745, 0, 2, 0, 0, 0, [])), (1745, (1, 1746, 3, 0, 0, 0, 0, [])), (1746, (0, 1747, 0, 0, 0, 0, 1, [])), (1747, (4, 1748, 0, 0, 0, 0, 0, [])), (1748, (30, 1749, 0, 0, 0, 0, 0, [])), (1749, (1, 1750, 0, 2, 0, 0, 0, [])), (1750, (1, 1751, 3, 0, 0, 0, 0, [])), (1751, (0, 1752, 0, 0, 0, 0, 2, [])), (1752, (4, 1753, 0, 0, 0, 0, 0, [])), (1753, (30, 1754, 0, 0, 0, 0, 0, [])), (1754, (1, 1755, 0, 2, 0, 0, 0, [])), (1755, (1, 1756, 3, 0, 0, 0, 0, [])), (1756, (0, 1757, 0, 0, 0, 0, 3, [])), (1757, (4, 1758, 0, 0, 0, 0, 0, [])), (1758, (30, 1759, 0, 0, 0, 0, 0, [])), (1759, (20, 1762, 270, 1, 0, 1560, 0, [(9, 4), (0, 48), (0, 0), (0, 0), (0, 0)]))]
noncomputable def tl55 : List (Nat × II) := [(1762, (11, 1765, 0, 1790, 0, 0, 0, [])), (1765, (0, 1766, 0, 0, 0, 0, 0, [])), (1766, (21, 1767, 2, 0, 3, 0, 0, [])), (1767, (1, 1768, 1, 2, 0, 0, 0, [])), (1768, (1, 1769, 0, 2, 0, 0, 0, [])), (1769, (1, 1770, 3, 0, 0, 0, 0, [])), (1770, (0, 1771, 0, 0, 0, 0, 1, [])), (1771, (4, 1772, 0, 0, 0, 0, 0, [])), (1772, (30, 1773, 0, 0, 0, 0, 0, [])), (1773, (20, 1776, 145, 1, 0, 1010, 0, [(2, 2), (0, 47), (0, 0)])), (1776, (1, 1777, 2, 2, 0, 0, 0, [])), (1777, (1, 1778, 0, 2, 0, 0, 0, [])), (1778, (1, 1779, 3, 0, 0, 0, 0, [])), (1779, (0, 1780, 0, 0, 0, 0, 1, [])), (1780, (4, 1781, 0, 0, 0, 0, 0, [])), (1781, (30, 1782, 0, 0, 0, 0, 0, [])), (1782, (20, 1785, 271, 1, 0, 1572, 0, [(4, 2), (0, 48), (0, 0)])), (1785, (11, 1788, 0, 1790, 0, 0, 0, [])), (1788, (0, 1789, 0, 0, 0, 0, 0, [])), (1789, (21, 1790, 2, 0, 3, 0, 0, [])), (1790, (3, 1793, 3, 0, 0, 0, 5, []))]
noncomputable def tl56 : List (Nat × II) := [(1793, (13, 1796, 0, 18, 0, 0, 0, [])), (1796, (0, 1797, 0, 0, 0, 0, 1, [])), (1797, (21, 1798, 2, 0, 3, 0, 0, []))]
noncomputable def tb0 : List (List (Nat × II)) := [tl0, tl1, tl2, tl3, tl4, tl5, tl6, tl7, tl8, tl9, tl10, tl11, tl12, tl13, tl14, tl15, tl16, tl17, tl18, tl19, tl20, tl21, tl22, tl23, tl24, tl25, tl26, tl27, tl28, tl29, tl30, tl31, tl32, tl33, tl34, tl35, tl36, tl37, tl38, tl39, tl40, tl41, tl42, tl43, tl44, tl45, tl46, tl47, tl48, tl49, tl50, tl51, tl52, tl53, tl54, tl55, tl56]
set_option maxRecDepth 100000 in
noncomputable def tb1 : List (List (Nat × II)) := [[(0, (1, 1, 0, 2, 0, 0, 0, [])), (1, (29, 4, 0, 0, 0, 188, 0, [])), (4, (1, 5, 0, 2, 0, 0, 0, [])), (5, (0, 7, 0, 0, 0, 0, 10, [])), (7, (26, 9, 20, 0, 0, 0, 0, [])), (9, (16, 12, 5, 0, 30, 194, 0, [])), (12, (21, 13, 0, 0, 9, 0, 0, []))]]
set_option maxRecDepth 100000 in
noncomputable def tb2 : List (List (Nat × II)) := [[(0, (1, 1, 0, 2, 0, 0, 0, [])), (1, (1, 2, 1, 0, 0, 0, 0, [])), (2, (16, 5, 0, 0, 0, 189, 0, [])), (5, (1, 6, 0, 2, 0, 0, 0, [])), (6, (1, 7, 2, 2, 0, 0, 0, [])), (7, (16, 10, 1, 0, 11, 190, 0, [])), (10, (1, 11, 0, 2, 0, 0, 0, [])), (11, (1, 12, 3, 0, 0, 0, 0, [])), (12, (16, 15, 2, 0, 0, 191, 0, [])), (15, (1, 16, 0, 2, 0, 0, 0, [])), (16, (1, 18, 4, 0, 0, 0, 0, [])), (18, (16, 21, 3, 0, 0, 192, 0, [])), (21, (1, 22, 0, 2, 0, 0, 0, [])), (22, (1, 24, 5, 0, 0, 0, 0, [])), (24, (16, 27, 4, 0, 0, 193, 0, [])), (27, (0, 28, 0, 0, 0, 0, 0, [])), (28, (2, 30, 6, 0, 0, 0, 0, [])), (30, (1, 32, 6, 0, 0, 0, 0, []))],
  [(32, (1, 33, 0, 2, 0, 0, 0, [])), (33, (15, 36, 5, 0, 30, 194, 0, [])), (36, (19, 37, 0, 0, 0, 0, 0, [])), (37, (11, 40, 3, 60, 0, 0, 0, [])), (40, (1, 41, 0, 2, 0, 0, 0, [])), (41, (15, 44, 5, 0, 30, 194, 0, [])), (44, (1, 46, 6, 0, 0, 0, 0, [])), (46, (1, 47, 2, 2, 0, 0, 0, [])), (47, (1, 49, 6, 0, 0, 0, 0, [])), (49, (1, 50, 3, 0, 0, 0, 0, [])), (50, (20, 53, 26, 1, 0, 492, 0, [(3, 3), (0, 41), (0, 0), (0, 0)])), (53, (18, 54, 0, 0, 0, 0, 0, [])), (54, (3, 57, 6, 0, 0, 0, 1, [])), (57, (13, 60, 0, 30, 0, 0, 0, [])), (60, (21, 61, 0, 0, 9, 0, 0, []))]]
set_option maxRecDepth 100000 in
noncomputable def tb3 : List (List (Nat × II)) := [[(0, (1, 1, 0, 2, 0, 0, 0, [])), (1, (15, 4, 0, 0, 0, 189, 0, [])), (4, (0, 5, 0, 0, 0, 0, 3, [])), (5, (11, 8, 1, 23, 0, 0, 0, [])), (8, (1, 9, 0, 2, 0, 0, 0, [])), (9, (15, 12, 4, 0, 0, 193, 0, [])), (12, (10, 15, 2, 19, 0, 0, 0, [])), (15, (0, 16, 0, 0, 0, 0, 1, [])), (16, (13, 19, 0, 35, 0, 0, 0, [])), (19, (0, 20, 0, 0, 0, 0, 0, [])), (20, (13, 23, 0, 35, 0, 0, 0, [])), (23, (1, 24, 0, 2, 0, 0, 0, [])), (24, (15, 27, 4, 0, 0, 193, 0, [])), (27, (10, 30, 0, 34, 0, 0, 0, [])), (30, (0, 31, 0, 0, 0, 0, 1, [])), (31, (13, 34, 0, 35, 0, 0, 0, []))],
  [(34, (0, 35, 0, 0, 0, 0, 0, [])), (35, (2, 36, 1, 0, 0, 0, 0, [])), (36, (1, 37, 0, 2, 0, 0, 0, [])), (37, (15, 40, 0, 0, 0, 189, 0, [])), (40, (0, 41, 0, 0, 0, 0, 3, [])), (41, (11, 44, 0, 60, 0, 0, 0, [])), (44, (1, 45, 0, 2, 0, 0, 0, [])), (45, (15, 48, 0, 0, 0, 189, 0, [])), (48, (0, 49, 0, 0, 0, 0, 2, [])), (49, (11, 52, 0, 60, 0, 0, 0, [])), (52, (1, 53, 0, 2, 0, 0, 0, [])), (53, (15, 56, 0, 0, 0, 189, 0, [])), (56, (0, 57, 0, 0, 0, 0, 4, [])), (57, (11, 60, 1, 64, 0, 0, 0, [])), (60, (0, 61, 0, 0, 0, 0, 1, [])), (61, (13, 64, 0, 65, 0, 0, 0, []))],
  [(64, (0, 65, 0, 0, 0, 0, 0, [])), (65, (2, 66, 2, 0, 0, 0, 0, [])), (66, (1, 67, 2, 0, 0, 0, 0, [])), (67, (10, 70, 0, 110, 0, 0, 0, [])), (70, (1, 71, 1, 0, 0, 0, 0, [])), (71, (10, 74, 1, 110, 0, 0, 0, [])), (74, (1, 75, 0, 2, 0, 0, 0, [])), (75, (15, 78, 1, 0, 11, 190, 0, [])), (78, (12, 81, 0, 110, 0, 0, 0, [])), (81, (1, 82, 0, 2, 0, 0, 0, [])), (82, (15, 85, 1, 0, 11, 190, 0, [])), (85, (1, 86, 0, 2, 0, 0, 0, [])), (86, (15, 89, 0, 0, 0, 189, 0, [])), (89, (1, 90, 0, 2, 0, 0, 0, [])), (90, (15, 93, 2, 0, 0, 191, 0, [])), (93, (1, 94, 0, 2, 0, 0, 0, [])), (94, (15, 97, 3, 0, 0, 192, 0, []))],
  [(97, (20, 100, 147, 0, 0, 578, 1, [(3, 3), (0, 0), (0, 0), (0, 0)])), (100, (20, 103, 43, 1, 0, 579, 0, [(2, 2), (0, 41), (0, 0)])), (103, (10, 106, 0, 110, 0, 0, 0, [])), (106, (0, 107, 0, 0, 0, 0, 1, [])), (107, (13, 110, 0, 111, 0, 0, 0, [])), (110, (0, 111, 0, 0, 0, 0, 0, [])), (111, (21, 112, 2, 0, 3, 0, 0, []))]]
set_option maxRecDepth 100000 in
noncomputable def tb4 : List (List (Nat × II)) := [[(0, (1, 1, 0, 2, 0, 0, 0, [])), (1, (15, 4, 1, 0, 11, 190, 0, [])), (4, (12, 7, 1, 8, 0, 0, 0, [])), (7, (21, 8, 0, 0, 9, 0, 0, [])), (8, (1, 9, 0, 2, 0, 0, 0, [])), (9, (15, 12, 0, 0, 0, 189, 0, [])), (12, (14, 56, 1, 152, 0, 0, 0, [(2, 78), (3, 56), (4, 108), (12, 138)]))],
  [(56, (1, 57, 0, 2, 0, 0, 0, [])), (57, (15, 60, 1, 0, 11, 190, 0, [])), (60, (1, 61, 0, 2, 0, 0, 0, [])), (61, (15, 64, 3, 0, 0, 192, 0, []))],
  [(64, (1, 65, 0, 2, 0, 0, 0, [])), (65, (15, 68, 2, 0, 0, 191, 0, [])), (68, (1, 69, 0, 2, 0, 0, 0, [])), (69, (15, 72, 4, 0, 0, 193, 0, [])), (72, (20, 75, 27, 1, 9, 584, 0, [(4, 4), (0, 41), (0, 0), (0, 0), (0, 0)])), (75, (13, 78, 0, 156, 0, 0, 0, [])), (78, (1, 79, 0, 2, 0, 0, 0, [])), (79, (15, 82, 1, 0, 11, 190, 0, [])), (82, (1, 83, 0, 2, 0, 0, 0, [])), (83, (15, 86, 3, 0, 0, 192, 0, [])), (86, (1, 87, 0, 2, 0, 0, 0, [])), (87, (15, 90, 2, 0, 0, 191, 0, [])), (90, (1, 91, 0, 2, 0, 0, 0, [])), (91, (15, 94, 4, 0, 0, 193, 0, [])), (94, (10, 97, 0, 101, 0, 0, 0, []))],
  [(97, (0, 98, 0, 0, 0, 0, 1, [])), (98, (13, 101, 0, 102, 0, 0, 0, [])), (101, (0, 102, 0, 0, 0, 0, 0, [])), (102, (20, 105, 29, 1, 9, 585, 0, [(4, 4), (0, 41), (0, 0), (0, 0), (0, 0)])), (105, (13, 108, 0, 156, 0, 0, 0, [])), (108, (1, 109, 0, 2, 0, 0, 0, [])), (109, (15, 112, 1, 0, 11, 190, 0, [])), (112, (1, 113, 0, 2, 0, 0, 0, [])), (113, (15, 116, 3, 0, 0, 192, 0, [])), (116, (1, 117, 0, 2, 0, 0, 0, [])), (117, (15, 120, 2, 0, 0, 191, 0, [])), (120, (1, 121, 0, 2, 0, 0, 0, [])), (121, (15, 124, 4, 0, 0, 193, 0, [])), (124, (10, 127, 0, 131, 0, 0, 0, [])), (127, (0, 128, 0, 0, 0, 0, 1, []))],
  [(128, (13, 131, 0, 132, 0, 0, 0, [])), (131, (0, 132, 0, 0, 0, 0, 0, [])), (132, (20, 135, 31, 1, 9, 586, 0, [(4, 4), (0, 41), (0, 0), (0, 0), (0, 0)])), (135, (13, 138, 0, 156, 0, 0, 0, [])), (138, (1, 139, 0, 2, 0, 0, 0, [])), (139, (15, 142, 1, 0, 11, 190, 0, [])), (142, (1, 143, 0, 2, 0, 0, 0, [])), (143, (15, 146, 4, 0, 0, 193, 0, [])), (146, (16, 149, 4, 1, 0, 261, 0, [])), (149, (13, 152, 0, 156, 0, 0, 0, [])), (152, (1, 153, 0, 2, 0, 0, 0, [])), (153, (20, 156, 5, 1, 9, 587, 0, [(2, 1), (0, 40)])), (156, (21, 157, 0, 0, 9, 0, 0, []))]]
set_option maxRecDepth 100000 in
noncomputable def tb5 : List (List (Nat × II)) := [[(0, (1, 1, 0, 2, 0, 0, 0, [])), (1, (15, 4, 1, 0, 11, 190, 0, [])), (4, (1, 5, 0, 2, 0, 0, 0, [])), (5, (15, 8, 2, 0, 0, 191, 0, [])), (8, (1, 9, 0, 2, 0, 0, 0, [])), (9, (15, 12, 4, 0, 0, 193, 0, [])), (12, (10, 15, 0, 19, 0, 0, 0, [])), (15, (0, 16, 0, 0, 0, 0, 1, [])), (16, (13, 19, 0, 20, 0, 0, 0, [])), (19, (0, 20, 0, 0, 0, 0, 0, [])), (20, (20, 23, 24, 1, 9, 591, 0, [(3, 3), (0, 41), (0, 0), (0, 0)])), (23, (0, 24, 0, 0, 0, 0, 0, [])), (24, (2, 25, 1, 0, 0, 0, 0, [])), (25, (1, 26, 1, 0, 0, 0, 0, [])), (26, (1, 27, 0, 2, 0, 0, 0, [])), (27, (15, 30, 5, 0, 30, 194, 0, [])), (30, (19, 31, 0, 0, 0, 0, 0, [])), (31, (11, 34, 3, 58, 0, 0, 0, []))],
  [(34, (1, 35, 0, 2, 0, 0, 0, [])), (35, (15, 38, 1, 0, 11, 190, 0, [])), (38, (1, 39, 1, 0, 0, 0, 0, [])), (39, (1, 40, 0, 2, 0, 0, 0, [])), (40, (15, 43, 2, 0, 0, 191, 0, [])), (43, (1, 44, 0, 2, 0, 0, 0, [])), (44, (15, 47, 5, 0, 30, 194, 0, [])), (47, (1, 48, 1, 0, 0, 0, 0, [])), (48, (17, 49, 0, 0, 0, 0, 0, [])), (49, (20, 52, 27, 1, 9, 584, 0, [(4, 4), (0, 41), (0, 0), (0, 0), (0, 0)])), (52, (3, 55, 1, 0, 0, 0, 1, [])), (55, (13, 58, 0, 25, 0, 0, 0, [])), (58, (21, 59, 0, 0, 9, 0, 0, []))]]
set_option maxRecDepth 100000 in
noncomputable def tb6 : List (List (Nat × II)) := [[(0, (1, 1, 0, 2, 0, 0, 0, [])), (1, (29, 4, 0, 0, 0, 244, 0, [])), (4, (1, 5, 0, 2, 0, 0, 0, [])), (5, (0, 7, 0, 0, 0, 0, 10, [])), (7, (26, 9, 20, 0, 0, 0, 0, [])), (9, (16, 12, 6, 1, 30, 266, 0, [])), (12, (1, 13, 0, 2, 0, 0, 0, [])), (13, (0, 15, 0, 0, 0, 0, 10, [])), (15, (26, 17, 20, 0, 0, 0, 0, [])), (17, (16, 20, 7, 1, 30, 267, 0, [])), (20, (1, 21, 0, 2, 0, 0, 0, [])), (21, (0, 23, 0, 0, 0, 0, 11, [])), (23, (26, 25, 20, 0, 0, 0, 0, [])), (25, (16, 28, 8, 1, 30, 268, 0, [])), (28, (1, 29, 0, 2, 0, 0, 0, [])), (29, (0, 31, 0, 0, 0, 0, 6, [])), (31, (26, 33, 21, 0, 0, 0, 0, []))],
  [(33, (16, 36, 9, 1, 31, 269, 0, [])), (36, (1, 37, 0, 2, 0, 0, 0, [])), (37, (0, 39, 0, 0, 0, 0, 66, [])), (39, (26, 41, 20, 0, 0, 0, 0, [])), (41, (16, 44, 10, 1, 30, 270, 0, [])), (44, (1, 45, 0, 2, 0, 0, 0, [])), (45, (0, 47, 0, 0, 0, 0, 66, [])), (47, (26, 49, 21, 0, 0, 0, 0, [])), (49, (16, 52, 11, 1, 31, 271, 0, [])), (52, (1, 53, 0, 2, 0, 0, 0, [])), (53, (0, 55, 0, 0, 0, 0, 66, [])), (55, (26, 57, 21, 0, 0, 0, 0, [])), (57, (16, 60, 12, 1, 31, 272, 0, [])), (60, (1, 61, 0, 2, 0, 0, 0, [])), (61, (0, 64, 0, 0, 0, 0, 396, []))],
  [(64, (26, 66, 20, 0, 0, 0, 0, [])), (66, (16, 69, 13, 1, 30, 273, 0, [])), (69, (1, 70, 0, 2, 0, 0, 0, [])), (70, (0, 72, 0, 0, 0, 0, 6, [])), (72, (26, 74, 20, 0, 0, 0, 0, [])), (74, (16, 77, 14, 1, 30, 274, 0, [])), (77, (1, 78, 0, 2, 0, 0, 0, [])), (78, (15, 81, 13, 1, 30, 273, 0, [])), (81, (0, 82, 0, 0, 0, 0, (-1), [])), (82, (20, 85, 272, 0, 9, 245, 0, [(4, 2), (0, 30), (0, 0)])), (85, (21, 86, 0, 0, 9, 0, 0, []))]]
set_option maxRecDepth 100000 in
noncomputable def tb7 : List (List (Nat × II)) := [[(0, (1, 1, 0, 2, 0, 0, 0, [])), (1, (0, 2, 0, 0, 0, 0, 1, [])), (2, (16, 5, 0, 1, 3, 246, 0, [])), (5, (1, 6, 0, 2, 0, 0, 0, [])), (6, (0, 7, 0, 0, 0, 0, 0, [])), (7, (16, 10, 1, 1, 0, 250, 0, [])), (10, (1, 11, 0, 2, 0, 0, 0, [])), (11, (1, 12, 1, 0, 0, 0, 0, [])), (12, (16, 15, 2, 1, 0, 253, 0, [])), (15, (1, 16, 0, 2, 0, 0, 0, [])), (16, (1, 17, 2, 0, 0, 0, 0, [])), (17, (16, 20, 3, 1, 0, 257, 0, [])), (20, (1, 21, 0, 2, 0, 0, 0, [])), (21, (0, 22, 0, 0, 0, 0, 0, [])), (22, (16, 25, 4, 1, 0, 260, 0, [])), (25, (1, 26, 0, 2, 0, 0, 0, [])), (26, (15, 29, 8, 1, 30, 268, 0, [])), (29, (0, 30, 0, 0, 0, 0, 0, [])), (30, (20, 33, 272, 0, 9, 245, 0, [(4, 2), (0, 30), (0, 0)]))],
  [(33, (1, 34, 0, 2, 0, 0, 0, [])), (34, (15, 37, 9, 1, 31, 269, 0, [])), (37, (20, 40, 8, 0, 9, 417, 0, [(2, 1), (0, 31)])), (40, (1, 41, 0, 2, 0, 0, 0, [])), (41, (15, 44, 10, 1, 30, 270, 0, [])), (44, (0, 45, 0, 0, 0, 0, (-1), [])), (45, (20, 48, 272, 0, 9, 245, 0, [(4, 2), (0, 30), (0, 0)])), (48, (1, 49, 0, 2, 0, 0, 0, [])), (49, (15, 52, 11, 1, 31, 271, 0, [])), (52, (20, 55, 8, 0, 9, 417, 0, [(2, 1), (0, 31)])), (55, (1, 56, 0, 2, 0, 0, 0, [])), (56, (15, 59, 12, 1, 31, 272, 0, [])), (59, (20, 62, 8, 0, 9, 417, 0, [(2, 1), (0, 31)])), (62, (1, 63, 0, 2, 0, 0, 0, [])), (63, (15, 66, 14, 1, 30, 274, 0, []))],
  [(66, (0, 67, 0, 0, 0, 0, (-1), [])), (67, (20, 70, 272, 0, 9, 245, 0, [(4, 2), (0, 30), (0, 0)])), (70, (21, 71, 0, 0, 9, 0, 0, []))]]
set_option maxRecDepth 100000 in
noncomputable def tb8 : List (List (Nat × II)) := [[(0, (0, 1, 0, 0, 0, 0, 0, [])), (1, (2, 2, 1, 0, 0, 0, 0, [])), (2, (1, 3, 1, 0, 0, 0, 0, [])), (3, (1, 4, 0, 2, 0, 0, 0, [])), (4, (19, 5, 0, 0, 0, 0, 0, [])), (5, (11, 8, 3, 18, 0, 0, 0, [])), (8, (1, 9, 0, 2, 0, 0, 0, [])), (9, (1, 10, 1, 0, 0, 0, 0, [])), (10, (0, 11, 0, 0, 0, 0, 0, [])), (11, (18, 12, 1, 0, 0, 0, 0, [])), (12, (3, 15, 1, 0, 0, 0, 1, [])), (15, (13, 18, 0, 2, 0, 0, 0, [])), (18, (21, 19, 0, 0, 9, 0, 0, []))]]
set_option maxRecDepth 100000 in
noncomputable def tb9 : List (List (Nat × II)) := [[(0, (1, 1, 0, 2, 0, 0, 0, [])), (1, (15, 4, 1, 1, 0, 250, 0, [])), (4, (0, 6, 0, 0, 0, 0, 10, [])), (6, (11, 9, 2, 10, 0, 0, 0, [])), (9, (21, 10, 0, 0, 9, 0, 0, [])), (10, (1, 11, 0, 2, 0, 0, 0, [])), (11, (15, 14, 6, 1, 30, 266, 0, [])), (14, (1, 15, 0, 2, 0, 0, 0, [])), (15, (15, 18, 1, 1, 0, 250, 0, [])), (18, (1, 19, 1, 0, 0, 0, 0, [])), (19, (18, 20, 0, 0, 0, 0, 0, [])), (20, (1, 21, 0, 2, 0, 0, 0, [])), (21, (15, 24, 7, 1, 30, 267, 0, [])), (24, (1, 25, 0, 2, 0, 0, 0, [])), (25, (15, 28, 1, 1, 0, 250, 0, [])), (28, (1, 29, 2, 0, 0, 0, 0, [])), (29, (18, 30, 0, 0, 0, 0, 0, [])), (30, (1, 31, 0, 2, 0, 0, 0, [])), (31, (22, 32, 0, 0, 0, 0, 0, []))],
  [(32, (15, 35, 1, 1, 0, 250, 0, [])), (35, (0, 36, 0, 0, 0, 0, 1, [])), (36, (4, 37, 0, 0, 0, 0, 0, [])), (37, (16, 40, 1, 1, 0, 250, 0, [])), (40, (1, 41, 0, 2, 0, 0, 0, [])), (41, (15, 44, 8, 1, 30, 268, 0, [])), (44, (1, 45, 0, 2, 0, 0, 0, [])), (45, (15, 48, 1, 1, 0, 250, 0, [])), (48, (0, 49, 0, 0, 0, 0, 0, [])), (49, (18, 50, 0, 0, 0, 0, 0, [])), (50, (1, 51, 0, 2, 0, 0, 0, [])), (51, (15, 54, 8, 1, 30, 268, 0, [])), (54, (1, 55, 0, 2, 0, 0, 0, [])), (55, (15, 58, 1, 1, 0, 250, 0, [])), (58, (0, 59, 0, 0, 0, 0, 1, [])), (59, (4, 60, 1, 0, 0, 0, 0, [])), (60, (1, 61, 0, 2, 0, 0, 0, [])), (61, (1, 62, 0, 2, 0, 0, 0, [])), (62, (15, 65, 1, 1, 0, 250, 0, []))],
  [(65, (0, 66, 0, 0, 0, 0, 2, [])), (66, (4, 67, 1, 0, 0, 0, 0, [])), (67, (20, 70, 17, 1, 0, 424, 0, [(2, 2), (0, 41), (0, 0)])), (70, (10, 73, 0, 90, 0, 0, 0, [])), (73, (1, 74, 0, 2, 0, 0, 0, [])), (74, (1, 75, 0, 2, 0, 0, 0, [])), (75, (15, 78, 1, 1, 0, 250, 0, [])), (78, (0, 79, 0, 0, 0, 0, 1, [])), (79, (4, 80, 1, 0, 0, 0, 0, [])), (80, (20, 83, 17, 1, 0, 424, 0, [(2, 2), (0, 41), (0, 0)])), (83, (10, 86, 0, 90, 0, 0, 0, [])), (86, (0, 87, 0, 0, 0, 0, 1, [])), (87, (13, 90, 0, 91, 0, 0, 0, [])), (90, (0, 91, 0, 0, 0, 0, 0, [])), (91, (18, 92, 0, 0, 0, 0, 0, [])), (92, (1, 93, 0, 2, 0, 0, 0, [])), (93, (15, 96, 8, 1, 30, 268, 0, []))],
  [(96, (1, 97, 0, 2, 0, 0, 0, [])), (97, (15, 100, 1, 1, 0, 250, 0, [])), (100, (0, 101, 0, 0, 0, 0, 1, [])), (101, (4, 102, 1, 0, 0, 0, 0, [])), (102, (17, 103, 0, 0, 0, 0, 0, [])), (103, (10, 106, 5, 118, 0, 0, 0, [])), (106, (1, 107, 0, 2, 0, 0, 0, [])), (107, (1, 108, 0, 2, 0, 0, 0, [])), (108, (15, 111, 1, 1, 0, 250, 0, [])), (111, (0, 112, 0, 0, 0, 0, 1, [])), (112, (4, 113, 1, 0, 0, 0, 0, [])), (113, (0, 114, 0, 0, 0, 0, 0, [])), (114, (0, 115, 0, 0, 0, 0, 0, [])), (115, (20, 118, 31, 1, 9, 432, 0, [(4, 4), (0, 41), (0, 0), (0, 0), (0, 0)])), (118, (21, 119, 0, 0, 9, 0, 0, []))]]
set_option maxRecDepth 100000 in
noncomputable def tb10 : List (List (Nat × II)) := [[(0, (1, 1, 0, 2, 0, 0, 0, [])), (1, (15, 4, 1, 1, 0, 250, 0, [])), (4, (0, 5, 0, 0, 0, 0, 1, [])), (5, (11, 8, 3, 9, 0, 0, 0, [])), (8, (21, 9, 0, 0, 9, 0, 0, [])), (9, (0, 10, 0, 0, 0, 0, 0, [])), (10, (2, 11, 1, 0, 0, 0, 0, [])), (11, (1, 12, 1, 0, 0, 0, 0, [])), (12, (1, 13, 0, 2, 0, 0, 0, [])), (13, (15, 16, 2, 1, 0, 253, 0, [])), (16, (11, 19, 3, 59, 0, 0, 0, [])), (19, (1, 20, 0, 2, 0, 0, 0, [])), (20, (1, 21, 0, 2, 0, 0, 0, [])), (21, (15, 24, 1, 1, 0, 250, 0, [])), (24, (0, 25, 0, 0, 0, 0, 1, [])), (25, (4, 26, 1, 0, 0, 0, 0, [])), (26, (1, 27, 1, 0, 0, 0, 0, [])), (27, (0, 28, 0, 0, 0, 0, (-1), [])), (28, (20, 31, 27, 1, 9, 465, 0, [(4, 4), (0, 41), (0, 0), (0, 0), (0, 0)])), (31, (1, 32, 0, 2, 0, 0, 0, []))],
  [(32, (1, 33, 0, 2, 0, 0, 0, [])), (33, (15, 36, 1, 1, 0, 250, 0, [])), (36, (0, 37, 0, 0, 0, 0, 1, [])), (37, (4, 38, 1, 0, 0, 0, 0, [])), (38, (1, 39, 1, 0, 0, 0, 0, [])), (39, (0, 40, 0, 0, 0, 0, 0, [])), (40, (20, 43, 29, 1, 9, 469, 0, [(4, 4), (0, 41), (0, 0), (0, 0), (0, 0)])), (43, (1, 44, 0, 2, 0, 0, 0, [])), (44, (1, 45, 0, 2, 0, 0, 0, [])), (45, (15, 48, 1, 1, 0, 250, 0, [])), (48, (1, 49, 1, 0, 0, 0, 0, [])), (49, (0, 50, 0, 0, 0, 0, 0, [])), (50, (20, 53, 31, 1, 9, 432, 0, [(4, 4), (0, 41), (0, 0), (0, 0), (0, 0)])), (53, (3, 56, 1, 0, 0, 0, 1, [])), (56, (13, 59, 0, 11, 0, 0, 0, [])), (59, (1, 60, 0, 2, 0, 0, 0, [])), (60, (22, 61, 0, 0, 0, 0, 0, [])), (61, (15, 64, 1, 1, 0, 250, 0, []))],
  [(64, (0, 65, 0, 0, 0, 0, 1, [])), (65, (4, 66, 1, 0, 0, 0, 0, [])), (66, (16, 69, 1, 1, 0, 250, 0, [])), (69, (1, 70, 0, 2, 0, 0, 0, [])), (70, (15, 73, 8, 1, 30, 268, 0, [])), (73, (1, 74, 0, 2, 0, 0, 0, [])), (74, (15, 77, 1, 1, 0, 250, 0, [])), (77, (0, 78, 0, 0, 0, 0, 0, [])), (78, (18, 79, 0, 0, 0, 0, 0, [])), (79, (21, 80, 0, 0, 9, 0, 0, []))]]
set_option maxRecDepth 100000 in
noncomputable def tb11 : List (List (Nat × II)) := [[(0, (1, 1, 1, 0, 0, 0, 0, [])), (1, (10, 4, 2, 16, 0, 0, 0, [])), (4, (1, 5, 1, 0, 0, 0, 0, [])), (5, (1, 6, 0, 2, 0, 0, 0, [])), (6, (15, 9, 1, 1, 0, 250, 0, [])), (9, (11, 12, 3, 16, 0, 0, 0, [])), (12, (0, 13, 0, 0, 0, 0, 1, [])), (13, (13, 16, 0, 17, 0, 0, 0, [])), (16, (0, 17, 0, 0, 0, 0, 0, [])), (17, (21, 18, 2, 0, 3, 0, 0, []))]]
set_option maxRecDepth 100000 in
noncomputable def tb12 : List (List (Nat × II)) := [[(0, (1, 1, 0, 2, 0, 0, 0, [])), (1, (15, 4, 0, 1, 3, 246, 0, [])), (4, (10, 7, 0, 23, 0, 0, 0, [])), (7, (1, 8, 1, 0, 0, 0, 0, [])), (8, (10, 11, 2, 23, 0, 0, 0, [])), (11, (1, 12, 1, 0, 0, 0, 0, [])), (12, (1, 13, 0, 2, 0, 0, 0, [])), (13, (15, 16, 1, 1, 0, 250, 0, [])), (16, (11, 19, 4, 23, 0, 0, 0, [])), (19, (0, 20, 0, 0, 0, 0, 1, [])), (20, (13, 23, 0, 24, 0, 0, 0, [])), (23, (0, 24, 0, 0, 0, 0, 0, [])), (24, (21, 25, 2, 0, 3, 0, 0, []))]]
set_option maxRecDepth 100000 in
noncomputable def tb13 : List (List (Nat × II)) := [[(0, (1, 1, 1, 0, 0, 0, 0, [])), (1, (10, 4, 2, 16, 0, 0, 0, [])), (4, (1, 5, 1, 0, 0, 0, 0, [])), (5, (1, 6, 0, 2, 0, 0, 0, [])), (6, (15, 9, 2, 1, 0, 253, 0, [])), (9, (11, 12, 3, 16, 0, 0, 0, [])), (12, (0, 13, 0, 0, 0, 0, 1, [])), (13, (13, 16, 0, 17, 0, 0, 0, [])), (16, (0, 17, 0, 0, 0, 0, 0, [])), (17, (21, 18, 2, 0, 3, 0, 0, []))]]
set_option maxRecDepth 100000 in
noncomputable def tb14 : List (List (Nat × II)) := [[(0, (1, 1, 0, 2, 0, 0, 0, [])), (1, (1, 2, 1, 0, 0, 0, 0, [])), (2, (20, 5, 11, 1, 0, 428, 0, [(2, 2), (0, 41), (0, 0)])), (5, (10, 8, 0, 17, 0, 0, 0, [])), (8, (1, 9, 0, 2, 0, 0, 0, [])), (9, (15, 12, 6, 1, 30, 266, 0, [])), (12, (1, 13, 1, 0, 0, 0, 0, [])), (13, (17, 14, 0, 0, 0, 0, 0, [])), (14, (13, 17, 0, 18, 0, 0, 0, [])), (17, (0, 18, 0, 0, 0, 0, (-1), [])), (18, (21, 19, 1, 0, 0, 0, 0, []))]]
set_option maxRecDepth 100000 in
noncomputable def tb15 : List (List (Nat × II)) := [[(0, (1, 1, 0, 2, 0, 0, 0, [])), (1, (1, 2, 1, 0, 0, 0, 0, [])), (2, (20, 5, 11, 1, 0, 428, 0, [(2, 2), (0, 41), (0, 0)])), (5, (10, 8, 0, 17, 0, 0, 0, [])), (8, (1, 9, 0, 2, 0, 0, 0, [])), (9, (15, 12, 7, 1, 30, 267, 0, [])), (12, (1, 13, 1, 0, 0, 0, 0, [])), (13, (17, 14, 0, 0, 0, 0, 0, [])), (14, (13, 17, 0, 18, 0, 0, 0, [])), (17, (0, 18, 0, 0, 0, 0, 0, [])), (18, (21, 19, 1, 0, 0, 0, 0, []))]]
set_option maxRecDepth 100000 in
noncomputable def tb16 : List (List (Nat × II)) := [[(0, (1, 1, 0, 2, 0, 0, 0, [])), (1, (1, 2, 1, 0, 0, 0, 0, [])), (2, (20, 5, 11, 1, 0, 428, 0, [(2, 2), (0, 41), (0, 0)])), (5, (10, 8, 1, 10, 0, 0, 0, [])), (8, (0, 9, 0, 0, 0, 0, 0, [])), (9, (21, 10, 2, 0, 3, 0, 0, [])), (10, (1, 11, 2, 0, 0, 0, 0, [])), (11, (10, 14, 0, 39, 0, 0, 0, [])), (14, (1, 15, 0, 2, 0, 0, 0, [])), (15, (15, 18, 6, 1, 30, 266, 0, [])), (18, (1, 19, 1, 0, 0, 0, 0, [])), (19, (17, 20, 0, 0, 0, 0, 0, [])), (20, (1, 21, 2, 0, 0, 0, 0, [])), (21, (11, 24, 0, 39, 0, 0, 0, [])), (24, (1, 25, 2, 0, 0, 0, 0, [])), (25, (0, 26, 0, 0, 0, 0, 2, [])), (26, (11, 29, 1, 43, 0, 0, 0, [])), (29, (1, 30, 0, 2, 0, 0, 0, [])), (30, (15, 33, 6, 1, 30, 266, 0, []))],
  [(33, (1, 34, 1, 0, 0, 0, 0, [])), (34, (17, 35, 0, 0, 0, 0, 0, [])), (35, (0, 36, 0, 0, 0, 0, 4, [])), (36, (11, 39, 1, 43, 0, 0, 0, [])), (39, (0, 40, 0, 0, 0, 0, 1, [])), (40, (13, 43, 0, 44, 0, 0, 0, [])), (43, (0, 44, 0, 0, 0, 0, 0, [])), (44, (21, 45, 2, 0, 3, 0, 0, []))]]
set_option maxRecDepth 100000 in
noncomputable def tb17 : List (List (Nat × II)) := [[(0, (1, 1, 0, 2, 0, 0, 0, [])), (1, (1, 2, 1, 0, 0, 0, 0, [])), (2, (20, 5, 11, 1, 0, 428, 0, [(2, 2), (0, 41), (0, 0)])), (5, (10, 8, 0, 22, 0, 0, 0, [])), (8, (1, 9, 0, 2, 0, 0, 0, [])), (9, (15, 12, 6, 1, 30, 266, 0, [])), (12, (1, 13, 1, 0, 0, 0, 0, [])), (13, (17, 14, 0, 0, 0, 0, 0, [])), (14, (0, 15, 0, 0, 0, 0, 1, [])), (15, (11, 18, 1, 22, 0, 0, 0, [])), (18, (0, 19, 0, 0, 0, 0, 1, [])), (19, (13, 22, 0, 23, 0, 0, 0, [])), (22, (0, 23, 0, 0, 0, 0, 0, [])), (23, (21, 24, 2, 0, 3, 0, 0, []))]]
set_option maxRecDepth 100000 in
noncomputable def tb18 : List (List (Nat × II)) := [[(0, (1, 1, 2, 0, 0, 0, 0, [])), (1, (10, 4, 1, 26, 0, 0, 0, [])), (4, (1, 5, 0, 2, 0, 0, 0, [])), (5, (1, 6, 1, 0, 0, 0, 0, [])), (6, (20, 9, 11, 1, 0, 428, 0, [(2, 2), (0, 41), (0, 0)])), (9, (10, 12, 0, 26, 0, 0, 0, [])), (12, (1, 13, 0, 2, 0, 0, 0, [])), (13, (15, 16, 6, 1, 30, 266, 0, [])), (16, (1, 17, 1, 0, 0, 0, 0, [])), (17, (17, 18, 0, 0, 0, 0, 0, [])), (18, (0, 19, 0, 0, 0, 0, 1, [])), (19, (11, 22, 1, 26, 0, 0, 0, [])), (22, (0, 23, 0, 0, 0, 0, 1, [])), (23, (13, 26, 0, 27, 0, 0, 0, [])), (26, (0, 27, 0, 0, 0, 0, 0, [])), (27, (21, 28, 2, 0, 3, 0, 0, []))]]
set_option maxRecDepth 100000 in
noncomputable def tb19 : List (List (Nat × II)) := [[(0, (1, 1, 0, 2, 0, 0, 0, [])), (1, (1, 2, 1, 0, 0, 0, 0, [])), (2, (20, 5, 12, 1, 0, 436, 0, [(2, 2), (0, 41), (0, 0)])), (5, (10, 8, 0, 21, 0, 0, 0, [])), (8, (1, 9, 0, 2, 0, 0, 0, [])), (9, (15, 12, 8, 1, 30, 268, 0, [])), (12, (1, 13, 1, 0, 0, 0, 0, [])), (13, (17, 14, 0, 0, 0, 0, 0, [])), (14, (10, 17, 1, 21, 0, 0, 0, [])), (17, (0, 18, 0, 0, 0, 0, 1, [])), (18, (13, 21, 0, 22, 0, 0, 0, [])), (21, (0, 22, 0, 0, 0, 0, 0, [])), (22, (21, 23, 2, 0, 3, 0, 0, []))]]
set_option maxRecDepth 100000 in
noncomputable def tb20 : List (List (Nat × II)) := [[(0, (1, 1, 1, 0, 0, 0, 0, [])), (1, (10, 4, 2, 22, 0, 0, 0, [])), (4, (1, 5, 1, 0, 0, 0, 0, [])), (5, (1, 6, 0, 2, 0, 0, 0, [])), (6, (15, 9, 8, 1, 30, 268, 0, [])), (9, (19, 10, 0, 0, 0, 0, 0, [])), (10, (11, 13, 3, 22, 0, 0, 0, [])), (13, (1, 14, 0, 2, 0, 0, 0, [])), (14, (15, 17, 8, 1, 30, 268, 0, [])), (17, (1, 18, 1, 0, 0, 0, 0, [])), (18, (17, 19, 0, 0, 0, 0, 0, [])), (19, (13, 22, 0, 23, 0, 0, 0, [])), (22, (0, 23, 0, 0, 0, 0, 0, [])), (23, (21, 24, 1, 0, 0, 0, 0, []))]]
set_option maxRecDepth 100000 in
noncomputable def tb21 : List (List (Nat × II)) := [[(0, (1, 1, 1, 0, 0, 0, 0, [])), (1, (2, 2, 3, 0, 0, 0, 0, [])), (2, (0, 3, 0, 0, 0, 0, 0, [])), (3, (2, 5, 4, 0, 0, 0, 0, [])), (5, (1, 7, 4, 0, 0, 0, 0, [])), (7, (0, 9, 0, 0, 0, 0, 10, [])), (9, (11, 12, 4, 45, 0, 0, 0, [])), (12, (1, 13, 3, 0, 0, 0, 0, [])), (13, (10, 16, 2, 45, 0, 0, 0, [])), (16, (1, 17, 3, 0, 0, 0, 0, [])), (17, (1, 18, 0, 2, 0, 0, 0, [])), (18, (15, 21, 1, 1, 0, 250, 0, [])), (21, (11, 24, 4, 45, 0, 0, 0, [])), (24, (1, 25, 0, 2, 0, 0, 0, [])), (25, (15, 28, 8, 1, 30, 268, 0, [])), (28, (1, 29, 3, 0, 0, 0, 0, [])), (29, (17, 30, 0, 0, 0, 0, 0, [])), (30, (10, 33, 1, 35, 0, 0, 0, []))],
  [(33, (1, 34, 3, 0, 0, 0, 0, [])), (34, (21, 35, 1, 0, 0, 0, 0, [])), (35, (1, 36, 3, 0, 0, 0, 0, [])), (36, (1, 37, 2, 0, 0, 0, 0, [])), (37, (4, 38, 0, 0, 0, 0, 0, [])), (38, (2, 39, 3, 0, 0, 0, 0, [])), (39, (3, 42, 4, 0, 0, 0, 1, [])), (42, (13, 45, 0, 5, 0, 0, 0, [])), (45, (0, 46, 0, 0, 0, 0, (-1), [])), (46, (21, 47, 1, 0, 0, 0, 0, []))]]
set_option maxRecDepth 100000 in
noncomputable def tb22 : List (List (Nat × II)) := [[(0, (0, 1, 0, 0, 0, 0, 0, [])), (1, (2, 2, 3, 0, 0, 0, 0, [])), (2, (0, 3, 0, 0, 0, 0, 0, [])), (3, (1, 4, 1, 0, 0, 0, 0, [])), (4, (1, 5, 2, 0, 0, 0, 0, [])), (5, (32, 8, 1, 0, 0, 600, 0, [])), (8, (32, 11, 0, 0, 0, 601, 0, [])), (11, (2, 13, 4, 0, 0, 0, 0, [])), (13, (1, 15, 4, 0, 0, 0, 0, [])), (15, (1, 16, 1, 0, 0, 0, 0, [])), (16, (1, 17, 2, 0, 0, 0, 0, [])), (17, (32, 20, 0, 0, 0, 601, 0, [])), (20, (11, 23, 3, 48, 0, 0, 0, [])), (23, (1, 25, 4, 0, 0, 0, 0, [])), (25, (1, 26, 0, 2, 0, 0, 0, [])), (26, (15, 29, 1, 1, 0, 250, 0, [])), (29, (11, 32, 3, 48, 0, 0, 0, []))],
  [(32, (1, 33, 3, 0, 0, 0, 0, [])), (33, (1, 34, 0, 2, 0, 0, 0, [])), (34, (15, 37, 7, 1, 30, 267, 0, [])), (37, (1, 39, 4, 0, 0, 0, 0, [])), (39, (17, 40, 0, 0, 0, 0, 0, [])), (40, (4, 41, 0, 0, 0, 0, 0, [])), (41, (2, 42, 3, 0, 0, 0, 0, [])), (42, (3, 45, 4, 0, 0, 0, 1, [])), (45, (13, 48, 0, 13, 0, 0, 0, [])), (48, (1, 49, 3, 0, 0, 0, 0, [])), (49, (21, 50, 1, 0, 0, 0, 0, []))]]
set_option maxRecDepth 100000 in
noncomputable def tb23 : List (List (Nat × II)) := [[(0, (1, 1, 0, 2, 0, 0, 0, [])), (1, (1, 2, 1, 0, 0, 0, 0, [])), (2, (20, 5, 13, 1, 0, 440, 0, [(2, 2), (0, 41), (0, 0)])), (5, (10, 8, 0, 21, 0, 0, 0, [])), (8, (1, 9, 0, 2, 0, 0, 0, [])), (9, (15, 12, 9, 1, 31, 269, 0, [])), (12, (1, 13, 1, 0, 0, 0, 0, [])), (13, (17, 14, 1, 0, 0, 0, 0, [])), (14, (10, 17, 0, 21, 0, 0, 0, [])), (17, (0, 18, 0, 0, 0, 0, 1, [])), (18, (13, 21, 0, 22, 0, 0, 0, [])), (21, (0, 22, 0, 0, 0, 0, 0, [])), (22, (21, 23, 2, 0, 3, 0, 0, []))]]
set_option maxRecDepth 100000 in
noncomputable def tb24 : List (List (Nat × II)) := [[(0, (1, 1, 0, 2, 0, 0, 0, [])), (1, (1, 2, 1, 0, 0, 0, 0, [])), (2, (20, 5, 13, 1, 0, 440, 0, [(2, 2), (0, 41), (0, 0)])), (5, (10, 8, 0, 15, 0, 0, 0, [])), (8, (1, 9, 0, 2, 0, 0, 0, [])), (9, (15, 12, 9, 1, 31, 269, 0, [])), (12, (1, 13, 1, 0, 0, 0, 0, [])), (13, (1, 14, 2, 0, 0, 0, 0, [])), (14, (18, 15, 1, 0, 0, 0, 0, [])), (15, (21, 16, 0, 0, 9, 0, 0, []))]]
set_option maxRecDepth 100000 in
noncomputable def tb25 : List (List (Nat × II)) := [[(0, (1, 1, 0, 2, 0, 0, 0, [])), (1, (1, 2, 1, 0, 0, 0, 0, [])), (2, (0, 3, 0, 0, 0, 0, 0, [])), (3, (20, 6, 24, 1, 9, 525, 0, [(3, 3), (0, 41), (0, 0), (0, 0)])), (6, (0, 7, 0, 0, 0, 0, 0, [])), (7, (2, 8, 2, 0, 0, 0, 0, [])), (8, (1, 9, 2, 0, 0, 0, 0, [])), (9, (1, 10, 0, 2, 0, 0, 0, [])), (10, (15, 13, 1, 1, 0, 250, 0, [])), (13, (11, 16, 3, 29, 0, 0, 0, [])), (16, (1, 17, 0, 2, 0, 0, 0, [])), (17, (1, 18, 2, 0, 0, 0, 0, [])), (18, (1, 19, 1, 0, 0, 0, 0, [])), (19, (0, 20, 0, 0, 0, 0, (-1), [])), (20, (20, 23, 27, 1, 9, 465, 0, [(4, 4), (0, 41), (0, 0), (0, 0), (0, 0)])), (23, (3, 26, 2, 0, 0, 0, 1, [])), (26, (13, 29, 0, 8, 0, 0, 0, [])), (29, (21, 30, 0, 0, 9, 0, 0, []))]]
set_option maxRecDepth 100000 in
noncomputable def tb26 : List (List (Nat × II)) := [[(0, (1, 1, 0, 2, 0, 0, 0, [])), (1, (1, 2, 1, 0, 0, 0, 0, [])), (2, (20, 5, 11, 1, 0, 428, 0, [(2, 2), (0, 41), (0, 0)])), (5, (10, 8, 0, 30, 0, 0, 0, [])), (8, (1, 9, 0, 2, 0, 0, 0, [])), (9, (1, 10, 2, 0, 0, 0, 0, [])), (10, (20, 13, 13, 1, 0, 440, 0, [(2, 2), (0, 41), (0, 0)])), (13, (10, 16, 0, 30, 0, 0, 0, [])), (16, (1, 17, 0, 2, 0, 0, 0, [])), (17, (15, 20, 10, 1, 30, 270, 0, [])), (20, (0, 22, 0, 0, 0, 0, 11, [])), (22, (1, 23, 2, 0, 0, 0, 0, [])), (23, (4, 24, 2, 0, 0, 0, 0, [])), (24, (1, 25, 1, 0, 0, 0, 0, [])), (25, (4, 26, 0, 0, 0, 0, 0, [])), (26, (17, 27, 0, 0, 0, 0, 0, [])), (27, (13, 30, 0, 31, 0, 0, 0, [])), (30, (0, 31, 0, 0, 0, 0, (-1), [])), (31, (21, 32, 1, 0, 0, 0, 0, []))]]
set_option maxRecDepth 100000 in
noncomputable def tb27 : List (List (Nat × II)) := [[(0, (1, 1, 0, 2, 0, 0, 0, [])), (1, (1, 2, 1, 0, 0, 0, 0, [])), (2, (20, 5, 11, 1, 0, 428, 0, [(2, 2), (0, 41), (0, 0)])), (5, (10, 8, 0, 28, 0, 0, 0, [])), (8, (1, 9, 0, 2, 0, 0, 0, [])), (9, (1, 10, 2, 0, 0, 0, 0, [])), (10, (20, 13, 13, 1, 0, 440, 0, [(2, 2), (0, 41), (0, 0)])), (13, (10, 16, 0, 28, 0, 0, 0, [])), (16, (1, 17, 0, 2, 0, 0, 0, [])), (17, (15, 20, 10, 1, 30, 270, 0, [])), (20, (0, 22, 0, 0, 0, 0, 11, [])), (22, (1, 23, 2, 0, 0, 0, 0, [])), (23, (4, 24, 2, 0, 0, 0, 0, [])), (24, (1, 25, 1, 0, 0, 0, 0, [])), (25, (4, 26, 0, 0, 0, 0, 0, [])), (26, (1, 27, 3, 0, 0, 0, 0, [])), (27, (18, 28, 0, 0, 0, 0, 0, [])), (28, (21, 29, 0, 0, 9, 0, 0, []))]]
set_option maxRecDepth 100000 in
noncomputable def tb28 : List (List (Nat × II)) := [[(0, (1, 1, 0, 2, 0, 0, 0, [])), (1, (1, 2, 1, 0, 0, 0, 0, [])), (2, (20, 5, 11, 1, 0, 428, 0, [(2, 2), (0, 41), (0, 0)])), (5, (10, 8, 0, 34, 0, 0, 0, [])), (8, (1, 9, 0, 2, 0, 0, 0, [])), (9, (1, 10, 2, 0, 0, 0, 0, [])), (10, (20, 13, 13, 1, 0, 440, 0, [(2, 2), (0, 41), (0, 0)])), (13, (10, 16, 0, 34, 0, 0, 0, [])), (16, (1, 17, 0, 2, 0, 0, 0, [])), (17, (15, 20, 11, 1, 31, 271, 0, [])), (20, (0, 22, 0, 0, 0, 0, 11, [])), (22, (1, 23, 2, 0, 0, 0, 0, [])), (23, (4, 24, 2, 0, 0, 0, 0, [])), (24, (1, 25, 1, 0, 0, 0, 0, [])), (25, (4, 26, 0, 0, 0, 0, 0, [])), (26, (17, 27, 1, 0, 0, 0, 0, [])), (27, (10, 30, 0, 34, 0, 0, 0, [])), (30, (0, 31, 0, 0, 0, 0, 1, [])), (31, (13, 34, 0, 35, 0, 0, 0, []))],
  [(34, (0, 35, 0, 0, 0, 0, 0, [])), (35, (21, 36, 2, 0, 3, 0, 0, []))]]
set_option maxRecDepth 100000 in
noncomputable def tb29 : List (List (Nat × II)) := [[(0, (1, 1, 0, 2, 0, 0, 0, [])), (1, (1, 2, 1, 0, 0, 0, 0, [])), (2, (20, 5, 11, 1, 0, 428, 0, [(2, 2), (0, 41), (0, 0)])), (5, (10, 8, 0, 28, 0, 0, 0, [])), (8, (1, 9, 0, 2, 0, 0, 0, [])), (9, (1, 10, 2, 0, 0, 0, 0, [])), (10, (20, 13, 13, 1, 0, 440, 0, [(2, 2), (0, 41), (0, 0)])), (13, (10, 16, 0, 28, 0, 0, 0, [])), (16, (1, 17, 0, 2, 0, 0, 0, [])), (17, (15, 20, 11, 1, 31, 271, 0, [])), (20, (0, 22, 0, 0, 0, 0, 11, [])), (22, (1, 23, 2, 0, 0, 0, 0, [])), (23, (4, 24, 2, 0, 0, 0, 0, [])), (24, (1, 25, 1, 0, 0, 0, 0, [])), (25, (4, 26, 0, 0, 0, 0, 0, [])), (26, (1, 27, 3, 0, 0, 0, 0, [])), (27, (18, 28, 1, 0, 0, 0, 0, [])), (28, (21, 29, 0, 0, 9, 0, 0, []))]]
set_option maxRecDepth 100000 in
noncomputable def tb30 : List (List (Nat × II)) := [[(0, (1, 1, 0, 2, 0, 0, 0, [])), (1, (1, 2, 1, 0, 0, 0, 0, [])), (2, (20, 5, 12, 1, 0, 436, 0, [(2, 2), (0, 41), (0, 0)])), (5, (10, 8, 0, 34, 0, 0, 0, [])), (8, (1, 9, 0, 2, 0, 0, 0, [])), (9, (1, 10, 2, 0, 0, 0, 0, [])), (10, (20, 13, 13, 1, 0, 440, 0, [(2, 2), (0, 41), (0, 0)])), (13, (10, 16, 0, 34, 0, 0, 0, [])), (16, (1, 17, 0, 2, 0, 0, 0, [])), (17, (15, 20, 12, 1, 31, 272, 0, [])), (20, (0, 22, 0, 0, 0, 0, 11, [])), (22, (1, 23, 2, 0, 0, 0, 0, [])), (23, (4, 24, 2, 0, 0, 0, 0, [])), (24, (1, 25, 1, 0, 0, 0, 0, [])), (25, (4, 26, 0, 0, 0, 0, 0, [])), (26, (17, 27, 1, 0, 0, 0, 0, [])), (27, (10, 30, 0, 34, 0, 0, 0, [])), (30, (0, 31, 0, 0, 0, 0, 1, [])), (31, (13, 34, 0, 35, 0, 0, 0, []))],
  [(34, (0, 35, 0, 0, 0, 0, 0, [])), (35, (21, 36, 2, 0, 3, 0, 0, []))]]
set_option maxRecDepth 100000 in
noncomputable def tb31 : List (List (Nat × II)) := [[(0, (1, 1, 0, 2, 0, 0, 0, [])), (1, (1, 2, 1, 0, 0, 0, 0, [])), (2, (20, 5, 12, 1, 0, 436, 0, [(2, 2), (0, 41), (0, 0)])), (5, (10, 8, 0, 28, 0, 0, 0, [])), (8, (1, 9, 0, 2, 0, 0, 0, [])), (9, (1, 10, 2, 0, 0, 0, 0, [])), (10, (20, 13, 13, 1, 0, 440, 0, [(2, 2), (0, 41), (0, 0)])), (13, (10, 16, 0, 28, 0, 0, 0, [])), (16, (1, 17, 0, 2, 0, 0, 0, [])), (17, (15, 20, 12, 1, 31, 272, 0, [])), (20, (0, 22, 0, 0, 0, 0, 11, [])), (22, (1, 23, 2, 0, 0, 0, 0, [])), (23, (4, 24, 2, 0, 0, 0, 0, [])), (24, (1, 25, 1, 0, 0, 0, 0, [])), (25, (4, 26, 0, 0, 0, 0, 0, [])), (26, (1, 27, 3, 0, 0, 0, 0, [])), (27, (18, 28, 1, 0, 0, 0, 0, [])), (28, (21, 29, 0, 0, 9, 0, 0, []))]]
set_option maxRecDepth 100000 in
noncomputable def tb32 : List (List (Nat × II)) := [[(0, (0, 1, 0, 0, 0, 0, 0, [])), (1, (2, 2, 2, 0, 0, 0, 0, [])), (2, (0, 3, 0, 0, 0, 0, 0, [])), (3, (2, 4, 3, 0, 0, 0, 0, [])), (4, (1, 5, 3, 0, 0, 0, 0, [])), (5, (1, 6, 0, 2, 0, 0, 0, [])), (6, (15, 9, 1, 1, 0, 250, 0, [])), (9, (11, 12, 3, 30, 0, 0, 0, [])), (12, (1, 13, 0, 2, 0, 0, 0, [])), (13, (1, 14, 3, 0, 0, 0, 0, [])), (14, (1, 15, 1, 0, 0, 0, 0, [])), (15, (20, 18, 26, 1, 0, 520, 0, [(3, 3), (0, 41), (0, 0), (0, 0)])), (18, (10, 21, 2, 24, 0, 0, 0, [])), (21, (3, 24, 2, 0, 0, 0, 1, [])), (24, (3, 27, 3, 0, 0, 0, 1, [])), (27, (13, 30, 0, 4, 0, 0, 0, [])), (30, (1, 31, 2, 0, 0, 0, 0, [])), (31, (21, 32, 1, 0, 0, 0, 0, []))]]
set_option maxRecDepth 100000 in
noncomputable def tb33 : List (List (Nat × II)) := [[(0, (0, 1, 0, 0, 0, 0, 0, [])), (1, (2, 2, 2, 0, 0, 0, 0, [])), (2, (1, 3, 2, 0, 0, 0, 0, [])), (3, (1, 4, 0, 2, 0, 0, 0, [])), (4, (15, 7, 1, 1, 0, 250, 0, [])), (7, (11, 10, 3, 31, 0, 0, 0, [])), (10, (1, 11, 0, 2, 0, 0, 0, [])), (11, (0, 12, 0, 0, 0, 0, 3, [])), (12, (1, 13, 1, 0, 0, 0, 0, [])), (13, (1, 14, 2, 0, 0, 0, 0, [])), (14, (20, 17, 147, 0, 0, 509, 1, [(3, 3), (0, 0), (0, 0), (0, 0)])), (17, (20, 20, 43, 1, 0, 512, 0, [(2, 2), (0, 41), (0, 0)])), (20, (10, 23, 0, 25, 0, 0, 0, [])), (23, (0, 24, 0, 0, 0, 0, 1, [])), (24, (21, 25, 2, 0, 3, 0, 0, [])), (25, (3, 28, 2, 0, 0, 0, 1, [])), (28, (13, 31, 0, 2, 0, 0, 0, [])), (31, (0, 32, 0, 0, 0, 0, 0, []))],
  [(32, (21, 33, 2, 0, 3, 0, 0, []))]]
set_option maxRecDepth 100000 in
noncomputable def tb34 : List (List (Nat × II)) := [[(0, (1, 1, 0, 2, 0, 0, 0, [])), (1, (1, 2, 1, 0, 0, 0, 0, [])), (2, (1, 3, 2, 0, 0, 0, 0, [])), (3, (20, 6, 26, 1, 0, 520, 0, [(3, 3), (0, 41), (0, 0), (0, 0)])), (6, (2, 7, 3, 0, 0, 0, 0, [])), (7, (1, 8, 3, 0, 0, 0, 0, [])), (8, (10, 11, 3, 13, 0, 0, 0, [])), (11, (0, 12, 0, 0, 0, 0, 0, [])), (12, (21, 13, 1, 0, 0, 0, 0, [])), (13, (1, 14, 0, 2, 0, 0, 0, [])), (14, (1, 15, 1, 0, 0, 0, 0, [])), (15, (0, 16, 0, 0, 0, 0, 2, [])), (16, (20, 19, 16, 1, 0, 648, 0, [(3, 3), (0, 41), (0, 0), (0, 0)])), (19, (10, 22, 0, 28, 0, 0, 0, [])), (22, (0, 23, 0, 0, 0, 0, 2, [])), (23, (1, 24, 3, 0, 0, 0, 0, [])), (24, (4, 25, 2, 0, 0, 0, 0, [])), (25, (13, 28, 0, 29, 0, 0, 0, [])), (28, (1, 29, 3, 0, 0, 0, 0, [])), (29, (2, 31, 4, 0, 0, 0, 0, [])), (31, (0, 32, 0, 0, 0, 0, 2, []))],
  [(32, (1, 33, 0, 2, 0, 0, 0, [])), (33, (1, 34, 1, 0, 0, 0, 0, [])), (34, (20, 37, 15, 1, 0, 649, 0, [(2, 2), (0, 41), (0, 0)])), (37, (4, 38, 2, 0, 0, 0, 0, [])), (38, (1, 40, 4, 0, 0, 0, 0, [])), (40, (4, 41, 0, 0, 0, 0, 0, [])), (41, (21, 42, 1, 0, 0, 0, 0, []))]]
set_option maxRecDepth 100000 in
noncomputable def tb35 : List (List (Nat × II)) := [[(0, (0, 1, 0, 0, 0, 0, 2, [])), (1, (1, 2, 0, 2, 0, 0, 0, [])), (2, (15, 5, 3, 1, 0, 257, 0, [])), (5, (4, 6, 2, 0, 0, 0, 0, [])), (6, (1, 7, 0, 2, 0, 0, 0, [])), (7, (15, 10, 2, 1, 0, 253, 0, [])), (10, (1, 11, 0, 2, 0, 0, 0, [])), (11, (1, 12, 1, 0, 0, 0, 0, [])), (12, (20, 15, 20, 1, 0, 612, 0, [(2, 2), (0, 41), (0, 0)])), (15, (4, 16, 1, 0, 0, 0, 0, [])), (16, (4, 17, 2, 0, 0, 0, 0, [])), (17, (2, 18, 2, 0, 0, 0, 0, [])), (18, (0, 19, 0, 0, 0, 0, 0, [])), (19, (2, 20, 3, 0, 0, 0, 0, [])), (20, (1, 21, 3, 0, 0, 0, 0, [])), (21, (1, 22, 0, 2, 0, 0, 0, [])), (22, (15, 25, 2, 1, 0, 253, 0, [])), (25, (11, 28, 3, 89, 0, 0, 0, [])), (28, (1, 29, 0, 2, 0, 0, 0, [])), (29, (1, 30, 1, 0, 0, 0, 0, [])), (30, (1, 31, 3, 0, 0, 0, 0, [])), (31, (20, 34, 34, 1, 0, 644, 0, [(5, 3), (0, 41), (0, 0), (0, 0)]))],
  [(34, (2, 36, 4, 0, 0, 0, 0, [])), (36, (1, 37, 2, 0, 0, 0, 0, [])), (37, (1, 38, 0, 2, 0, 0, 0, [])), (38, (1, 39, 1, 0, 0, 0, 0, [])), (39, (0, 40, 0, 0, 0, 0, 3, [])), (40, (20, 43, 16, 1, 0, 648, 0, [(3, 3), (0, 41), (0, 0), (0, 0)])), (43, (10, 46, 0, 53, 0, 0, 0, [])), (46, (0, 47, 0, 0, 0, 0, 2, [])), (47, (1, 49, 4, 0, 0, 0, 0, [])), (49, (4, 50, 2, 0, 0, 0, 0, [])), (50, (13, 53, 0, 55, 0, 0, 0, [])), (53, (1, 55, 4, 0, 0, 0, 0, [])), (55, (4, 56, 0, 0, 0, 0, 0, [])), (56, (2, 57, 2, 0, 0, 0, 0, [])), (57, (1, 58, 2, 0, 0, 0, 0, [])), (58, (1, 59, 0, 2, 0, 0, 0, [])), (59, (1, 60, 1, 0, 0, 0, 0, [])), (60, (0, 61, 0, 0, 0, 0, 1, [])), (61, (4, 62, 1, 0, 0, 0, 0, [])), (62, (0, 63, 0, 0, 0, 0, 3, [])), (63, (20, 66, 16, 1, 0, 648, 0, [(3, 3), (0, 41), (0, 0), (0, 0)]))],
  [(66, (10, 69, 0, 73, 0, 0, 0, [])), (69, (0, 70, 0, 0, 0, 0, 0, [])), (70, (13, 73, 0, 81, 0, 0, 0, [])), (73, (1, 74, 0, 2, 0, 0, 0, [])), (74, (1, 75, 1, 0, 0, 0, 0, [])), (75, (0, 76, 0, 0, 0, 0, 1, [])), (76, (4, 77, 1, 0, 0, 0, 0, [])), (77, (1, 78, 3, 0, 0, 0, 0, [])), (78, (20, 81, 34, 1, 0, 644, 0, [(5, 3), (0, 41), (0, 0), (0, 0)])), (81, (4, 82, 0, 0, 0, 0, 0, [])), (82, (2, 83, 2, 0, 0, 0, 0, [])), (83, (3, 86, 3, 0, 0, 0, 1, [])), (86, (13, 89, 0, 20, 0, 0, 0, [])), (89, (1, 90, 2, 0, 0, 0, 0, [])), (90, (21, 91, 1, 0, 0, 0, 0, []))]]
set_option maxRecDepth 100000 in
noncomputable def tb36 : List (List (Nat × II)) := [[(0, (1, 1, 0, 2, 0, 0, 0, [])), (1, (1, 2, 1, 0, 0, 0, 0, [])), (2, (20, 5, 20, 1, 0, 612, 0, [(2, 2), (0, 41), (0, 0)])), (5, (2, 6, 2, 0, 0, 0, 0, [])), (6, (0, 7, 0, 0, 0, 0, 1, [])), (7, (2, 8, 3, 0, 0, 0, 0, [])), (8, (0, 9, 0, 0, 0, 0, 0, [])), (9, (2, 11, 4, 0, 0, 0, 0, [])), (11, (1, 13, 4, 0, 0, 0, 0, [])), (13, (1, 14, 0, 2, 0, 0, 0, [])), (14, (15, 17, 2, 1, 0, 253, 0, [])), (17, (11, 20, 3, 52, 0, 0, 0, [])), (20, (1, 21, 0, 2, 0, 0, 0, [])), (21, (1, 22, 1, 0, 0, 0, 0, [])), (22, (1, 24, 4, 0, 0, 0, 0, [])), (24, (20, 27, 30, 1, 0, 615, 0, [(3, 3), (0, 41), (0, 0), (0, 0)])), (27, (10, 30, 0, 46, 0, 0, 0, [])), (30, (1, 31, 3, 0, 0, 0, 0, [])), (31, (1, 33, 4, 0, 0, 0, 0, []))],
  [(33, (0, 34, 0, 0, 0, 0, 1, [])), (34, (4, 35, 0, 0, 0, 0, 0, [])), (35, (1, 36, 2, 0, 0, 0, 0, [])), (36, (4, 37, 1, 0, 0, 0, 0, [])), (37, (32, 40, 0, 0, 0, 601, 0, [])), (40, (2, 41, 3, 0, 0, 0, 0, [])), (41, (1, 43, 4, 0, 0, 0, 0, [])), (43, (0, 44, 0, 0, 0, 0, 1, [])), (44, (4, 45, 0, 0, 0, 0, 0, [])), (45, (2, 46, 2, 0, 0, 0, 0, [])), (46, (3, 49, 4, 0, 0, 0, 1, [])), (49, (13, 52, 0, 11, 0, 0, 0, [])), (52, (1, 53, 3, 0, 0, 0, 0, [])), (53, (1, 54, 0, 2, 0, 0, 0, [])), (54, (15, 57, 2, 1, 0, 253, 0, [])), (57, (1, 58, 2, 0, 0, 0, 0, [])), (58, (4, 59, 1, 0, 0, 0, 0, [])), (59, (32, 62, 0, 0, 0, 601, 0, [])), (62, (21, 63, 1, 0, 0, 0, 0, []))]]
set_option maxRecDepth 100000 in
noncomputable def tb37 : List (List (Nat × II)) := [[(0, (1, 1, 1, 0, 0, 0, 0, [])), (1, (10, 4, 2, 11, 0, 0, 0, [])), (4, (1, 5, 1, 0, 0, 0, 0, [])), (5, (0, 8, 0, 0, 0, 0, 396, [])), (8, (11, 11, 2, 13, 0, 0, 0, [])), (11, (0, 12, 0, 0, 0, 0, 0, [])), (12, (21, 13, 2, 0, 3, 0, 0, [])), (13, (1, 14, 1, 0, 0, 0, 0, [])), (14, (0, 16, 0, 0, 0, 0, 66, [])), (16, (5, 17, 1, 0, 0, 0, 0, [])), (17, (0, 19, 0, 0, 0, 0, 11, [])), (19, (5, 20, 0, 0, 0, 0, 0, [])), (20, (2, 21, 2, 0, 0, 0, 0, [])), (21, (1, 22, 1, 0, 0, 0, 0, [])), (22, (0, 24, 0, 0, 0, 0, 11, [])), (24, (5, 25, 1, 0, 0, 0, 0, [])), (25, (2, 26, 3, 0, 0, 0, 0, [])), (26, (1, 27, 1, 0, 0, 0, 0, [])), (27, (0, 29, 0, 0, 0, 0, 66, [])), (29, (5, 30, 0, 0, 0, 0, 0, [])), (30, (14, 64, 0, 155, 0, 0, 0, [(0, 64), (1, 95), (2, 126), (3, 133), (4, 148)]))],
  [],
  [(64, (1, 65, 0, 2, 0, 0, 0, [])), (65, (1, 66, 3, 0, 0, 0, 0, [])), (66, (20, 69, 12, 1, 0, 436, 0, [(2, 2), (0, 41), (0, 0)])), (69, (10, 72, 0, 93, 0, 0, 0, [])), (72, (1, 73, 0, 2, 0, 0, 0, [])), (73, (1, 74, 2, 0, 0, 0, 0, [])), (74, (20, 77, 13, 1, 0, 440, 0, [(2, 2), (0, 41), (0, 0)])), (77, (10, 80, 0, 93, 0, 0, 0, [])), (80, (1, 81, 2, 0, 0, 0, 0, [])), (81, (1, 82, 0, 2, 0, 0, 0, [])), (82, (1, 83, 3, 0, 0, 0, 0, [])), (83, (20, 86, 20, 1, 0, 612, 0, [(2, 2), (0, 41), (0, 0)])), (86, (11, 89, 2, 93, 0, 0, 0, [])), (89, (0, 90, 0, 0, 0, 0, 1, [])), (90, (13, 93, 0, 94, 0, 0, 0, [])), (93, (0, 94, 0, 0, 0, 0, 0, [])), (94, (21, 95, 2, 0, 3, 0, 0, [])), (95, (1, 96, 0, 2, 0, 0, 0, []))],
  [(96, (1, 97, 3, 0, 0, 0, 0, [])), (97, (20, 100, 11, 1, 0, 428, 0, [(2, 2), (0, 41), (0, 0)])), (100, (10, 103, 0, 124, 0, 0, 0, [])), (103, (1, 104, 0, 2, 0, 0, 0, [])), (104, (1, 105, 2, 0, 0, 0, 0, [])), (105, (20, 108, 13, 1, 0, 440, 0, [(2, 2), (0, 41), (0, 0)])), (108, (10, 111, 0, 124, 0, 0, 0, [])), (111, (1, 112, 0, 2, 0, 0, 0, [])), (112, (1, 113, 3, 0, 0, 0, 0, [])), (113, (1, 114, 2, 0, 0, 0, 0, [])), (114, (20, 117, 18, 1, 0, 613, 0, [(3, 3), (0, 41), (0, 0), (0, 0)])), (117, (10, 120, 1, 124, 0, 0, 0, [])), (120, (0, 121, 0, 0, 0, 0, 1, [])), (121, (13, 124, 0, 125, 0, 0, 0, [])), (124, (0, 125, 0, 0, 0, 0, 0, [])), (125, (21, 126, 2, 0, 3, 0, 0, [])), (126, (1, 127, 0, 2, 0, 0, 0, [])), (127, (1, 128, 3, 0, 0, 0, 0, []))],
  [(128, (1, 129, 2, 0, 0, 0, 0, [])), (129, (20, 132, 28, 1, 0, 614, 0, [(3, 3), (0, 41), (0, 0), (0, 0)])), (132, (21, 133, 2, 0, 3, 0, 0, [])), (133, (1, 134, 0, 2, 0, 0, 0, [])), (134, (1, 135, 3, 0, 0, 0, 0, [])), (135, (1, 136, 2, 0, 0, 0, 0, [])), (136, (20, 139, 26, 1, 0, 520, 0, [(3, 3), (0, 41), (0, 0), (0, 0)])), (139, (10, 142, 2, 146, 0, 0, 0, [])), (142, (0, 143, 0, 0, 0, 0, 1, [])), (143, (13, 146, 0, 147, 0, 0, 0, [])), (146, (0, 147, 0, 0, 0, 0, 0, [])), (147, (21, 148, 2, 0, 3, 0, 0, [])), (148, (1, 149, 0, 2, 0, 0, 0, [])), (149, (1, 150, 3, 0, 0, 0, 0, [])), (150, (1, 151, 2, 0, 0, 0, 0, [])), (151, (20, 154, 30, 1, 0, 615, 0, [(3, 3), (0, 41), (0, 0), (0, 0)])), (154, (21, 155, 2, 0, 3, 0, 0, [])), (155, (1, 156, 0, 2, 0, 0, 0, [])), (156, (1, 157, 2, 0, 0, 0, 0, [])), (157, (20, 160, 13, 1, 0, 440, 0, [(2, 2), (0, 41), (0, 0)]))],
  [(160, (10, 163, 0, 176, 0, 0, 0, [])), (163, (1, 164, 0, 2, 0, 0, 0, [])), (164, (1, 165, 3, 0, 0, 0, 0, [])), (165, (1, 166, 2, 0, 0, 0, 0, [])), (166, (20, 169, 18, 1, 0, 613, 0, [(3, 3), (0, 41), (0, 0), (0, 0)])), (169, (10, 172, 0, 176, 0, 0, 0, [])), (172, (0, 173, 0, 0, 0, 0, 1, [])), (173, (13, 176, 0, 177, 0, 0, 0, [])), (176, (0, 177, 0, 0, 0, 0, 0, [])), (177, (21, 178, 2, 0, 3, 0, 0, []))]]
set_option maxRecDepth 100000 in
noncomputable def tb38 : List (List (Nat × II)) := [[(0, (0, 1, 0, 0, 0, 0, 0, [])), (1, (2, 2, 2, 0, 0, 0, 0, [])), (2, (0, 3, 0, 0, 0, 0, 0, [])), (3, (2, 4, 3, 0, 0, 0, 0, [])), (4, (1, 5, 3, 0, 0, 0, 0, [])), (5, (0, 7, 0, 0, 0, 0, 66, [])), (7, (11, 10, 3, 32, 0, 0, 0, [])), (10, (1, 11, 0, 2, 0, 0, 0, [])), (11, (0, 13, 0, 0, 0, 0, 66, [])), (13, (1, 14, 1, 0, 0, 0, 0, [])), (14, (4, 15, 2, 0, 0, 0, 0, [])), (15, (1, 16, 3, 0, 0, 0, 0, [])), (16, (4, 17, 0, 0, 0, 0, 0, [])), (17, (20, 20, 37, 1, 0, 608, 0, [(4, 2), (0, 41), (0, 0)])), (20, (10, 23, 0, 26, 0, 0, 0, [])), (23, (3, 26, 2, 0, 0, 0, 1, [])), (26, (3, 29, 3, 0, 0, 0, 1, [])), (29, (13, 32, 0, 4, 0, 0, 0, []))],
  [(32, (1, 33, 2, 0, 0, 0, 0, [])), (33, (21, 34, 1, 0, 0, 0, 0, []))]]
set_option maxRecDepth 100000 in
noncomputable def tb39 : List (List (Nat × II)) := [[(0, (0, 1, 0, 0, 0, 0, 0, [])), (1, (2, 2, 3, 0, 0, 0, 0, [])), (2, (0, 3, 0, 0, 0, 0, 0, [])), (3, (2, 5, 4, 0, 0, 0, 0, [])), (5, (1, 7, 4, 0, 0, 0, 0, [])), (7, (0, 9, 0, 0, 0, 0, 66, [])), (9, (11, 12, 3, 49, 0, 0, 0, [])), (12, (1, 13, 0, 2, 0, 0, 0, [])), (13, (0, 15, 0, 0, 0, 0, 66, [])), (15, (1, 16, 1, 0, 0, 0, 0, [])), (16, (4, 17, 2, 0, 0, 0, 0, [])), (17, (1, 19, 4, 0, 0, 0, 0, [])), (19, (4, 20, 0, 0, 0, 0, 0, [])), (20, (20, 23, 37, 1, 0, 608, 0, [(4, 2), (0, 41), (0, 0)])), (23, (10, 26, 0, 43, 0, 0, 0, [])), (26, (1, 27, 0, 2, 0, 0, 0, [])), (27, (1, 28, 1, 0, 0, 0, 0, [])), (28, (1, 30, 4, 0, 0, 0, 0, [])), (30, (0, 32, 0, 0, 0, 0, 11, []))],
  [(32, (5, 33, 1, 0, 0, 0, 0, [])), (33, (20, 36, 40, 1, 0, 970, 0, [(3, 3), (0, 41), (0, 0), (0, 0)])), (36, (1, 37, 2, 0, 0, 0, 0, [])), (37, (11, 40, 1, 43, 0, 0, 0, [])), (40, (3, 43, 3, 0, 0, 0, 1, [])), (43, (3, 46, 4, 0, 0, 0, 1, [])), (46, (13, 49, 0, 5, 0, 0, 0, [])), (49, (1, 50, 3, 0, 0, 0, 0, [])), (50, (21, 51, 1, 0, 0, 0, 0, []))]]
set_option maxRecDepth 100000 in
noncomputable def tb40 : List (List (Nat × II)) := [[(0, (1, 1, 1, 0, 0, 0, 0, [])), (1, (10, 4, 1, 9, 0, 0, 0, [])), (4, (1, 5, 0, 2, 0, 0, 0, [])), (5, (15, 8, 3, 1, 0, 257, 0, [])), (8, (21, 9, 1, 0, 0, 0, 0, [])), (9, (1, 10, 1, 0, 0, 0, 0, [])), (10, (0, 11, 0, 0, 0, 0, 4, [])), (11, (11, 14, 1, 18, 0, 0, 0, [])), (14, (0, 15, 0, 0, 0, 0, 1, [])), (15, (13, 18, 0, 23, 0, 0, 0, [])), (18, (1, 19, 0, 2, 0, 0, 0, [])), (19, (1, 20, 2, 0, 0, 0, 0, [])), (20, (20, 23, 15, 1, 0, 649, 0, [(2, 2), (0, 41), (0, 0)])), (23, (21, 24, 1, 0, 0, 0, 0, []))]]
set_option maxRecDepth 100000 in
noncomputable def tb41 : List (List (Nat × II)) := [[(0, (1, 1, 1, 0, 0, 0, 0, [])), (1, (0, 3, 0, 0, 0, 0, 66, [])), (3, (5, 4, 1, 0, 0, 0, 0, [])), (4, (0, 6, 0, 0, 0, 0, 11, [])), (6, (5, 7, 0, 0, 0, 0, 0, [])), (7, (2, 8, 3, 0, 0, 0, 0, [])), (8, (1, 9, 1, 0, 0, 0, 0, [])), (9, (0, 11, 0, 0, 0, 0, 11, [])), (11, (5, 12, 1, 0, 0, 0, 0, [])), (12, (2, 14, 4, 0, 0, 0, 0, [])), (14, (1, 15, 1, 0, 0, 0, 0, [])), (15, (0, 17, 0, 0, 0, 0, 66, [])), (17, (5, 18, 0, 0, 0, 0, 0, [])), (18, (14, 52, 0, 103, 0, 0, 0, [(0, 52), (1, 61), (2, 71), (3, 71), (4, 87)]))],
  [(52, (1, 53, 0, 2, 0, 0, 0, [])), (53, (1, 55, 4, 0, 0, 0, 0, [])), (55, (1, 56, 3, 0, 0, 0, 0, [])), (56, (1, 57, 2, 0, 0, 0, 0, [])), (57, (20, 60, 42, 1, 0, 809, 0, [(5, 4), (0, 41), (0, 0), (0, 0), (0, 0)])), (60, (21, 61, 1, 0, 0, 0, 0, [])), (61, (0, 62, 0, 0, 0, 0, 0, [])), (62, (1, 63, 3, 0, 0, 0, 0, [])), (63, (1, 65, 4, 0, 0, 0, 0, []))],
  [(65, (1, 66, 2, 0, 0, 0, 0, [])), (66, (4, 67, 0, 0, 0, 0, 0, [])), (67, (20, 70, 147, 0, 0, 509, 1, [(3, 3), (0, 0), (0, 0), (0, 0)])), (70, (21, 71, 1, 0, 0, 0, 0, [])), (71, (1, 72, 2, 0, 0, 0, 0, [])), (72, (10, 75, 1, 85, 0, 0, 0, [])), (75, (0, 76, 0, 0, 0, 0, 1, [])), (76, (1, 77, 3, 0, 0, 0, 0, [])), (77, (1, 79, 4, 0, 0, 0, 0, [])), (79, (20, 82, 147, 0, 0, 509, 1, [(3, 3), (0, 0), (0, 0), (0, 0)])), (82, (13, 85, 0, 86, 0, 0, 0, [])), (85, (0, 86, 0, 0, 0, 0, (-1), [])), (86, (21, 87, 1, 0, 0, 0, 0, [])), (87, (1, 88, 2, 0, 0, 0, 0, [])), (88, (10, 91, 1, 101, 0, 0, 0, [])), (91, (0, 92, 0, 0, 0, 0, 0, [])), (92, (1, 93, 3, 0, 0, 0, 0, [])), (93, (1, 95, 4, 0, 0, 0, 0, [])), (95, (20, 98, 147, 0, 0, 509, 1, [(3, 3), (0, 0), (0, 0), (0, 0)]))],
  [(98, (13, 101, 0, 102, 0, 0, 0, [])), (101, (0, 102, 0, 0, 0, 0, (-1), [])), (102, (21, 103, 1, 0, 0, 0, 0, [])), (103, (0, 104, 0, 0, 0, 0, 0, [])), (104, (0, 105, 0, 0, 0, 0, 0, [])), (105, (1, 106, 2, 0, 0, 0, 0, [])), (106, (10, 109, 1, 119, 0, 0, 0, [])), (109, (1, 110, 0, 2, 0, 0, 0, [])), (110, (1, 112, 4, 0, 0, 0, 0, [])), (112, (0, 113, 0, 0, 0, 0, (-1), [])), (113, (20, 116, 21, 1, 0, 813, 0, [(5, 3), (0, 41), (0, 0), (0, 0)])), (116, (13, 119, 0, 128, 0, 0, 0, [])), (119, (1, 120, 0, 2, 0, 0, 0, [])), (120, (1, 122, 4, 0, 0, 0, 0, [])), (122, (0, 123, 0, 0, 0, 0, 1, [])), (123, (4, 124, 0, 0, 0, 0, 0, [])), (124, (0, 125, 0, 0, 0, 0, 1, [])), (125, (20, 128, 21, 1, 0, 813, 0, [(5, 3), (0, 41), (0, 0), (0, 0)]))],
  [(128, (20, 131, 147, 0, 0, 509, 1, [(3, 3), (0, 0), (0, 0), (0, 0)])), (131, (21, 132, 1, 0, 0, 0, 0, []))]]
set_option maxRecDepth 100000 in
noncomputable def tb42 : List (List (Nat × II)) := [[(0, (1, 1, 0, 2, 0, 0, 0, [])), (1, (1, 2, 1, 0, 0, 0, 0, [])), (2, (20, 5, 20, 1, 0, 612, 0, [(2, 2), (0, 41), (0, 0)])), (5, (2, 7, 4, 0, 0, 0, 0, [])), (7, (1, 8, 2, 0, 0, 0, 0, [])), (8, (1, 10, 4, 0, 0, 0, 0, [])), (10, (11, 13, 5, 30, 0, 0, 0, [])), (13, (1, 14, 3, 0, 0, 0, 0, [])), (14, (10, 17, 1, 28, 0, 0, 0, [])), (17, (0, 18, 0, 0, 0, 0, 0, [])), (18, (1, 19, 2, 0, 0, 0, 0, [])), (19, (0, 20, 0, 0, 0, 0, 1, [])), (20, (4, 21, 1, 0, 0, 0, 0, [])), (21, (1, 22, 1, 0, 0, 0, 0, [])), (22, (20, 25, 147, 0, 0, 509, 1, [(3, 3), (0, 0), (0, 0), (0, 0)])), (25, (13, 28, 0, 29, 0, 0, 0, [])), (28, (0, 29, 0, 0, 0, 0, (-1), [])), (29, (21, 30, 1, 0, 0, 0, 0, [])), (30, (1, 32, 4, 0, 0, 0, 0, []))],
  [(32, (10, 35, 1, 39, 0, 0, 0, [])), (35, (0, 36, 0, 0, 0, 0, (-1), [])), (36, (13, 39, 0, 49, 0, 0, 0, [])), (39, (0, 40, 0, 0, 0, 0, 5, [])), (40, (0, 41, 0, 0, 0, 0, 0, [])), (41, (1, 42, 1, 0, 0, 0, 0, [])), (42, (0, 43, 0, 0, 0, 0, 1, [])), (43, (4, 44, 1, 0, 0, 0, 0, [])), (44, (1, 45, 3, 0, 0, 0, 0, [])), (45, (4, 46, 0, 0, 0, 0, 0, [])), (46, (20, 49, 147, 0, 0, 509, 1, [(3, 3), (0, 0), (0, 0), (0, 0)])), (49, (21, 50, 1, 0, 0, 0, 0, []))]]
set_option maxRecDepth 100000 in
noncomputable def tb43 : List (List (Nat × II)) := [[(0, (1, 1, 1, 0, 0, 0, 0, [])), (1, (10, 4, 2, 24, 0, 0, 0, [])), (4, (1, 5, 1, 0, 0, 0, 0, [])), (5, (0, 8, 0, 0, 0, 0, 396, [])), (8, (11, 11, 3, 24, 0, 0, 0, [])), (11, (1, 12, 0, 2, 0, 0, 0, [])), (12, (15, 15, 13, 1, 30, 273, 0, [])), (15, (1, 16, 1, 0, 0, 0, 0, [])), (16, (17, 17, 0, 0, 0, 0, 0, [])), (17, (10, 20, 2, 24, 0, 0, 0, [])), (20, (0, 21, 0, 0, 0, 0, 1, [])), (21, (13, 24, 0, 25, 0, 0, 0, [])), (24, (0, 25, 0, 0, 0, 0, 0, [])), (25, (21, 26, 2, 0, 3, 0, 0, []))]]
set_option maxRecDepth 100000 in
noncomputable def tb44 : List (List (Nat × II)) := [[(0, (1, 1, 0, 2, 0, 0, 0, [])), (1, (1, 2, 1, 0, 0, 0, 0, [])), (2, (20, 5, 43, 1, 0, 512, 0, [(2, 2), (0, 41), (0, 0)])), (5, (10, 8, 1, 16, 0, 0, 0, [])), (8, (1, 9, 0, 2, 0, 0, 0, [])), (9, (1, 10, 1, 0, 0, 0, 0, [])), (10, (20, 13, 37, 1, 0, 608, 0, [(4, 2), (0, 41), (0, 0)])), (13, (10, 16, 1, 18, 0, 0, 0, [])), (16, (0, 17, 0, 0, 0, 0, 0, [])), (17, (21, 18, 2, 0, 3, 0, 0, [])), (18, (1, 19, 0, 2, 0, 0, 0, [])), (19, (1, 20, 1, 0, 0, 0, 0, [])), (20, (0, 21, 0, 0, 0, 0, 0, [])), (21, (20, 24, 41, 1, 0, 805, 0, [(5, 3), (0, 41), (0, 0), (0, 0)])), (24, (2, 25, 2, 0, 0, 0, 0, [])), (25, (1, 26, 0, 2, 0, 0, 0, [])), (26, (1, 27, 1, 0, 0, 0, 0, [])), (27, (0, 28, 0, 0, 0, 0, 1, [])), (28, (20, 31, 41, 1, 0, 805, 0, [(5, 3), (0, 41), (0, 0), (0, 0)])), (31, (2, 32, 3, 0, 0, 0, 0, []))],
  [(32, (1, 33, 2, 0, 0, 0, 0, [])), (33, (10, 36, 2, 44, 0, 0, 0, [])), (36, (1, 37, 0, 2, 0, 0, 0, [])), (37, (1, 38, 2, 0, 0, 0, 0, [])), (38, (20, 41, 43, 1, 0, 512, 0, [(2, 2), (0, 41), (0, 0)])), (41, (10, 44, 0, 60, 0, 0, 0, [])), (44, (1, 45, 3, 0, 0, 0, 0, [])), (45, (10, 48, 2, 56, 0, 0, 0, [])), (48, (1, 49, 0, 2, 0, 0, 0, [])), (49, (1, 50, 3, 0, 0, 0, 0, [])), (50, (20, 53, 43, 1, 0, 512, 0, [(2, 2), (0, 41), (0, 0)])), (53, (10, 56, 0, 60, 0, 0, 0, [])), (56, (0, 57, 0, 0, 0, 0, 1, [])), (57, (13, 60, 0, 61, 0, 0, 0, [])), (60, (0, 61, 0, 0, 0, 0, 0, [])), (61, (21, 62, 2, 0, 3, 0, 0, []))]]
set_option maxRecDepth 100000 in
noncomputable def tb45 : List (List (Nat × II)) := [[(0, (1, 1, 0, 2, 0, 0, 0, [])), (1, (1, 2, 1, 0, 0, 0, 0, [])), (2, (20, 5, 43, 1, 0, 512, 0, [(2, 2), (0, 41), (0, 0)])), (5, (10, 8, 0, 21, 0, 0, 0, [])), (8, (1, 9, 0, 2, 0, 0, 0, [])), (9, (15, 12, 13, 1, 30, 273, 0, [])), (12, (1, 13, 1, 0, 0, 0, 0, [])), (13, (17, 14, 0, 0, 0, 0, 0, [])), (14, (10, 17, 1, 21, 0, 0, 0, [])), (17, (0, 18, 0, 0, 0, 0, 1, [])), (18, (13, 21, 0, 22, 0, 0, 0, [])), (21, (0, 22, 0, 0, 0, 0, 0, [])), (22, (21, 23, 2, 0, 3, 0, 0, []))]]
set_option maxRecDepth 100000 in
noncomputable def tb46 : List (List (Nat × II)) := [[(0, (1, 1, 0, 2, 0, 0, 0, [])), (1, (1, 2, 1, 0, 0, 0, 0, [])), (2, (20, 5, 44, 1, 0, 818, 0, [(4, 2), (0, 41), (0, 0)])), (5, (10, 8, 0, 58, 0, 0, 0, [])), (8, (1, 9, 0, 2, 0, 0, 0, [])), (9, (15, 12, 13, 1, 30, 273, 0, [])), (12, (1, 13, 1, 0, 0, 0, 0, [])), (13, (0, 14, 0, 0, 0, 0, 0, [])), (14, (18, 15, 0, 0, 0, 0, 0, [])), (15, (1, 16, 0, 2, 0, 0, 0, [])), (16, (22, 17, 0, 0, 0, 0, 0, [])), (17, (15, 20, 5, 1, 0, 265, 0, [])), (20, (0, 21, 0, 0, 0, 0, 1, [])), (21, (4, 22, 0, 0, 0, 0, 0, [])), (22, (16, 25, 5, 1, 0, 265, 0, [])), (25, (1, 26, 0, 2, 0, 0, 0, [])), (26, (1, 27, 0, 2, 0, 0, 0, [])), (27, (1, 28, 1, 0, 0, 0, 0, [])), (28, (0, 29, 0, 0, 0, 0, 0, [])), (29, (20, 32, 41, 1, 0, 805, 0, [(5, 3), (0, 41), (0, 0), (0, 0)]))],
  [(32, (0, 33, 0, 0, 0, 0, 1, [])), (33, (20, 36, 48, 1, 9, 819, 0, [(3, 3), (0, 41), (0, 0), (0, 0)])), (36, (1, 37, 0, 2, 0, 0, 0, [])), (37, (1, 38, 0, 2, 0, 0, 0, [])), (38, (1, 39, 1, 0, 0, 0, 0, [])), (39, (0, 40, 0, 0, 0, 0, 1, [])), (40, (20, 43, 41, 1, 0, 805, 0, [(5, 3), (0, 41), (0, 0), (0, 0)])), (43, (0, 44, 0, 0, 0, 0, 1, [])), (44, (20, 47, 48, 1, 9, 819, 0, [(3, 3), (0, 41), (0, 0), (0, 0)])), (47, (1, 48, 0, 2, 0, 0, 0, [])), (48, (1, 49, 1, 0, 0, 0, 0, [])), (49, (0, 51, 0, 0, 0, 0, 66, [])), (51, (5, 52, 1, 0, 0, 0, 0, [])), (52, (0, 54, 0, 0, 0, 0, 11, [])), (54, (5, 55, 0, 0, 0, 0, 0, [])), (55, (20, 58, 59, 1, 9, 823, 0, [(3, 2), (0, 41), (0, 0)])), (58, (21, 59, 0, 0, 9, 0, 0, []))]]
set_option maxRecDepth 100000 in
noncomputable def tb47 : List (List (Nat × II)) := [[(0, (1, 1, 0, 2, 0, 0, 0, [])), (1, (1, 2, 1, 0, 0, 0, 0, [])), (2, (20, 5, 45, 1, 0, 843, 0, [(2, 2), (0, 41), (0, 0)])), (5, (10, 8, 0, 58, 0, 0, 0, [])), (8, (1, 9, 0, 2, 0, 0, 0, [])), (9, (15, 12, 13, 1, 30, 273, 0, [])), (12, (1, 13, 1, 0, 0, 0, 0, [])), (13, (0, 14, 0, 0, 0, 0, (-1), [])), (14, (18, 15, 0, 0, 0, 0, 0, [])), (15, (1, 16, 0, 2, 0, 0, 0, [])), (16, (22, 17, 0, 0, 0, 0, 0, [])), (17, (15, 20, 5, 1, 0, 265, 0, [])), (20, (0, 21, 0, 0, 0, 0, 1, [])), (21, (4, 22, 1, 0, 0, 0, 0, [])), (22, (16, 25, 5, 1, 0, 265, 0, [])), (25, (1, 26, 0, 2, 0, 0, 0, [])), (26, (1, 27, 0, 2, 0, 0, 0, [])), (27, (1, 28, 1, 0, 0, 0, 0, [])), (28, (0, 29, 0, 0, 0, 0, 0, [])), (29, (20, 32, 41, 1, 0, 805, 0, [(5, 3), (0, 41), (0, 0), (0, 0)]))],
  [(32, (0, 33, 0, 0, 0, 0, (-1), [])), (33, (20, 36, 48, 1, 9, 819, 0, [(3, 3), (0, 41), (0, 0), (0, 0)])), (36, (1, 37, 0, 2, 0, 0, 0, [])), (37, (1, 38, 0, 2, 0, 0, 0, [])), (38, (1, 39, 1, 0, 0, 0, 0, [])), (39, (0, 40, 0, 0, 0, 0, 1, [])), (40, (20, 43, 41, 1, 0, 805, 0, [(5, 3), (0, 41), (0, 0), (0, 0)])), (43, (0, 44, 0, 0, 0, 0, (-1), [])), (44, (20, 47, 48, 1, 9, 819, 0, [(3, 3), (0, 41), (0, 0), (0, 0)])), (47, (1, 48, 0, 2, 0, 0, 0, [])), (48, (1, 49, 1, 0, 0, 0, 0, [])), (49, (0, 51, 0, 0, 0, 0, 66, [])), (51, (5, 52, 1, 0, 0, 0, 0, [])), (52, (0, 54, 0, 0, 0, 0, 11, [])), (54, (5, 55, 0, 0, 0, 0, 0, [])), (55, (20, 58, 59, 1, 9, 823, 0, [(3, 2), (0, 41), (0, 0)])), (58, (21, 59, 0, 0, 9, 0, 0, []))]]
set_option maxRecDepth 100000 in
noncomputable def tb48 : List (List (Nat × II)) := [[(0, (1, 1, 0, 2, 0, 0, 0, [])), (1, (1, 2, 1, 0, 0, 0, 0, [])), (2, (20, 5, 43, 1, 0, 512, 0, [(2, 2), (0, 41), (0, 0)])), (5, (10, 8, 0, 18, 0, 0, 0, [])), (8, (1, 9, 0, 2, 0, 0, 0, [])), (9, (15, 12, 13, 1, 30, 273, 0, [])), (12, (1, 13, 1, 0, 0, 0, 0, [])), (13, (23, 14, 0, 0, 0, 0, 0, [])), (14, (17, 15, 0, 0, 0, 0, 0, [])), (15, (1, 16, 2, 0, 0, 0, 0, [])), (16, (4, 17, 0, 0, 0, 0, 0, [])), (17, (18, 18, 0, 0, 0, 0, 0, [])), (18, (21, 19, 0, 0, 9, 0, 0, []))]]
set_option maxRecDepth 100000 in
noncomputable def tb49 : List (List (Nat × II)) := [[(0, (1, 1, 1, 0, 0, 0, 0, [])), (1, (2, 2, 2, 0, 0, 0, 0, [])), (2, (1, 3, 2, 0, 0, 0, 0, [])), (3, (0, 6, 0, 0, 0, 0, 396, [])), (6, (11, 9, 3, 25, 0, 0, 0, [])), (9, (1, 10, 0, 2, 0, 0, 0, [])), (10, (1, 11, 2, 0, 0, 0, 0, [])), (11, (20, 14, 44, 1, 0, 818, 0, [(4, 2), (0, 41), (0, 0)])), (14, (10, 17, 0, 19, 0, 0, 0, [])), (17, (1, 18, 2, 0, 0, 0, 0, [])), (18, (21, 19, 1, 0, 0, 0, 0, [])), (19, (3, 22, 2, 0, 0, 0, 1, [])), (22, (13, 25, 0, 2, 0, 0, 0, [])), (25, (0, 27, 0, 0, 0, 852, (-1000000005), [])), (27, (21, 28, 1, 0, 0, 0, 0, []))]]
set_option maxRecDepth 100000 in
noncomputable def tb50 : List (List (Nat × II)) := [[(0, (1, 1, 1, 0, 0, 0, 0, [])), (1, (2, 2, 2, 0, 0, 0, 0, [])), (2, (1, 3, 2, 0, 0, 0, 0, [])), (3, (10, 6, 2, 22, 0, 0, 0, [])), (6, (1, 7, 0, 2, 0, 0, 0, [])), (7, (1, 8, 2, 0, 0, 0, 0, [])), (8, (20, 11, 45, 1, 0, 843, 0, [(2, 2), (0, 41), (0, 0)])), (11, (10, 14, 0, 16, 0, 0, 0, [])), (14, (1, 15, 2, 0, 0, 0, 0, [])), (15, (21, 16, 1, 0, 0, 0, 0, [])), (16, (3, 19, 2, 0, 0, 0, (-1), [])), (19, (13, 22, 0, 2, 0, 0, 0, [])), (22, (0, 24, 0, 0, 0, 852, (-1000000005), [])), (24, (21, 25, 1, 0, 0, 0, 0, []))]]
set_option maxRecDepth 100000 in
noncomputable def tb51 : List (List (Nat × II)) := [[(0, (0, 1, 0, 0, 0, 0, 0, [])), (1, (2, 2, 1, 0, 0, 0, 0, [])), (2, (1, 3, 1, 0, 0, 0, 0, [])), (3, (0, 6, 0, 0, 0, 0, 396, [])), (6, (11, 9, 3, 33, 0, 0, 0, [])), (9, (1, 10, 0, 2, 0, 0, 0, [])), (10, (1, 11, 1, 0, 0, 0, 0, [])), (11, (20, 14, 37, 1, 0, 608, 0, [(4, 2), (0, 41), (0, 0)])), (14, (10, 17, 0, 27, 0, 0, 0, [])), (17, (1, 18, 0, 2, 0, 0, 0, [])), (18, (1, 19, 1, 0, 0, 0, 0, [])), (19, (20, 22, 43, 1, 0, 512, 0, [(2, 2), (0, 41), (0, 0)])), (22, (10, 25, 1, 27, 0, 0, 0, [])), (25, (1, 26, 1, 0, 0, 0, 0, [])), (26, (21, 27, 1, 0, 0, 0, 0, [])), (27, (3, 30, 1, 0, 0, 0, 1, [])), (30, (13, 33, 0, 2, 0, 0, 0, []))],
  [(33, (0, 35, 0, 0, 0, 852, (-1000000005), [])), (35, (21, 36, 1, 0, 0, 0, 0, []))]]
set_option maxRecDepth 100000 in
noncomputable def tb52 : List (List (Nat × II)) := [[(0, (0, 1, 0, 0, 0, 0, 0, [])), (1, (2, 2, 2, 0, 0, 0, 0, [])), (2, (0, 3, 0, 0, 0, 0, 0, [])), (3, (2, 4, 3, 0, 0, 0, 0, [])), (4, (1, 5, 3, 0, 0, 0, 0, [])), (5, (1, 6, 1, 0, 0, 0, 0, [])), (6, (11, 9, 3, 53, 0, 0, 0, [])), (9, (1, 10, 0, 2, 0, 0, 0, [])), (10, (1, 11, 2, 0, 0, 0, 0, [])), (11, (20, 14, 49, 1, 0, 869, 0, [(3, 2), (0, 41), (0, 0)])), (14, (2, 16, 4, 0, 0, 0, 0, [])), (16, (1, 18, 4, 0, 0, 0, 0, [])), (18, (10, 21, 3, 23, 0, 0, 0, [])), (21, (1, 22, 3, 0, 0, 0, 0, [])), (22, (21, 23, 1, 0, 0, 0, 0, [])), (23, (1, 24, 0, 2, 0, 0, 0, [])), (24, (1, 26, 4, 0, 0, 0, 0, [])), (26, (20, 29, 46, 1, 9, 870, 0, [(2, 2), (0, 41), (0, 0)])), (29, (1, 31, 4, 0, 0, 0, 0, [])), (31, (0, 33, 0, 0, 0, 0, 66, []))],
  [(33, (5, 34, 0, 0, 0, 0, 0, [])), (34, (0, 35, 0, 0, 0, 0, 5, [])), (35, (11, 38, 1, 42, 0, 0, 0, [])), (38, (0, 39, 0, 0, 0, 0, 0, [])), (39, (13, 42, 0, 46, 0, 0, 0, [])), (42, (1, 44, 4, 0, 0, 0, 0, [])), (44, (0, 45, 0, 0, 0, 0, 1, [])), (45, (4, 46, 0, 0, 0, 0, 0, [])), (46, (2, 47, 2, 0, 0, 0, 0, [])), (47, (3, 50, 3, 0, 0, 0, 1, [])), (50, (13, 53, 0, 4, 0, 0, 0, [])), (53, (1, 54, 1, 0, 0, 0, 0, [])), (54, (21, 55, 1, 0, 0, 0, 0, []))]]
set_option maxRecDepth 100000 in
noncomputable def tb53 : List (List (Nat × II)) := [[(0, (0, 3, 0, 0, 0, 0, 395, [])), (3, (2, 4, 2, 0, 0, 0, 0, [])), (4, (0, 5, 0, 0, 0, 0, 0, [])), (5, (2, 6, 3, 0, 0, 0, 0, [])), (6, (1, 7, 3, 0, 0, 0, 0, [])), (7, (1, 8, 1, 0, 0, 0, 0, [])), (8, (11, 11, 3, 56, 0, 0, 0, [])), (11, (1, 12, 0, 2, 0, 0, 0, [])), (12, (1, 13, 2, 0, 0, 0, 0, [])), (13, (20, 16, 50, 1, 0, 875, 0, [(3, 2), (0, 41), (0, 0)])), (16, (2, 18, 4, 0, 0, 0, 0, [])), (18, (1, 20, 4, 0, 0, 0, 0, [])), (20, (10, 23, 3, 25, 0, 0, 0, [])), (23, (1, 24, 3, 0, 0, 0, 0, [])), (24, (21, 25, 1, 0, 0, 0, 0, [])), (25, (1, 26, 0, 2, 0, 0, 0, [])), (26, (1, 28, 4, 0, 0, 0, 0, [])), (28, (20, 31, 47, 1, 9, 876, 0, [(2, 2), (0, 41), (0, 0)])), (31, (1, 33, 4, 0, 0, 0, 0, []))],
  [(33, (0, 35, 0, 0, 0, 0, 66, [])), (35, (5, 36, 0, 0, 0, 0, 0, [])), (36, (10, 39, 1, 45, 0, 0, 0, [])), (39, (0, 42, 0, 0, 0, 0, 395, [])), (42, (13, 45, 0, 49, 0, 0, 0, [])), (45, (1, 47, 4, 0, 0, 0, 0, [])), (47, (0, 48, 0, 0, 0, 0, 1, [])), (48, (4, 49, 1, 0, 0, 0, 0, [])), (49, (2, 50, 2, 0, 0, 0, 0, [])), (50, (3, 53, 3, 0, 0, 0, 1, [])), (53, (13, 56, 0, 6, 0, 0, 0, [])), (56, (1, 57, 1, 0, 0, 0, 0, [])), (57, (21, 58, 1, 0, 0, 0, 0, []))]]
set_option maxRecDepth 100000 in
noncomputable def tb54 : List (List (Nat × II)) := [[(0, (0, 1, 0, 0, 0, 0, 0, [])), (1, (2, 2, 2, 0, 0, 0, 0, [])), (2, (1, 3, 2, 0, 0, 0, 0, [])), (3, (0, 6, 0, 0, 0, 0, 396, [])), (6, (11, 9, 3, 44, 0, 0, 0, [])), (9, (1, 10, 2, 0, 0, 0, 0, [])), (10, (0, 12, 0, 0, 0, 0, 66, [])), (12, (5, 13, 1, 0, 0, 0, 0, [])), (13, (0, 15, 0, 0, 0, 0, 11, [])), (15, (5, 16, 0, 0, 0, 0, 0, [])), (16, (1, 17, 1, 0, 0, 0, 0, [])), (17, (11, 20, 4, 38, 0, 0, 0, [])), (20, (1, 21, 0, 2, 0, 0, 0, [])), (21, (1, 22, 2, 0, 0, 0, 0, [])), (22, (20, 25, 37, 1, 0, 608, 0, [(4, 2), (0, 41), (0, 0)])), (25, (10, 28, 0, 38, 0, 0, 0, [])), (28, (1, 29, 0, 2, 0, 0, 0, [])), (29, (1, 30, 2, 0, 0, 0, 0, [])), (30, (20, 33, 43, 1, 0, 512, 0, [(2, 2), (0, 41), (0, 0)]))],
  [(33, (10, 36, 1, 38, 0, 0, 0, [])), (36, (0, 37, 0, 0, 0, 0, 0, [])), (37, (21, 38, 2, 0, 3, 0, 0, [])), (38, (3, 41, 2, 0, 0, 0, 1, [])), (41, (13, 44, 0, 2, 0, 0, 0, [])), (44, (0, 45, 0, 0, 0, 0, 1, [])), (45, (21, 46, 2, 0, 3, 0, 0, []))]]
set_option maxRecDepth 100000 in
noncomputable def tb55 : List (List (Nat × II)) := [[(0, (1, 1, 0, 2, 0, 0, 0, [])), (1, (1, 2, 1, 0, 0, 0, 0, [])), (2, (20, 5, 13, 1, 0, 440, 0, [(2, 2), (0, 41), (0, 0)])), (5, (10, 8, 0, 21, 0, 0, 0, [])), (8, (1, 9, 0, 2, 0, 0, 0, [])), (9, (15, 12, 14, 1, 30, 274, 0, [])), (12, (1, 13, 1, 0, 0, 0, 0, [])), (13, (17, 14, 0, 0, 0, 0, 0, [])), (14, (10, 17, 2, 21, 0, 0, 0, [])), (17, (0, 18, 0, 0, 0, 0, 1, [])), (18, (13, 21, 0, 22, 0, 0, 0, [])), (21, (0, 22, 0, 0, 0, 0, 0, [])), (22, (21, 23, 2, 0, 3, 0, 0, []))]]
set_option maxRecDepth 100000 in
noncomputable def tb56 : List (List (Nat × II)) := [[(0, (1, 1, 0, 2, 0, 0, 0, [])), (1, (1, 2, 1, 0, 0, 0, 0, [])), (2, (20, 5, 13, 1, 0, 440, 0, [(2, 2), (0, 41), (0, 0)])), (5, (10, 8, 0, 17, 0, 0, 0, [])), (8, (1, 9, 0, 2, 0, 0, 0, [])), (9, (15, 12, 14, 1, 30, 274, 0, [])), (12, (1, 13, 1, 0, 0, 0, 0, [])), (13, (17, 14, 0, 0, 0, 0, 0, [])), (14, (13, 17, 0, 18, 0, 0, 0, [])), (17, (0, 18, 0, 0, 0, 0, (-1), [])), (18, (21, 19, 1, 0, 0, 0, 0, []))]]
set_option maxRecDepth 100000 in
noncomputable def tb57 : List (List (Nat × II)) := [[(0, (1, 1, 0, 2, 0, 0, 0, [])), (1, (1, 2, 1, 0, 0, 0, 0, [])), (2, (20, 5, 13, 1, 0, 440, 0, [(2, 2), (0, 41), (0, 0)])), (5, (10, 8, 0, 15, 0, 0, 0, [])), (8, (1, 9, 0, 2, 0, 0, 0, [])), (9, (15, 12, 14, 1, 30, 274, 0, [])), (12, (1, 13, 1, 0, 0, 0, 0, [])), (13, (1, 14, 2, 0, 0, 0, 0, [])), (14, (18, 15, 0, 0, 0, 0, 0, [])), (15, (21, 16, 0, 0, 9, 0, 0, []))]]
set_option maxRecDepth 100000 in
noncomputable def tb58 : List (List (Nat × II)) := [[(0, (0, 1, 0, 0, 0, 0, 0, [])), (1, (2, 2, 1, 0, 0, 0, 0, [])), (2, (0, 3, 0, 0, 0, 0, 0, [])), (3, (2, 4, 2, 0, 0, 0, 0, [])), (4, (1, 5, 2, 0, 0, 0, 0, [])), (5, (1, 6, 0, 2, 0, 0, 0, [])), (6, (15, 9, 2, 1, 0, 253, 0, [])), (9, (11, 12, 3, 29, 0, 0, 0, [])), (12, (1, 13, 0, 2, 0, 0, 0, [])), (13, (1, 14, 2, 0, 0, 0, 0, [])), (14, (20, 17, 55, 1, 0, 905, 0, [(2, 2), (0, 41), (0, 0)])), (17, (10, 20, 0, 23, 0, 0, 0, [])), (20, (3, 23, 1, 0, 0, 0, 1, [])), (23, (3, 26, 2, 0, 0, 0, 1, [])), (26, (13, 29, 0, 4, 0, 0, 0, [])), (29, (1, 30, 1, 0, 0, 0, 0, [])), (30, (21, 31, 1, 0, 0, 0, 0, []))]]
set_option maxRecDepth 100000 in
noncomputable def tb59 : List (List (Nat × II)) := [[(0, (1, 1, 1, 0, 0, 0, 0, [])), (1, (2, 2, 2, 0, 0, 0, 0, [])), (2, (1, 3, 2, 0, 0, 0, 0, [])), (3, (1, 4, 0, 2, 0, 0, 0, [])), (4, (15, 7, 2, 1, 0, 253, 0, [])), (7, (11, 10, 3, 22, 0, 0, 0, [])), (10, (1, 11, 0, 2, 0, 0, 0, [])), (11, (1, 12, 2, 0, 0, 0, 0, [])), (12, (0, 13, 0, 0, 0, 0, (-1), [])), (13, (20, 16, 57, 1, 9, 827, 0, [(3, 3), (0, 41), (0, 0), (0, 0)])), (16, (3, 19, 2, 0, 0, 0, 1, [])), (19, (13, 22, 0, 2, 0, 0, 0, [])), (22, (21, 23, 0, 0, 9, 0, 0, []))]]
set_option maxRecDepth 100000 in
noncomputable def tb60 : List (List (Nat × II)) := [[(0, (0, 1, 0, 0, 0, 0, 0, [])), (1, (2, 2, 2, 0, 0, 0, 0, [])), (2, (1, 3, 2, 0, 0, 0, 0, [])), (3, (1, 4, 0, 2, 0, 0, 0, [])), (4, (15, 7, 2, 1, 0, 253, 0, [])), (7, (11, 10, 3, 31, 0, 0, 0, [])), (10, (1, 11, 0, 2, 0, 0, 0, [])), (11, (1, 12, 2, 0, 0, 0, 0, [])), (12, (20, 15, 56, 1, 0, 889, 0, [(2, 2), (0, 41), (0, 0)])), (15, (1, 16, 1, 0, 0, 0, 0, [])), (16, (11, 19, 3, 25, 0, 0, 0, [])), (19, (1, 20, 0, 2, 0, 0, 0, [])), (20, (1, 21, 2, 0, 0, 0, 0, [])), (21, (0, 22, 0, 0, 0, 0, (-1), [])), (22, (20, 25, 57, 1, 9, 827, 0, [(3, 3), (0, 41), (0, 0), (0, 0)])), (25, (3, 28, 2, 0, 0, 0, 1, [])), (28, (13, 31, 0, 2, 0, 0, 0, [])), (31, (21, 32, 0, 0, 9, 0, 0, []))]]
set_option maxRecDepth 100000 in
noncomputable def tb61 : List (List (Nat × II)) := [[(0, (1, 1, 0, 2, 0, 0, 0, [])), (1, (29, 4, 0, 0, 0, 181, 0, [])), (4, (1, 5, 0, 2, 0, 0, 0, [])), (5, (0, 6, 0, 0, 0, 0, 5, [])), (6, (27, 9, 23, 0, 0, 182, 0, [])), (9, (16, 12, 2, 2, 33, 211, 0, [])), (12, (0, 13, 0, 0, 0, 0, 0, [])), (13, (2, 14, 1, 0, 0, 0, 0, [])), (14, (1, 15, 1, 0, 0, 0, 0, [])), (15, (1, 16, 0, 2, 0, 0, 0, [])), (16, (15, 19, 2, 2, 33, 211, 0, [])), (19, (19, 20, 0, 0, 0, 0, 0, [])), (20, (11, 23, 3, 42, 0, 0, 0, [])), (23, (1, 24, 0, 2, 0, 0, 0, [])), (24, (15, 27, 2, 2, 33, 211, 0, [])), (27, (1, 28, 1, 0, 0, 0, 0, [])), (28, (25, 31, 0, 0, 0, 182, 0, [])), (31, (22, 32, 0, 0, 0, 0, 0, []))],
  [(32, (20, 35, 1, 2, 9, 185, 1, [(1, 1), (0, 40)])), (35, (18, 36, 2, 0, 0, 0, 0, [])), (36, (3, 39, 1, 0, 0, 0, 1, [])), (39, (13, 42, 0, 14, 0, 0, 0, [])), (42, (21, 43, 0, 0, 9, 0, 0, []))]]
set_option maxRecDepth 100000 in
noncomputable def tb62 : List (List (Nat × II)) := [[(0, (1, 1, 0, 2, 0, 0, 0, [])), (1, (1, 2, 0, 2, 0, 0, 0, [])), (2, (15, 5, 1, 2, 0, 210, 0, [])), (5, (0, 6, 0, 0, 0, 0, 1, [])), (6, (4, 7, 0, 0, 0, 0, 0, [])), (7, (0, 8, 0, 0, 0, 0, 5, [])), (8, (5, 9, 1, 0, 0, 0, 0, [])), (9, (16, 12, 1, 2, 0, 210, 0, [])), (12, (1, 13, 0, 2, 0, 0, 0, [])), (13, (1, 14, 0, 2, 0, 0, 0, [])), (14, (15, 17, 0, 2, 0, 208, 0, [])), (17, (0, 18, 0, 0, 0, 0, 1, [])), (18, (4, 19, 0, 0, 0, 0, 0, [])), (19, (0, 20, 0, 0, 0, 0, 5, [])), (20, (32, 23, 1, 0, 0, 487, 0, [])), (23, (16, 26, 0, 2, 0, 208, 0, [])), (26, (1, 27, 0, 2, 0, 0, 0, [])), (27, (15, 30, 2, 2, 33, 211, 0, [])), (30, (1, 31, 0, 2, 0, 0, 0, [])), (31, (15, 34, 1, 2, 0, 210, 0, []))],
  [(34, (17, 35, 2, 0, 0, 0, 0, [])), (35, (1, 36, 1, 0, 0, 0, 0, [])), (36, (1, 37, 2, 2, 0, 0, 0, [])), (37, (1, 38, 3, 0, 0, 0, 0, [])), (38, (1, 40, 4, 0, 0, 0, 0, [])), (40, (1, 42, 5, 0, 0, 0, 0, [])), (42, (20, 45, 2, 1, 9, 488, 0, [(7, 6), (0, 40), (0, 0), (0, 11), (0, 0), (0, 0), (0, 0)])), (45, (21, 46, 0, 0, 9, 0, 0, []))]]
set_option maxRecDepth 100000 in
noncomputable def tb63 : List (List (Nat × II)) := [[(0, (1, 1, 0, 2, 0, 0, 0, [])), (1, (0, 2, 0, 0, 0, 0, 0, [])), (2, (16, 5, 0, 2, 0, 208, 0, [])), (5, (21, 6, 0, 0, 9, 0, 0, []))]]
set_option maxRecDepth 100000 in
noncomputable def tb64 : List (List (Nat × II)) := [[(0, (1, 1, 0, 2, 0, 0, 0, [])), (1, (15, 4, 0, 2, 0, 208, 0, [])), (4, (10, 7, 0, 22, 0, 0, 0, [])), (7, (1, 8, 0, 2, 0, 0, 0, [])), (8, (15, 11, 2, 2, 33, 211, 0, [])), (11, (1, 12, 0, 2, 0, 0, 0, [])), (12, (15, 15, 1, 2, 0, 210, 0, [])), (15, (17, 16, 2, 0, 0, 0, 0, [])), (16, (20, 19, 3, 1, 0, 574, 0, [(3, 1), (0, 40)])), (19, (10, 22, 0, 24, 0, 0, 0, [])), (22, (0, 23, 0, 0, 0, 0, 0, [])), (23, (21, 24, 2, 0, 3, 0, 0, [])), (24, (1, 25, 0, 2, 0, 0, 0, [])), (25, (15, 28, 2, 2, 33, 211, 0, [])), (28, (1, 29, 0, 2, 0, 0, 0, [])), (29, (15, 32, 1, 2, 0, 210, 0, []))],
  [(32, (17, 33, 2, 0, 0, 0, 0, [])), (33, (20, 36, 4, 1, 9, 580, 0, [(1, 1), (0, 40)])), (36, (1, 37, 0, 2, 0, 0, 0, [])), (37, (1, 38, 0, 2, 0, 0, 0, [])), (38, (15, 41, 1, 2, 0, 210, 0, [])), (41, (0, 42, 0, 0, 0, 0, 5, [])), (42, (4, 43, 0, 0, 0, 0, 0, [])), (43, (0, 44, 0, 0, 0, 0, 1, [])), (44, (4, 45, 1, 0, 0, 0, 0, [])), (45, (0, 46, 0, 0, 0, 0, 5, [])), (46, (5, 47, 1, 0, 0, 0, 0, [])), (47, (16, 50, 1, 2, 0, 210, 0, [])), (50, (1, 51, 0, 2, 0, 0, 0, [])), (51, (22, 52, 0, 0, 0, 0, 0, [])), (52, (15, 55, 0, 2, 0, 208, 0, [])), (55, (0, 56, 0, 0, 0, 0, 1, [])), (56, (4, 57, 1, 0, 0, 0, 0, [])), (57, (16, 60, 0, 2, 0, 208, 0, [])), (60, (0, 61, 0, 0, 0, 0, 1, [])), (61, (21, 62, 2, 0, 3, 0, 0, []))]]
set_option maxRecDepth 100000 in
noncomputable def tb65 : List (List (Nat × II)) := [[(0, (1, 1, 0, 2, 0, 0, 0, [])), (1, (29, 4, 0, 0, 0, 134, 0, [])), (4, (1, 5, 0, 2, 0, 0, 0, [])), (5, (0, 7, 0, 0, 0, 0, 66, [])), (7, (26, 9, 20, 0, 0, 0, 0, [])), (9, (16, 12, 3, 3, 30, 141, 0, [])), (12, (1, 13, 0, 2, 0, 0, 0, [])), (13, (0, 15, 0, 0, 0, 0, 11, [])), (15, (26, 17, 20, 0, 0, 0, 0, [])), (17, (16, 20, 4, 3, 30, 142, 0, [])), (20, (21, 21, 0, 0, 9, 0, 0, []))]]
set_option maxRecDepth 100000 in
noncomputable def tb66 : List (List (Nat × II)) := [[(0, (0, 1, 0, 0, 0, 0, 0, [])), (1, (2, 2, 2, 0, 0, 0, 0, [])), (2, (1, 3, 2, 0, 0, 0, 0, [])), (3, (1, 4, 1, 2, 0, 0, 0, [])), (4, (15, 7, 1, 1, 0, 249, 0, [])), (7, (11, 10, 4, 36, 0, 0, 0, [])), (10, (1, 11, 2, 0, 0, 0, 0, [])), (11, (1, 12, 0, 2, 0, 0, 0, [])), (12, (15, 15, 4, 3, 30, 142, 0, [])), (15, (19, 16, 0, 0, 0, 0, 0, [])), (16, (11, 19, 3, 36, 0, 0, 0, [])), (19, (1, 20, 0, 2, 0, 0, 0, [])), (20, (15, 23, 4, 3, 30, 142, 0, [])), (23, (1, 24, 2, 0, 0, 0, 0, [])), (24, (1, 25, 1, 2, 0, 0, 0, [])), (25, (1, 26, 2, 0, 0, 0, 0, [])), (26, (20, 29, 35, 1, 0, 666, 0, [(5, 2), (0, 41), (0, 0)])), (29, (18, 30, 0, 0, 0, 0, 0, [])), (30, (3, 33, 2, 0, 0, 0, 1, []))],
  [(33, (13, 36, 0, 2, 0, 0, 0, [])), (36, (21, 37, 0, 0, 9, 0, 0, []))]]
set_option maxRecDepth 100000 in
noncomputable def tb67 : List (List (Nat × II)) := [[(0, (1, 1, 2, 0, 0, 0, 0, [])), (1, (0, 2, 0, 0, 0, 0, 0, [])), (2, (1, 3, 0, 2, 0, 0, 0, [])), (3, (15, 6, 4, 3, 30, 142, 0, [])), (6, (19, 7, 0, 0, 0, 0, 0, [])), (7, (0, 8, 0, 0, 0, 0, 1, [])), (8, (4, 9, 1, 0, 0, 0, 0, [])), (9, (20, 12, 146, 0, 0, 671, 1, [(3, 3), (0, 0), (0, 0), (0, 0)])), (12, (10, 15, 1, 16, 0, 0, 0, [])), (15, (21, 16, 0, 0, 9, 0, 0, [])), (16, (1, 17, 0, 2, 0, 0, 0, [])), (17, (1, 18, 0, 2, 0, 0, 0, [])), (18, (15, 21, 4, 3, 30, 142, 0, [])), (21, (1, 22, 2, 0, 0, 0, 0, [])), (22, (17, 23, 0, 0, 0, 0, 0, [])), (23, (9, 24, 1, 0, 0, 0, 0, [])), (24, (16, 27, 0, 3, 1, 135, 0, [])), (27, (1, 28, 0, 2, 0, 0, 0, [])), (28, (0, 31, 1, 0, 0, 672, 2, [])), (31, (16, 34, 1, 3, 1, 137, 0, []))],
  [(34, (1, 35, 0, 2, 0, 0, 0, [])), (35, (1, 36, 1, 2, 0, 0, 0, [])), (36, (1, 37, 2, 0, 0, 0, 0, [])), (37, (0, 38, 0, 0, 0, 0, (-1), [])), (38, (20, 41, 68, 1, 9, 673, 0, [(10, 4), (0, 43), (0, 11), (0, 0), (0, 0)])), (41, (1, 42, 0, 2, 0, 0, 0, [])), (42, (1, 43, 1, 2, 0, 0, 0, [])), (43, (1, 44, 2, 0, 0, 0, 0, [])), (44, (0, 45, 0, 0, 0, 0, 1, [])), (45, (20, 48, 68, 1, 9, 673, 0, [(10, 4), (0, 43), (0, 11), (0, 0), (0, 0)])), (48, (1, 49, 0, 2, 0, 0, 0, [])), (49, (15, 52, 0, 3, 1, 135, 0, [])), (52, (1, 53, 0, 2, 0, 0, 0, [])), (53, (15, 56, 1, 3, 1, 137, 0, [])), (56, (20, 59, 69, 0, 1, 684, 0, [(11, 2), (0, 1), (0, 1)])), (59, (2, 60, 3, 1, 0, 0, 0, [])), (60, (1, 61, 3, 1, 0, 0, 0, [])), (61, (0, 62, 1, 0, 0, 0, 1, [])), (62, (8, 63, 0, 0, 0, 0, 0, [])), (63, (10, 66, 5, 86, 0, 0, 0, []))],
  [(66, (1, 67, 0, 2, 0, 0, 0, [])), (67, (22, 68, 0, 0, 0, 0, 0, [])), (68, (15, 71, 0, 3, 1, 135, 0, [])), (71, (1, 72, 3, 1, 0, 0, 0, [])), (72, (7, 73, 0, 0, 0, 0, 0, [])), (73, (16, 76, 0, 3, 1, 135, 0, [])), (76, (1, 77, 0, 2, 0, 0, 0, [])), (77, (22, 78, 0, 0, 0, 0, 0, [])), (78, (15, 81, 1, 3, 1, 137, 0, [])), (81, (1, 82, 3, 1, 0, 0, 0, [])), (82, (7, 83, 0, 0, 0, 0, 0, [])), (83, (16, 86, 1, 3, 1, 137, 0, [])), (86, (21, 87, 0, 0, 9, 0, 0, []))]]
set_option maxRecDepth 100000 in
noncomputable def tb68 : List (List (Nat × II)) := [[(0, (1, 1, 1, 2, 0, 0, 0, [])), (1, (1, 2, 2, 0, 0, 0, 0, [])), (2, (1, 3, 3, 0, 0, 0, 0, [])), (3, (4, 4, 0, 0, 0, 0, 0, [])), (4, (1, 5, 3, 0, 0, 0, 0, [])), (5, (20, 8, 21, 1, 0, 677, 0, [(5, 3), (0, 41), (0, 0), (0, 0)])), (8, (2, 10, 4, 0, 0, 0, 0, [])), (10, (1, 12, 4, 0, 0, 0, 0, [])), (12, (10, 15, 3, 16, 0, 0, 0, [])), (15, (21, 16, 0, 0, 9, 0, 0, [])), (16, (1, 17, 1, 2, 0, 0, 0, [])), (17, (1, 18, 2, 0, 0, 0, 0, [])), (18, (1, 20, 4, 0, 0, 0, 0, [])), (20, (20, 23, 22, 1, 0, 681, 0, [(5, 3), (0, 41), (0, 0), (0, 0)])), (23, (9, 24, 1, 0, 0, 0, 0, [])), (24, (2, 26, 5, 1, 0, 0, 0, [])), (26, (0, 27, 1, 0, 0, 0, 0, [])), (27, (2, 29, 7, 1, 0, 0, 0, [])), (29, (1, 30, 2, 0, 0, 0, 0, [])), (30, (1, 32, 4, 0, 0, 0, 0, []))],
  [(32, (32, 35, 1, 0, 0, 682, 0, [])), (35, (0, 36, 0, 0, 0, 0, 1, [])), (36, (4, 37, 0, 0, 0, 0, 0, [])), (37, (2, 39, 9, 0, 0, 0, 0, [])), (39, (1, 41, 9, 0, 0, 0, 0, [])), (41, (1, 42, 2, 0, 0, 0, 0, [])), (42, (1, 44, 4, 0, 0, 0, 0, [])), (44, (32, 47, 0, 0, 0, 683, 0, [])), (47, (11, 50, 3, 89, 0, 0, 0, [])), (50, (1, 52, 9, 0, 0, 0, 0, [])), (52, (1, 53, 0, 2, 0, 0, 0, [])), (53, (15, 56, 4, 3, 30, 142, 0, [])), (56, (19, 57, 0, 0, 0, 0, 0, [])), (57, (11, 60, 3, 89, 0, 0, 0, [])), (60, (1, 62, 7, 1, 0, 0, 0, [])), (62, (1, 63, 0, 2, 0, 0, 0, [])), (63, (15, 66, 4, 3, 30, 142, 0, []))],
  [(66, (1, 68, 9, 0, 0, 0, 0, [])), (68, (17, 69, 0, 0, 0, 0, 0, [])), (69, (9, 70, 1, 0, 0, 0, 0, [])), (70, (1, 71, 1, 2, 0, 0, 0, [])), (71, (1, 73, 9, 0, 0, 0, 0, [])), (73, (1, 75, 4, 0, 0, 0, 0, [])), (75, (20, 78, 22, 1, 0, 681, 0, [(5, 3), (0, 41), (0, 0), (0, 0)])), (78, (9, 79, 1, 0, 0, 0, 0, [])), (79, (6, 80, 1, 0, 0, 0, 0, [])), (80, (6, 81, 0, 0, 0, 0, 0, [])), (81, (2, 83, 7, 1, 0, 0, 0, [])), (83, (3, 86, 9, 0, 0, 0, 1, [])), (86, (13, 89, 0, 39, 0, 0, 0, [])), (89, (1, 91, 7, 1, 0, 0, 0, [])), (91, (0, 92, 1, 0, 0, 0, 0, [])), (92, (8, 93, 0, 0, 0, 0, 0, [])), (93, (10, 96, 5, 134, 0, 0, 0, []))],
  [(96, (1, 97, 0, 2, 0, 0, 0, [])), (97, (1, 98, 0, 2, 0, 0, 0, [])), (98, (15, 101, 0, 3, 1, 135, 0, [])), (101, (0, 104, 1, 0, 0, 672, 2, [])), (104, (6, 105, 1, 0, 0, 0, 0, [])), (105, (1, 107, 5, 1, 0, 0, 0, [])), (107, (6, 108, 1, 0, 0, 0, 0, [])), (108, (1, 110, 7, 1, 0, 0, 0, [])), (110, (1, 111, 0, 2, 0, 0, 0, [])), (111, (15, 114, 1, 3, 1, 137, 0, [])), (114, (6, 115, 1, 0, 0, 0, 0, [])), (115, (6, 116, 0, 0, 0, 0, 0, [])), (116, (16, 119, 0, 3, 1, 135, 0, [])), (119, (1, 120, 0, 2, 0, 0, 0, [])), (120, (1, 121, 0, 2, 0, 0, 0, [])), (121, (15, 124, 1, 3, 1, 137, 0, [])), (124, (0, 127, 1, 0, 0, 672, 2, [])), (127, (6, 128, 1, 0, 0, 0, 0, []))],
  [(128, (1, 130, 5, 1, 0, 0, 0, [])), (130, (6, 131, 1, 0, 0, 0, 0, [])), (131, (16, 134, 1, 3, 1, 137, 0, [])), (134, (21, 135, 0, 0, 9, 0, 0, []))]]
set_option maxRecDepth 100000 in
noncomputable def tb69 : List (List (Nat × II)) := [[(0, (1, 1, 0, 1, 0, 0, 0, [])), (1, (2, 3, 4, 1, 0, 0, 0, [])), (3, (1, 4, 2, 1, 0, 0, 0, [])), (4, (2, 6, 6, 1, 0, 0, 0, [])), (6, (0, 7, 0, 0, 0, 0, 0, [])), (7, (2, 9, 8, 0, 0, 0, 0, [])), (9, (1, 11, 8, 0, 0, 0, 0, [])), (11, (0, 14, 0, 0, 0, 0, 200, [])), (14, (11, 17, 3, 45, 0, 0, 0, [])), (17, (1, 19, 6, 1, 0, 0, 0, [])), (19, (0, 20, 1, 0, 0, 0, 0, [])), (20, (8, 21, 0, 0, 0, 0, 0, [])), (21, (10, 24, 0, 45, 0, 0, 0, [])), (24, (1, 26, 4, 1, 0, 0, 0, [])), (26, (1, 28, 6, 1, 0, 0, 0, [])), (28, (7, 29, 1, 0, 0, 0, 0, [])), (29, (2, 31, 9, 1, 0, 0, 0, [])), (31, (1, 33, 6, 1, 0, 0, 0, []))],
  [(33, (2, 35, 4, 1, 0, 0, 0, [])), (35, (1, 37, 9, 1, 0, 0, 0, [])), (37, (2, 39, 6, 1, 0, 0, 0, [])), (39, (3, 42, 8, 0, 0, 0, 1, [])), (42, (13, 45, 0, 9, 0, 0, 0, [])), (45, (1, 47, 4, 1, 0, 0, 0, [])), (47, (21, 48, 3, 0, 1, 0, 0, []))]]
set_option maxRecDepth 100000 in
noncomputable def tb70 : List (List (Nat × II)) := [[(0, (0, 1, 0, 0, 0, 0, 0, [])), (1, (2, 2, 3, 0, 0, 0, 0, [])), (2, (1, 3, 0, 2, 0, 0, 0, [])), (3, (1, 4, 1, 2, 0, 0, 0, [])), (4, (20, 7, 66, 1, 9, 733, 0, [(3, 2), (0, 43), (0, 11)])), (7, (0, 8, 0, 0, 0, 0, 0, [])), (8, (2, 10, 4, 0, 0, 0, 0, [])), (10, (1, 12, 4, 0, 0, 0, 0, [])), (12, (1, 13, 1, 2, 0, 0, 0, [])), (13, (15, 16, 1, 1, 0, 249, 0, [])), (16, (11, 19, 4, 53, 0, 0, 0, [])), (19, (1, 21, 4, 0, 0, 0, 0, [])), (21, (1, 22, 0, 2, 0, 0, 0, [])), (22, (15, 25, 4, 3, 30, 142, 0, [])), (25, (19, 26, 0, 0, 0, 0, 0, [])), (26, (11, 29, 3, 53, 0, 0, 0, [])), (29, (1, 30, 0, 2, 0, 0, 0, [])), (30, (1, 31, 1, 2, 0, 0, 0, [])), (31, (1, 33, 4, 0, 0, 0, 0, []))],
  [(33, (1, 34, 2, 2, 0, 0, 0, [])), (34, (20, 37, 71, 1, 0, 734, 0, [(7, 4), (0, 43), (0, 11), (0, 0), (0, 30)])), (37, (10, 40, 0, 47, 0, 0, 0, [])), (40, (1, 41, 3, 0, 0, 0, 0, [])), (41, (0, 42, 0, 0, 0, 0, 1, [])), (42, (1, 44, 4, 0, 0, 0, 0, [])), (44, (4, 45, 5, 0, 0, 0, 0, [])), (45, (4, 46, 4, 0, 0, 0, 0, [])), (46, (2, 47, 3, 0, 0, 0, 0, [])), (47, (3, 50, 4, 0, 0, 0, 1, [])), (50, (13, 53, 0, 10, 0, 0, 0, [])), (53, (1, 54, 3, 0, 0, 0, 0, [])), (54, (21, 55, 1, 0, 0, 0, 0, []))]]
set_option maxRecDepth 100000 in
noncomputable def tb71 : List (List (Nat × II)) := [[(0, (1, 1, 1, 2, 0, 0, 0, [])), (1, (1, 2, 2, 0, 0, 0, 0, [])), (2, (20, 5, 36, 1, 0, 738, 0, [(5, 2), (0, 41), (0, 0)])), (5, (2, 7, 4, 0, 0, 0, 0, [])), (7, (1, 9, 4, 0, 0, 0, 0, [])), (9, (0, 10, 0, 0, 0, 0, 0, [])), (10, (1, 11, 3, 2, 0, 0, 0, [])), (11, (19, 12, 0, 0, 0, 0, 0, [])), (12, (0, 13, 0, 0, 0, 0, 1, [])), (13, (4, 14, 1, 0, 0, 0, 0, [])), (14, (20, 17, 146, 0, 0, 671, 1, [(3, 3), (0, 0), (0, 0), (0, 0)])), (17, (10, 20, 0, 35, 0, 0, 0, [])), (20, (1, 21, 2, 0, 0, 0, 0, [])), (21, (0, 22, 0, 0, 0, 0, 0, [])), (22, (1, 23, 0, 2, 0, 0, 0, [])), (23, (15, 26, 4, 3, 30, 142, 0, [])), (26, (19, 27, 0, 0, 0, 0, 0, [])), (27, (0, 28, 0, 0, 0, 0, 1, [])), (28, (4, 29, 1, 0, 0, 0, 0, [])), (29, (20, 32, 146, 0, 0, 671, 1, [(3, 3), (0, 0), (0, 0), (0, 0)]))],
  [(32, (10, 35, 1, 37, 0, 0, 0, [])), (35, (0, 36, 0, 0, 0, 0, 0, [])), (36, (21, 37, 2, 0, 3, 0, 0, [])), (37, (1, 38, 3, 2, 0, 0, 0, [])), (38, (1, 40, 4, 0, 0, 0, 0, [])), (40, (17, 41, 0, 0, 0, 0, 0, [])), (41, (9, 42, 1, 0, 0, 0, 0, [])), (42, (2, 44, 5, 1, 0, 0, 0, [])), (44, (1, 45, 1, 2, 0, 0, 0, [])), (45, (1, 46, 2, 0, 0, 0, 0, [])), (46, (20, 49, 19, 1, 0, 739, 0, [(2, 2), (0, 41), (0, 0)])), (49, (10, 52, 1, 75, 0, 0, 0, [])), (52, (1, 53, 0, 2, 0, 0, 0, [])), (53, (15, 56, 4, 3, 30, 142, 0, [])), (56, (1, 57, 2, 0, 0, 0, 0, [])), (57, (17, 58, 0, 0, 0, 0, 0, [])), (58, (9, 59, 1, 0, 0, 0, 0, [])), (59, (0, 62, 1, 0, 0, 672, 2, [])), (62, (1, 64, 5, 1, 0, 0, 0, []))],
  [(64, (6, 65, 1, 0, 0, 0, 0, [])), (65, (8, 66, 0, 0, 0, 0, 0, [])), (66, (10, 69, 5, 73, 0, 0, 0, [])), (69, (0, 70, 0, 0, 0, 0, 1, [])), (70, (13, 73, 0, 74, 0, 0, 0, [])), (73, (0, 74, 0, 0, 0, 0, 0, [])), (74, (21, 75, 2, 0, 3, 0, 0, [])), (75, (1, 76, 0, 2, 0, 0, 0, [])), (76, (1, 77, 1, 2, 0, 0, 0, [])), (77, (1, 78, 2, 0, 0, 0, 0, [])), (78, (20, 81, 67, 1, 9, 740, 0, [(5, 3), (0, 43), (0, 11), (0, 0)])), (81, (1, 82, 0, 2, 0, 0, 0, [])), (82, (15, 85, 0, 3, 1, 135, 0, [])), (85, (1, 87, 5, 1, 0, 0, 0, [])), (87, (1, 88, 0, 2, 0, 0, 0, [])), (88, (15, 91, 1, 3, 1, 137, 0, [])), (91, (6, 92, 1, 0, 0, 0, 0, [])), (92, (8, 93, 0, 0, 0, 0, 0, [])), (93, (10, 96, 5, 100, 0, 0, 0, []))],
  [(96, (0, 97, 0, 0, 0, 0, 1, [])), (97, (13, 100, 0, 101, 0, 0, 0, [])), (100, (0, 101, 0, 0, 0, 0, 0, [])), (101, (21, 102, 2, 0, 3, 0, 0, []))]]
set_option maxRecDepth 100000 in
noncomputable def tb72 : List (List (Nat × II)) := [[(0, (1, 1, 2, 2, 0, 0, 0, [])), (1, (19, 2, 0, 0, 0, 0, 0, [])), (2, (10, 5, 1, 7, 0, 0, 0, [])), (5, (0, 6, 0, 0, 0, 0, 0, [])), (6, (21, 7, 1, 0, 0, 0, 0, [])), (7, (1, 8, 0, 2, 0, 0, 0, [])), (8, (1, 9, 1, 2, 0, 0, 0, [])), (9, (20, 12, 73, 1, 9, 745, 0, [(4, 2), (0, 43), (0, 11)])), (12, (0, 13, 0, 0, 0, 0, 0, [])), (13, (2, 14, 3, 0, 0, 0, 0, [])), (14, (0, 15, 0, 0, 0, 0, 0, [])), (15, (2, 17, 4, 0, 0, 0, 0, [])), (17, (1, 19, 4, 0, 0, 0, 0, [])), (19, (1, 20, 0, 2, 0, 0, 0, [])), (20, (15, 23, 3, 3, 30, 141, 0, [])), (23, (19, 24, 0, 0, 0, 0, 0, [])), (24, (11, 27, 3, 66, 0, 0, 0, [])), (27, (1, 28, 1, 2, 0, 0, 0, [])), (28, (1, 30, 4, 0, 0, 0, 0, [])), (30, (0, 32, 0, 0, 0, 0, 11, []))],
  [(32, (5, 33, 1, 0, 0, 0, 0, [])), (33, (1, 35, 4, 0, 0, 0, 0, [])), (35, (0, 37, 0, 0, 0, 0, 11, [])), (37, (5, 38, 0, 0, 0, 0, 0, [])), (38, (20, 41, 30, 1, 0, 708, 0, [(3, 3), (0, 41), (0, 0), (0, 0)])), (41, (10, 44, 0, 60, 0, 0, 0, [])), (44, (1, 45, 0, 2, 0, 0, 0, [])), (45, (15, 48, 3, 3, 30, 141, 0, [])), (48, (1, 50, 4, 0, 0, 0, 0, [])), (50, (17, 51, 0, 0, 0, 0, 0, [])), (51, (1, 52, 2, 2, 0, 0, 0, [])), (52, (0, 53, 0, 0, 0, 0, 0, [])), (53, (17, 54, 0, 0, 0, 0, 0, [])), (54, (11, 57, 5, 60, 0, 0, 0, [])), (57, (3, 60, 3, 0, 0, 0, 1, [])), (60, (3, 63, 4, 0, 0, 0, 1, [])), (63, (13, 66, 0, 17, 0, 0, 0, []))],
  [(66, (1, 67, 3, 0, 0, 0, 0, [])), (67, (21, 68, 1, 0, 0, 0, 0, []))]]
set_option maxRecDepth 100000 in
noncomputable def tb73 : List (List (Nat × II)) := [[(0, (1, 1, 0, 2, 0, 0, 0, [])), (1, (0, 2, 0, 0, 0, 0, 0, [])), (2, (16, 5, 2, 3, 0, 139, 0, [])), (5, (1, 6, 0, 2, 0, 0, 0, [])), (6, (15, 9, 3, 3, 30, 141, 0, [])), (9, (0, 10, 0, 0, 0, 0, 0, [])), (10, (20, 13, 272, 0, 9, 695, 0, [(4, 2), (0, 30), (0, 0)])), (13, (0, 14, 0, 0, 0, 0, 0, [])), (14, (2, 15, 2, 0, 0, 0, 0, [])), (15, (1, 16, 2, 0, 0, 0, 0, [])), (16, (1, 17, 1, 2, 0, 0, 0, [])), (17, (15, 20, 1, 1, 0, 249, 0, [])), (20, (11, 23, 3, 61, 0, 0, 0, [])), (23, (1, 24, 1, 2, 0, 0, 0, [])), (24, (1, 25, 2, 0, 0, 0, 0, [])), (25, (0, 26, 0, 0, 0, 0, 4, [])), (26, (20, 29, 16, 1, 0, 696, 0, [(3, 3), (0, 41), (0, 0), (0, 0)])), (29, (10, 32, 0, 55, 0, 0, 0, []))],
  [(32, (0, 33, 0, 0, 0, 0, 0, [])), (33, (2, 34, 3, 0, 0, 0, 0, [])), (34, (1, 35, 3, 0, 0, 0, 0, [])), (35, (1, 36, 1, 2, 0, 0, 0, [])), (36, (15, 39, 2, 1, 0, 255, 0, [])), (39, (11, 42, 3, 55, 0, 0, 0, [])), (42, (1, 43, 0, 2, 0, 0, 0, [])), (43, (1, 44, 1, 2, 0, 0, 0, [])), (44, (1, 45, 2, 0, 0, 0, 0, [])), (45, (1, 46, 3, 0, 0, 0, 0, [])), (46, (20, 49, 74, 1, 9, 697, 0, [(6, 4), (0, 43), (0, 11), (0, 0), (0, 0)])), (49, (3, 52, 3, 0, 0, 0, 1, [])), (52, (13, 55, 0, 34, 0, 0, 0, [])), (55, (3, 58, 2, 0, 0, 0, 1, [])), (58, (13, 61, 0, 15, 0, 0, 0, [])), (61, (21, 62, 0, 0, 9, 0, 0, []))]]
set_option maxRecDepth 100000 in
noncomputable def tb74 : List (List (Nat × II)) := [[(0, (1, 1, 1, 2, 0, 0, 0, [])), (1, (15, 4, 4, 1, 0, 262, 0, [])), (4, (1, 5, 1, 2, 0, 0, 0, [])), (5, (1, 6, 2, 0, 0, 0, 0, [])), (6, (20, 9, 15, 1, 0, 701, 0, [(2, 2), (0, 41), (0, 0)])), (9, (4, 10, 2, 0, 0, 0, 0, [])), (10, (1, 11, 1, 2, 0, 0, 0, [])), (11, (15, 14, 3, 1, 0, 258, 0, [])), (14, (4, 15, 2, 0, 0, 0, 0, [])), (15, (2, 17, 4, 0, 0, 0, 0, [])), (17, (1, 18, 1, 2, 0, 0, 0, [])), (18, (1, 19, 2, 0, 0, 0, 0, [])), (19, (1, 20, 3, 0, 0, 0, 0, [])), (20, (20, 23, 75, 0, 0, 702, 0, [(8, 3), (0, 11), (0, 0), (0, 0)])), (23, (2, 25, 5, 0, 0, 0, 0, [])), (25, (1, 27, 5, 0, 0, 0, 0, [])), (27, (0, 28, 0, 0, 0, 0, 0, [])), (28, (1, 29, 0, 2, 0, 0, 0, [])), (29, (15, 32, 3, 3, 30, 141, 0, []))],
  [(32, (19, 33, 0, 0, 0, 0, 0, [])), (33, (0, 34, 0, 0, 0, 0, 1, [])), (34, (4, 35, 1, 0, 0, 0, 0, [])), (35, (20, 38, 146, 0, 0, 671, 1, [(3, 3), (0, 0), (0, 0), (0, 0)])), (38, (10, 41, 0, 56, 0, 0, 0, [])), (41, (1, 42, 0, 2, 0, 0, 0, [])), (42, (15, 45, 3, 3, 30, 141, 0, [])), (45, (1, 47, 5, 0, 0, 0, 0, [])), (47, (23, 48, 0, 0, 0, 0, 0, [])), (48, (17, 49, 0, 0, 0, 0, 0, [])), (49, (1, 51, 4, 0, 0, 0, 0, [])), (51, (4, 52, 0, 0, 0, 0, 0, [])), (52, (18, 53, 0, 0, 0, 0, 0, [])), (53, (13, 56, 0, 67, 0, 0, 0, [])), (56, (1, 57, 0, 2, 0, 0, 0, [])), (57, (22, 58, 0, 0, 0, 0, 0, [])), (58, (15, 61, 2, 3, 0, 139, 0, [])), (61, (1, 63, 4, 0, 0, 0, 0, [])), (63, (4, 64, 0, 0, 0, 0, 0, []))],
  [(64, (16, 67, 2, 3, 0, 139, 0, [])), (67, (21, 68, 0, 0, 9, 0, 0, []))]]
set_option maxRecDepth 100000 in
noncomputable def tb75 : List (List (Nat × II)) := [[(0, (0, 1, 0, 0, 0, 0, (-1), [])), (1, (2, 2, 3, 0, 0, 0, 0, [])), (2, (0, 3, 0, 0, 0, 0, 0, [])), (3, (2, 5, 4, 0, 0, 0, 0, [])), (5, (0, 6, 0, 0, 0, 0, 0, [])), (6, (2, 8, 5, 0, 0, 0, 0, [])), (8, (1, 10, 5, 0, 0, 0, 0, [])), (10, (1, 11, 0, 2, 0, 0, 0, [])), (11, (15, 14, 1, 1, 0, 249, 0, [])), (14, (11, 17, 4, 101, 0, 0, 0, [])), (17, (0, 18, 0, 0, 0, 0, 0, [])), (18, (2, 20, 6, 0, 0, 0, 0, [])), (20, (1, 22, 6, 0, 0, 0, 0, [])), (22, (1, 23, 0, 2, 0, 0, 0, [])), (23, (15, 26, 2, 1, 0, 255, 0, [])), (26, (11, 29, 3, 95, 0, 0, 0, [])), (29, (0, 30, 0, 0, 0, 0, 2, [])), (30, (1, 32, 5, 0, 0, 0, 0, []))],
  [(32, (4, 33, 2, 0, 0, 0, 0, [])), (33, (0, 34, 0, 0, 0, 0, 2, [])), (34, (1, 35, 1, 0, 0, 0, 0, [])), (35, (4, 36, 2, 0, 0, 0, 0, [])), (36, (4, 37, 1, 0, 0, 0, 0, [])), (37, (0, 38, 0, 0, 0, 0, 1, [])), (38, (4, 39, 1, 0, 0, 0, 0, [])), (39, (32, 42, 2, 0, 0, 705, 0, [])), (42, (0, 43, 0, 0, 0, 0, 2, [])), (43, (1, 45, 6, 0, 0, 0, 0, [])), (45, (1, 46, 2, 0, 0, 0, 0, [])), (46, (4, 47, 1, 0, 0, 0, 0, [])), (47, (32, 50, 2, 0, 0, 705, 0, [])), (50, (4, 51, 2, 0, 0, 0, 0, [])), (51, (4, 52, 0, 0, 0, 0, 0, [])), (52, (2, 54, 7, 0, 0, 0, 0, [])), (54, (1, 55, 0, 2, 0, 0, 0, [])), (55, (1, 57, 5, 0, 0, 0, 0, [])), (57, (1, 59, 6, 0, 0, 0, 0, [])), (59, (20, 62, 30, 1, 0, 708, 0, [(3, 3), (0, 41), (0, 0), (0, 0)])), (62, (10, 65, 0, 89, 0, 0, 0, []))],
  [(65, (1, 66, 3, 0, 0, 0, 0, [])), (66, (10, 69, 2, 76, 0, 0, 0, [])), (69, (1, 71, 7, 0, 0, 0, 0, [])), (71, (1, 73, 4, 0, 0, 0, 0, [])), (73, (11, 76, 3, 89, 0, 0, 0, [])), (76, (0, 78, 0, 0, 0, 0, 11, [])), (78, (1, 80, 6, 0, 0, 0, 0, [])), (80, (4, 81, 2, 0, 0, 0, 0, [])), (81, (1, 83, 5, 0, 0, 0, 0, [])), (83, (4, 84, 0, 0, 0, 0, 0, [])), (84, (2, 85, 3, 0, 0, 0, 0, [])), (85, (1, 87, 7, 0, 0, 0, 0, [])), (87, (2, 89, 4, 0, 0, 0, 0, [])), (89, (3, 92, 6, 0, 0, 0, 1, [])), (92, (13, 95, 0, 20, 0, 0, 0, [])), (95, (3, 98, 5, 0, 0, 0, 1, []))],
  [(98, (13, 101, 0, 8, 0, 0, 0, [])), (101, (1, 102, 3, 0, 0, 0, 0, [])), (102, (21, 103, 1, 0, 0, 0, 0, []))]]
set_option maxRecDepth 100000 in
noncomputable def tb76 : List (List (Nat × II)) := [[(0, (0, 2, 0, 0, 0, 0, 11, [])), (2, (1, 3, 2, 0, 0, 0, 0, [])), (3, (4, 4, 2, 0, 0, 0, 0, [])), (4, (1, 5, 1, 0, 0, 0, 0, [])), (5, (4, 6, 0, 0, 0, 0, 0, [])), (6, (2, 7, 3, 0, 0, 0, 0, [])), (7, (1, 8, 3, 0, 0, 0, 0, [])), (8, (0, 9, 0, 0, 0, 0, 0, [])), (9, (1, 10, 0, 2, 0, 0, 0, [])), (10, (15, 13, 3, 3, 30, 141, 0, [])), (13, (19, 14, 0, 0, 0, 0, 0, [])), (14, (0, 15, 0, 0, 0, 0, 1, [])), (15, (4, 16, 1, 0, 0, 0, 0, [])), (16, (20, 19, 146, 0, 0, 671, 1, [(3, 3), (0, 0), (0, 0), (0, 0)])), (19, (10, 22, 0, 31, 0, 0, 0, [])), (22, (1, 23, 0, 2, 0, 0, 0, [])), (23, (15, 26, 3, 3, 30, 141, 0, [])), (26, (1, 27, 3, 0, 0, 0, 0, [])), (27, (17, 28, 0, 0, 0, 0, 0, [])), (28, (13, 31, 0, 32, 0, 0, 0, [])), (31, (0, 32, 0, 0, 0, 0, 0, []))],
  [(32, (21, 33, 1, 0, 0, 0, 0, []))]]
set_option maxRecDepth 100000 in
noncomputable def tb77 : List (List (Nat × II)) := [[(0, (1, 1, 0, 2, 0, 0, 0, [])), (1, (29, 4, 0, 0, 0, 224, 0, [])), (4, (1, 5, 0, 2, 0, 0, 0, [])), (5, (0, 7, 0, 0, 0, 0, 10, [])), (7, (26, 9, 20, 0, 0, 0, 0, [])), (9, (16, 12, 1, 4, 30, 228, 0, [])), (12, (1, 13, 0, 2, 0, 0, 0, [])), (13, (0, 15, 0, 0, 0, 0, 11, [])), (15, (0, 17, 0, 0, 0, 0, 11, [])), (17, (28, 21, 0, 0, 0, 225, 0, [])), (21, (16, 24, 2, 4, 34, 229, 0, [])), (24, (21, 25, 0, 0, 9, 0, 0, []))]]
set_option maxRecDepth 100000 in
noncomputable def tb78 : List (List (Nat × II)) := [[(0, (1, 1, 1, 2, 0, 0, 0, [])), (1, (15, 4, 1, 1, 0, 248, 0, [])), (4, (2, 5, 3, 0, 0, 0, 0, [])), (5, (1, 6, 3, 0, 0, 0, 0, [])), (6, (10, 9, 2, 50, 0, 0, 0, [])), (9, (1, 10, 2, 2, 0, 0, 0, [])), (10, (15, 13, 1, 1, 0, 248, 0, [])), (13, (2, 15, 4, 0, 0, 0, 0, [])), (15, (1, 17, 4, 0, 0, 0, 0, [])), (17, (10, 20, 2, 44, 0, 0, 0, [])), (20, (1, 21, 0, 2, 0, 0, 0, [])), (21, (15, 24, 2, 4, 34, 229, 0, [])), (24, (1, 25, 3, 0, 0, 0, 0, [])), (25, (17, 26, 2, 0, 0, 0, 0, [])), (26, (1, 28, 4, 0, 0, 0, 0, [])), (28, (1, 29, 0, 2, 0, 0, 0, [])), (29, (1, 30, 1, 2, 0, 0, 0, [])), (30, (1, 31, 2, 2, 0, 0, 0, [])), (31, (1, 32, 3, 0, 0, 0, 0, []))],
  [(32, (1, 34, 4, 0, 0, 0, 0, [])), (34, (20, 37, 79, 1, 0, 987, 0, [(6, 5), (0, 44), (0, 11), (0, 11), (0, 0), (0, 0)])), (37, (18, 38, 0, 0, 0, 0, 0, [])), (38, (3, 41, 4, 0, 0, 0, (-1), [])), (41, (13, 44, 0, 15, 0, 0, 0, [])), (44, (3, 47, 3, 0, 0, 0, (-1), [])), (47, (13, 50, 0, 5, 0, 0, 0, [])), (50, (1, 51, 0, 2, 0, 0, 0, [])), (51, (1, 52, 1, 2, 0, 0, 0, [])), (52, (1, 53, 2, 2, 0, 0, 0, [])), (53, (20, 56, 81, 1, 9, 997, 0, [(6, 3), (0, 44), (0, 11), (0, 11)])), (56, (1, 57, 0, 2, 0, 0, 0, [])), (57, (15, 60, 0, 4, 0, 227, 0, [])), (60, (21, 61, 1, 0, 0, 0, 0, []))]]
set_option maxRecDepth 100000 in
noncomputable def tb79 : List (List (Nat × II)) := [[(0, (1, 1, 3, 0, 0, 0, 0, [])), (1, (1, 2, 1, 2, 0, 0, 0, [])), (2, (15, 5, 1, 1, 0, 248, 0, [])), (5, (11, 8, 3, 17, 0, 0, 0, [])), (8, (1, 10, 4, 0, 0, 0, 0, [])), (10, (1, 11, 2, 2, 0, 0, 0, [])), (11, (15, 14, 1, 1, 0, 248, 0, [])), (14, (11, 17, 2, 19, 0, 0, 0, [])), (17, (0, 18, 0, 0, 0, 0, 0, [])), (18, (21, 19, 1, 0, 0, 0, 0, [])), (19, (1, 20, 0, 2, 0, 0, 0, [])), (20, (15, 23, 2, 4, 34, 229, 0, [])), (23, (1, 24, 3, 0, 0, 0, 0, [])), (24, (0, 25, 0, 0, 0, 0, 1, [])), (25, (4, 26, 0, 0, 0, 0, 0, [])), (26, (17, 27, 2, 0, 0, 0, 0, [])), (27, (1, 29, 4, 0, 0, 0, 0, [])), (29, (17, 30, 0, 0, 0, 0, 0, [])), (30, (1, 31, 0, 2, 0, 0, 0, [])), (31, (15, 34, 2, 4, 34, 229, 0, []))],
  [(34, (1, 35, 3, 0, 0, 0, 0, [])), (35, (17, 36, 2, 0, 0, 0, 0, [])), (36, (1, 38, 4, 0, 0, 0, 0, [])), (38, (0, 39, 0, 0, 0, 0, 1, [])), (39, (4, 40, 0, 0, 0, 0, 0, [])), (40, (17, 41, 0, 0, 0, 0, 0, [])), (41, (32, 44, 0, 0, 0, 991, 0, [])), (44, (2, 46, 5, 0, 0, 0, 0, [])), (46, (1, 47, 1, 2, 0, 0, 0, [])), (47, (1, 48, 3, 0, 0, 0, 0, [])), (48, (1, 49, 2, 2, 0, 0, 0, [])), (49, (1, 51, 4, 0, 0, 0, 0, [])), (51, (20, 54, 80, 0, 0, 992, 0, [(4, 4), (0, 11), (0, 0), (0, 11), (0, 0)])), (54, (10, 57, 0, 80, 0, 0, 0, [])), (57, (1, 59, 5, 0, 0, 0, 0, [])), (59, (1, 60, 0, 2, 0, 0, 0, [])), (60, (15, 63, 2, 4, 34, 229, 0, [])), (63, (1, 64, 3, 0, 0, 0, 0, []))],
  [(64, (0, 65, 0, 0, 0, 0, 1, [])), (65, (4, 66, 0, 0, 0, 0, 0, [])), (66, (17, 67, 2, 0, 0, 0, 0, [])), (67, (1, 69, 4, 0, 0, 0, 0, [])), (69, (0, 70, 0, 0, 0, 0, 1, [])), (70, (4, 71, 0, 0, 0, 0, 0, [])), (71, (17, 72, 0, 0, 0, 0, 0, [])), (72, (0, 73, 0, 0, 0, 0, 1, [])), (73, (4, 74, 0, 0, 0, 0, 0, [])), (74, (32, 77, 0, 0, 0, 991, 0, [])), (77, (13, 80, 0, 82, 0, 0, 0, [])), (80, (1, 82, 5, 0, 0, 0, 0, [])), (82, (21, 83, 1, 0, 0, 0, 0, []))]]
set_option maxRecDepth 100000 in
noncomputable def tb80 : List (List (Nat × II)) := [[(0, (1, 1, 0, 2, 0, 0, 0, [])), (1, (1, 2, 1, 0, 0, 0, 0, [])), (2, (20, 5, 14, 1, 0, 995, 0, [(2, 2), (0, 41), (0, 0)])), (5, (1, 6, 2, 2, 0, 0, 0, [])), (6, (1, 7, 3, 0, 0, 0, 0, [])), (7, (20, 10, 14, 1, 0, 995, 0, [(2, 2), (0, 41), (0, 0)])), (10, (11, 13, 1, 30, 0, 0, 0, [])), (13, (1, 14, 0, 2, 0, 0, 0, [])), (14, (1, 15, 1, 0, 0, 0, 0, [])), (15, (20, 18, 15, 1, 0, 996, 0, [(2, 2), (0, 41), (0, 0)])), (18, (1, 19, 2, 2, 0, 0, 0, [])), (19, (1, 20, 3, 0, 0, 0, 0, [])), (20, (20, 23, 15, 1, 0, 996, 0, [(2, 2), (0, 41), (0, 0)])), (23, (11, 26, 1, 30, 0, 0, 0, [])), (26, (0, 27, 0, 0, 0, 0, 1, [])), (27, (13, 30, 0, 31, 0, 0, 0, [])), (30, (0, 31, 0, 0, 0, 0, 0, [])), (31, (21, 32, 2, 0, 3, 0, 0, []))]]
set_option maxRecDepth 100000 in
noncomputable def tb81 : List (List (Nat × II)) := [[(0, (1, 1, 0, 2, 0, 0, 0, [])), (1, (0, 2, 0, 0, 0, 0, 0, [])), (2, (16, 5, 0, 4, 0, 227, 0, [])), (5, (0, 6, 0, 0, 0, 0, 0, [])), (6, (2, 7, 3, 0, 0, 0, 0, [])), (7, (0, 8, 0, 0, 0, 0, 0, [])), (8, (2, 10, 4, 0, 0, 0, 0, [])), (10, (1, 12, 4, 0, 0, 0, 0, [])), (12, (1, 13, 1, 2, 0, 0, 0, [])), (13, (15, 16, 1, 1, 0, 248, 0, [])), (16, (11, 19, 3, 110, 0, 0, 0, [])), (19, (1, 20, 0, 2, 0, 0, 0, [])), (20, (15, 23, 0, 4, 0, 227, 0, [])), (23, (1, 24, 0, 2, 0, 0, 0, [])), (24, (15, 27, 1, 4, 30, 228, 0, [])), (27, (19, 28, 0, 0, 0, 0, 0, [])), (28, (11, 31, 3, 110, 0, 0, 0, [])), (31, (1, 32, 1, 2, 0, 0, 0, []))],
  [(32, (1, 34, 4, 0, 0, 0, 0, [])), (34, (1, 35, 2, 2, 0, 0, 0, [])), (35, (1, 36, 3, 0, 0, 0, 0, [])), (36, (20, 39, 82, 0, 0, 1001, 0, [(5, 4), (0, 11), (0, 0), (0, 11), (0, 0)])), (39, (2, 41, 5, 0, 0, 0, 0, [])), (41, (1, 43, 5, 0, 0, 0, 0, [])), (43, (1, 44, 2, 2, 0, 0, 0, [])), (44, (15, 47, 1, 1, 0, 248, 0, [])), (47, (11, 50, 3, 104, 0, 0, 0, [])), (50, (1, 51, 0, 2, 0, 0, 0, [])), (51, (15, 54, 2, 4, 34, 229, 0, [])), (54, (1, 56, 4, 0, 0, 0, 0, [])), (56, (0, 57, 0, 0, 0, 0, 1, [])), (57, (4, 58, 0, 0, 0, 0, 0, [])), (58, (17, 59, 2, 0, 0, 0, 0, [])), (59, (1, 61, 5, 0, 0, 0, 0, [])), (61, (0, 62, 0, 0, 0, 0, 1, [])), (62, (4, 63, 0, 0, 0, 0, 0, [])), (63, (17, 64, 0, 0, 0, 0, 0, []))],
  [(64, (0, 65, 0, 0, 0, 0, 1, [])), (65, (4, 66, 0, 0, 0, 0, 0, [])), (66, (1, 67, 0, 2, 0, 0, 0, [])), (67, (15, 70, 2, 4, 34, 229, 0, [])), (70, (1, 72, 4, 0, 0, 0, 0, [])), (72, (17, 73, 2, 0, 0, 0, 0, [])), (73, (1, 74, 3, 0, 0, 0, 0, [])), (74, (17, 75, 0, 0, 0, 0, 0, [])), (75, (11, 78, 1, 104, 0, 0, 0, [])), (78, (1, 79, 0, 2, 0, 0, 0, [])), (79, (15, 82, 1, 4, 30, 228, 0, [])), (82, (1, 83, 0, 2, 0, 0, 0, [])), (83, (15, 86, 0, 4, 0, 227, 0, [])), (86, (1, 88, 4, 0, 0, 0, 0, [])), (88, (18, 89, 0, 0, 0, 0, 0, [])), (89, (1, 90, 0, 2, 0, 0, 0, [])), (90, (22, 91, 0, 0, 0, 0, 0, [])), (91, (15, 94, 0, 4, 0, 227, 0, [])), (94, (0, 95, 0, 0, 0, 0, 1, [])), (95, (4, 96, 0, 0, 0, 0, 0, []))],
  [(96, (16, 99, 0, 4, 0, 227, 0, [])), (99, (1, 101, 5, 0, 0, 0, 0, [])), (101, (0, 102, 0, 0, 0, 0, 1, [])), (102, (4, 103, 0, 0, 0, 0, 0, [])), (103, (2, 104, 3, 0, 0, 0, 0, [])), (104, (3, 107, 4, 0, 0, 0, 1, [])), (107, (13, 110, 0, 10, 0, 0, 0, [])), (110, (21, 111, 0, 0, 9, 0, 0, []))]]
set_option maxRecDepth 100000 in
noncomputable def tb82 : List (List (Nat × II)) := [[(0, (1, 1, 3, 0, 0, 0, 0, [])), (1, (2, 3, 4, 0, 0, 0, 0, [])), (3, (1, 5, 4, 0, 0, 0, 0, [])), (5, (1, 6, 2, 2, 0, 0, 0, [])), (6, (15, 9, 1, 1, 0, 248, 0, [])), (9, (11, 12, 3, 32, 0, 0, 0, [])), (12, (1, 13, 0, 2, 0, 0, 0, [])), (13, (1, 14, 1, 0, 0, 0, 0, [])), (14, (1, 15, 2, 2, 0, 0, 0, [])), (15, (1, 17, 4, 0, 0, 0, 0, [])), (17, (20, 20, 80, 0, 0, 992, 0, [(4, 4), (0, 11), (0, 0), (0, 11), (0, 0)])), (20, (10, 23, 0, 26, 0, 0, 0, [])), (23, (1, 25, 4, 0, 0, 0, 0, [])), (25, (21, 26, 1, 0, 0, 0, 0, [])), (26, (3, 29, 4, 0, 0, 0, 1, [])), (29, (13, 32, 0, 3, 0, 0, 0, []))],
  [(32, (1, 33, 2, 2, 0, 0, 0, [])), (33, (15, 36, 1, 1, 0, 248, 0, [])), (36, (21, 37, 1, 0, 0, 0, 0, []))]]
set_option maxRecDepth 100000 in
noncomputable def tb83 : List (List (Nat × II)) := [[(0, (1, 1, 1, 0, 0, 0, 0, [])), (1, (0, 2, 0, 0, 0, 0, 0, [])), (2, (1, 3, 0, 2, 0, 0, 0, [])), (3, (15, 6, 1, 4, 30, 228, 0, [])), (6, (19, 7, 0, 0, 0, 0, 0, [])), (7, (0, 8, 0, 0, 0, 0, 1, [])), (8, (4, 9, 1, 0, 0, 0, 0, [])), (9, (20, 12, 146, 0, 0, 1008, 1, [(3, 3), (0, 0), (0, 0), (0, 0)])), (12, (10, 15, 0, 24, 0, 0, 0, [])), (15, (1, 16, 0, 2, 0, 0, 0, [])), (16, (15, 19, 1, 4, 30, 228, 0, [])), (19, (1, 20, 1, 0, 0, 0, 0, [])), (20, (17, 21, 0, 0, 0, 0, 0, [])), (21, (13, 24, 0, 26, 0, 0, 0, [])), (24, (0, 26, 0, 0, 0, 1009, (-1000000005), [])), (26, (21, 27, 1, 0, 0, 0, 0, []))]]
set_option maxRecDepth 100000 in
noncomputable def tb84 : List (List (Nat × II)) := [[(0, (1, 1, 0, 2, 0, 0, 0, [])), (1, (29, 4, 0, 0, 0, 115, 0, [])), (4, (1, 5, 0, 2, 0, 0, 0, [])), (5, (0, 8, 0, 0, 0, 0, 2001, [])), (8, (26, 10, 20, 0, 0, 0, 0, [])), (10, (16, 13, 2, 5, 30, 120, 0, [])), (13, (21, 14, 0, 0, 9, 0, 0, []))]]
set_option maxRecDepth 100000 in
noncomputable def tb85 : List (List (Nat × II)) := [[(0, (1, 1, 0, 2, 0, 0, 0, [])), (1, (1, 2, 1, 2, 0, 0, 0, [])), (2, (1, 3, 2, 0, 0, 0, 0, [])), (3, (20, 6, 86, 1, 9, 365, 0, [(6, 3), (0, 45), (0, 30), (0, 0)])), (6, (1, 7, 0, 2, 0, 0, 0, [])), (7, (0, 9, 0, 0, 0, 369, 1000000, [])), (9, (16, 12, 0, 5, 0, 116, 0, [])), (12, (1, 13, 2, 0, 0, 0, 0, [])), (13, (2, 15, 4, 0, 0, 0, 0, [])), (15, (1, 17, 4, 0, 0, 0, 0, [])), (17, (0, 18, 0, 0, 0, 0, 1, [])), (18, (11, 21, 2, 66, 0, 0, 0, [])), (21, (1, 23, 4, 0, 0, 0, 0, [])), (23, (1, 24, 2, 0, 0, 0, 0, [])), (24, (1, 25, 3, 0, 0, 0, 0, [])), (25, (4, 26, 1, 0, 0, 0, 0, [])), (26, (11, 29, 2, 66, 0, 0, 0, [])), (29, (1, 30, 0, 2, 0, 0, 0, [])), (30, (15, 33, 2, 5, 30, 120, 0, []))],
  [(33, (1, 35, 4, 0, 0, 0, 0, [])), (35, (17, 36, 0, 0, 0, 0, 0, [])), (36, (1, 37, 0, 2, 0, 0, 0, [])), (37, (15, 40, 0, 5, 0, 116, 0, [])), (40, (11, 43, 3, 60, 0, 0, 0, [])), (43, (1, 44, 0, 2, 0, 0, 0, [])), (44, (1, 45, 0, 2, 0, 0, 0, [])), (45, (15, 48, 2, 5, 30, 120, 0, [])), (48, (1, 50, 4, 0, 0, 0, 0, [])), (50, (17, 51, 0, 0, 0, 0, 0, [])), (51, (16, 54, 0, 5, 0, 116, 0, [])), (54, (1, 55, 0, 2, 0, 0, 0, [])), (55, (1, 57, 4, 0, 0, 0, 0, [])), (57, (16, 60, 1, 5, 0, 118, 0, [])), (60, (3, 63, 4, 0, 0, 0, (-1), [])), (63, (13, 66, 0, 15, 0, 0, 0, []))],
  [(66, (1, 67, 0, 2, 0, 0, 0, [])), (67, (15, 70, 0, 5, 0, 116, 0, [])), (70, (0, 72, 0, 0, 0, 369, 1000000, [])), (72, (11, 75, 3, 79, 0, 0, 0, [])), (75, (0, 76, 0, 0, 0, 0, 1, [])), (76, (13, 79, 0, 80, 0, 0, 0, [])), (79, (0, 80, 0, 0, 0, 0, 0, [])), (80, (21, 81, 2, 0, 3, 0, 0, []))]]
set_option maxRecDepth 100000 in
noncomputable def tb86 : List (List (Nat × II)) := [[(0, (1, 1, 0, 2, 0, 0, 0, [])), (1, (15, 4, 2, 5, 30, 120, 0, [])), (4, (0, 5, 0, 0, 0, 0, 0, [])), (5, (0, 6, 0, 0, 0, 0, 0, [])), (6, (18, 7, 0, 0, 0, 0, 0, [])), (7, (0, 8, 0, 0, 0, 0, 1, [])), (8, (2, 9, 3, 0, 0, 0, 0, [])), (9, (1, 10, 3, 0, 0, 0, 0, [])), (10, (1, 11, 2, 0, 0, 0, 0, [])), (11, (11, 14, 4, 92, 0, 0, 0, [])), (14, (1, 15, 3, 0, 0, 0, 0, [])), (15, (1, 16, 0, 2, 0, 0, 0, [])), (16, (15, 19, 2, 5, 30, 120, 0, [])), (19, (19, 20, 0, 0, 0, 0, 0, [])), (20, (11, 23, 3, 92, 0, 0, 0, [])), (23, (0, 25, 0, 0, 0, 369, 1000000, [])), (25, (2, 27, 4, 0, 0, 0, 0, [])), (27, (0, 28, 0, 0, 0, 0, 0, [])), (28, (2, 30, 5, 0, 0, 0, 0, [])), (30, (1, 32, 5, 0, 0, 0, 0, []))],
  [(32, (1, 33, 1, 2, 0, 0, 0, [])), (33, (19, 34, 0, 0, 0, 0, 0, [])), (34, (11, 37, 3, 78, 0, 0, 0, [])), (37, (1, 38, 1, 2, 0, 0, 0, [])), (38, (1, 40, 5, 0, 0, 0, 0, [])), (40, (17, 41, 0, 0, 0, 0, 0, [])), (41, (10, 44, 5, 72, 0, 0, 0, [])), (44, (1, 45, 1, 2, 0, 0, 0, [])), (45, (1, 47, 5, 0, 0, 0, 0, [])), (47, (17, 48, 0, 0, 0, 0, 0, [])), (48, (1, 49, 3, 0, 0, 0, 0, [])), (49, (11, 52, 4, 72, 0, 0, 0, [])), (52, (1, 54, 4, 0, 0, 0, 0, [])), (54, (1, 55, 0, 2, 0, 0, 0, [])), (55, (15, 58, 2, 5, 30, 120, 0, [])), (58, (1, 59, 3, 0, 0, 0, 0, [])), (59, (1, 60, 1, 2, 0, 0, 0, [])), (60, (1, 62, 5, 0, 0, 0, 0, [])), (62, (17, 63, 0, 0, 0, 0, 0, [])), (63, (4, 64, 1, 0, 0, 0, 0, []))],
  [(64, (17, 65, 0, 0, 0, 0, 0, [])), (65, (0, 66, 0, 0, 0, 0, 1, [])), (66, (4, 67, 0, 0, 0, 0, 0, [])), (67, (32, 70, 1, 0, 0, 370, 0, [])), (70, (2, 72, 4, 0, 0, 0, 0, [])), (72, (3, 75, 5, 0, 0, 0, 1, [])), (75, (13, 78, 0, 30, 0, 0, 0, [])), (78, (1, 79, 0, 2, 0, 0, 0, [])), (79, (15, 82, 2, 5, 30, 120, 0, [])), (82, (1, 83, 3, 0, 0, 0, 0, [])), (83, (1, 85, 4, 0, 0, 0, 0, [])), (85, (18, 86, 0, 0, 0, 0, 0, [])), (86, (3, 89, 3, 0, 0, 0, 1, [])), (89, (13, 92, 0, 9, 0, 0, 0, [])), (92, (21, 93, 0, 0, 9, 0, 0, []))]]
set_option maxRecDepth 100000 in
noncomputable def tb87 : List (List (Nat × II)) := [[(0, (1, 1, 0, 2, 0, 0, 0, [])), (1, (15, 4, 1, 5, 0, 118, 0, [])), (4, (2, 5, 3, 0, 0, 0, 0, [])), (5, (0, 6, 0, 0, 0, 0, 0, [])), (6, (2, 8, 4, 0, 0, 0, 0, [])), (8, (0, 9, 0, 0, 0, 0, 0, [])), (9, (2, 11, 5, 0, 0, 0, 0, [])), (11, (1, 13, 5, 0, 0, 0, 0, [])), (13, (1, 14, 2, 0, 0, 0, 0, [])), (14, (11, 17, 4, 102, 0, 0, 0, [])), (17, (1, 19, 5, 0, 0, 0, 0, [])), (19, (1, 20, 0, 2, 0, 0, 0, [])), (20, (15, 23, 0, 5, 0, 116, 0, [])), (23, (11, 26, 3, 102, 0, 0, 0, [])), (26, (0, 27, 0, 0, 0, 0, 0, [])), (27, (2, 29, 4, 0, 0, 0, 0, [])), (29, (0, 30, 0, 0, 0, 0, 0, [])), (30, (2, 32, 6, 0, 0, 0, 0, []))],
  [(32, (1, 34, 6, 0, 0, 0, 0, [])), (34, (1, 35, 1, 2, 0, 0, 0, [])), (35, (19, 36, 0, 0, 0, 0, 0, [])), (36, (11, 39, 3, 91, 0, 0, 0, [])), (39, (1, 40, 1, 2, 0, 0, 0, [])), (40, (1, 42, 6, 0, 0, 0, 0, [])), (42, (17, 43, 0, 0, 0, 0, 0, [])), (43, (1, 45, 4, 0, 0, 0, 0, [])), (45, (11, 48, 5, 85, 0, 0, 0, [])), (48, (1, 49, 1, 2, 0, 0, 0, [])), (49, (1, 51, 6, 0, 0, 0, 0, [])), (51, (17, 52, 0, 0, 0, 0, 0, [])), (52, (1, 53, 3, 0, 0, 0, 0, [])), (53, (11, 56, 4, 85, 0, 0, 0, [])), (56, (1, 57, 0, 2, 0, 0, 0, [])), (57, (15, 60, 2, 5, 30, 120, 0, [])), (60, (1, 61, 3, 0, 0, 0, 0, [])), (61, (1, 62, 1, 2, 0, 0, 0, [])), (62, (1, 64, 6, 0, 0, 0, 0, []))],
  [(64, (17, 65, 0, 0, 0, 0, 0, [])), (65, (4, 66, 1, 0, 0, 0, 0, [])), (66, (17, 67, 0, 0, 0, 0, 0, [])), (67, (1, 68, 0, 2, 0, 0, 0, [])), (68, (15, 71, 0, 5, 0, 116, 0, [])), (71, (1, 73, 5, 0, 0, 0, 0, [])), (73, (4, 74, 1, 0, 0, 0, 0, [])), (74, (0, 75, 0, 0, 0, 0, 1, [])), (75, (4, 76, 1, 0, 0, 0, 0, [])), (76, (11, 79, 1, 85, 0, 0, 0, [])), (79, (1, 80, 1, 2, 0, 0, 0, [])), (80, (1, 82, 6, 0, 0, 0, 0, [])), (82, (17, 83, 0, 0, 0, 0, 0, [])), (83, (2, 85, 4, 0, 0, 0, 0, [])), (85, (3, 88, 6, 0, 0, 0, 1, [])), (88, (13, 91, 0, 32, 0, 0, 0, [])), (91, (1, 92, 3, 0, 0, 0, 0, [])), (92, (1, 94, 4, 0, 0, 0, 0, [])), (94, (4, 95, 1, 0, 0, 0, 0, [])), (95, (2, 96, 3, 0, 0, 0, 0, []))],
  [(96, (3, 99, 5, 0, 0, 0, 1, [])), (99, (13, 102, 0, 11, 0, 0, 0, [])), (102, (1, 104, 4, 0, 0, 0, 0, [])), (104, (21, 105, 1, 0, 0, 0, 0, []))]]
set_option maxRecDepth 100000 in
noncomputable def tb88 : List (List (Nat × II)) := [[(0, (1, 1, 0, 2, 0, 0, 0, [])), (1, (1, 2, 1, 2, 0, 0, 0, [])), (2, (20, 5, 89, 1, 9, 386, 0, [(5, 2), (0, 45), (0, 30)])), (5, (0, 6, 0, 0, 0, 0, 1, [])), (6, (2, 8, 4, 0, 0, 0, 0, [])), (8, (1, 10, 4, 0, 0, 0, 0, [])), (10, (0, 12, 0, 0, 0, 0, 20, [])), (12, (11, 15, 4, 82, 0, 0, 0, [])), (15, (1, 16, 2, 0, 0, 0, 0, [])), (16, (1, 17, 3, 0, 0, 0, 0, [])), (17, (1, 19, 4, 0, 0, 0, 0, [])), (19, (0, 20, 0, 0, 0, 0, 1, [])), (20, (4, 21, 1, 0, 0, 0, 0, [])), (21, (4, 22, 2, 0, 0, 0, 0, [])), (22, (4, 23, 0, 0, 0, 0, 0, [])), (23, (2, 25, 5, 0, 0, 0, 0, [])), (25, (1, 27, 5, 0, 0, 0, 0, [])), (27, (1, 29, 4, 0, 0, 0, 0, [])), (29, (0, 31, 0, 0, 0, 0, 100, [])), (31, (4, 32, 2, 0, 0, 0, 0, []))],
  [(32, (11, 35, 4, 76, 0, 0, 0, [])), (35, (1, 37, 5, 0, 0, 0, 0, [])), (37, (1, 38, 0, 2, 0, 0, 0, [])), (38, (15, 41, 2, 5, 30, 120, 0, [])), (41, (19, 42, 0, 0, 0, 0, 0, [])), (42, (11, 45, 3, 76, 0, 0, 0, [])), (45, (1, 46, 0, 2, 0, 0, 0, [])), (46, (1, 48, 5, 0, 0, 0, 0, [])), (48, (1, 50, 4, 0, 0, 0, 0, [])), (50, (20, 53, 90, 1, 0, 391, 0, [(3, 3), (0, 45), (0, 0), (0, 0)])), (53, (10, 56, 0, 70, 0, 0, 0, [])), (56, (1, 57, 0, 2, 0, 0, 0, [])), (57, (1, 59, 4, 0, 0, 0, 0, [])), (59, (16, 62, 0, 5, 0, 116, 0, [])), (62, (1, 63, 0, 2, 0, 0, 0, [])), (63, (1, 65, 5, 0, 0, 0, 0, []))],
  [(65, (16, 68, 1, 5, 0, 118, 0, [])), (68, (0, 69, 0, 0, 0, 0, 1, [])), (69, (21, 70, 2, 0, 3, 0, 0, [])), (70, (3, 73, 5, 0, 0, 0, 1, [])), (73, (13, 76, 0, 25, 0, 0, 0, [])), (76, (3, 79, 4, 0, 0, 0, 1, [])), (79, (13, 82, 0, 8, 0, 0, 0, [])), (82, (0, 83, 0, 0, 0, 0, 0, [])), (83, (21, 84, 2, 0, 3, 0, 0, []))]]
set_option maxRecDepth 100000 in
noncomputable def tb89 : List (List (Nat × II)) := [[(0, (1, 1, 0, 2, 0, 0, 0, [])), (1, (15, 4, 2, 5, 30, 120, 0, [])), (4, (0, 5, 0, 0, 0, 0, 0, [])), (5, (0, 6, 0, 0, 0, 0, 1, [])), (6, (18, 7, 0, 0, 0, 0, 0, [])), (7, (0, 8, 0, 0, 0, 0, 1, [])), (8, (2, 9, 2, 0, 0, 0, 0, [])), (9, (1, 10, 2, 0, 0, 0, 0, [])), (10, (1, 11, 0, 2, 0, 0, 0, [])), (11, (15, 14, 2, 5, 30, 120, 0, [])), (14, (19, 15, 0, 0, 0, 0, 0, [])), (15, (11, 18, 3, 83, 0, 0, 0, [])), (18, (0, 19, 0, 0, 0, 0, 0, [])), (19, (2, 20, 3, 0, 0, 0, 0, [])), (20, (0, 21, 0, 0, 0, 0, 0, [])), (21, (2, 23, 4, 0, 0, 0, 0, [])), (23, (1, 25, 4, 0, 0, 0, 0, [])), (25, (1, 26, 1, 2, 0, 0, 0, [])), (26, (19, 27, 0, 0, 0, 0, 0, [])), (27, (11, 30, 3, 67, 0, 0, 0, [])), (30, (1, 31, 1, 2, 0, 0, 0, [])), (31, (1, 33, 4, 0, 0, 0, 0, []))],
  [(33, (17, 34, 0, 0, 0, 0, 0, [])), (34, (10, 37, 5, 61, 0, 0, 0, [])), (37, (1, 38, 1, 2, 0, 0, 0, [])), (38, (1, 40, 4, 0, 0, 0, 0, [])), (40, (17, 41, 0, 0, 0, 0, 0, [])), (41, (1, 42, 2, 0, 0, 0, 0, [])), (42, (11, 45, 4, 61, 0, 0, 0, [])), (45, (1, 46, 3, 0, 0, 0, 0, [])), (46, (1, 47, 0, 2, 0, 0, 0, [])), (47, (15, 50, 2, 5, 30, 120, 0, [])), (50, (1, 51, 2, 0, 0, 0, 0, [])), (51, (1, 52, 1, 2, 0, 0, 0, [])), (52, (1, 54, 4, 0, 0, 0, 0, [])), (54, (17, 55, 0, 0, 0, 0, 0, [])), (55, (4, 56, 1, 0, 0, 0, 0, [])), (56, (17, 57, 0, 0, 0, 0, 0, [])), (57, (0, 58, 0, 0, 0, 0, 1, [])), (58, (4, 59, 5, 0, 0, 0, 0, [])), (59, (4, 60, 4, 0, 0, 0, 0, [])), (60, (2, 61, 3, 0, 0, 0, 0, [])), (61, (3, 64, 4, 0, 0, 0, 1, []))],
  [(64, (13, 67, 0, 23, 0, 0, 0, [])), (67, (1, 68, 0, 2, 0, 0, 0, [])), (68, (15, 71, 2, 5, 30, 120, 0, [])), (71, (1, 72, 2, 0, 0, 0, 0, [])), (72, (1, 73, 3, 0, 0, 0, 0, [])), (73, (0, 75, 0, 0, 0, 390, 2097151, [])), (75, (4, 76, 3, 0, 0, 0, 0, [])), (76, (18, 77, 0, 0, 0, 0, 0, [])), (77, (3, 80, 2, 0, 0, 0, 1, [])), (80, (13, 83, 0, 9, 0, 0, 0, [])), (83, (21, 84, 0, 0, 9, 0, 0, []))]]
set_option maxRecDepth 100000 in
noncomputable def tb90 : List (List (Nat × II)) := [[(0, (1, 1, 1, 0, 0, 0, 0, [])), (1, (0, 2, 0, 0, 0, 0, 0, [])), (2, (1, 3, 0, 2, 0, 0, 0, [])), (3, (15, 6, 2, 5, 30, 120, 0, [])), (6, (19, 7, 0, 0, 0, 0, 0, [])), (7, (0, 8, 0, 0, 0, 0, 1, [])), (8, (4, 9, 1, 0, 0, 0, 0, [])), (9, (20, 12, 146, 0, 0, 395, 1, [(3, 3), (0, 0), (0, 0), (0, 0)])), (12, (10, 15, 0, 33, 0, 0, 0, [])), (15, (1, 16, 0, 2, 0, 0, 0, [])), (16, (15, 19, 2, 5, 30, 120, 0, [])), (19, (1, 20, 1, 0, 0, 0, 0, [])), (20, (17, 21, 0, 0, 0, 0, 0, [])), (21, (1, 22, 2, 0, 0, 0, 0, [])), (22, (4, 23, 6, 0, 0, 0, 0, [])), (23, (0, 24, 0, 0, 0, 0, 1, [])), (24, (4, 25, 3, 0, 0, 0, 0, [])), (25, (0, 26, 0, 0, 0, 0, 1, [])), (26, (11, 29, 1, 33, 0, 0, 0, [])), (29, (0, 30, 0, 0, 0, 0, 1, [])), (30, (13, 33, 0, 34, 0, 0, 0, []))],
  [(33, (0, 34, 0, 0, 0, 0, 0, [])), (34, (21, 35, 2, 0, 3, 0, 0, []))]]
set_option maxRecDepth 100000 in
noncomputable def tb91 : List (List (Nat × II)) := [[(0, (1, 1, 0, 2, 0, 0, 0, [])), (1, (15, 4, 1, 5, 0, 118, 0, [])), (4, (2, 5, 3, 0, 0, 0, 0, [])), (5, (0, 6, 0, 0, 0, 0, 0, [])), (6, (2, 8, 4, 0, 0, 0, 0, [])), (8, (0, 9, 0, 0, 0, 0, 0, [])), (9, (2, 11, 5, 0, 0, 0, 0, [])), (11, (1, 13, 5, 0, 0, 0, 0, [])), (13, (1, 14, 2, 0, 0, 0, 0, [])), (14, (11, 17, 4, 93, 0, 0, 0, [])), (17, (1, 19, 5, 0, 0, 0, 0, [])), (19, (1, 20, 0, 2, 0, 0, 0, [])), (20, (15, 23, 0, 5, 0, 116, 0, [])), (23, (11, 26, 3, 93, 0, 0, 0, [])), (26, (0, 27, 0, 0, 0, 0, 0, [])), (27, (2, 29, 4, 0, 0, 0, 0, [])), (29, (0, 30, 0, 0, 0, 0, 0, [])), (30, (2, 32, 6, 0, 0, 0, 0, []))],
  [(32, (1, 34, 6, 0, 0, 0, 0, [])), (34, (1, 35, 1, 2, 0, 0, 0, [])), (35, (19, 36, 0, 0, 0, 0, 0, [])), (36, (11, 39, 3, 82, 0, 0, 0, [])), (39, (1, 40, 1, 2, 0, 0, 0, [])), (40, (1, 42, 6, 0, 0, 0, 0, [])), (42, (17, 43, 0, 0, 0, 0, 0, [])), (43, (1, 45, 4, 0, 0, 0, 0, [])), (45, (11, 48, 5, 76, 0, 0, 0, [])), (48, (1, 49, 0, 2, 0, 0, 0, [])), (49, (1, 50, 3, 0, 0, 0, 0, [])), (50, (1, 51, 1, 2, 0, 0, 0, [])), (51, (1, 53, 6, 0, 0, 0, 0, [])), (53, (17, 54, 0, 0, 0, 0, 0, [])), (54, (4, 55, 1, 0, 0, 0, 0, [])), (55, (1, 56, 0, 2, 0, 0, 0, [])), (56, (15, 59, 0, 5, 0, 116, 0, [])), (59, (1, 61, 5, 0, 0, 0, 0, [])), (61, (4, 62, 1, 0, 0, 0, 0, [])), (62, (0, 63, 0, 0, 0, 0, 1, [])), (63, (4, 64, 1, 0, 0, 0, 0, []))],
  [(64, (20, 67, 90, 1, 0, 391, 0, [(3, 3), (0, 45), (0, 0), (0, 0)])), (67, (10, 70, 0, 76, 0, 0, 0, [])), (70, (1, 71, 1, 2, 0, 0, 0, [])), (71, (1, 73, 6, 0, 0, 0, 0, [])), (73, (17, 74, 0, 0, 0, 0, 0, [])), (74, (2, 76, 4, 0, 0, 0, 0, [])), (76, (3, 79, 6, 0, 0, 0, 1, [])), (79, (13, 82, 0, 32, 0, 0, 0, [])), (82, (1, 83, 3, 0, 0, 0, 0, [])), (83, (1, 85, 4, 0, 0, 0, 0, [])), (85, (4, 86, 1, 0, 0, 0, 0, [])), (86, (2, 87, 3, 0, 0, 0, 0, [])), (87, (3, 90, 5, 0, 0, 0, 1, [])), (90, (13, 93, 0, 11, 0, 0, 0, [])), (93, (1, 95, 4, 0, 0, 0, 0, [])), (95, (21, 96, 1, 0, 0, 0, 0, []))]]
set_option maxRecDepth 100000 in
noncomputable def tb92 : List (List (Nat × II)) := [[(0, (1, 1, 0, 2, 0, 0, 0, [])), (1, (29, 4, 0, 0, 0, 159, 0, [])), (4, (1, 5, 0, 2, 0, 0, 0, [])), (5, (0, 6, 0, 0, 0, 0, 1, [])), (6, (16, 9, 1, 6, 0, 161, 0, [])), (9, (1, 10, 0, 2, 0, 0, 0, [])), (10, (0, 13, 0, 0, 0, 0, 132, [])), (13, (26, 15, 20, 0, 0, 0, 0, [])), (15, (16, 18, 4, 6, 30, 164, 0, [])), (18, (21, 19, 0, 0, 9, 0, 0, []))]]
set_option maxRecDepth 100000 in
noncomputable def tb93 : List (List (Nat × II)) := [[(0, (1, 1, 1, 0, 0, 0, 0, [])), (1, (10, 4, 1, 27, 0, 0, 0, [])), (4, (1, 5, 2, 0, 0, 0, 0, [])), (5, (0, 6, 0, 0, 0, 0, 0, [])), (6, (0, 8, 0, 0, 0, 0, 9, [])), (8, (20, 11, 146, 0, 0, 754, 1, [(3, 3), (0, 0), (0, 0), (0, 0)])), (11, (10, 14, 0, 27, 0, 0, 0, [])), (14, (1, 15, 0, 2, 0, 0, 0, [])), (15, (15, 18, 0, 6, 0, 160, 0, [])), (18, (2, 19, 3, 0, 0, 0, 0, [])), (19, (1, 20, 0, 2, 0, 0, 0, [])), (20, (1, 21, 2, 0, 0, 0, 0, [])), (21, (16, 24, 0, 6, 0, 160, 0, [])), (24, (13, 27, 0, 86, 0, 0, 0, [])), (27, (1, 28, 1, 0, 0, 0, 0, [])), (28, (0, 29, 0, 0, 0, 0, 1, [])), (29, (11, 32, 1, 55, 0, 0, 0, []))],
  [(32, (1, 33, 2, 0, 0, 0, 0, [])), (33, (0, 34, 0, 0, 0, 0, 1, [])), (34, (0, 36, 0, 0, 0, 0, 6, [])), (36, (20, 39, 146, 0, 0, 754, 1, [(3, 3), (0, 0), (0, 0), (0, 0)])), (39, (10, 42, 0, 55, 0, 0, 0, [])), (42, (1, 43, 0, 2, 0, 0, 0, [])), (43, (15, 46, 1, 6, 0, 161, 0, [])), (46, (2, 47, 3, 0, 0, 0, 0, [])), (47, (1, 48, 0, 2, 0, 0, 0, [])), (48, (1, 49, 2, 0, 0, 0, 0, [])), (49, (16, 52, 1, 6, 0, 161, 0, [])), (52, (13, 55, 0, 86, 0, 0, 0, [])), (55, (1, 56, 1, 0, 0, 0, 0, [])), (56, (0, 57, 0, 0, 0, 0, 2, [])), (57, (11, 60, 1, 83, 0, 0, 0, [])), (60, (1, 61, 2, 0, 0, 0, 0, [])), (61, (0, 62, 0, 0, 0, 0, 0, [])), (62, (0, 64, 0, 0, 0, 0, 10, []))],
  [(64, (20, 67, 146, 0, 0, 754, 1, [(3, 3), (0, 0), (0, 0), (0, 0)])), (67, (10, 70, 0, 83, 0, 0, 0, [])), (70, (1, 71, 0, 2, 0, 0, 0, [])), (71, (15, 74, 2, 6, 0, 162, 0, [])), (74, (2, 75, 3, 0, 0, 0, 0, [])), (75, (1, 76, 0, 2, 0, 0, 0, [])), (76, (1, 77, 2, 0, 0, 0, 0, [])), (77, (16, 80, 2, 6, 0, 162, 0, [])), (80, (13, 83, 0, 86, 0, 0, 0, [])), (83, (0, 85, 0, 0, 0, 755, (-1000000001), [])), (85, (2, 86, 3, 0, 0, 0, 0, [])), (86, (1, 87, 3, 0, 0, 0, 0, [])), (87, (21, 88, 1, 0, 0, 0, 0, []))]]
set_option maxRecDepth 100000 in
noncomputable def tb94 : List (List (Nat × II)) := [[(0, (1, 1, 0, 2, 0, 0, 0, [])), (1, (0, 2, 0, 0, 0, 0, 0, [])), (2, (16, 5, 3, 6, 0, 163, 0, [])), (5, (1, 6, 0, 2, 0, 0, 0, [])), (6, (15, 9, 0, 6, 0, 160, 0, [])), (9, (10, 12, 5, 17, 0, 0, 0, [])), (12, (1, 13, 0, 2, 0, 0, 0, [])), (13, (1, 14, 1, 2, 0, 0, 0, [])), (14, (20, 17, 95, 1, 9, 764, 0, [(6, 2), (0, 46), (0, 11)])), (17, (1, 18, 0, 2, 0, 0, 0, [])), (18, (15, 21, 2, 6, 0, 162, 0, [])), (21, (10, 24, 5, 29, 0, 0, 0, [])), (24, (1, 25, 0, 2, 0, 0, 0, [])), (25, (1, 26, 1, 2, 0, 0, 0, [])), (26, (20, 29, 97, 1, 9, 778, 0, [(5, 2), (0, 46), (0, 11)])), (29, (1, 30, 0, 2, 0, 0, 0, [])), (30, (15, 33, 3, 6, 0, 163, 0, []))],
  [(33, (21, 34, 1, 0, 0, 0, 0, []))]]
set_option maxRecDepth 100000 in
noncomputable def tb95 : List (List (Nat × II)) := [[(0, (1, 1, 0, 2, 0, 0, 0, [])), (1, (15, 4, 0, 6, 0, 160, 0, [])), (4, (0, 5, 0, 0, 0, 0, 1, [])), (5, (4, 6, 0, 0, 0, 0, 0, [])), (6, (1, 7, 1, 2, 0, 0, 0, [])), (7, (15, 10, 1, 1, 0, 251, 0, [])), (10, (0, 11, 0, 0, 0, 0, 1, [])), (11, (4, 12, 0, 0, 0, 0, 0, [])), (12, (32, 15, 1, 0, 0, 768, 0, [])), (15, (2, 16, 2, 0, 0, 0, 0, [])), (16, (1, 17, 0, 2, 0, 0, 0, [])), (17, (15, 20, 1, 6, 0, 161, 0, [])), (20, (1, 21, 1, 2, 0, 0, 0, [])), (21, (15, 24, 2, 1, 0, 254, 0, [])), (24, (32, 27, 1, 0, 0, 768, 0, [])), (27, (2, 28, 3, 0, 0, 0, 0, [])), (28, (0, 29, 0, 0, 0, 0, 0, [])), (29, (2, 31, 4, 0, 0, 0, 0, [])), (31, (1, 33, 4, 0, 0, 0, 0, []))],
  [(33, (1, 34, 3, 0, 0, 0, 0, [])), (34, (4, 35, 0, 0, 0, 0, 0, [])), (35, (1, 36, 1, 2, 0, 0, 0, [])), (36, (15, 39, 2, 1, 0, 254, 0, [])), (39, (11, 42, 4, 98, 0, 0, 0, [])), (42, (0, 43, 0, 0, 0, 0, 0, [])), (43, (2, 45, 5, 0, 0, 0, 0, [])), (45, (1, 47, 5, 0, 0, 0, 0, [])), (47, (1, 48, 2, 0, 0, 0, 0, [])), (48, (4, 49, 0, 0, 0, 0, 0, [])), (49, (1, 50, 1, 2, 0, 0, 0, [])), (50, (15, 53, 1, 1, 0, 251, 0, [])), (53, (0, 54, 0, 0, 0, 0, 1, [])), (54, (4, 55, 0, 0, 0, 0, 0, [])), (55, (11, 58, 4, 92, 0, 0, 0, [])), (58, (1, 59, 1, 2, 0, 0, 0, [])), (59, (1, 61, 5, 0, 0, 0, 0, [])), (61, (1, 63, 5, 0, 0, 0, 0, [])), (63, (1, 64, 2, 0, 0, 0, 0, []))],
  [(64, (4, 65, 0, 0, 0, 0, 0, [])), (65, (1, 67, 4, 0, 0, 0, 0, [])), (67, (1, 69, 4, 0, 0, 0, 0, [])), (69, (1, 70, 3, 0, 0, 0, 0, [])), (70, (4, 71, 0, 0, 0, 0, 0, [])), (71, (20, 74, 96, 0, 0, 769, 0, [(7, 5), (0, 11), (0, 0), (0, 0), (0, 0), (0, 0)])), (74, (10, 77, 1, 86, 0, 0, 0, [])), (77, (1, 78, 0, 2, 0, 0, 0, [])), (78, (0, 79, 0, 0, 0, 0, 0, [])), (79, (1, 81, 4, 0, 0, 0, 0, [])), (81, (1, 83, 5, 0, 0, 0, 0, [])), (83, (20, 86, 99, 1, 9, 773, 0, [(4, 4), (0, 46), (0, 0), (0, 0), (0, 0)])), (86, (3, 89, 5, 0, 0, 0, 1, [])), (89, (13, 92, 0, 45, 0, 0, 0, [])), (92, (3, 95, 4, 0, 0, 0, 1, [])), (95, (13, 98, 0, 31, 0, 0, 0, []))],
  [(98, (21, 99, 0, 0, 9, 0, 0, []))]]
set_option maxRecDepth 100000 in
noncomputable def tb96 : List (List (Nat × II)) := [[(0, (1, 1, 3, 0, 0, 0, 0, [])), (1, (2, 3, 5, 0, 0, 0, 0, [])), (3, (1, 5, 5, 0, 0, 0, 0, [])), (5, (1, 7, 4, 0, 0, 0, 0, [])), (7, (11, 10, 3, 44, 0, 0, 0, [])), (10, (1, 11, 1, 0, 0, 0, 0, [])), (11, (2, 13, 6, 0, 0, 0, 0, [])), (13, (1, 15, 6, 0, 0, 0, 0, [])), (15, (1, 16, 2, 0, 0, 0, 0, [])), (16, (11, 19, 3, 38, 0, 0, 0, [])), (19, (1, 20, 0, 2, 0, 0, 0, [])), (20, (1, 22, 6, 0, 0, 0, 0, [])), (22, (1, 24, 5, 0, 0, 0, 0, [])), (24, (20, 27, 30, 1, 0, 772, 0, [(3, 3), (0, 41), (0, 0), (0, 0)])), (27, (10, 30, 0, 32, 0, 0, 0, [])), (30, (0, 31, 0, 0, 0, 0, 1, [])), (31, (21, 32, 2, 0, 3, 0, 0, []))],
  [(32, (3, 35, 6, 0, 0, 0, 1, [])), (35, (13, 38, 0, 13, 0, 0, 0, [])), (38, (3, 41, 5, 0, 0, 0, 1, [])), (41, (13, 44, 0, 3, 0, 0, 0, [])), (44, (0, 45, 0, 0, 0, 0, 0, [])), (45, (21, 46, 2, 0, 3, 0, 0, []))]]
set_option maxRecDepth 100000 in
noncomputable def tb97 : List (List (Nat × II)) := [[(0, (1, 1, 0, 2, 0, 0, 0, [])), (1, (15, 4, 2, 6, 0, 162, 0, [])), (4, (1, 5, 1, 2, 0, 0, 0, [])), (5, (15, 8, 1, 1, 0, 251, 0, [])), (8, (32, 11, 1, 0, 0, 768, 0, [])), (11, (2, 12, 2, 0, 0, 0, 0, [])), (12, (0, 13, 0, 0, 0, 0, 0, [])), (13, (2, 14, 3, 0, 0, 0, 0, [])), (14, (1, 15, 3, 0, 0, 0, 0, [])), (15, (1, 16, 1, 2, 0, 0, 0, [])), (16, (15, 19, 2, 1, 0, 254, 0, [])), (19, (11, 22, 3, 70, 0, 0, 0, [])), (22, (0, 23, 0, 0, 0, 0, 0, [])), (23, (2, 25, 4, 0, 0, 0, 0, [])), (25, (1, 27, 4, 0, 0, 0, 0, [])), (27, (1, 28, 2, 0, 0, 0, 0, [])), (28, (4, 29, 0, 0, 0, 0, 0, [])), (29, (1, 30, 1, 2, 0, 0, 0, [])), (30, (15, 33, 1, 1, 0, 251, 0, []))],
  [(33, (11, 36, 4, 64, 0, 0, 0, [])), (36, (1, 37, 1, 2, 0, 0, 0, [])), (37, (1, 39, 4, 0, 0, 0, 0, [])), (39, (1, 41, 4, 0, 0, 0, 0, [])), (41, (1, 42, 2, 0, 0, 0, 0, [])), (42, (4, 43, 0, 0, 0, 0, 0, [])), (43, (1, 44, 3, 0, 0, 0, 0, [])), (44, (20, 47, 98, 0, 0, 782, 0, [(5, 4), (0, 11), (0, 0), (0, 0), (0, 0)])), (47, (10, 50, 1, 58, 0, 0, 0, [])), (50, (1, 51, 0, 2, 0, 0, 0, [])), (51, (0, 52, 0, 0, 0, 0, 1, [])), (52, (1, 53, 3, 0, 0, 0, 0, [])), (53, (1, 55, 4, 0, 0, 0, 0, [])), (55, (20, 58, 99, 1, 9, 773, 0, [(4, 4), (0, 46), (0, 0), (0, 0), (0, 0)])), (58, (3, 61, 4, 0, 0, 0, 1, [])), (61, (13, 64, 0, 25, 0, 0, 0, []))],
  [(64, (3, 67, 3, 0, 0, 0, 1, [])), (67, (13, 70, 0, 14, 0, 0, 0, [])), (70, (21, 71, 0, 0, 9, 0, 0, []))]]
set_option maxRecDepth 100000 in
noncomputable def tb98 : List (List (Nat × II)) := [[(0, (1, 1, 1, 0, 0, 0, 0, [])), (1, (2, 3, 4, 0, 0, 0, 0, [])), (3, (1, 5, 4, 0, 0, 0, 0, [])), (5, (1, 6, 2, 0, 0, 0, 0, [])), (6, (11, 9, 3, 37, 0, 0, 0, [])), (9, (1, 10, 0, 2, 0, 0, 0, [])), (10, (1, 12, 4, 0, 0, 0, 0, [])), (12, (1, 13, 3, 0, 0, 0, 0, [])), (13, (20, 16, 28, 1, 0, 785, 0, [(3, 3), (0, 41), (0, 0), (0, 0)])), (16, (10, 19, 1, 29, 0, 0, 0, [])), (19, (1, 20, 0, 2, 0, 0, 0, [])), (20, (1, 22, 4, 0, 0, 0, 0, [])), (22, (1, 23, 3, 0, 0, 0, 0, [])), (23, (20, 26, 18, 1, 0, 786, 0, [(3, 3), (0, 41), (0, 0), (0, 0)])), (26, (10, 29, 0, 31, 0, 0, 0, [])), (29, (0, 30, 0, 0, 0, 0, 1, [])), (30, (21, 31, 2, 0, 3, 0, 0, [])), (31, (3, 34, 4, 0, 0, 0, 1, []))],
  [(34, (13, 37, 0, 3, 0, 0, 0, [])), (37, (0, 38, 0, 0, 0, 0, 0, [])), (38, (21, 39, 2, 0, 3, 0, 0, []))]]
set_option maxRecDepth 100000 in
noncomputable def tb99 : List (List (Nat × II)) := [[(0, (1, 1, 0, 2, 0, 0, 0, [])), (1, (15, 4, 3, 6, 0, 163, 0, [])), (4, (1, 5, 0, 2, 0, 0, 0, [])), (5, (15, 8, 4, 6, 30, 164, 0, [])), (8, (19, 9, 0, 0, 0, 0, 0, [])), (9, (11, 12, 3, 37, 0, 0, 0, [])), (12, (1, 13, 0, 2, 0, 0, 0, [])), (13, (15, 16, 4, 6, 30, 164, 0, [])), (16, (1, 17, 0, 2, 0, 0, 0, [])), (17, (15, 20, 3, 6, 0, 163, 0, [])), (20, (1, 21, 1, 0, 0, 0, 0, [])), (21, (1, 22, 2, 0, 0, 0, 0, [])), (22, (1, 23, 3, 0, 0, 0, 0, [])), (23, (20, 26, 147, 0, 0, 777, 1, [(3, 3), (0, 0), (0, 0), (0, 0)])), (26, (18, 27, 0, 0, 0, 0, 0, [])), (27, (1, 28, 0, 2, 0, 0, 0, [])), (28, (22, 29, 0, 0, 0, 0, 0, [])), (29, (15, 32, 3, 6, 0, 163, 0, []))],
  [(32, (0, 33, 0, 0, 0, 0, 1, [])), (33, (4, 34, 0, 0, 0, 0, 0, [])), (34, (16, 37, 3, 6, 0, 163, 0, [])), (37, (21, 38, 0, 0, 9, 0, 0, []))]]
set_option maxRecDepth 100000 in
noncomputable def tb100 : List (List (Nat × II)) := [[(0, (1, 1, 1, 0, 0, 0, 0, [])), (1, (0, 2, 0, 0, 0, 0, 0, [])), (2, (1, 3, 0, 2, 0, 0, 0, [])), (3, (15, 6, 3, 6, 0, 163, 0, [])), (6, (0, 7, 0, 0, 0, 0, 1, [])), (7, (4, 8, 1, 0, 0, 0, 0, [])), (8, (20, 11, 146, 0, 0, 754, 1, [(3, 3), (0, 0), (0, 0), (0, 0)])), (11, (10, 14, 0, 23, 0, 0, 0, [])), (14, (1, 15, 1, 0, 0, 0, 0, [])), (15, (1, 16, 0, 2, 0, 0, 0, [])), (16, (15, 19, 4, 6, 30, 164, 0, [])), (19, (19, 20, 0, 0, 0, 0, 0, [])), (20, (11, 23, 2, 26, 0, 0, 0, [])), (23, (0, 25, 0, 0, 0, 795, (-1000000005), [])), (25, (21, 26, 1, 0, 0, 0, 0, [])), (26, (1, 27, 2, 0, 0, 0, 0, [])), (27, (14, 52, 1, 75, 0, 0, 0, [(0, 52), (1, 62)]))],
  [(52, (1, 53, 0, 2, 0, 0, 0, [])), (53, (15, 56, 4, 6, 30, 164, 0, [])), (56, (1, 57, 1, 0, 0, 0, 0, [])), (57, (17, 58, 0, 0, 0, 0, 0, [])), (58, (0, 60, 0, 0, 0, 0, 66, [])), (60, (5, 61, 0, 0, 0, 0, 0, [])), (61, (21, 62, 1, 0, 0, 0, 0, [])), (62, (1, 63, 0, 2, 0, 0, 0, [])), (63, (15, 66, 4, 6, 30, 164, 0, []))],
  [(66, (1, 67, 1, 0, 0, 0, 0, [])), (67, (17, 68, 0, 0, 0, 0, 0, [])), (68, (0, 70, 0, 0, 0, 0, 66, [])), (70, (5, 71, 1, 0, 0, 0, 0, [])), (71, (0, 73, 0, 0, 0, 0, 11, [])), (73, (5, 74, 0, 0, 0, 0, 0, [])), (74, (21, 75, 1, 0, 0, 0, 0, [])), (75, (1, 76, 0, 2, 0, 0, 0, [])), (76, (15, 79, 4, 6, 30, 164, 0, [])), (79, (1, 80, 1, 0, 0, 0, 0, [])), (80, (17, 81, 0, 0, 0, 0, 0, [])), (81, (0, 83, 0, 0, 0, 0, 11, [])), (83, (5, 84, 1, 0, 0, 0, 0, [])), (84, (21, 85, 1, 0, 0, 0, 0, []))]]
set_option maxRecDepth 100000 in
noncomputable def tb101 : List (List (Nat × II)) := [[(0, (1, 1, 0, 2, 0, 0, 0, [])), (1, (1, 2, 1, 2, 0, 0, 0, [])), (2, (20, 5, 94, 1, 0, 922, 0, [(2, 2), (0, 46), (0, 11)])), (5, (2, 6, 3, 0, 0, 0, 0, [])), (6, (0, 7, 0, 0, 0, 0, 0, [])), (7, (2, 9, 4, 0, 0, 0, 0, [])), (9, (1, 11, 4, 0, 0, 0, 0, [])), (11, (1, 12, 3, 0, 0, 0, 0, [])), (12, (11, 15, 3, 34, 0, 0, 0, [])), (15, (1, 16, 0, 2, 0, 0, 0, [])), (16, (1, 18, 4, 0, 0, 0, 0, [])), (18, (0, 19, 0, 0, 0, 0, 1, [])), (19, (20, 22, 100, 1, 0, 923, 0, [(3, 3), (0, 46), (0, 0), (0, 0)])), (22, (1, 23, 2, 0, 0, 0, 0, [])), (23, (11, 26, 4, 28, 0, 0, 0, [])), (26, (0, 27, 0, 0, 0, 0, 1, [])), (27, (21, 28, 2, 0, 3, 0, 0, [])), (28, (3, 31, 4, 0, 0, 0, 1, [])), (31, (13, 34, 0, 9, 0, 0, 0, []))],
  [(34, (0, 35, 0, 0, 0, 0, 0, [])), (35, (21, 36, 2, 0, 3, 0, 0, []))]]
set_option maxRecDepth 100000 in
noncomputable def tb102 : List (List (Nat × II)) := [[(0, (1, 1, 0, 2, 0, 0, 0, [])), (1, (29, 4, 0, 0, 0, 105, 0, [])), (4, (1, 5, 0, 2, 0, 0, 0, [])), (5, (0, 7, 0, 0, 0, 0, 6, [])), (7, (26, 9, 20, 0, 0, 0, 0, [])), (9, (16, 12, 0, 7, 30, 307, 0, [])), (12, (1, 13, 0, 2, 0, 0, 0, [])), (13, (0, 15, 0, 0, 0, 0, 6, [])), (15, (26, 17, 20, 0, 0, 0, 0, [])), (17, (16, 20, 1, 7, 30, 308, 0, [])), (20, (1, 21, 0, 2, 0, 0, 0, [])), (21, (0, 23, 0, 0, 0, 0, 7, [])), (23, (26, 25, 20, 0, 0, 0, 0, [])), (25, (16, 28, 2, 7, 30, 309, 0, [])), (28, (1, 29, 0, 2, 0, 0, 0, [])), (29, (0, 30, 0, 0, 0, 0, 3, [])), (30, (27, 33, 22, 0, 0, 108, 0, []))],
  [(33, (16, 36, 3, 7, 32, 310, 0, [])), (36, (1, 37, 0, 2, 0, 0, 0, [])), (37, (25, 40, 5, 0, 0, 110, 0, [])), (40, (22, 41, 0, 0, 0, 0, 0, [])), (41, (20, 44, 84, 2, 9, 112, 1, [(1, 1), (0, 45)])), (44, (16, 47, 4, 7, 15, 311, 0, [])), (47, (1, 48, 0, 2, 0, 0, 0, [])), (48, (25, 51, 3, 0, 0, 129, 0, [])), (51, (22, 52, 0, 0, 0, 0, 0, [])), (52, (20, 55, 65, 2, 9, 131, 1, [(1, 1), (0, 43)])), (55, (16, 58, 5, 7, 13, 312, 0, [])), (58, (1, 59, 0, 2, 0, 0, 0, [])), (59, (25, 62, 6, 0, 0, 154, 0, [])), (62, (22, 63, 0, 0, 0, 0, 0, [])), (63, (20, 66, 92, 2, 9, 156, 1, [(1, 1), (0, 46)]))],
  [(66, (16, 69, 6, 7, 16, 313, 0, [])), (69, (1, 70, 0, 2, 0, 0, 0, [])), (70, (25, 73, 2, 0, 0, 176, 0, [])), (73, (22, 74, 0, 0, 0, 0, 0, [])), (74, (20, 77, 61, 2, 9, 178, 0, [(2, 1), (0, 42)])), (77, (16, 80, 7, 7, 12, 314, 0, [])), (80, (1, 81, 0, 2, 0, 0, 0, [])), (81, (25, 84, 4, 0, 0, 219, 0, [])), (84, (22, 85, 0, 0, 0, 0, 0, [])), (85, (20, 88, 77, 2, 9, 221, 1, [(1, 1), (0, 44)])), (88, (16, 91, 8, 7, 14, 315, 0, [])), (91, (1, 92, 0, 2, 0, 0, 0, [])), (92, (0, 94, 0, 0, 0, 0, 10, [])), (94, (26, 96, 20, 0, 0, 0, 0, []))],
  [(96, (16, 99, 9, 7, 30, 316, 0, [])), (99, (1, 100, 0, 2, 0, 0, 0, [])), (100, (0, 103, 0, 0, 0, 0, 606, [])), (103, (26, 105, 20, 0, 0, 0, 0, [])), (105, (16, 108, 10, 7, 30, 317, 0, [])), (108, (1, 109, 0, 2, 0, 0, 0, [])), (109, (15, 112, 2, 7, 30, 309, 0, [])), (112, (0, 115, 0, 0, 0, 0, 1000, [])), (115, (20, 118, 272, 0, 9, 237, 0, [(4, 2), (0, 30), (0, 0)])), (118, (1, 119, 0, 2, 0, 0, 0, [])), (119, (15, 122, 9, 7, 30, 316, 0, [])), (122, (0, 123, 0, 0, 0, 0, (-1), [])), (123, (20, 126, 272, 0, 9, 237, 0, [(4, 2), (0, 30), (0, 0)])), (126, (0, 127, 0, 0, 0, 0, 0, [])), (127, (2, 128, 1, 0, 0, 0, 0, []))],
  [(128, (1, 129, 1, 0, 0, 0, 0, [])), (129, (1, 130, 0, 2, 0, 0, 0, [])), (130, (15, 133, 3, 7, 32, 310, 0, [])), (133, (19, 134, 0, 0, 0, 0, 0, [])), (134, (11, 137, 3, 156, 0, 0, 0, [])), (137, (1, 138, 0, 2, 0, 0, 0, [])), (138, (15, 141, 3, 7, 32, 310, 0, [])), (141, (1, 142, 1, 0, 0, 0, 0, [])), (142, (25, 145, 1, 0, 0, 108, 0, [])), (145, (22, 146, 0, 0, 0, 0, 0, [])), (146, (20, 149, 6, 2, 9, 241, 0, [(1, 1), (0, 41)])), (149, (18, 150, 2, 0, 0, 0, 0, [])), (150, (3, 153, 1, 0, 0, 0, 1, [])), (153, (13, 156, 0, 128, 0, 0, 0, [])), (156, (21, 157, 0, 0, 9, 0, 0, []))]]
set_option maxRecDepth 100000 in
noncomputable def tb103 : List (List (Nat × II)) := [[(0, (1, 1, 0, 2, 0, 0, 0, [])), (1, (1, 2, 1, 0, 0, 0, 0, [])), (2, (20, 5, 150, 1, 30, 348, 0, [(2, 2), (0, 47), (0, 0)])), (5, (2, 7, 4, 2, 0, 0, 0, [])), (7, (1, 9, 4, 2, 0, 0, 0, [])), (9, (12, 12, 0, 25, 0, 0, 0, [])), (12, (1, 13, 2, 0, 0, 0, 0, [])), (13, (0, 14, 0, 0, 0, 0, 0, [])), (14, (1, 16, 4, 2, 0, 0, 0, [])), (16, (19, 17, 0, 0, 0, 0, 0, [])), (17, (0, 18, 0, 0, 0, 0, 1, [])), (18, (4, 19, 1, 0, 0, 0, 0, [])), (19, (20, 22, 146, 0, 0, 352, 0, [(3, 3), (0, 0), (0, 0), (0, 0)])), (22, (10, 25, 1, 28, 0, 0, 0, [])), (25, (0, 27, 0, 0, 0, 355, (-1000000001), [])), (27, (21, 28, 1, 0, 0, 0, 0, [])), (28, (1, 29, 3, 0, 0, 0, 0, [])), (29, (0, 30, 0, 0, 0, 0, 0, [])), (30, (1, 31, 1, 0, 0, 0, 0, [])), (31, (0, 32, 0, 0, 0, 0, 2, []))],
  [(32, (11, 35, 1, 40, 0, 0, 0, [])), (35, (0, 37, 0, 0, 0, 356, 1000000, [])), (37, (13, 40, 0, 42, 0, 0, 0, [])), (40, (0, 42, 0, 0, 0, 0, 100, [])), (42, (20, 45, 146, 0, 0, 352, 0, [(3, 3), (0, 0), (0, 0), (0, 0)])), (45, (10, 48, 1, 51, 0, 0, 0, [])), (48, (0, 50, 0, 0, 0, 355, (-1000000001), [])), (50, (21, 51, 1, 0, 0, 0, 0, [])), (51, (1, 53, 4, 2, 0, 0, 0, [])), (53, (1, 54, 2, 0, 0, 0, 0, [])), (54, (17, 55, 0, 0, 0, 0, 0, [])), (55, (2, 57, 5, 0, 0, 0, 0, [])), (57, (1, 59, 4, 2, 0, 0, 0, [])), (59, (1, 60, 2, 0, 0, 0, 0, [])), (60, (1, 61, 3, 0, 0, 0, 0, [])), (61, (18, 62, 0, 0, 0, 0, 0, [])), (62, (1, 64, 5, 0, 0, 0, 0, []))],
  [(64, (21, 65, 1, 0, 0, 0, 0, []))]]
set_option maxRecDepth 100000 in
noncomputable def tb104 : List (List (Nat × II)) := [[(0, (1, 1, 1, 0, 0, 0, 0, [])), (1, (0, 2, 0, 0, 0, 0, 1, [])), (2, (0, 5, 0, 0, 0, 0, 1000, [])), (5, (20, 8, 146, 0, 0, 352, 0, [(3, 3), (0, 0), (0, 0), (0, 0)])), (8, (10, 11, 0, 35, 0, 0, 0, [])), (11, (1, 12, 2, 0, 0, 0, 0, [])), (12, (0, 13, 0, 0, 0, 0, 0, [])), (13, (0, 15, 0, 0, 0, 0, 99, [])), (15, (20, 18, 146, 0, 0, 352, 0, [(3, 3), (0, 0), (0, 0), (0, 0)])), (18, (10, 21, 0, 35, 0, 0, 0, [])), (21, (1, 22, 3, 0, 0, 0, 0, [])), (22, (0, 23, 0, 0, 0, 0, 0, [])), (23, (0, 24, 0, 0, 0, 0, 2, [])), (24, (20, 27, 146, 0, 0, 352, 0, [(3, 3), (0, 0), (0, 0), (0, 0)])), (27, (10, 30, 0, 35, 0, 0, 0, [])), (30, (1, 32, 4, 0, 0, 0, 0, []))],
  [(32, (10, 35, 3, 38, 0, 0, 0, [])), (35, (0, 37, 0, 0, 0, 355, (-1000000001), [])), (37, (21, 38, 1, 0, 0, 0, 0, [])), (38, (1, 39, 0, 2, 0, 0, 0, [])), (39, (15, 42, 4, 7, 15, 311, 0, [])), (42, (1, 43, 0, 2, 0, 0, 0, [])), (43, (15, 46, 0, 7, 30, 307, 0, [])), (46, (1, 47, 1, 0, 0, 0, 0, [])), (47, (1, 48, 2, 0, 0, 0, 0, [])), (48, (20, 51, 85, 1, 0, 361, 0, [(5, 4), (0, 45), (0, 30), (0, 0), (0, 0)])), (51, (10, 54, 1, 57, 0, 0, 0, [])), (54, (0, 56, 0, 0, 0, 373, (-1000000005), [])), (56, (21, 57, 1, 0, 0, 0, 0, [])), (57, (1, 58, 3, 0, 0, 0, 0, [])), (58, (0, 59, 0, 0, 0, 0, 2, [])), (59, (11, 62, 1, 93, 0, 0, 0, [])), (62, (1, 64, 4, 0, 0, 0, 0, []))],
  [(64, (1, 65, 0, 2, 0, 0, 0, [])), (65, (15, 68, 4, 7, 15, 311, 0, [])), (68, (15, 71, 0, 5, 0, 117, 0, [])), (71, (11, 74, 3, 90, 0, 0, 0, [])), (74, (1, 75, 0, 2, 0, 0, 0, [])), (75, (15, 78, 4, 7, 15, 311, 0, [])), (78, (1, 79, 0, 2, 0, 0, 0, [])), (79, (15, 82, 0, 7, 30, 307, 0, [])), (82, (1, 84, 4, 0, 0, 0, 0, [])), (84, (20, 87, 87, 1, 0, 374, 0, [(7, 3), (0, 45), (0, 30), (0, 0)])), (87, (13, 90, 0, 92, 0, 0, 0, [])), (90, (0, 92, 0, 0, 0, 373, (-1000000005), [])), (92, (21, 93, 1, 0, 0, 0, 0, [])), (93, (1, 94, 3, 0, 0, 0, 0, [])), (94, (10, 97, 1, 107, 0, 0, 0, []))],
  [(97, (1, 98, 0, 2, 0, 0, 0, [])), (98, (15, 101, 4, 7, 15, 311, 0, [])), (101, (15, 104, 0, 5, 0, 117, 0, [])), (104, (13, 107, 0, 114, 0, 0, 0, [])), (107, (1, 108, 0, 2, 0, 0, 0, [])), (108, (15, 111, 4, 7, 15, 311, 0, [])), (111, (15, 114, 1, 5, 0, 119, 0, [])), (114, (21, 115, 1, 0, 0, 0, 0, []))]]
set_option maxRecDepth 100000 in
noncomputable def tb105 : List (List (Nat × II)) := [[(0, (1, 1, 1, 0, 0, 0, 0, [])), (1, (0, 2, 0, 0, 0, 0, 1, [])), (2, (0, 5, 0, 0, 0, 0, 400, [])), (5, (20, 8, 146, 0, 0, 352, 0, [(3, 3), (0, 0), (0, 0), (0, 0)])), (8, (10, 11, 0, 35, 0, 0, 0, [])), (11, (1, 12, 2, 0, 0, 0, 0, [])), (12, (0, 13, 0, 0, 0, 0, 0, [])), (13, (0, 15, 0, 0, 0, 0, 50, [])), (15, (20, 18, 146, 0, 0, 352, 0, [(3, 3), (0, 0), (0, 0), (0, 0)])), (18, (10, 21, 0, 35, 0, 0, 0, [])), (21, (1, 22, 3, 0, 0, 0, 0, [])), (22, (0, 23, 0, 0, 0, 0, 0, [])), (23, (0, 24, 0, 0, 0, 0, 2, [])), (24, (20, 27, 146, 0, 0, 352, 0, [(3, 3), (0, 0), (0, 0), (0, 0)])), (27, (10, 30, 0, 35, 0, 0, 0, [])), (30, (1, 32, 4, 0, 0, 0, 0, []))],
  [(32, (10, 35, 3, 38, 0, 0, 0, [])), (35, (0, 37, 0, 0, 0, 355, (-1000000001), [])), (37, (21, 38, 1, 0, 0, 0, 0, [])), (38, (1, 39, 0, 2, 0, 0, 0, [])), (39, (15, 42, 4, 7, 15, 311, 0, [])), (42, (1, 43, 0, 2, 0, 0, 0, [])), (43, (15, 46, 1, 7, 30, 308, 0, [])), (46, (1, 47, 1, 0, 0, 0, 0, [])), (47, (1, 48, 2, 0, 0, 0, 0, [])), (48, (20, 51, 88, 1, 0, 382, 0, [(6, 4), (0, 45), (0, 30), (0, 0), (0, 0)])), (51, (10, 54, 1, 57, 0, 0, 0, [])), (54, (0, 56, 0, 0, 0, 373, (-1000000005), [])), (56, (21, 57, 1, 0, 0, 0, 0, [])), (57, (1, 58, 3, 0, 0, 0, 0, [])), (58, (0, 59, 0, 0, 0, 0, 2, [])), (59, (11, 62, 1, 93, 0, 0, 0, [])), (62, (1, 64, 4, 0, 0, 0, 0, []))],
  [(64, (1, 65, 0, 2, 0, 0, 0, [])), (65, (15, 68, 4, 7, 15, 311, 0, [])), (68, (15, 71, 0, 5, 0, 117, 0, [])), (71, (11, 74, 3, 90, 0, 0, 0, [])), (74, (1, 75, 0, 2, 0, 0, 0, [])), (75, (15, 78, 4, 7, 15, 311, 0, [])), (78, (1, 79, 0, 2, 0, 0, 0, [])), (79, (15, 82, 1, 7, 30, 308, 0, [])), (82, (1, 84, 4, 0, 0, 0, 0, [])), (84, (20, 87, 91, 1, 0, 396, 0, [(7, 3), (0, 45), (0, 30), (0, 0)])), (87, (13, 90, 0, 92, 0, 0, 0, [])), (90, (0, 92, 0, 0, 0, 373, (-1000000005), [])), (92, (21, 93, 1, 0, 0, 0, 0, [])), (93, (1, 94, 3, 0, 0, 0, 0, [])), (94, (10, 97, 1, 107, 0, 0, 0, []))],
  [(97, (1, 98, 0, 2, 0, 0, 0, [])), (98, (15, 101, 4, 7, 15, 311, 0, [])), (101, (15, 104, 0, 5, 0, 117, 0, [])), (104, (13, 107, 0, 114, 0, 0, 0, [])), (107, (1, 108, 0, 2, 0, 0, 0, [])), (108, (15, 111, 4, 7, 15, 311, 0, [])), (111, (15, 114, 1, 5, 0, 119, 0, [])), (114, (21, 115, 1, 0, 0, 0, 0, []))]]
set_option maxRecDepth 100000 in
noncomputable def tb106 : List (List (Nat × II)) := [[(0, (1, 1, 0, 2, 0, 0, 0, [])), (1, (1, 2, 1, 0, 0, 0, 0, [])), (2, (20, 5, 151, 1, 11, 404, 0, [(2, 2), (0, 47), (0, 0)])), (5, (2, 7, 5, 2, 0, 0, 0, [])), (7, (1, 9, 5, 2, 0, 0, 0, [])), (9, (12, 12, 0, 43, 0, 0, 0, [])), (12, (1, 13, 2, 0, 0, 0, 0, [])), (13, (0, 14, 0, 0, 0, 0, 1, [])), (14, (0, 16, 0, 0, 0, 0, 6, [])), (16, (20, 19, 146, 0, 0, 352, 0, [(3, 3), (0, 0), (0, 0), (0, 0)])), (19, (10, 22, 0, 43, 0, 0, 0, [])), (22, (1, 23, 3, 0, 0, 0, 0, [])), (23, (0, 24, 0, 0, 0, 0, 1, [])), (24, (0, 26, 0, 0, 0, 0, 20, [])), (26, (20, 29, 146, 0, 0, 352, 0, [(3, 3), (0, 0), (0, 0), (0, 0)])), (29, (10, 32, 0, 43, 0, 0, 0, []))],
  [(32, (1, 34, 4, 0, 0, 0, 0, [])), (34, (0, 35, 0, 0, 0, 0, 1, [])), (35, (0, 37, 0, 0, 0, 0, 100, [])), (37, (20, 40, 146, 0, 0, 352, 0, [(3, 3), (0, 0), (0, 0), (0, 0)])), (40, (10, 43, 1, 46, 0, 0, 0, [])), (43, (0, 45, 0, 0, 0, 355, (-1000000001), [])), (45, (21, 46, 1, 0, 0, 0, 0, [])), (46, (1, 48, 5, 2, 0, 0, 0, [])), (48, (15, 51, 5, 1, 0, 264, 0, [])), (51, (10, 54, 4, 62, 0, 0, 0, [])), (54, (1, 55, 0, 2, 0, 0, 0, [])), (55, (1, 56, 1, 0, 0, 0, 0, [])), (56, (20, 59, 153, 1, 0, 408, 0, [(3, 2), (0, 47), (0, 0)])), (59, (10, 62, 0, 65, 0, 0, 0, [])), (62, (0, 64, 0, 0, 0, 412, (-1000000002), []))],
  [(64, (21, 65, 1, 0, 0, 0, 0, [])), (65, (1, 67, 5, 2, 0, 0, 0, [])), (67, (1, 68, 2, 0, 0, 0, 0, [])), (68, (1, 69, 3, 0, 0, 0, 0, [])), (69, (20, 72, 7, 1, 9, 413, 0, [(3, 3), (0, 41), (0, 0), (0, 0)])), (72, (1, 74, 5, 2, 0, 0, 0, [])), (74, (0, 75, 0, 0, 0, 0, 0, [])), (75, (1, 77, 4, 0, 0, 0, 0, [])), (77, (20, 80, 9, 1, 9, 420, 0, [(3, 3), (0, 41), (0, 0), (0, 0)])), (80, (1, 81, 0, 2, 0, 0, 0, [])), (81, (15, 84, 7, 7, 12, 314, 0, [])), (84, (20, 87, 63, 1, 9, 444, 0, [(1, 1), (0, 42)])), (87, (0, 88, 0, 0, 0, 0, 0, [])), (88, (21, 89, 1, 0, 0, 0, 0, []))]]
set_option maxRecDepth 100000 in
noncomputable def tb107 : List (List (Nat × II)) := [[(0, (1, 1, 0, 2, 0, 0, 0, [])), (1, (1, 2, 1, 0, 0, 0, 0, [])), (2, (20, 5, 151, 1, 11, 404, 0, [(2, 2), (0, 47), (0, 0)])), (5, (2, 7, 4, 2, 0, 0, 0, [])), (7, (1, 9, 4, 2, 0, 0, 0, [])), (9, (12, 12, 0, 31, 0, 0, 0, [])), (12, (1, 13, 2, 0, 0, 0, 0, [])), (13, (0, 14, 0, 0, 0, 0, 0, [])), (14, (0, 15, 0, 0, 0, 0, 4, [])), (15, (20, 18, 146, 0, 0, 352, 0, [(3, 3), (0, 0), (0, 0), (0, 0)])), (18, (10, 21, 0, 31, 0, 0, 0, [])), (21, (1, 22, 3, 0, 0, 0, 0, [])), (22, (0, 23, 0, 0, 0, 0, 1, [])), (23, (0, 25, 0, 0, 0, 0, 100, [])), (25, (20, 28, 146, 0, 0, 352, 0, [(3, 3), (0, 0), (0, 0), (0, 0)])), (28, (10, 31, 1, 34, 0, 0, 0, [])), (31, (0, 33, 0, 0, 0, 355, (-1000000001), []))],
  [(33, (21, 34, 1, 0, 0, 0, 0, [])), (34, (1, 36, 4, 2, 0, 0, 0, [])), (36, (15, 39, 0, 1, 3, 247, 0, [])), (39, (10, 42, 0, 50, 0, 0, 0, [])), (42, (1, 44, 4, 2, 0, 0, 0, [])), (44, (15, 47, 5, 1, 0, 264, 0, [])), (47, (10, 50, 5, 53, 0, 0, 0, [])), (50, (0, 52, 0, 0, 0, 412, (-1000000002), [])), (52, (21, 53, 1, 0, 0, 0, 0, [])), (53, (1, 55, 4, 2, 0, 0, 0, [])), (55, (15, 58, 1, 1, 0, 252, 0, [])), (58, (0, 60, 0, 0, 0, 0, 10, [])), (60, (11, 63, 2, 66, 0, 0, 0, [])), (63, (0, 65, 0, 0, 0, 452, (-1000000003), []))],
  [(65, (21, 66, 1, 0, 0, 0, 0, [])), (66, (1, 68, 4, 2, 0, 0, 0, [])), (68, (1, 69, 2, 0, 0, 0, 0, [])), (69, (1, 70, 3, 0, 0, 0, 0, [])), (70, (20, 73, 9, 1, 9, 420, 0, [(3, 3), (0, 41), (0, 0), (0, 0)])), (73, (1, 74, 0, 2, 0, 0, 0, [])), (74, (15, 77, 7, 7, 12, 314, 0, [])), (77, (20, 80, 63, 1, 9, 444, 0, [(1, 1), (0, 42)])), (80, (1, 82, 4, 2, 0, 0, 0, [])), (82, (15, 85, 1, 1, 0, 252, 0, [])), (85, (0, 86, 0, 0, 0, 0, 1, [])), (86, (4, 87, 1, 0, 0, 0, 0, [])), (87, (21, 88, 1, 0, 0, 0, 0, []))]]
set_option maxRecDepth 100000 in
noncomputable def tb108 : List (List (Nat × II)) := [[(0, (1, 1, 0, 2, 0, 0, 0, [])), (1, (1, 2, 1, 0, 0, 0, 0, [])), (2, (20, 5, 151, 1, 11, 404, 0, [(2, 2), (0, 47), (0, 0)])), (5, (2, 6, 2, 2, 0, 0, 0, [])), (6, (1, 7, 2, 2, 0, 0, 0, [])), (7, (12, 10, 1, 13, 0, 0, 0, [])), (10, (0, 12, 0, 0, 0, 355, (-1000000001), [])), (12, (21, 13, 1, 0, 0, 0, 0, [])), (13, (1, 14, 2, 2, 0, 0, 0, [])), (14, (15, 17, 0, 1, 3, 247, 0, [])), (17, (10, 20, 0, 35, 0, 0, 0, [])), (20, (1, 21, 2, 2, 0, 0, 0, [])), (21, (15, 24, 1, 1, 0, 252, 0, [])), (24, (0, 25, 0, 0, 0, 0, 1, [])), (25, (11, 28, 5, 35, 0, 0, 0, [])), (28, (1, 29, 2, 2, 0, 0, 0, [])), (29, (15, 32, 5, 1, 0, 264, 0, []))],
  [(32, (10, 35, 5, 38, 0, 0, 0, [])), (35, (0, 37, 0, 0, 0, 412, (-1000000002), [])), (37, (21, 38, 1, 0, 0, 0, 0, [])), (38, (1, 39, 2, 2, 0, 0, 0, [])), (39, (1, 40, 2, 2, 0, 0, 0, [])), (40, (15, 43, 1, 1, 0, 252, 0, [])), (43, (0, 44, 0, 0, 0, 0, 1, [])), (44, (4, 45, 1, 0, 0, 0, 0, [])), (45, (20, 48, 15, 1, 0, 457, 0, [(2, 2), (0, 41), (0, 0)])), (48, (2, 49, 3, 0, 0, 0, 0, [])), (49, (1, 50, 2, 2, 0, 0, 0, [])), (50, (20, 53, 10, 1, 9, 461, 0, [(2, 1), (0, 41)])), (53, (1, 54, 0, 2, 0, 0, 0, [])), (54, (15, 57, 7, 7, 12, 314, 0, [])), (57, (20, 60, 63, 1, 9, 444, 0, [(1, 1), (0, 42)])), (60, (1, 61, 3, 0, 0, 0, 0, [])), (61, (21, 62, 1, 0, 0, 0, 0, []))]]
set_option maxRecDepth 100000 in
noncomputable def tb109 : List (List (Nat × II)) := [[(0, (1, 1, 0, 2, 0, 0, 0, [])), (1, (1, 2, 1, 0, 0, 0, 0, [])), (2, (20, 5, 151, 1, 11, 404, 0, [(2, 2), (0, 47), (0, 0)])), (5, (2, 6, 3, 2, 0, 0, 0, [])), (6, (1, 7, 3, 2, 0, 0, 0, [])), (7, (12, 10, 1, 13, 0, 0, 0, [])), (10, (0, 12, 0, 0, 0, 355, (-1000000001), [])), (12, (21, 13, 1, 0, 0, 0, 0, [])), (13, (1, 14, 3, 2, 0, 0, 0, [])), (14, (15, 17, 0, 1, 3, 247, 0, [])), (17, (10, 20, 1, 23, 0, 0, 0, [])), (20, (0, 22, 0, 0, 0, 412, (-1000000002), [])), (22, (21, 23, 1, 0, 0, 0, 0, [])), (23, (1, 24, 3, 2, 0, 0, 0, [])), (24, (1, 25, 2, 0, 0, 0, 0, [])), (25, (20, 28, 13, 1, 0, 477, 0, [(2, 2), (0, 41), (0, 0)])), (28, (10, 31, 1, 34, 0, 0, 0, [])), (31, (0, 33, 0, 0, 0, 478, (-1000000013), []))],
  [(33, (21, 34, 1, 0, 0, 0, 0, [])), (34, (1, 35, 3, 2, 0, 0, 0, [])), (35, (1, 36, 2, 0, 0, 0, 0, [])), (36, (20, 39, 23, 1, 0, 479, 0, [(2, 2), (0, 41), (0, 0)])), (39, (10, 42, 0, 46, 0, 0, 0, [])), (42, (0, 43, 0, 0, 0, 0, 1, [])), (43, (13, 46, 0, 47, 0, 0, 0, [])), (46, (0, 47, 0, 0, 0, 0, 0, [])), (47, (2, 49, 4, 0, 0, 0, 0, [])), (49, (1, 50, 0, 2, 0, 0, 0, [])), (50, (15, 53, 7, 7, 12, 314, 0, [])), (53, (0, 55, 0, 0, 0, 0, 10, [])), (55, (1, 56, 3, 2, 0, 0, 0, [])), (56, (1, 57, 2, 0, 0, 0, 0, [])), (57, (0, 58, 0, 0, 0, 0, 0, [])), (58, (1, 60, 4, 0, 0, 0, 0, [])), (60, (20, 63, 62, 1, 9, 483, 0, [(6, 6), (0, 42), (0, 0), (0, 11), (0, 0), (0, 0), (0, 0)])), (63, (1, 64, 3, 2, 0, 0, 0, []))],
  [(64, (1, 65, 2, 0, 0, 0, 0, [])), (65, (0, 66, 0, 0, 0, 0, 1, [])), (66, (20, 69, 24, 1, 9, 496, 0, [(3, 3), (0, 41), (0, 0), (0, 0)])), (69, (0, 70, 0, 0, 0, 0, 1, [])), (70, (1, 72, 4, 0, 0, 0, 0, [])), (72, (4, 73, 1, 0, 0, 0, 0, [])), (73, (21, 74, 1, 0, 0, 0, 0, []))]]
set_option maxRecDepth 100000 in
noncomputable def tb110 : List (List (Nat × II)) := [[(0, (1, 1, 0, 2, 0, 0, 0, [])), (1, (1, 2, 1, 0, 0, 0, 0, [])), (2, (20, 5, 151, 1, 11, 404, 0, [(2, 2), (0, 47), (0, 0)])), (5, (2, 6, 3, 2, 0, 0, 0, [])), (6, (1, 7, 3, 2, 0, 0, 0, [])), (7, (12, 10, 1, 13, 0, 0, 0, [])), (10, (0, 12, 0, 0, 0, 355, (-1000000001), [])), (12, (21, 13, 1, 0, 0, 0, 0, [])), (13, (1, 14, 3, 2, 0, 0, 0, [])), (14, (15, 17, 0, 1, 3, 247, 0, [])), (17, (10, 20, 1, 23, 0, 0, 0, [])), (20, (0, 22, 0, 0, 0, 412, (-1000000002), [])), (22, (21, 23, 1, 0, 0, 0, 0, [])), (23, (1, 24, 3, 2, 0, 0, 0, [])), (24, (1, 25, 2, 0, 0, 0, 0, [])), (25, (20, 28, 13, 1, 0, 477, 0, [(2, 2), (0, 41), (0, 0)])), (28, (10, 31, 1, 34, 0, 0, 0, [])), (31, (0, 33, 0, 0, 0, 478, (-1000000013), []))],
  [(33, (21, 34, 1, 0, 0, 0, 0, [])), (34, (1, 35, 3, 2, 0, 0, 0, [])), (35, (1, 36, 2, 0, 0, 0, 0, [])), (36, (20, 39, 23, 1, 0, 479, 0, [(2, 2), (0, 41), (0, 0)])), (39, (10, 42, 1, 45, 0, 0, 0, [])), (42, (0, 44, 0, 0, 0, 504, (-1000000011), [])), (44, (21, 45, 1, 0, 0, 0, 0, [])), (45, (1, 46, 3, 2, 0, 0, 0, [])), (46, (1, 47, 2, 0, 0, 0, 0, [])), (47, (20, 50, 33, 1, 0, 505, 0, [(3, 2), (0, 41), (0, 0)])), (50, (10, 53, 0, 56, 0, 0, 0, [])), (53, (0, 55, 0, 0, 0, 412, (-1000000002), [])), (55, (21, 56, 1, 0, 0, 0, 0, [])), (56, (1, 57, 3, 2, 0, 0, 0, [])), (57, (1, 58, 2, 0, 0, 0, 0, [])), (58, (20, 61, 32, 1, 0, 516, 0, [(4, 2), (0, 41), (0, 0)])), (61, (2, 63, 4, 0, 0, 0, 0, [])), (63, (1, 64, 0, 2, 0, 0, 0, []))],
  [(64, (15, 67, 7, 7, 12, 314, 0, [])), (67, (0, 69, 0, 0, 0, 0, 11, [])), (69, (1, 70, 3, 2, 0, 0, 0, [])), (70, (1, 71, 2, 0, 0, 0, 0, [])), (71, (0, 72, 0, 0, 0, 0, 0, [])), (72, (0, 73, 0, 0, 0, 0, 1, [])), (73, (20, 76, 62, 1, 9, 483, 0, [(6, 6), (0, 42), (0, 0), (0, 11), (0, 0), (0, 0), (0, 0)])), (76, (1, 77, 3, 2, 0, 0, 0, [])), (77, (1, 78, 2, 0, 0, 0, 0, [])), (78, (20, 81, 25, 1, 9, 521, 0, [(3, 2), (0, 41), (0, 0)])), (81, (1, 83, 4, 0, 0, 0, 0, [])), (83, (21, 84, 1, 0, 0, 0, 0, []))]]
set_option maxRecDepth 100000 in
noncomputable def tb111 : List (List (Nat × II)) := [[(0, (1, 1, 0, 2, 0, 0, 0, [])), (1, (1, 2, 1, 0, 0, 0, 0, [])), (2, (20, 5, 151, 1, 11, 404, 0, [(2, 2), (0, 47), (0, 0)])), (5, (2, 7, 5, 2, 0, 0, 0, [])), (7, (1, 9, 5, 2, 0, 0, 0, [])), (9, (12, 12, 0, 23, 0, 0, 0, [])), (12, (1, 14, 4, 0, 0, 0, 0, [])), (14, (0, 15, 0, 0, 0, 0, (-1), [])), (15, (0, 17, 0, 0, 0, 0, 6, [])), (17, (20, 20, 146, 0, 0, 352, 0, [(3, 3), (0, 0), (0, 0), (0, 0)])), (20, (10, 23, 1, 26, 0, 0, 0, [])), (23, (0, 25, 0, 0, 0, 355, (-1000000001), [])), (25, (21, 26, 1, 0, 0, 0, 0, [])), (26, (1, 28, 5, 2, 0, 0, 0, [])), (28, (15, 31, 0, 1, 3, 247, 0, [])), (31, (10, 34, 1, 37, 0, 0, 0, []))],
  [(34, (0, 36, 0, 0, 0, 412, (-1000000002), [])), (36, (21, 37, 1, 0, 0, 0, 0, [])), (37, (1, 39, 5, 2, 0, 0, 0, [])), (39, (1, 40, 3, 0, 0, 0, 0, [])), (40, (20, 43, 13, 1, 0, 477, 0, [(2, 2), (0, 41), (0, 0)])), (43, (10, 46, 1, 49, 0, 0, 0, [])), (46, (0, 48, 0, 0, 0, 478, (-1000000013), [])), (48, (21, 49, 1, 0, 0, 0, 0, [])), (49, (1, 51, 5, 2, 0, 0, 0, [])), (51, (1, 52, 3, 0, 0, 0, 0, [])), (52, (20, 55, 23, 1, 0, 479, 0, [(2, 2), (0, 41), (0, 0)])), (55, (10, 58, 1, 61, 0, 0, 0, [])), (58, (0, 60, 0, 0, 0, 504, (-1000000011), [])), (60, (21, 61, 1, 0, 0, 0, 0, [])), (61, (1, 63, 5, 2, 0, 0, 0, [])), (63, (1, 64, 2, 0, 0, 0, 0, []))],
  [(64, (20, 67, 11, 1, 0, 530, 0, [(2, 2), (0, 41), (0, 0)])), (67, (10, 70, 1, 73, 0, 0, 0, [])), (70, (0, 72, 0, 0, 0, 478, (-1000000013), [])), (72, (21, 73, 1, 0, 0, 0, 0, [])), (73, (1, 75, 5, 2, 0, 0, 0, [])), (75, (1, 76, 2, 0, 0, 0, 0, [])), (76, (1, 77, 3, 0, 0, 0, 0, [])), (77, (20, 80, 18, 1, 0, 531, 0, [(3, 3), (0, 41), (0, 0), (0, 0)])), (80, (10, 83, 1, 97, 0, 0, 0, [])), (83, (1, 85, 5, 2, 0, 0, 0, [])), (85, (0, 86, 0, 0, 0, 0, 3, [])), (86, (1, 87, 3, 0, 0, 0, 0, [])), (87, (1, 88, 2, 0, 0, 0, 0, [])), (88, (20, 91, 147, 0, 0, 535, 0, [(3, 3), (0, 0), (0, 0), (0, 0)])), (91, (20, 94, 43, 1, 0, 536, 0, [(2, 2), (0, 41), (0, 0)])), (94, (10, 97, 0, 100, 0, 0, 0, []))],
  [(97, (0, 99, 0, 0, 0, 412, (-1000000002), [])), (99, (21, 100, 1, 0, 0, 0, 0, [])), (100, (1, 102, 5, 2, 0, 0, 0, [])), (102, (1, 103, 2, 0, 0, 0, 0, [])), (103, (1, 104, 3, 0, 0, 0, 0, [])), (104, (20, 107, 26, 1, 0, 537, 0, [(3, 3), (0, 41), (0, 0), (0, 0)])), (107, (2, 109, 6, 0, 0, 0, 0, [])), (109, (1, 110, 0, 2, 0, 0, 0, [])), (110, (15, 113, 7, 7, 12, 314, 0, [])), (113, (0, 114, 0, 0, 0, 0, 3, [])), (114, (1, 116, 5, 2, 0, 0, 0, [])), (116, (1, 117, 3, 0, 0, 0, 0, [])), (117, (1, 118, 2, 0, 0, 0, 0, [])), (118, (1, 120, 6, 0, 0, 0, 0, [])), (120, (20, 123, 62, 1, 9, 483, 0, [(6, 6), (0, 42), (0, 0), (0, 11), (0, 0), (0, 0), (0, 0)])), (123, (1, 125, 5, 2, 0, 0, 0, [])), (125, (1, 126, 2, 0, 0, 0, 0, [])), (126, (1, 127, 3, 0, 0, 0, 0, [])), (127, (1, 129, 4, 0, 0, 0, 0, []))],
  [(129, (20, 132, 27, 1, 9, 538, 0, [(4, 4), (0, 41), (0, 0), (0, 0), (0, 0)])), (132, (1, 134, 6, 0, 0, 0, 0, [])), (134, (21, 135, 1, 0, 0, 0, 0, []))]]
set_option maxRecDepth 100000 in
noncomputable def tb112 : List (List (Nat × II)) := [[(0, (1, 1, 0, 2, 0, 0, 0, [])), (1, (1, 2, 1, 0, 0, 0, 0, [])), (2, (20, 5, 151, 1, 11, 404, 0, [(2, 2), (0, 47), (0, 0)])), (5, (2, 7, 5, 2, 0, 0, 0, [])), (7, (1, 9, 5, 2, 0, 0, 0, [])), (9, (12, 12, 0, 22, 0, 0, 0, [])), (12, (1, 14, 4, 0, 0, 0, 0, [])), (14, (0, 15, 0, 0, 0, 0, 0, [])), (15, (0, 16, 0, 0, 0, 0, 1, [])), (16, (20, 19, 146, 0, 0, 352, 0, [(3, 3), (0, 0), (0, 0), (0, 0)])), (19, (10, 22, 1, 25, 0, 0, 0, [])), (22, (0, 24, 0, 0, 0, 355, (-1000000001), [])), (24, (21, 25, 1, 0, 0, 0, 0, [])), (25, (1, 27, 5, 2, 0, 0, 0, [])), (27, (15, 30, 0, 1, 3, 247, 0, [])), (30, (10, 33, 1, 36, 0, 0, 0, []))],
  [(33, (0, 35, 0, 0, 0, 412, (-1000000002), [])), (35, (21, 36, 1, 0, 0, 0, 0, [])), (36, (1, 38, 5, 2, 0, 0, 0, [])), (38, (1, 39, 3, 0, 0, 0, 0, [])), (39, (20, 42, 13, 1, 0, 477, 0, [(2, 2), (0, 41), (0, 0)])), (42, (10, 45, 0, 54, 0, 0, 0, [])), (45, (1, 47, 5, 2, 0, 0, 0, [])), (47, (1, 48, 2, 0, 0, 0, 0, [])), (48, (20, 51, 11, 1, 0, 530, 0, [(2, 2), (0, 41), (0, 0)])), (51, (10, 54, 1, 57, 0, 0, 0, [])), (54, (0, 56, 0, 0, 0, 478, (-1000000013), [])), (56, (21, 57, 1, 0, 0, 0, 0, [])), (57, (1, 59, 5, 2, 0, 0, 0, [])), (59, (1, 60, 2, 0, 0, 0, 0, [])), (60, (1, 61, 3, 0, 0, 0, 0, [])), (61, (20, 64, 18, 1, 0, 531, 0, [(3, 3), (0, 41), (0, 0), (0, 0)]))],
  [(64, (10, 67, 1, 81, 0, 0, 0, [])), (67, (1, 69, 5, 2, 0, 0, 0, [])), (69, (0, 70, 0, 0, 0, 0, 2, [])), (70, (1, 71, 3, 0, 0, 0, 0, [])), (71, (1, 72, 2, 0, 0, 0, 0, [])), (72, (20, 75, 147, 0, 0, 535, 0, [(3, 3), (0, 0), (0, 0), (0, 0)])), (75, (20, 78, 43, 1, 0, 536, 0, [(2, 2), (0, 41), (0, 0)])), (78, (10, 81, 0, 84, 0, 0, 0, [])), (81, (0, 83, 0, 0, 0, 412, (-1000000002), [])), (83, (21, 84, 1, 0, 0, 0, 0, [])), (84, (1, 86, 5, 2, 0, 0, 0, [])), (86, (1, 87, 2, 0, 0, 0, 0, [])), (87, (1, 88, 3, 0, 0, 0, 0, [])), (88, (20, 91, 28, 1, 0, 543, 0, [(3, 3), (0, 41), (0, 0), (0, 0)])), (91, (10, 94, 0, 98, 0, 0, 0, [])), (94, (0, 95, 0, 0, 0, 0, 1, [])), (95, (13, 98, 0, 99, 0, 0, 0, []))],
  [(98, (0, 99, 0, 0, 0, 0, 0, [])), (99, (2, 101, 6, 0, 0, 0, 0, [])), (101, (1, 102, 0, 2, 0, 0, 0, [])), (102, (15, 105, 7, 7, 12, 314, 0, [])), (105, (0, 106, 0, 0, 0, 0, 2, [])), (106, (1, 108, 5, 2, 0, 0, 0, [])), (108, (1, 109, 3, 0, 0, 0, 0, [])), (109, (1, 110, 2, 0, 0, 0, 0, [])), (110, (1, 112, 6, 0, 0, 0, 0, [])), (112, (20, 115, 62, 1, 9, 483, 0, [(6, 6), (0, 42), (0, 0), (0, 11), (0, 0), (0, 0), (0, 0)])), (115, (1, 117, 5, 2, 0, 0, 0, [])), (117, (1, 118, 2, 0, 0, 0, 0, [])), (118, (1, 119, 3, 0, 0, 0, 0, [])), (119, (1, 121, 4, 0, 0, 0, 0, [])), (121, (0, 122, 0, 0, 0, 0, 1, [])), (122, (11, 125, 1, 129, 0, 0, 0, [])), (125, (0, 126, 0, 0, 0, 0, 1, [])), (126, (13, 129, 0, 130, 0, 0, 0, []))],
  [(129, (0, 130, 0, 0, 0, 0, 0, [])), (130, (20, 133, 29, 1, 9, 547, 0, [(4, 4), (0, 41), (0, 0), (0, 0), (0, 0)])), (133, (1, 135, 6, 0, 0, 0, 0, [])), (135, (21, 136, 1, 0, 0, 0, 0, []))]]
set_option maxRecDepth 100000 in
noncomputable def tb113 : List (List (Nat × II)) := [[(0, (1, 1, 0, 2, 0, 0, 0, [])), (1, (1, 2, 1, 0, 0, 0, 0, [])), (2, (20, 5, 151, 1, 11, 404, 0, [(2, 2), (0, 47), (0, 0)])), (5, (2, 7, 5, 2, 0, 0, 0, [])), (7, (1, 9, 5, 2, 0, 0, 0, [])), (9, (12, 12, 0, 22, 0, 0, 0, [])), (12, (1, 14, 4, 0, 0, 0, 0, [])), (14, (0, 15, 0, 0, 0, 0, 0, [])), (15, (0, 16, 0, 0, 0, 0, 1, [])), (16, (20, 19, 146, 0, 0, 352, 0, [(3, 3), (0, 0), (0, 0), (0, 0)])), (19, (10, 22, 1, 25, 0, 0, 0, [])), (22, (0, 24, 0, 0, 0, 355, (-1000000001), [])), (24, (21, 25, 1, 0, 0, 0, 0, [])), (25, (1, 27, 5, 2, 0, 0, 0, [])), (27, (15, 30, 0, 1, 3, 247, 0, [])), (30, (10, 33, 1, 36, 0, 0, 0, []))],
  [(33, (0, 35, 0, 0, 0, 412, (-1000000002), [])), (35, (21, 36, 1, 0, 0, 0, 0, [])), (36, (1, 38, 5, 2, 0, 0, 0, [])), (38, (1, 39, 3, 0, 0, 0, 0, [])), (39, (20, 42, 13, 1, 0, 477, 0, [(2, 2), (0, 41), (0, 0)])), (42, (10, 45, 0, 54, 0, 0, 0, [])), (45, (1, 47, 5, 2, 0, 0, 0, [])), (47, (1, 48, 2, 0, 0, 0, 0, [])), (48, (20, 51, 12, 1, 0, 552, 0, [(2, 2), (0, 41), (0, 0)])), (51, (10, 54, 1, 57, 0, 0, 0, [])), (54, (0, 56, 0, 0, 0, 478, (-1000000013), [])), (56, (21, 57, 1, 0, 0, 0, 0, [])), (57, (1, 58, 3, 0, 0, 0, 0, [])), (58, (1, 60, 5, 2, 0, 0, 0, [])), (60, (1, 61, 2, 0, 0, 0, 0, [])), (61, (20, 64, 20, 1, 0, 553, 0, [(2, 2), (0, 41), (0, 0)]))],
  [(64, (11, 67, 2, 81, 0, 0, 0, [])), (67, (1, 69, 5, 2, 0, 0, 0, [])), (69, (0, 70, 0, 0, 0, 0, 4, [])), (70, (1, 71, 3, 0, 0, 0, 0, [])), (71, (1, 72, 2, 0, 0, 0, 0, [])), (72, (20, 75, 147, 0, 0, 535, 0, [(3, 3), (0, 0), (0, 0), (0, 0)])), (75, (20, 78, 43, 1, 0, 536, 0, [(2, 2), (0, 41), (0, 0)])), (78, (10, 81, 0, 84, 0, 0, 0, [])), (81, (0, 83, 0, 0, 0, 412, (-1000000002), [])), (83, (21, 84, 1, 0, 0, 0, 0, [])), (84, (1, 86, 5, 2, 0, 0, 0, [])), (86, (1, 87, 2, 0, 0, 0, 0, [])), (87, (1, 88, 3, 0, 0, 0, 0, [])), (88, (20, 91, 30, 1, 0, 557, 0, [(3, 3), (0, 41), (0, 0), (0, 0)])), (91, (10, 94, 0, 98, 0, 0, 0, [])), (94, (0, 95, 0, 0, 0, 0, 1, [])), (95, (13, 98, 0, 99, 0, 0, 0, []))],
  [(98, (0, 99, 0, 0, 0, 0, 0, [])), (99, (2, 101, 6, 0, 0, 0, 0, [])), (101, (1, 102, 0, 2, 0, 0, 0, [])), (102, (15, 105, 7, 7, 12, 314, 0, [])), (105, (0, 106, 0, 0, 0, 0, 4, [])), (106, (1, 108, 5, 2, 0, 0, 0, [])), (108, (1, 109, 3, 0, 0, 0, 0, [])), (109, (1, 110, 2, 0, 0, 0, 0, [])), (110, (1, 112, 6, 0, 0, 0, 0, [])), (112, (20, 115, 62, 1, 9, 483, 0, [(6, 6), (0, 42), (0, 0), (0, 11), (0, 0), (0, 0), (0, 0)])), (115, (1, 117, 5, 2, 0, 0, 0, [])), (117, (1, 118, 2, 0, 0, 0, 0, [])), (118, (1, 119, 3, 0, 0, 0, 0, [])), (119, (1, 121, 4, 0, 0, 0, 0, [])), (121, (0, 122, 0, 0, 0, 0, 1, [])), (122, (11, 125, 1, 129, 0, 0, 0, [])), (125, (0, 126, 0, 0, 0, 0, 1, [])), (126, (13, 129, 0, 130, 0, 0, 0, []))],
  [(129, (0, 130, 0, 0, 0, 0, 0, [])), (130, (20, 133, 31, 1, 9, 561, 0, [(4, 4), (0, 41), (0, 0), (0, 0), (0, 0)])), (133, (1, 135, 6, 0, 0, 0, 0, [])), (135, (21, 136, 1, 0, 0, 0, 0, []))]]
set_option maxRecDepth 100000 in
noncomputable def tb114 : List (List (Nat × II)) := [[(0, (1, 1, 0, 2, 0, 0, 0, [])), (1, (1, 2, 1, 0, 0, 0, 0, [])), (2, (20, 5, 151, 1, 11, 404, 0, [(2, 2), (0, 47), (0, 0)])), (5, (2, 6, 3, 2, 0, 0, 0, [])), (6, (1, 7, 3, 2, 0, 0, 0, [])), (7, (12, 10, 0, 20, 0, 0, 0, [])), (10, (1, 11, 2, 0, 0, 0, 0, [])), (11, (0, 12, 0, 0, 0, 0, 0, [])), (12, (0, 14, 0, 0, 0, 0, 20, [])), (14, (20, 17, 146, 0, 0, 352, 0, [(3, 3), (0, 0), (0, 0), (0, 0)])), (17, (10, 20, 1, 23, 0, 0, 0, [])), (20, (0, 22, 0, 0, 0, 355, (-1000000001), [])), (22, (21, 23, 1, 0, 0, 0, 0, [])), (23, (1, 24, 3, 2, 0, 0, 0, [])), (24, (15, 27, 0, 1, 3, 247, 0, [])), (27, (10, 30, 1, 33, 0, 0, 0, [])), (30, (0, 32, 0, 0, 0, 412, (-1000000002), []))],
  [(32, (21, 33, 1, 0, 0, 0, 0, [])), (33, (1, 34, 3, 2, 0, 0, 0, [])), (34, (15, 37, 4, 1, 0, 263, 0, [])), (37, (2, 39, 4, 0, 0, 0, 0, [])), (39, (1, 40, 0, 2, 0, 0, 0, [])), (40, (15, 43, 7, 7, 12, 314, 0, [])), (43, (0, 45, 0, 0, 0, 0, 12, [])), (45, (1, 46, 3, 2, 0, 0, 0, [])), (46, (0, 47, 0, 0, 0, 0, 0, [])), (47, (0, 48, 0, 0, 0, 0, 0, [])), (48, (1, 50, 4, 0, 0, 0, 0, [])), (50, (20, 53, 62, 1, 9, 483, 0, [(6, 6), (0, 42), (0, 0), (0, 11), (0, 0), (0, 0), (0, 0)])), (53, (1, 54, 3, 2, 0, 0, 0, [])), (54, (1, 55, 2, 0, 0, 0, 0, [])), (55, (16, 58, 4, 1, 0, 263, 0, [])), (58, (1, 60, 4, 0, 0, 0, 0, [])), (60, (21, 61, 1, 0, 0, 0, 0, []))]]
set_option maxRecDepth 100000 in
noncomputable def tb115 : List (List (Nat × II)) := [[(0, (1, 1, 0, 2, 0, 0, 0, [])), (1, (15, 4, 7, 7, 12, 314, 0, [])), (4, (20, 7, 64, 1, 0, 570, 0, [(1, 1), (0, 42)])), (7, (10, 10, 0, 20, 0, 0, 0, [])), (10, (1, 11, 0, 2, 0, 0, 0, [])), (11, (15, 14, 7, 7, 12, 314, 0, [])), (14, (15, 17, 0, 2, 0, 209, 0, [])), (17, (13, 20, 0, 22, 0, 0, 0, [])), (20, (0, 22, 0, 0, 0, 412, (-1000000002), [])), (22, (21, 23, 1, 0, 0, 0, 0, []))]]
set_option maxRecDepth 100000 in
noncomputable def tb116 : List (List (Nat × II)) := [[(0, (1, 1, 0, 2, 0, 0, 0, [])), (1, (1, 2, 1, 0, 0, 0, 0, [])), (2, (20, 5, 151, 1, 11, 404, 0, [(2, 2), (0, 47), (0, 0)])), (5, (2, 6, 3, 2, 0, 0, 0, [])), (6, (1, 7, 3, 2, 0, 0, 0, [])), (7, (12, 10, 0, 20, 0, 0, 0, [])), (10, (1, 11, 2, 0, 0, 0, 0, [])), (11, (0, 12, 0, 0, 0, 0, 0, [])), (12, (0, 14, 0, 0, 0, 0, 7, [])), (14, (20, 17, 146, 0, 0, 352, 0, [(3, 3), (0, 0), (0, 0), (0, 0)])), (17, (10, 20, 1, 23, 0, 0, 0, [])), (20, (0, 22, 0, 0, 0, 355, (-1000000001), [])), (22, (21, 23, 1, 0, 0, 0, 0, [])), (23, (1, 24, 3, 2, 0, 0, 0, [])), (24, (15, 27, 0, 1, 3, 247, 0, [])), (27, (10, 30, 1, 33, 0, 0, 0, [])), (30, (0, 32, 0, 0, 0, 412, (-1000000002), []))],
  [(32, (21, 33, 1, 0, 0, 0, 0, [])), (33, (1, 34, 2, 0, 0, 0, 0, [])), (34, (14, 76, 0, 119, 0, 0, 0, [(0, 76), (1, 81), (2, 86), (3, 91), (4, 101), (5, 107), (6, 113)]))],
  [(76, (1, 77, 3, 2, 0, 0, 0, [])), (77, (15, 80, 1, 1, 0, 252, 0, [])), (80, (21, 81, 1, 0, 0, 0, 0, [])), (81, (1, 82, 3, 2, 0, 0, 0, [])), (82, (15, 85, 2, 1, 0, 256, 0, [])), (85, (21, 86, 1, 0, 0, 0, 0, [])), (86, (1, 87, 3, 2, 0, 0, 0, [])), (87, (15, 90, 3, 1, 0, 259, 0, [])), (90, (21, 91, 1, 0, 0, 0, 0, [])), (91, (1, 92, 3, 2, 0, 0, 0, [])), (92, (0, 93, 0, 0, 0, 0, 0, [])), (93, (1, 94, 3, 2, 0, 0, 0, [])), (94, (15, 97, 1, 1, 0, 252, 0, []))],
  [(97, (20, 100, 22, 1, 0, 596, 0, [(5, 3), (0, 41), (0, 0), (0, 0)])), (100, (21, 101, 1, 0, 0, 0, 0, [])), (101, (1, 102, 3, 2, 0, 0, 0, [])), (102, (0, 103, 0, 0, 0, 0, 3, [])), (103, (20, 106, 38, 1, 0, 604, 0, [(4, 2), (0, 41), (0, 0)])), (106, (21, 107, 1, 0, 0, 0, 0, [])), (107, (1, 108, 3, 2, 0, 0, 0, [])), (108, (0, 109, 0, 0, 0, 0, 2, [])), (109, (20, 112, 38, 1, 0, 604, 0, [(4, 2), (0, 41), (0, 0)])), (112, (21, 113, 1, 0, 0, 0, 0, [])), (113, (1, 114, 3, 2, 0, 0, 0, [])), (114, (0, 115, 0, 0, 0, 0, 4, [])), (115, (20, 118, 38, 1, 0, 604, 0, [(4, 2), (0, 41), (0, 0)])), (118, (21, 119, 1, 0, 0, 0, 0, [])), (119, (1, 120, 3, 2, 0, 0, 0, [])), (120, (15, 123, 4, 1, 0, 263, 0, [])), (123, (21, 124, 1, 0, 0, 0, 0, []))]]
set_option maxRecDepth 100000 in
noncomputable def tb117 : List (List (Nat × II)) := [[(0, (1, 1, 0, 2, 0, 0, 0, [])), (1, (1, 2, 1, 0, 0, 0, 0, [])), (2, (20, 5, 151, 1, 11, 404, 0, [(2, 2), (0, 47), (0, 0)])), (5, (2, 7, 4, 2, 0, 0, 0, [])), (7, (1, 9, 4, 2, 0, 0, 0, [])), (9, (12, 12, 0, 21, 0, 0, 0, [])), (12, (1, 13, 3, 0, 0, 0, 0, [])), (13, (0, 14, 0, 0, 0, 0, 0, [])), (14, (0, 15, 0, 0, 0, 0, 1, [])), (15, (20, 18, 146, 0, 0, 352, 0, [(3, 3), (0, 0), (0, 0), (0, 0)])), (18, (10, 21, 1, 24, 0, 0, 0, [])), (21, (0, 23, 0, 0, 0, 355, (-1000000001), [])), (23, (21, 24, 1, 0, 0, 0, 0, [])), (24, (1, 26, 4, 2, 0, 0, 0, [])), (26, (15, 29, 0, 1, 3, 247, 0, [])), (29, (10, 32, 1, 35, 0, 0, 0, []))],
  [(32, (0, 34, 0, 0, 0, 412, (-1000000002), [])), (34, (21, 35, 1, 0, 0, 0, 0, [])), (35, (1, 37, 4, 2, 0, 0, 0, [])), (37, (1, 38, 2, 0, 0, 0, 0, [])), (38, (20, 41, 11, 1, 0, 530, 0, [(2, 2), (0, 41), (0, 0)])), (41, (10, 44, 1, 47, 0, 0, 0, [])), (44, (0, 46, 0, 0, 0, 478, (-1000000013), [])), (46, (21, 47, 1, 0, 0, 0, 0, [])), (47, (1, 48, 3, 0, 0, 0, 0, [])), (48, (10, 51, 1, 60, 0, 0, 0, [])), (51, (1, 53, 4, 2, 0, 0, 0, [])), (53, (1, 54, 2, 0, 0, 0, 0, [])), (54, (20, 57, 14, 1, 0, 620, 0, [(2, 2), (0, 41), (0, 0)])), (57, (13, 60, 0, 66, 0, 0, 0, [])), (60, (1, 62, 4, 2, 0, 0, 0, [])), (62, (1, 63, 2, 0, 0, 0, 0, [])), (63, (20, 66, 15, 1, 0, 457, 0, [(2, 2), (0, 41), (0, 0)]))],
  [(66, (21, 67, 1, 0, 0, 0, 0, []))]]
set_option maxRecDepth 100000 in
noncomputable def tb118 : List (List (Nat × II)) := [[(0, (1, 1, 0, 2, 0, 0, 0, [])), (1, (1, 2, 1, 0, 0, 0, 0, [])), (2, (20, 5, 151, 1, 11, 404, 0, [(2, 2), (0, 47), (0, 0)])), (5, (2, 7, 4, 2, 0, 0, 0, [])), (7, (1, 9, 4, 2, 0, 0, 0, [])), (9, (12, 12, 0, 21, 0, 0, 0, [])), (12, (1, 13, 3, 0, 0, 0, 0, [])), (13, (0, 14, 0, 0, 0, 0, 0, [])), (14, (0, 15, 0, 0, 0, 0, 4, [])), (15, (20, 18, 146, 0, 0, 352, 0, [(3, 3), (0, 0), (0, 0), (0, 0)])), (18, (10, 21, 1, 24, 0, 0, 0, [])), (21, (0, 23, 0, 0, 0, 355, (-1000000001), [])), (23, (21, 24, 1, 0, 0, 0, 0, [])), (24, (1, 26, 4, 2, 0, 0, 0, [])), (26, (15, 29, 0, 1, 3, 247, 0, [])), (29, (10, 32, 1, 35, 0, 0, 0, []))],
  [(32, (0, 34, 0, 0, 0, 412, (-1000000002), [])), (34, (21, 35, 1, 0, 0, 0, 0, [])), (35, (1, 37, 4, 2, 0, 0, 0, [])), (37, (1, 38, 2, 0, 0, 0, 0, [])), (38, (20, 41, 11, 1, 0, 530, 0, [(2, 2), (0, 41), (0, 0)])), (41, (10, 44, 1, 47, 0, 0, 0, [])), (44, (0, 46, 0, 0, 0, 478, (-1000000013), [])), (46, (21, 47, 1, 0, 0, 0, 0, [])), (47, (1, 49, 4, 2, 0, 0, 0, [])), (49, (1, 50, 2, 0, 0, 0, 0, [])), (50, (1, 51, 3, 0, 0, 0, 0, [])), (51, (20, 54, 16, 1, 0, 628, 0, [(3, 3), (0, 41), (0, 0), (0, 0)])), (54, (10, 57, 0, 61, 0, 0, 0, [])), (57, (0, 58, 0, 0, 0, 0, 1, [])), (58, (13, 61, 0, 62, 0, 0, 0, [])), (61, (0, 62, 0, 0, 0, 0, 0, [])), (62, (21, 63, 1, 0, 0, 0, 0, []))]]
set_option maxRecDepth 100000 in
noncomputable def tb119 : List (List (Nat × II)) := [[(0, (1, 1, 0, 2, 0, 0, 0, [])), (1, (1, 2, 1, 0, 0, 0, 0, [])), (2, (20, 5, 151, 1, 11, 404, 0, [(2, 2), (0, 47), (0, 0)])), (5, (2, 7, 5, 2, 0, 0, 0, [])), (7, (1, 9, 5, 2, 0, 0, 0, [])), (9, (12, 12, 0, 22, 0, 0, 0, [])), (12, (1, 14, 4, 0, 0, 0, 0, [])), (14, (0, 15, 0, 0, 0, 0, 0, [])), (15, (0, 16, 0, 0, 0, 0, 2, [])), (16, (20, 19, 146, 0, 0, 352, 0, [(3, 3), (0, 0), (0, 0), (0, 0)])), (19, (10, 22, 1, 25, 0, 0, 0, [])), (22, (0, 24, 0, 0, 0, 355, (-1000000001), [])), (24, (21, 25, 1, 0, 0, 0, 0, [])), (25, (1, 27, 5, 2, 0, 0, 0, [])), (27, (15, 30, 0, 1, 3, 247, 0, [])), (30, (10, 33, 1, 36, 0, 0, 0, []))],
  [(33, (0, 35, 0, 0, 0, 412, (-1000000002), [])), (35, (21, 36, 1, 0, 0, 0, 0, [])), (36, (1, 38, 4, 0, 0, 0, 0, [])), (38, (0, 39, 0, 0, 0, 0, 2, [])), (39, (11, 42, 1, 51, 0, 0, 0, [])), (42, (1, 44, 5, 2, 0, 0, 0, [])), (44, (1, 45, 2, 0, 0, 0, 0, [])), (45, (20, 48, 12, 1, 0, 552, 0, [(2, 2), (0, 41), (0, 0)])), (48, (13, 51, 0, 57, 0, 0, 0, [])), (51, (1, 53, 5, 2, 0, 0, 0, [])), (53, (1, 54, 2, 0, 0, 0, 0, [])), (54, (20, 57, 11, 1, 0, 530, 0, [(2, 2), (0, 41), (0, 0)])), (57, (2, 59, 6, 0, 0, 0, 0, [])), (59, (1, 61, 6, 0, 0, 0, 0, [])), (61, (10, 64, 0, 73, 0, 0, 0, []))],
  [(64, (1, 66, 5, 2, 0, 0, 0, [])), (66, (1, 67, 3, 0, 0, 0, 0, [])), (67, (20, 70, 13, 1, 0, 477, 0, [(2, 2), (0, 41), (0, 0)])), (70, (10, 73, 1, 76, 0, 0, 0, [])), (73, (0, 75, 0, 0, 0, 478, (-1000000013), [])), (75, (21, 76, 1, 0, 0, 0, 0, [])), (76, (1, 78, 4, 0, 0, 0, 0, [])), (78, (10, 81, 1, 89, 0, 0, 0, [])), (81, (1, 83, 5, 2, 0, 0, 0, [])), (83, (1, 84, 2, 0, 0, 0, 0, [])), (84, (1, 85, 3, 0, 0, 0, 0, [])), (85, (20, 88, 26, 1, 0, 537, 0, [(3, 3), (0, 41), (0, 0), (0, 0)])), (88, (21, 89, 1, 0, 0, 0, 0, [])), (89, (1, 91, 4, 0, 0, 0, 0, [])), (91, (0, 92, 0, 0, 0, 0, 1, [])), (92, (11, 95, 1, 105, 0, 0, 0, [])), (95, (1, 97, 5, 2, 0, 0, 0, []))],
  [(97, (1, 98, 2, 0, 0, 0, 0, [])), (98, (1, 99, 3, 0, 0, 0, 0, [])), (99, (20, 102, 28, 1, 0, 543, 0, [(3, 3), (0, 41), (0, 0), (0, 0)])), (102, (13, 105, 0, 112, 0, 0, 0, [])), (105, (1, 107, 5, 2, 0, 0, 0, [])), (107, (1, 108, 2, 0, 0, 0, 0, [])), (108, (1, 109, 3, 0, 0, 0, 0, [])), (109, (20, 112, 30, 1, 0, 557, 0, [(3, 3), (0, 41), (0, 0), (0, 0)])), (112, (2, 114, 7, 0, 0, 0, 0, [])), (114, (1, 116, 7, 0, 0, 0, 0, [])), (116, (10, 119, 0, 123, 0, 0, 0, [])), (119, (0, 120, 0, 0, 0, 0, 1, [])), (120, (13, 123, 0, 124, 0, 0, 0, [])), (123, (0, 124, 0, 0, 0, 0, 0, [])), (124, (21, 125, 1, 0, 0, 0, 0, []))]]
set_option maxRecDepth 100000 in
noncomputable def tb120 : List (List (Nat × II)) := [[(0, (1, 1, 0, 2, 0, 0, 0, [])), (1, (1, 2, 1, 0, 0, 0, 0, [])), (2, (20, 5, 151, 1, 11, 404, 0, [(2, 2), (0, 47), (0, 0)])), (5, (2, 6, 3, 2, 0, 0, 0, [])), (6, (1, 7, 3, 2, 0, 0, 0, [])), (7, (12, 10, 1, 13, 0, 0, 0, [])), (10, (0, 12, 0, 0, 0, 355, (-1000000001), [])), (12, (21, 13, 1, 0, 0, 0, 0, [])), (13, (1, 14, 3, 2, 0, 0, 0, [])), (14, (15, 17, 0, 1, 3, 247, 0, [])), (17, (10, 20, 1, 23, 0, 0, 0, [])), (20, (0, 22, 0, 0, 0, 412, (-1000000002), [])), (22, (21, 23, 1, 0, 0, 0, 0, [])), (23, (1, 24, 3, 2, 0, 0, 0, [])), (24, (1, 25, 2, 0, 0, 0, 0, [])), (25, (20, 28, 12, 1, 0, 552, 0, [(2, 2), (0, 41), (0, 0)])), (28, (10, 31, 0, 39, 0, 0, 0, [])), (31, (1, 32, 3, 2, 0, 0, 0, []))],
  [(32, (1, 33, 2, 0, 0, 0, 0, [])), (33, (20, 36, 35, 1, 0, 640, 0, [(5, 2), (0, 41), (0, 0)])), (36, (13, 39, 0, 41, 0, 0, 0, [])), (39, (0, 41, 0, 0, 0, 478, (-1000000013), [])), (41, (21, 42, 1, 0, 0, 0, 0, []))]]
set_option maxRecDepth 100000 in
noncomputable def tb121 : List (List (Nat × II)) := [[(0, (1, 1, 0, 2, 0, 0, 0, [])), (1, (1, 2, 1, 0, 0, 0, 0, [])), (2, (20, 5, 151, 1, 11, 404, 0, [(2, 2), (0, 47), (0, 0)])), (5, (2, 7, 4, 2, 0, 0, 0, [])), (7, (1, 9, 4, 2, 0, 0, 0, [])), (9, (12, 12, 0, 21, 0, 0, 0, [])), (12, (1, 13, 3, 0, 0, 0, 0, [])), (13, (0, 14, 0, 0, 0, 0, 0, [])), (14, (0, 15, 0, 0, 0, 0, 1, [])), (15, (20, 18, 146, 0, 0, 352, 0, [(3, 3), (0, 0), (0, 0), (0, 0)])), (18, (10, 21, 1, 25, 0, 0, 0, [])), (21, (0, 24, 1, 0, 0, 654, (-1000000001), [])), (24, (21, 25, 3, 0, 1, 0, 0, [])), (25, (1, 27, 4, 2, 0, 0, 0, [])), (27, (15, 30, 0, 1, 3, 247, 0, [])), (30, (10, 33, 1, 37, 0, 0, 0, []))],
  [(33, (0, 36, 1, 0, 0, 655, (-1000000002), [])), (36, (21, 37, 3, 0, 1, 0, 0, [])), (37, (1, 39, 4, 2, 0, 0, 0, [])), (39, (1, 40, 2, 0, 0, 0, 0, [])), (40, (20, 43, 12, 1, 0, 552, 0, [(2, 2), (0, 41), (0, 0)])), (43, (10, 46, 1, 50, 0, 0, 0, [])), (46, (0, 49, 1, 0, 0, 656, (-1000000013), [])), (49, (21, 50, 3, 0, 1, 0, 0, [])), (50, (1, 52, 4, 2, 0, 0, 0, [])), (52, (1, 53, 2, 0, 0, 0, 0, [])), (53, (20, 56, 19, 1, 0, 657, 0, [(2, 2), (0, 41), (0, 0)])), (56, (10, 59, 1, 63, 0, 0, 0, [])), (59, (0, 62, 1, 0, 0, 661, (-1000000005), [])), (62, (21, 63, 3, 0, 1, 0, 0, [])), (63, (1, 64, 0, 2, 0, 0, 0, []))],
  [(64, (15, 67, 5, 7, 13, 312, 0, [])), (67, (1, 69, 4, 2, 0, 0, 0, [])), (69, (20, 72, 66, 1, 9, 662, 0, [(3, 2), (0, 43), (0, 11)])), (72, (1, 73, 0, 2, 0, 0, 0, [])), (73, (15, 76, 5, 7, 13, 312, 0, [])), (76, (1, 78, 4, 2, 0, 0, 0, [])), (78, (1, 79, 2, 0, 0, 0, 0, [])), (79, (20, 82, 67, 1, 9, 667, 0, [(5, 3), (0, 43), (0, 11), (0, 0)])), (82, (1, 83, 3, 0, 0, 0, 0, [])), (83, (10, 86, 1, 96, 0, 0, 0, [])), (86, (1, 87, 0, 2, 0, 0, 0, [])), (87, (15, 90, 5, 7, 13, 312, 0, [])), (90, (15, 93, 0, 3, 1, 136, 0, [])), (93, (13, 96, 0, 103, 0, 0, 0, []))],
  [(96, (1, 97, 0, 2, 0, 0, 0, [])), (97, (15, 100, 5, 7, 13, 312, 0, [])), (100, (15, 103, 1, 3, 1, 138, 0, [])), (103, (21, 104, 3, 0, 1, 0, 0, []))]]
set_option maxRecDepth 100000 in
noncomputable def tb122 : List (List (Nat × II)) := [[(0, (1, 1, 0, 2, 0, 0, 0, [])), (1, (1, 2, 1, 0, 0, 0, 0, [])), (2, (20, 5, 151, 1, 11, 404, 0, [(2, 2), (0, 47), (0, 0)])), (5, (2, 7, 4, 2, 0, 0, 0, [])), (7, (1, 9, 4, 2, 0, 0, 0, [])), (9, (12, 12, 1, 15, 0, 0, 0, [])), (12, (0, 14, 0, 0, 0, 355, (-1000000001), [])), (14, (21, 15, 1, 0, 0, 0, 0, [])), (15, (1, 17, 4, 2, 0, 0, 0, [])), (17, (15, 20, 0, 1, 3, 247, 0, [])), (20, (10, 23, 1, 26, 0, 0, 0, [])), (23, (0, 25, 0, 0, 0, 412, (-1000000002), [])), (25, (21, 26, 1, 0, 0, 0, 0, [])), (26, (1, 28, 4, 2, 0, 0, 0, [])), (28, (1, 29, 2, 0, 0, 0, 0, [])), (29, (20, 32, 12, 1, 0, 552, 0, [(2, 2), (0, 41), (0, 0)]))],
  [(32, (10, 35, 0, 44, 0, 0, 0, [])), (35, (1, 37, 4, 2, 0, 0, 0, [])), (37, (1, 38, 3, 0, 0, 0, 0, [])), (38, (20, 41, 13, 1, 0, 477, 0, [(2, 2), (0, 41), (0, 0)])), (41, (10, 44, 1, 47, 0, 0, 0, [])), (44, (0, 46, 0, 0, 0, 478, (-1000000013), [])), (46, (21, 47, 1, 0, 0, 0, 0, [])), (47, (1, 48, 0, 2, 0, 0, 0, [])), (48, (15, 51, 5, 7, 13, 312, 0, [])), (51, (1, 53, 4, 2, 0, 0, 0, [])), (53, (20, 56, 73, 1, 9, 691, 0, [(4, 2), (0, 43), (0, 11)])), (56, (1, 57, 0, 2, 0, 0, 0, [])), (57, (15, 60, 5, 7, 13, 312, 0, [])), (60, (1, 61, 2, 0, 0, 0, 0, [])), (61, (1, 62, 3, 0, 0, 0, 0, [])), (62, (20, 65, 76, 1, 0, 709, 0, [(4, 3), (0, 43), (0, 0), (0, 0)]))],
  [(65, (21, 66, 1, 0, 0, 0, 0, []))]]
set_option maxRecDepth 100000 in
noncomputable def tb123 : List (List (Nat × II)) := [[(0, (1, 1, 0, 2, 0, 0, 0, [])), (1, (1, 2, 1, 0, 0, 0, 0, [])), (2, (20, 5, 151, 1, 11, 404, 0, [(2, 2), (0, 47), (0, 0)])), (5, (2, 6, 2, 2, 0, 0, 0, [])), (6, (1, 7, 2, 2, 0, 0, 0, [])), (7, (12, 10, 1, 13, 0, 0, 0, [])), (10, (0, 12, 0, 0, 0, 355, (-1000000001), [])), (12, (21, 13, 1, 0, 0, 0, 0, [])), (13, (1, 14, 2, 2, 0, 0, 0, [])), (14, (15, 17, 0, 1, 3, 247, 0, [])), (17, (10, 20, 1, 23, 0, 0, 0, [])), (20, (0, 22, 0, 0, 0, 412, (-1000000002), [])), (22, (21, 23, 1, 0, 0, 0, 0, [])), (23, (1, 24, 0, 2, 0, 0, 0, [])), (24, (15, 27, 5, 7, 13, 312, 0, [])), (27, (1, 28, 2, 2, 0, 0, 0, [])), (28, (20, 31, 73, 1, 9, 691, 0, [(4, 2), (0, 43), (0, 11)])), (31, (1, 32, 0, 2, 0, 0, 0, []))],
  [(32, (15, 35, 5, 7, 13, 312, 0, [])), (35, (15, 38, 2, 3, 0, 140, 0, [])), (38, (21, 39, 1, 0, 0, 0, 0, []))]]
set_option maxRecDepth 100000 in
noncomputable def tb124 : List (List (Nat × II)) := [[(0, (1, 1, 0, 2, 0, 0, 0, [])), (1, (1, 2, 1, 0, 0, 0, 0, [])), (2, (20, 5, 151, 1, 11, 404, 0, [(2, 2), (0, 47), (0, 0)])), (5, (2, 6, 3, 2, 0, 0, 0, [])), (6, (1, 7, 3, 2, 0, 0, 0, [])), (7, (12, 10, 1, 13, 0, 0, 0, [])), (10, (0, 12, 0, 0, 0, 355, (-1000000001), [])), (12, (21, 13, 1, 0, 0, 0, 0, [])), (13, (1, 14, 3, 2, 0, 0, 0, [])), (14, (15, 17, 0, 1, 3, 247, 0, [])), (17, (10, 20, 1, 23, 0, 0, 0, [])), (20, (0, 22, 0, 0, 0, 412, (-1000000002), [])), (22, (21, 23, 1, 0, 0, 0, 0, [])), (23, (1, 24, 3, 2, 0, 0, 0, [])), (24, (1, 25, 2, 0, 0, 0, 0, [])), (25, (20, 28, 12, 1, 0, 552, 0, [(2, 2), (0, 41), (0, 0)])), (28, (10, 31, 0, 39, 0, 0, 0, [])), (31, (1, 32, 3, 2, 0, 0, 0, []))],
  [(32, (1, 33, 2, 0, 0, 0, 0, [])), (33, (20, 36, 36, 1, 0, 721, 0, [(5, 2), (0, 41), (0, 0)])), (36, (13, 39, 0, 41, 0, 0, 0, [])), (39, (0, 41, 0, 0, 0, 478, (-1000000013), [])), (41, (21, 42, 1, 0, 0, 0, 0, []))]]
set_option maxRecDepth 100000 in
noncomputable def tb125 : List (List (Nat × II)) := [[(0, (1, 1, 0, 2, 0, 0, 0, [])), (1, (1, 2, 1, 0, 0, 0, 0, [])), (2, (20, 5, 151, 1, 11, 404, 0, [(2, 2), (0, 47), (0, 0)])), (5, (2, 6, 3, 2, 0, 0, 0, [])), (6, (1, 7, 3, 2, 0, 0, 0, [])), (7, (12, 10, 0, 19, 0, 0, 0, [])), (10, (1, 11, 2, 0, 0, 0, 0, [])), (11, (0, 12, 0, 0, 0, 0, 0, [])), (12, (0, 13, 0, 0, 0, 0, 1, [])), (13, (20, 16, 146, 0, 0, 352, 0, [(3, 3), (0, 0), (0, 0), (0, 0)])), (16, (10, 19, 1, 22, 0, 0, 0, [])), (19, (0, 21, 0, 0, 0, 355, (-1000000001), [])), (21, (21, 22, 1, 0, 0, 0, 0, [])), (22, (1, 23, 3, 2, 0, 0, 0, [])), (23, (15, 26, 0, 1, 3, 247, 0, [])), (26, (10, 29, 1, 32, 0, 0, 0, [])), (29, (0, 31, 0, 0, 0, 412, (-1000000002), [])), (31, (21, 32, 1, 0, 0, 0, 0, []))],
  [(32, (1, 33, 2, 0, 0, 0, 0, [])), (33, (10, 36, 1, 51, 0, 0, 0, [])), (36, (1, 37, 0, 2, 0, 0, 0, [])), (37, (15, 40, 5, 7, 13, 312, 0, [])), (40, (1, 41, 3, 2, 0, 0, 0, [])), (41, (1, 42, 0, 2, 0, 0, 0, [])), (42, (15, 45, 2, 7, 30, 309, 0, [])), (45, (20, 48, 70, 1, 0, 729, 0, [(5, 3), (0, 43), (0, 11), (0, 30)])), (48, (13, 51, 0, 63, 0, 0, 0, [])), (51, (1, 52, 0, 2, 0, 0, 0, [])), (52, (15, 55, 5, 7, 13, 312, 0, [])), (55, (1, 56, 3, 2, 0, 0, 0, [])), (56, (1, 57, 0, 2, 0, 0, 0, [])), (57, (15, 60, 2, 7, 30, 309, 0, [])), (60, (20, 63, 72, 1, 0, 741, 0, [(5, 3), (0, 43), (0, 11), (0, 30)])), (63, (21, 64, 1, 0, 0, 0, 0, []))]]
set_option maxRecDepth 100000 in
noncomputable def tb126 : List (List (Nat × II)) := [[(0, (1, 1, 0, 2, 0, 0, 0, [])), (1, (15, 4, 6, 7, 16, 313, 0, [])), (4, (1, 5, 1, 0, 0, 0, 0, [])), (5, (1, 6, 2, 0, 0, 0, 0, [])), (6, (20, 9, 93, 1, 0, 750, 0, [(4, 3), (0, 46), (0, 0), (0, 0)])), (9, (21, 10, 1, 0, 0, 0, 0, []))]]
set_option maxRecDepth 100000 in
noncomputable def tb127 : List (List (Nat × II)) := [[(0, (1, 1, 0, 2, 0, 0, 0, [])), (1, (1, 2, 1, 0, 0, 0, 0, [])), (2, (20, 5, 151, 1, 11, 404, 0, [(2, 2), (0, 47), (0, 0)])), (5, (2, 6, 2, 2, 0, 0, 0, [])), (6, (1, 7, 2, 2, 0, 0, 0, [])), (7, (12, 10, 1, 13, 0, 0, 0, [])), (10, (0, 12, 0, 0, 0, 355, (-1000000001), [])), (12, (21, 13, 1, 0, 0, 0, 0, [])), (13, (1, 14, 2, 2, 0, 0, 0, [])), (14, (15, 17, 0, 1, 3, 247, 0, [])), (17, (10, 20, 0, 31, 0, 0, 0, [])), (20, (1, 21, 0, 2, 0, 0, 0, [])), (21, (15, 24, 6, 7, 16, 313, 0, [])), (24, (1, 25, 2, 2, 0, 0, 0, [])), (25, (20, 28, 94, 1, 0, 760, 0, [(2, 2), (0, 46), (0, 11)])), (28, (13, 31, 0, 33, 0, 0, 0, [])), (31, (0, 33, 0, 0, 0, 412, (-1000000002), []))],
  [(33, (21, 34, 1, 0, 0, 0, 0, []))]]
set_option maxRecDepth 100000 in
noncomputable def tb128 : List (List (Nat × II)) := [[(0, (1, 1, 0, 2, 0, 0, 0, [])), (1, (1, 2, 1, 0, 0, 0, 0, [])), (2, (20, 5, 151, 1, 11, 404, 0, [(2, 2), (0, 47), (0, 0)])), (5, (2, 7, 4, 2, 0, 0, 0, [])), (7, (1, 9, 4, 2, 0, 0, 0, [])), (9, (12, 12, 0, 25, 0, 0, 0, [])), (12, (1, 13, 2, 0, 0, 0, 0, [])), (13, (10, 16, 2, 25, 0, 0, 0, [])), (16, (1, 17, 3, 0, 0, 0, 0, [])), (17, (0, 18, 0, 0, 0, 0, 0, [])), (18, (0, 19, 0, 0, 0, 0, 2, [])), (19, (20, 22, 146, 0, 0, 352, 0, [(3, 3), (0, 0), (0, 0), (0, 0)])), (22, (10, 25, 1, 28, 0, 0, 0, [])), (25, (0, 27, 0, 0, 0, 355, (-1000000001), [])), (27, (21, 28, 1, 0, 0, 0, 0, [])), (28, (1, 30, 4, 2, 0, 0, 0, [])), (30, (15, 33, 0, 1, 3, 247, 0, []))],
  [(33, (10, 36, 1, 39, 0, 0, 0, [])), (36, (0, 38, 0, 0, 0, 412, (-1000000002), [])), (38, (21, 39, 1, 0, 0, 0, 0, [])), (39, (1, 40, 2, 0, 0, 0, 0, [])), (40, (1, 41, 0, 2, 0, 0, 0, [])), (41, (15, 44, 6, 7, 16, 313, 0, [])), (44, (1, 46, 4, 2, 0, 0, 0, [])), (46, (20, 49, 94, 1, 0, 760, 0, [(2, 2), (0, 46), (0, 11)])), (49, (11, 52, 2, 55, 0, 0, 0, [])), (52, (0, 54, 0, 0, 0, 373, (-1000000005), [])), (54, (21, 55, 1, 0, 0, 0, 0, [])), (55, (1, 56, 0, 2, 0, 0, 0, [])), (56, (15, 59, 6, 7, 16, 313, 0, [])), (59, (1, 60, 2, 0, 0, 0, 0, [])), (60, (1, 61, 3, 0, 0, 0, 0, [])), (61, (20, 64, 100, 1, 0, 791, 0, [(3, 3), (0, 46), (0, 0), (0, 0)]))],
  [(64, (21, 65, 1, 0, 0, 0, 0, []))]]
set_option maxRecDepth 100000 in
noncomputable def tb129 : List (List (Nat × II)) := [[(0, (1, 1, 0, 2, 0, 0, 0, [])), (1, (1, 2, 1, 0, 0, 0, 0, [])), (2, (20, 5, 151, 1, 11, 404, 0, [(2, 2), (0, 47), (0, 0)])), (5, (2, 6, 3, 2, 0, 0, 0, [])), (6, (1, 7, 3, 2, 0, 0, 0, [])), (7, (12, 10, 1, 13, 0, 0, 0, [])), (10, (0, 12, 0, 0, 0, 355, (-1000000001), [])), (12, (21, 13, 1, 0, 0, 0, 0, [])), (13, (1, 14, 3, 2, 0, 0, 0, [])), (14, (15, 17, 0, 1, 3, 247, 0, [])), (17, (10, 20, 1, 23, 0, 0, 0, [])), (20, (0, 22, 0, 0, 0, 412, (-1000000002), [])), (22, (21, 23, 1, 0, 0, 0, 0, [])), (23, (1, 24, 3, 2, 0, 0, 0, [])), (24, (1, 25, 2, 0, 0, 0, 0, [])), (25, (20, 28, 37, 1, 0, 800, 0, [(4, 2), (0, 41), (0, 0)])), (28, (10, 31, 1, 34, 0, 0, 0, [])), (31, (0, 33, 0, 0, 0, 355, (-1000000001), []))],
  [(33, (21, 34, 1, 0, 0, 0, 0, [])), (34, (1, 35, 3, 2, 0, 0, 0, [])), (35, (1, 36, 2, 0, 0, 0, 0, [])), (36, (20, 39, 44, 1, 0, 801, 0, [(4, 2), (0, 41), (0, 0)])), (39, (10, 42, 1, 45, 0, 0, 0, [])), (42, (0, 44, 0, 0, 0, 412, (-1000000002), [])), (44, (21, 45, 1, 0, 0, 0, 0, [])), (45, (1, 46, 3, 2, 0, 0, 0, [])), (46, (1, 47, 2, 0, 0, 0, 0, [])), (47, (20, 50, 46, 1, 9, 814, 0, [(2, 2), (0, 41), (0, 0)])), (50, (1, 51, 3, 2, 0, 0, 0, [])), (51, (15, 54, 5, 1, 0, 264, 0, [])), (54, (21, 55, 1, 0, 0, 0, 0, []))]]
set_option maxRecDepth 100000 in
noncomputable def tb130 : List (List (Nat × II)) := [[(0, (1, 1, 0, 2, 0, 0, 0, [])), (1, (1, 2, 1, 0, 0, 0, 0, [])), (2, (20, 5, 151, 1, 11, 404, 0, [(2, 2), (0, 47), (0, 0)])), (5, (2, 6, 3, 2, 0, 0, 0, [])), (6, (1, 7, 3, 2, 0, 0, 0, [])), (7, (12, 10, 1, 13, 0, 0, 0, [])), (10, (0, 12, 0, 0, 0, 355, (-1000000001), [])), (12, (21, 13, 1, 0, 0, 0, 0, [])), (13, (1, 14, 3, 2, 0, 0, 0, [])), (14, (15, 17, 0, 1, 3, 247, 0, [])), (17, (10, 20, 1, 23, 0, 0, 0, [])), (20, (0, 22, 0, 0, 0, 412, (-1000000002), [])), (22, (21, 23, 1, 0, 0, 0, 0, [])), (23, (1, 24, 3, 2, 0, 0, 0, [])), (24, (1, 25, 2, 0, 0, 0, 0, [])), (25, (20, 28, 37, 1, 0, 800, 0, [(4, 2), (0, 41), (0, 0)])), (28, (10, 31, 1, 34, 0, 0, 0, [])), (31, (0, 33, 0, 0, 0, 355, (-1000000001), []))],
  [(33, (21, 34, 1, 0, 0, 0, 0, [])), (34, (1, 35, 3, 2, 0, 0, 0, [])), (35, (1, 36, 2, 0, 0, 0, 0, [])), (36, (20, 39, 45, 1, 0, 835, 0, [(2, 2), (0, 41), (0, 0)])), (39, (10, 42, 1, 45, 0, 0, 0, [])), (42, (0, 44, 0, 0, 0, 412, (-1000000002), [])), (44, (21, 45, 1, 0, 0, 0, 0, [])), (45, (1, 46, 3, 2, 0, 0, 0, [])), (46, (1, 47, 2, 0, 0, 0, 0, [])), (47, (20, 50, 47, 1, 9, 839, 0, [(2, 2), (0, 41), (0, 0)])), (50, (1, 51, 3, 2, 0, 0, 0, [])), (51, (15, 54, 5, 1, 0, 264, 0, [])), (54, (21, 55, 1, 0, 0, 0, 0, []))]]
set_option maxRecDepth 100000 in
noncomputable def tb131 : List (List (Nat × II)) := [[(0, (1, 1, 0, 2, 0, 0, 0, [])), (1, (1, 2, 1, 0, 0, 0, 0, [])), (2, (20, 5, 151, 1, 11, 404, 0, [(2, 2), (0, 47), (0, 0)])), (5, (2, 6, 3, 2, 0, 0, 0, [])), (6, (1, 7, 3, 2, 0, 0, 0, [])), (7, (12, 10, 0, 19, 0, 0, 0, [])), (10, (1, 11, 2, 0, 0, 0, 0, [])), (11, (0, 12, 0, 0, 0, 0, 0, [])), (12, (0, 13, 0, 0, 0, 0, 2, [])), (13, (20, 16, 146, 0, 0, 352, 0, [(3, 3), (0, 0), (0, 0), (0, 0)])), (16, (10, 19, 1, 22, 0, 0, 0, [])), (19, (0, 21, 0, 0, 0, 355, (-1000000001), [])), (21, (21, 22, 1, 0, 0, 0, 0, [])), (22, (1, 23, 3, 2, 0, 0, 0, [])), (23, (15, 26, 0, 1, 3, 247, 0, [])), (26, (10, 29, 1, 32, 0, 0, 0, [])), (29, (0, 31, 0, 0, 0, 412, (-1000000002), [])), (31, (21, 32, 1, 0, 0, 0, 0, []))],
  [(32, (1, 33, 2, 0, 0, 0, 0, [])), (33, (10, 36, 1, 42, 0, 0, 0, [])), (36, (1, 37, 3, 2, 0, 0, 0, [])), (37, (0, 38, 0, 0, 0, 0, 0, [])), (38, (20, 41, 49, 1, 0, 848, 0, [(3, 2), (0, 41), (0, 0)])), (41, (21, 42, 1, 0, 0, 0, 0, [])), (42, (1, 43, 2, 0, 0, 0, 0, [])), (43, (0, 44, 0, 0, 0, 0, 1, [])), (44, (11, 47, 1, 57, 0, 0, 0, [])), (47, (1, 48, 3, 2, 0, 0, 0, [])), (48, (0, 51, 0, 0, 0, 0, 395, [])), (51, (20, 54, 50, 1, 0, 853, 0, [(3, 2), (0, 41), (0, 0)])), (54, (13, 57, 0, 61, 0, 0, 0, [])), (57, (1, 58, 3, 2, 0, 0, 0, [])), (58, (20, 61, 51, 1, 0, 857, 0, [(2, 1), (0, 41)])), (61, (21, 62, 1, 0, 0, 0, 0, []))]]
set_option maxRecDepth 100000 in
noncomputable def tb132 : List (List (Nat × II)) := [[(0, (1, 1, 0, 2, 0, 0, 0, [])), (1, (1, 2, 1, 0, 0, 0, 0, [])), (2, (20, 5, 151, 1, 11, 404, 0, [(2, 2), (0, 47), (0, 0)])), (5, (2, 7, 4, 2, 0, 0, 0, [])), (7, (1, 9, 4, 2, 0, 0, 0, [])), (9, (12, 12, 0, 32, 0, 0, 0, [])), (12, (1, 13, 2, 0, 0, 0, 0, [])), (13, (0, 14, 0, 0, 0, 0, 1, [])), (14, (0, 17, 0, 0, 0, 0, 400, [])), (17, (20, 20, 146, 0, 0, 352, 0, [(3, 3), (0, 0), (0, 0), (0, 0)])), (20, (10, 23, 0, 32, 0, 0, 0, [])), (23, (1, 24, 3, 0, 0, 0, 0, [])), (24, (0, 25, 0, 0, 0, 0, 0, [])), (25, (0, 26, 0, 0, 0, 0, 1, [])), (26, (20, 29, 146, 0, 0, 352, 0, [(3, 3), (0, 0), (0, 0), (0, 0)])), (29, (10, 32, 1, 35, 0, 0, 0, []))],
  [(32, (0, 34, 0, 0, 0, 355, (-1000000001), [])), (34, (21, 35, 1, 0, 0, 0, 0, [])), (35, (1, 37, 4, 2, 0, 0, 0, [])), (37, (15, 40, 0, 1, 3, 247, 0, [])), (40, (10, 43, 1, 46, 0, 0, 0, [])), (43, (0, 45, 0, 0, 0, 412, (-1000000002), [])), (45, (21, 46, 1, 0, 0, 0, 0, [])), (46, (1, 47, 3, 0, 0, 0, 0, [])), (47, (0, 48, 0, 0, 0, 0, 1, [])), (48, (11, 51, 1, 60, 0, 0, 0, [])), (51, (1, 53, 4, 2, 0, 0, 0, [])), (53, (1, 54, 2, 0, 0, 0, 0, [])), (54, (20, 57, 52, 1, 0, 865, 0, [(5, 2), (0, 41), (0, 0)])), (57, (13, 60, 0, 66, 0, 0, 0, [])), (60, (1, 62, 4, 2, 0, 0, 0, [])), (62, (1, 63, 2, 0, 0, 0, 0, [])), (63, (20, 66, 53, 1, 0, 871, 0, [(5, 2), (0, 41), (0, 0)]))],
  [(66, (21, 67, 1, 0, 0, 0, 0, []))]]
set_option maxRecDepth 100000 in
noncomputable def tb133 : List (List (Nat × II)) := [[(0, (1, 1, 0, 2, 0, 0, 0, [])), (1, (1, 2, 1, 0, 0, 0, 0, [])), (2, (20, 5, 151, 1, 11, 404, 0, [(2, 2), (0, 47), (0, 0)])), (5, (2, 6, 3, 2, 0, 0, 0, [])), (6, (1, 7, 3, 2, 0, 0, 0, [])), (7, (12, 10, 1, 13, 0, 0, 0, [])), (10, (0, 12, 0, 0, 0, 355, (-1000000001), [])), (12, (21, 13, 1, 0, 0, 0, 0, [])), (13, (1, 14, 3, 2, 0, 0, 0, [])), (14, (15, 17, 0, 1, 3, 247, 0, [])), (17, (10, 20, 1, 23, 0, 0, 0, [])), (20, (0, 22, 0, 0, 0, 412, (-1000000002), [])), (22, (21, 23, 1, 0, 0, 0, 0, [])), (23, (1, 24, 3, 2, 0, 0, 0, [])), (24, (1, 25, 2, 0, 0, 0, 0, [])), (25, (20, 28, 37, 1, 0, 800, 0, [(4, 2), (0, 41), (0, 0)])), (28, (10, 31, 1, 34, 0, 0, 0, [])), (31, (0, 33, 0, 0, 0, 373, (-1000000005), []))],
  [(33, (21, 34, 1, 0, 0, 0, 0, [])), (34, (1, 35, 3, 2, 0, 0, 0, [])), (35, (1, 36, 2, 0, 0, 0, 0, [])), (36, (20, 39, 43, 1, 0, 536, 0, [(2, 2), (0, 41), (0, 0)])), (39, (10, 42, 0, 46, 0, 0, 0, [])), (42, (0, 43, 0, 0, 0, 0, 1, [])), (43, (13, 46, 0, 47, 0, 0, 0, [])), (46, (0, 47, 0, 0, 0, 0, 0, [])), (47, (21, 48, 1, 0, 0, 0, 0, []))]]
set_option maxRecDepth 100000 in
noncomputable def tb134 : List (List (Nat × II)) := [[(0, (1, 1, 1, 0, 0, 0, 0, [])), (1, (0, 2, 0, 0, 0, 0, 0, [])), (2, (0, 5, 0, 0, 0, 0, 1000, [])), (5, (20, 8, 146, 0, 0, 352, 0, [(3, 3), (0, 0), (0, 0), (0, 0)])), (8, (10, 11, 0, 22, 0, 0, 0, [])), (11, (1, 12, 0, 2, 0, 0, 0, [])), (12, (15, 15, 11, 7, 0, 318, 0, [])), (15, (1, 16, 1, 0, 0, 0, 0, [])), (16, (4, 17, 0, 0, 0, 0, 0, [])), (17, (0, 19, 0, 0, 0, 356, 1000000, [])), (19, (11, 22, 5, 25, 0, 0, 0, [])), (22, (0, 24, 0, 0, 0, 355, (-1000000001), [])), (24, (21, 25, 1, 0, 0, 0, 0, [])), (25, (1, 26, 0, 2, 0, 0, 0, [])), (26, (22, 27, 0, 0, 0, 0, 0, [])), (27, (15, 30, 11, 7, 0, 318, 0, [])), (30, (1, 31, 1, 0, 0, 0, 0, [])), (31, (4, 32, 0, 0, 0, 0, 0, []))],
  [(32, (16, 35, 11, 7, 0, 318, 0, [])), (35, (0, 36, 0, 0, 0, 0, 0, [])), (36, (2, 37, 2, 0, 0, 0, 0, [])), (37, (1, 38, 2, 0, 0, 0, 0, [])), (38, (1, 39, 0, 2, 0, 0, 0, [])), (39, (15, 42, 3, 7, 32, 310, 0, [])), (42, (19, 43, 0, 0, 0, 0, 0, [])), (43, (11, 46, 3, 65, 0, 0, 0, [])), (46, (1, 47, 0, 2, 0, 0, 0, [])), (47, (15, 50, 3, 7, 32, 310, 0, [])), (50, (1, 51, 2, 0, 0, 0, 0, [])), (51, (17, 52, 2, 0, 0, 0, 0, [])), (52, (1, 53, 0, 2, 0, 0, 0, [])), (53, (15, 56, 11, 7, 0, 318, 0, [])), (56, (20, 59, 60, 1, 9, 885, 0, [(3, 2), (0, 41), (0, 0)])), (59, (3, 62, 2, 0, 0, 0, 1, [])), (62, (13, 65, 0, 37, 0, 0, 0, []))],
  [(65, (1, 66, 0, 2, 0, 0, 0, [])), (66, (15, 69, 11, 7, 0, 318, 0, [])), (69, (21, 70, 1, 0, 0, 0, 0, []))]]
set_option maxRecDepth 100000 in
noncomputable def tb135 : List (List (Nat × II)) := [[(0, (1, 1, 0, 2, 0, 0, 0, [])), (1, (20, 4, 157, 1, 0, 897, 0, [(3, 1), (0, 47)])), (4, (2, 5, 1, 0, 0, 0, 0, [])), (5, (0, 6, 0, 0, 0, 0, 0, [])), (6, (2, 7, 2, 0, 0, 0, 0, [])), (7, (1, 8, 2, 0, 0, 0, 0, [])), (8, (1, 9, 0, 2, 0, 0, 0, [])), (9, (15, 12, 3, 7, 32, 310, 0, [])), (12, (19, 13, 0, 0, 0, 0, 0, [])), (13, (11, 16, 3, 32, 0, 0, 0, [])), (16, (1, 17, 0, 2, 0, 0, 0, [])), (17, (15, 20, 3, 7, 32, 310, 0, [])), (20, (1, 21, 2, 0, 0, 0, 0, [])), (21, (17, 22, 2, 0, 0, 0, 0, [])), (22, (0, 23, 0, 0, 0, 0, 0, [])), (23, (20, 26, 59, 1, 9, 909, 0, [(3, 2), (0, 41), (0, 0)])), (26, (3, 29, 2, 0, 0, 0, 1, [])), (29, (13, 32, 0, 7, 0, 0, 0, []))],
  [(32, (1, 33, 1, 0, 0, 0, 0, [])), (33, (21, 34, 1, 0, 0, 0, 0, []))]]
set_option maxRecDepth 100000 in
noncomputable def tb136 : List (List (Nat × II)) := [[(0, (1, 1, 0, 2, 0, 0, 0, [])), (1, (1, 2, 1, 0, 0, 0, 0, [])), (2, (20, 5, 151, 1, 11, 404, 0, [(2, 2), (0, 47), (0, 0)])), (5, (2, 7, 4, 2, 0, 0, 0, [])), (7, (1, 9, 4, 2, 0, 0, 0, [])), (9, (12, 12, 0, 22, 0, 0, 0, [])), (12, (1, 13, 3, 0, 0, 0, 0, [])), (13, (0, 14, 0, 0, 0, 0, 1, [])), (14, (0, 16, 0, 0, 0, 0, 30, [])), (16, (20, 19, 146, 0, 0, 352, 0, [(3, 3), (0, 0), (0, 0), (0, 0)])), (19, (10, 22, 1, 25, 0, 0, 0, [])), (22, (0, 24, 0, 0, 0, 355, (-1000000001), [])), (24, (21, 25, 1, 0, 0, 0, 0, [])), (25, (1, 27, 4, 2, 0, 0, 0, [])), (27, (15, 30, 0, 1, 3, 247, 0, [])), (30, (10, 33, 1, 36, 0, 0, 0, []))],
  [(33, (0, 35, 0, 0, 0, 412, (-1000000002), [])), (35, (21, 36, 1, 0, 0, 0, 0, [])), (36, (1, 38, 4, 2, 0, 0, 0, [])), (38, (1, 39, 2, 0, 0, 0, 0, [])), (39, (20, 42, 13, 1, 0, 477, 0, [(2, 2), (0, 41), (0, 0)])), (42, (10, 45, 1, 48, 0, 0, 0, [])), (45, (0, 47, 0, 0, 0, 478, (-1000000013), [])), (47, (21, 48, 1, 0, 0, 0, 0, [])), (48, (1, 50, 4, 2, 0, 0, 0, [])), (50, (1, 51, 2, 0, 0, 0, 0, [])), (51, (20, 54, 54, 1, 0, 914, 0, [(3, 2), (0, 41), (0, 0)])), (54, (10, 57, 0, 86, 0, 0, 0, [])), (57, (1, 58, 0, 2, 0, 0, 0, [])), (58, (15, 61, 6, 7, 16, 313, 0, [])), (61, (1, 63, 4, 2, 0, 0, 0, [])), (63, (1, 64, 2, 0, 0, 0, 0, []))],
  [(64, (20, 67, 101, 1, 0, 918, 0, [(5, 3), (0, 46), (0, 11), (0, 0)])), (67, (10, 70, 1, 86, 0, 0, 0, [])), (70, (1, 71, 0, 2, 0, 0, 0, [])), (71, (15, 74, 5, 7, 13, 312, 0, [])), (74, (1, 76, 4, 2, 0, 0, 0, [])), (76, (1, 77, 0, 2, 0, 0, 0, [])), (77, (15, 80, 2, 7, 30, 309, 0, [])), (80, (20, 83, 70, 1, 0, 729, 0, [(5, 3), (0, 43), (0, 11), (0, 30)])), (83, (10, 86, 0, 89, 0, 0, 0, [])), (86, (0, 88, 0, 0, 0, 412, (-1000000002), [])), (88, (21, 89, 1, 0, 0, 0, 0, [])), (89, (1, 90, 0, 2, 0, 0, 0, [])), (90, (15, 93, 11, 7, 0, 318, 0, [])), (93, (1, 94, 3, 0, 0, 0, 0, [])), (94, (4, 95, 0, 0, 0, 0, 0, [])), (95, (0, 96, 0, 0, 0, 0, 1, []))],
  [(96, (4, 97, 1, 0, 0, 0, 0, [])), (97, (2, 99, 5, 0, 0, 0, 0, [])), (99, (1, 101, 4, 2, 0, 0, 0, [])), (101, (1, 102, 2, 0, 0, 0, 0, [])), (102, (1, 104, 5, 0, 0, 0, 0, [])), (104, (20, 107, 57, 1, 9, 924, 0, [(3, 3), (0, 41), (0, 0), (0, 0)])), (107, (1, 109, 5, 0, 0, 0, 0, [])), (109, (21, 110, 1, 0, 0, 0, 0, []))]]
set_option maxRecDepth 100000 in
noncomputable def tb137 : List (List (Nat × II)) := [[(0, (1, 1, 0, 2, 0, 0, 0, [])), (1, (1, 2, 1, 0, 0, 0, 0, [])), (2, (20, 5, 151, 1, 11, 404, 0, [(2, 2), (0, 47), (0, 0)])), (5, (2, 6, 3, 2, 0, 0, 0, [])), (6, (1, 7, 3, 2, 0, 0, 0, [])), (7, (12, 10, 1, 13, 0, 0, 0, [])), (10, (0, 12, 0, 0, 0, 355, (-1000000001), [])), (12, (21, 13, 1, 0, 0, 0, 0, [])), (13, (1, 14, 3, 2, 0, 0, 0, [])), (14, (15, 17, 0, 1, 3, 247, 0, [])), (17, (10, 20, 1, 23, 0, 0, 0, [])), (20, (0, 22, 0, 0, 0, 412, (-1000000002), [])), (22, (21, 23, 1, 0, 0, 0, 0, [])), (23, (1, 24, 3, 2, 0, 0, 0, [])), (24, (1, 25, 2, 0, 0, 0, 0, [])), (25, (20, 28, 13, 1, 0, 477, 0, [(2, 2), (0, 41), (0, 0)])), (28, (10, 31, 1, 34, 0, 0, 0, [])), (31, (0, 33, 0, 0, 0, 478, (-1000000013), []))],
  [(33, (21, 34, 1, 0, 0, 0, 0, [])), (34, (1, 35, 3, 2, 0, 0, 0, [])), (35, (1, 36, 2, 0, 0, 0, 0, [])), (36, (20, 39, 55, 1, 0, 929, 0, [(2, 2), (0, 41), (0, 0)])), (39, (10, 42, 0, 50, 0, 0, 0, [])), (42, (1, 43, 3, 2, 0, 0, 0, [])), (43, (1, 44, 2, 0, 0, 0, 0, [])), (44, (20, 47, 56, 1, 0, 930, 0, [(2, 2), (0, 41), (0, 0)])), (47, (13, 50, 0, 52, 0, 0, 0, [])), (50, (0, 52, 0, 0, 0, 373, (-1000000005), [])), (52, (21, 53, 1, 0, 0, 0, 0, []))]]
set_option maxRecDepth 100000 in
noncomputable def tb138 : List (List (Nat × II)) := [[(0, (1, 1, 0, 2, 0, 0, 0, [])), (1, (1, 2, 2, 0, 0, 0, 0, [])), (2, (20, 5, 151, 1, 11, 404, 0, [(2, 2), (0, 47), (0, 0)])), (5, (2, 7, 4, 2, 0, 0, 0, [])), (7, (1, 8, 0, 2, 0, 0, 0, [])), (8, (1, 9, 1, 0, 0, 0, 0, [])), (9, (20, 12, 152, 1, 0, 935, 0, [(2, 2), (0, 47), (0, 0)])), (12, (10, 15, 0, 20, 0, 0, 0, [])), (15, (1, 17, 4, 2, 0, 0, 0, [])), (17, (12, 20, 1, 23, 0, 0, 0, [])), (20, (0, 22, 0, 0, 0, 355, (-1000000001), [])), (22, (21, 23, 1, 0, 0, 0, 0, [])), (23, (1, 25, 4, 2, 0, 0, 0, [])), (25, (15, 28, 0, 1, 3, 247, 0, [])), (28, (10, 31, 1, 34, 0, 0, 0, [])), (31, (0, 33, 0, 0, 0, 412, (-1000000002), []))],
  [(33, (21, 34, 1, 0, 0, 0, 0, [])), (34, (1, 36, 4, 2, 0, 0, 0, [])), (36, (1, 37, 3, 0, 0, 0, 0, [])), (37, (20, 40, 13, 1, 0, 477, 0, [(2, 2), (0, 41), (0, 0)])), (40, (10, 43, 1, 46, 0, 0, 0, [])), (43, (0, 45, 0, 0, 0, 478, (-1000000013), [])), (45, (21, 46, 1, 0, 0, 0, 0, [])), (46, (1, 48, 4, 2, 0, 0, 0, [])), (48, (1, 49, 3, 0, 0, 0, 0, [])), (49, (20, 52, 55, 1, 0, 929, 0, [(2, 2), (0, 41), (0, 0)])), (52, (10, 55, 0, 64, 0, 0, 0, [])), (55, (1, 56, 0, 2, 0, 0, 0, [])), (56, (15, 59, 9, 7, 30, 316, 0, [])), (59, (1, 60, 1, 0, 0, 0, 0, [])), (60, (17, 61, 0, 0, 0, 0, 0, [])), (61, (10, 64, 2, 67, 0, 0, 0, []))],
  [(64, (0, 66, 0, 0, 0, 412, (-1000000002), [])), (66, (21, 67, 1, 0, 0, 0, 0, [])), (67, (1, 68, 0, 2, 0, 0, 0, [])), (68, (15, 71, 9, 7, 30, 316, 0, [])), (71, (1, 72, 1, 0, 0, 0, 0, [])), (72, (0, 74, 0, 0, 0, 0, 10, [])), (74, (1, 75, 2, 0, 0, 0, 0, [])), (75, (4, 76, 2, 0, 0, 0, 0, [])), (76, (1, 77, 3, 0, 0, 0, 0, [])), (77, (4, 78, 0, 0, 0, 0, 0, [])), (78, (18, 79, 0, 0, 0, 0, 0, [])), (79, (1, 80, 0, 2, 0, 0, 0, [])), (80, (0, 82, 0, 0, 0, 0, 10, [])), (82, (1, 83, 2, 0, 0, 0, 0, [])), (83, (4, 84, 2, 0, 0, 0, 0, [])), (84, (1, 85, 3, 0, 0, 0, 0, [])), (85, (4, 86, 0, 0, 0, 0, 0, [])), (86, (20, 89, 154, 1, 0, 939, 0, [(4, 2), (0, 47), (0, 0)])), (89, (21, 90, 1, 0, 0, 0, 0, []))]]
set_option maxRecDepth 100000 in
noncomputable def tb139 : List (List (Nat × II)) := [[(0, (1, 1, 0, 2, 0, 0, 0, [])), (1, (1, 2, 1, 0, 0, 0, 0, [])), (2, (20, 5, 152, 1, 0, 935, 0, [(2, 2), (0, 47), (0, 0)])), (5, (10, 8, 1, 11, 0, 0, 0, [])), (8, (0, 10, 0, 0, 0, 355, (-1000000001), [])), (10, (21, 11, 1, 0, 0, 0, 0, [])), (11, (1, 12, 0, 2, 0, 0, 0, [])), (12, (15, 15, 9, 7, 30, 316, 0, [])), (15, (1, 16, 1, 0, 0, 0, 0, [])), (16, (17, 17, 0, 0, 0, 0, 0, [])), (17, (2, 18, 2, 0, 0, 0, 0, [])), (18, (1, 19, 2, 0, 0, 0, 0, [])), (19, (10, 22, 3, 25, 0, 0, 0, [])), (22, (0, 24, 0, 0, 0, 412, (-1000000002), [])), (24, (21, 25, 1, 0, 0, 0, 0, [])), (25, (1, 26, 0, 2, 0, 0, 0, [])), (26, (15, 29, 9, 7, 30, 316, 0, [])), (29, (1, 30, 1, 0, 0, 0, 0, [])), (30, (0, 31, 0, 0, 0, 0, (-1), [])), (31, (18, 32, 0, 0, 0, 0, 0, []))],
  [(32, (1, 33, 2, 0, 0, 0, 0, [])), (33, (21, 34, 1, 0, 0, 0, 0, []))]]
set_option maxRecDepth 100000 in
noncomputable def tb140 : List (List (Nat × II)) := [[(0, (0, 1, 0, 0, 0, 0, 0, [])), (1, (2, 2, 1, 0, 0, 0, 0, [])), (2, (0, 3, 0, 0, 0, 0, 0, [])), (3, (2, 4, 2, 0, 0, 0, 0, [])), (4, (1, 5, 2, 0, 0, 0, 0, [])), (5, (1, 6, 0, 2, 0, 0, 0, [])), (6, (15, 9, 9, 7, 30, 316, 0, [])), (9, (19, 10, 0, 0, 0, 0, 0, [])), (10, (11, 13, 3, 67, 0, 0, 0, [])), (13, (1, 14, 0, 2, 0, 0, 0, [])), (14, (15, 17, 9, 7, 30, 316, 0, [])), (17, (1, 18, 2, 0, 0, 0, 0, [])), (18, (17, 19, 0, 0, 0, 0, 0, [])), (19, (2, 20, 3, 0, 0, 0, 0, [])), (20, (1, 21, 3, 0, 0, 0, 0, [])), (21, (10, 24, 3, 28, 0, 0, 0, [])), (24, (0, 25, 8, 0, 0, 0, 0, [])), (25, (13, 28, 0, 36, 0, 0, 0, [])), (28, (1, 29, 0, 2, 0, 0, 0, [])), (29, (1, 30, 3, 0, 0, 0, 0, [])), (30, (0, 32, 0, 0, 0, 0, 10, []))],
  [(32, (5, 33, 0, 0, 0, 0, 0, [])), (33, (20, 36, 151, 1, 11, 404, 0, [(2, 2), (0, 47), (0, 0)])), (36, (2, 38, 4, 2, 0, 0, 0, [])), (38, (1, 40, 4, 2, 0, 0, 0, [])), (40, (12, 43, 0, 61, 0, 0, 0, [])), (43, (1, 45, 4, 2, 0, 0, 0, [])), (45, (1, 46, 3, 0, 0, 0, 0, [])), (46, (0, 48, 0, 0, 0, 0, 10, [])), (48, (5, 49, 1, 0, 0, 0, 0, [])), (49, (20, 52, 55, 1, 0, 929, 0, [(2, 2), (0, 41), (0, 0)])), (52, (10, 55, 1, 61, 0, 0, 0, [])), (55, (1, 56, 1, 0, 0, 0, 0, [])), (56, (0, 57, 0, 0, 0, 0, 1, [])), (57, (1, 58, 2, 0, 0, 0, 0, [])), (58, (4, 59, 5, 0, 0, 0, 0, [])), (59, (4, 60, 4, 0, 0, 0, 0, [])), (60, (2, 61, 1, 0, 0, 0, 0, [])), (61, (3, 64, 2, 0, 0, 0, 1, []))],
  [(64, (13, 67, 0, 4, 0, 0, 0, [])), (67, (1, 68, 1, 0, 0, 0, 0, [])), (68, (21, 69, 1, 0, 0, 0, 0, []))]]
set_option maxRecDepth 100000 in
noncomputable def tb141 : List (List (Nat × II)) := [[(0, (1, 1, 1, 0, 0, 0, 0, [])), (1, (1, 2, 2, 0, 0, 0, 0, [])), (2, (20, 5, 148, 0, 0, 955, 0, [(2, 2), (0, 0), (0, 0)])), (5, (10, 8, 0, 19, 0, 0, 0, [])), (8, (1, 9, 3, 0, 0, 0, 0, [])), (9, (0, 10, 0, 0, 0, 0, 0, [])), (10, (0, 13, 0, 0, 0, 958, 100000, [])), (13, (20, 16, 146, 0, 0, 352, 0, [(3, 3), (0, 0), (0, 0), (0, 0)])), (16, (10, 19, 1, 22, 0, 0, 0, [])), (19, (0, 21, 0, 0, 0, 355, (-1000000001), [])), (21, (21, 22, 1, 0, 0, 0, 0, [])), (22, (1, 23, 1, 0, 0, 0, 0, [])), (23, (1, 24, 2, 0, 0, 0, 0, [])), (24, (20, 27, 149, 0, 0, 959, 0, [(2, 2), (0, 0), (0, 0)])), (27, (2, 29, 4, 0, 0, 0, 0, [])), (29, (1, 30, 0, 2, 0, 0, 0, [])), (30, (15, 33, 10, 7, 30, 317, 0, []))],
  [(33, (1, 35, 4, 0, 0, 0, 0, [])), (35, (17, 36, 0, 0, 0, 0, 0, [])), (36, (2, 38, 5, 0, 0, 0, 0, [])), (38, (1, 39, 0, 2, 0, 0, 0, [])), (39, (15, 42, 10, 7, 30, 317, 0, [])), (42, (1, 44, 4, 0, 0, 0, 0, [])), (44, (1, 45, 3, 0, 0, 0, 0, [])), (45, (18, 46, 0, 0, 0, 0, 0, [])), (46, (1, 48, 5, 0, 0, 0, 0, [])), (48, (21, 49, 1, 0, 0, 0, 0, []))]]
set_option maxRecDepth 100000 in
noncomputable def tb142 : List (List (Nat × II)) := [[(0, (1, 1, 0, 2, 0, 0, 0, [])), (1, (1, 2, 1, 0, 0, 0, 0, [])), (2, (20, 5, 151, 1, 11, 404, 0, [(2, 2), (0, 47), (0, 0)])), (5, (2, 7, 4, 2, 0, 0, 0, [])), (7, (1, 9, 4, 2, 0, 0, 0, [])), (9, (12, 12, 0, 20, 0, 0, 0, [])), (12, (1, 13, 2, 0, 0, 0, 0, [])), (13, (1, 14, 3, 0, 0, 0, 0, [])), (14, (20, 17, 148, 0, 0, 955, 0, [(2, 2), (0, 0), (0, 0)])), (17, (10, 20, 1, 23, 0, 0, 0, [])), (20, (0, 22, 0, 0, 0, 355, (-1000000001), [])), (22, (21, 23, 1, 0, 0, 0, 0, [])), (23, (1, 25, 4, 2, 0, 0, 0, [])), (25, (15, 28, 0, 1, 3, 247, 0, [])), (28, (10, 31, 0, 41, 0, 0, 0, [])), (31, (1, 33, 4, 2, 0, 0, 0, []))],
  [(33, (1, 34, 2, 0, 0, 0, 0, [])), (34, (1, 35, 3, 0, 0, 0, 0, [])), (35, (20, 38, 39, 1, 0, 966, 0, [(5, 3), (0, 41), (0, 0), (0, 0)])), (38, (13, 41, 0, 43, 0, 0, 0, [])), (41, (0, 43, 0, 0, 0, 412, (-1000000002), [])), (43, (21, 44, 1, 0, 0, 0, 0, []))]]
set_option maxRecDepth 100000 in
noncomputable def tb143 : List (List (Nat × II)) := [[(0, (1, 1, 1, 0, 0, 0, 0, [])), (1, (1, 2, 2, 0, 0, 0, 0, [])), (2, (20, 5, 148, 0, 0, 955, 0, [(2, 2), (0, 0), (0, 0)])), (5, (10, 8, 1, 11, 0, 0, 0, [])), (8, (0, 10, 0, 0, 0, 355, (-1000000001), [])), (10, (21, 11, 1, 0, 0, 0, 0, [])), (11, (0, 12, 0, 0, 0, 0, 0, [])), (12, (2, 13, 3, 0, 0, 0, 0, [])), (13, (0, 14, 0, 0, 0, 0, 0, [])), (14, (2, 16, 4, 0, 0, 0, 0, [])), (16, (1, 18, 4, 0, 0, 0, 0, [])), (18, (1, 19, 0, 2, 0, 0, 0, [])), (19, (15, 22, 3, 7, 32, 310, 0, [])), (22, (19, 23, 0, 0, 0, 0, 0, [])), (23, (11, 26, 3, 47, 0, 0, 0, [])), (26, (1, 27, 3, 0, 0, 0, 0, [])), (27, (1, 28, 0, 2, 0, 0, 0, [])), (28, (15, 31, 3, 7, 32, 310, 0, [])), (31, (1, 33, 4, 0, 0, 0, 0, []))],
  [(33, (17, 34, 2, 0, 0, 0, 0, [])), (34, (1, 35, 1, 0, 0, 0, 0, [])), (35, (1, 36, 2, 0, 0, 0, 0, [])), (36, (20, 39, 39, 1, 0, 966, 0, [(5, 3), (0, 41), (0, 0), (0, 0)])), (39, (4, 40, 0, 0, 0, 0, 0, [])), (40, (2, 41, 3, 0, 0, 0, 0, [])), (41, (3, 44, 4, 0, 0, 0, 1, [])), (44, (13, 47, 0, 16, 0, 0, 0, [])), (47, (0, 48, 0, 0, 0, 0, 0, [])), (48, (1, 49, 3, 0, 0, 0, 0, [])), (49, (1, 50, 0, 2, 0, 0, 0, [])), (50, (15, 53, 10, 7, 30, 317, 0, [])), (53, (1, 54, 1, 0, 0, 0, 0, [])), (54, (1, 55, 2, 0, 0, 0, 0, [])), (55, (20, 58, 149, 0, 0, 959, 0, [(2, 2), (0, 0), (0, 0)])), (58, (17, 59, 0, 0, 0, 0, 0, [])), (59, (4, 60, 1, 0, 0, 0, 0, [])), (60, (32, 63, 0, 0, 0, 978, 0, [])), (63, (21, 64, 1, 0, 0, 0, 0, []))]]
set_option maxRecDepth 100000 in
noncomputable def tb144 : List (List (Nat × II)) := [[(0, (1, 1, 0, 2, 0, 0, 0, [])), (1, (1, 2, 1, 0, 0, 0, 0, [])), (2, (20, 5, 151, 1, 11, 404, 0, [(2, 2), (0, 47), (0, 0)])), (5, (2, 7, 4, 2, 0, 0, 0, [])), (7, (1, 8, 0, 2, 0, 0, 0, [])), (8, (1, 9, 2, 0, 0, 0, 0, [])), (9, (20, 12, 151, 1, 11, 404, 0, [(2, 2), (0, 47), (0, 0)])), (12, (2, 14, 5, 2, 0, 0, 0, [])), (14, (1, 16, 4, 2, 0, 0, 0, [])), (16, (12, 19, 0, 29, 0, 0, 0, [])), (19, (1, 21, 5, 2, 0, 0, 0, [])), (21, (12, 24, 0, 29, 0, 0, 0, [])), (24, (1, 25, 3, 0, 0, 0, 0, [])), (25, (0, 26, 0, 0, 0, 0, (-1), [])), (26, (11, 29, 3, 32, 0, 0, 0, [])), (29, (0, 31, 0, 0, 0, 355, (-1000000001), [])), (31, (21, 32, 1, 0, 0, 0, 0, []))],
  [(32, (1, 34, 4, 2, 0, 0, 0, [])), (34, (15, 37, 0, 1, 3, 247, 0, [])), (37, (10, 40, 0, 48, 0, 0, 0, [])), (40, (1, 42, 5, 2, 0, 0, 0, [])), (42, (15, 45, 0, 1, 3, 247, 0, [])), (45, (10, 48, 1, 51, 0, 0, 0, [])), (48, (0, 50, 0, 0, 0, 412, (-1000000002), [])), (50, (21, 51, 1, 0, 0, 0, 0, [])), (51, (1, 52, 0, 2, 0, 0, 0, [])), (52, (15, 55, 8, 7, 14, 315, 0, [])), (55, (1, 57, 4, 2, 0, 0, 0, [])), (57, (1, 59, 5, 2, 0, 0, 0, [])), (59, (20, 62, 78, 1, 0, 983, 0, [(5, 3), (0, 44), (0, 11), (0, 11)])), (62, (2, 64, 6, 0, 0, 0, 0, []))],
  [(64, (1, 65, 3, 0, 0, 0, 0, [])), (65, (0, 66, 0, 0, 0, 0, (-1), [])), (66, (11, 69, 1, 72, 0, 0, 0, [])), (69, (1, 71, 6, 0, 0, 0, 0, [])), (71, (21, 72, 1, 0, 0, 0, 0, [])), (72, (1, 73, 3, 0, 0, 0, 0, [])), (73, (1, 75, 6, 0, 0, 0, 0, [])), (75, (11, 78, 3, 89, 0, 0, 0, [])), (78, (1, 79, 0, 2, 0, 0, 0, [])), (79, (15, 82, 8, 7, 14, 315, 0, [])), (82, (1, 83, 3, 0, 0, 0, 0, [])), (83, (20, 86, 83, 1, 0, 1004, 0, [(2, 2), (0, 44), (0, 0)])), (86, (13, 89, 0, 91, 0, 0, 0, [])), (89, (0, 91, 0, 0, 0, 373, (-1000000005), [])), (91, (21, 92, 1, 0, 0, 0, 0, []))]]
set_option maxRecDepth 100000 in
noncomputable def tb145 : List (List (Nat × II)) := [[(0, (1, 1, 1, 0, 0, 0, 0, [])), (1, (14, 40, 0, 77, 0, 0, 0, [(0, 40), (1, 45), (2, 50), (3, 55), (4, 64), (5, 69)]))],
  [(40, (1, 41, 0, 2, 0, 0, 0, [])), (41, (20, 44, 155, 1, 0, 1014, 0, [(3, 1), (0, 47)])), (44, (21, 45, 1, 0, 0, 0, 0, [])), (45, (1, 46, 0, 2, 0, 0, 0, [])), (46, (20, 49, 156, 1, 0, 1018, 0, [(3, 1), (0, 47)])), (49, (21, 50, 1, 0, 0, 0, 0, [])), (50, (1, 51, 0, 2, 0, 0, 0, [])), (51, (20, 54, 157, 1, 0, 897, 0, [(3, 1), (0, 47)])), (54, (21, 55, 1, 0, 0, 0, 0, [])), (55, (0, 57, 0, 0, 0, 0, 10, [])), (57, (1, 58, 0, 2, 0, 0, 0, [])), (58, (0, 59, 0, 0, 0, 0, (-1), [])), (59, (20, 62, 154, 1, 0, 939, 0, [(4, 2), (0, 47), (0, 0)])), (62, (4, 63, 1, 0, 0, 0, 0, [])), (63, (21, 64, 1, 0, 0, 0, 0, []))],
  [(64, (1, 65, 0, 2, 0, 0, 0, [])), (65, (15, 68, 11, 7, 0, 318, 0, [])), (68, (21, 69, 1, 0, 0, 0, 0, [])), (69, (1, 70, 0, 2, 0, 0, 0, [])), (70, (15, 73, 7, 7, 12, 314, 0, [])), (73, (15, 76, 0, 2, 0, 209, 0, [])), (76, (21, 77, 1, 0, 0, 0, 0, [])), (77, (0, 79, 0, 0, 0, 355, (-1000000001), [])), (79, (21, 80, 1, 0, 0, 0, 0, []))]]
set_option maxRecDepth 100000 in
noncomputable def tb146 : List (List (Nat × II)) := [[(0, (1, 1, 0, 0, 0, 0, 0, [])), (1, (1, 2, 1, 0, 0, 0, 0, [])), (2, (11, 5, 2, 14, 0, 0, 0, [])), (5, (1, 6, 0, 0, 0, 0, 0, [])), (6, (1, 7, 2, 0, 0, 0, 0, [])), (7, (11, 10, 4, 14, 0, 0, 0, [])), (10, (0, 11, 0, 0, 0, 0, 1, [])), (11, (13, 14, 0, 15, 0, 0, 0, [])), (14, (0, 15, 0, 0, 0, 0, 0, [])), (15, (21, 16, 2, 0, 3, 0, 0, []))]]
set_option maxRecDepth 100000 in
noncomputable def tb147 : List (List (Nat × II)) := [[(0, (0, 2, 0, 0, 0, 0, 66, [])), (2, (1, 3, 0, 0, 0, 0, 0, [])), (3, (4, 4, 2, 0, 0, 0, 0, [])), (4, (0, 6, 0, 0, 0, 0, 11, [])), (6, (1, 7, 1, 0, 0, 0, 0, [])), (7, (4, 8, 2, 0, 0, 0, 0, [])), (8, (4, 9, 0, 0, 0, 0, 0, [])), (9, (1, 10, 2, 0, 0, 0, 0, [])), (10, (4, 11, 0, 0, 0, 0, 0, [])), (11, (21, 12, 1, 0, 0, 0, 0, []))]]
set_option maxRecDepth 100000 in
noncomputable def tb148 : List (List (Nat × II)) := [[(0, (1, 1, 0, 0, 0, 0, 0, [])), (1, (0, 2, 0, 0, 0, 0, 0, [])), (2, (0, 3, 0, 0, 0, 0, 5, [])), (3, (20, 6, 146, 0, 0, 352, 0, [(3, 3), (0, 0), (0, 0), (0, 0)])), (6, (10, 9, 0, 23, 0, 0, 0, [])), (9, (1, 10, 1, 0, 0, 0, 0, [])), (10, (0, 11, 0, 0, 0, 0, 1, [])), (11, (0, 13, 0, 0, 0, 0, 100, [])), (13, (20, 16, 146, 0, 0, 352, 0, [(3, 3), (0, 0), (0, 0), (0, 0)])), (16, (10, 19, 0, 23, 0, 0, 0, [])), (19, (0, 20, 0, 0, 0, 0, 1, [])), (20, (13, 23, 0, 24, 0, 0, 0, [])), (23, (0, 24, 0, 0, 0, 0, 0, [])), (24, (21, 25, 2, 0, 3, 0, 0, []))]]
set_option maxRecDepth 100000 in
noncomputable def tb149 : List (List (Nat × II)) := [[(0, (1, 1, 0, 0, 0, 0, 0, [])), (1, (0, 3, 0, 0, 0, 0, 101, [])), (3, (4, 4, 2, 0, 0, 0, 0, [])), (4, (1, 5, 1, 0, 0, 0, 0, [])), (5, (4, 6, 0, 0, 0, 0, 0, [])), (6, (21, 7, 1, 0, 0, 0, 0, []))]]
set_option maxRecDepth 100000 in
noncomputable def tb150 : List (List (Nat × II)) := [[(0, (1, 1, 1, 0, 0, 0, 0, [])), (1, (14, 28, 0, 43, 0, 0, 0, [(0, 28), (1, 33), (2, 38)])), (28, (1, 29, 0, 2, 0, 0, 0, [])), (29, (15, 32, 0, 7, 30, 307, 0, []))],
  [(32, (21, 33, 4, 0, 30, 0, 0, [])), (33, (1, 34, 0, 2, 0, 0, 0, [])), (34, (15, 37, 1, 7, 30, 308, 0, [])), (37, (21, 38, 4, 0, 30, 0, 0, [])), (38, (1, 39, 0, 2, 0, 0, 0, [])), (39, (15, 42, 2, 7, 30, 309, 0, [])), (42, (21, 43, 4, 0, 30, 0, 0, [])), (43, (0, 44, 8, 0, 0, 0, 0, [])), (44, (21, 45, 4, 0, 30, 0, 0, []))]]
set_option maxRecDepth 100000 in
noncomputable def tb151 : List (List (Nat × II)) := [[(0, (1, 1, 1, 0, 0, 0, 0, [])), (1, (0, 2, 0, 0, 0, 0, 0, [])), (2, (1, 3, 0, 2, 0, 0, 0, [])), (3, (15, 6, 3, 7, 32, 310, 0, [])), (6, (19, 7, 0, 0, 0, 0, 0, [])), (7, (0, 8, 0, 0, 0, 0, 1, [])), (8, (4, 9, 1, 0, 0, 0, 0, [])), (9, (20, 12, 146, 0, 0, 352, 0, [(3, 3), (0, 0), (0, 0), (0, 0)])), (12, (10, 15, 0, 24, 0, 0, 0, [])), (15, (1, 16, 0, 2, 0, 0, 0, [])), (16, (15, 19, 3, 7, 32, 310, 0, [])), (19, (1, 20, 1, 0, 0, 0, 0, [])), (20, (17, 21, 2, 0, 0, 0, 0, [])), (21, (13, 24, 0, 25, 0, 0, 0, [])), (24, (0, 25, 8, 0, 0, 0, 0, [])), (25, (21, 26, 4, 0, 11, 0, 0, []))]]
set_option maxRecDepth 100000 in
noncomputable def tb152 : List (List (Nat × II)) := [[(0, (1, 1, 1, 0, 0, 0, 0, [])), (1, (0, 2, 0, 0, 0, 0, 0, [])), (2, (1, 3, 0, 2, 0, 0, 0, [])), (3, (15, 6, 9, 7, 30, 316, 0, [])), (6, (19, 7, 0, 0, 0, 0, 0, [])), (7, (0, 8, 0, 0, 0, 0, 1, [])), (8, (4, 9, 1, 0, 0, 0, 0, [])), (9, (20, 12, 146, 0, 0, 352, 0, [(3, 3), (0, 0), (0, 0), (0, 0)])), (12, (21, 13, 2, 0, 3, 0, 0, []))]]
set_option maxRecDepth 100000 in
noncomputable def tb153 : List (List (Nat × II)) := [[(0, (0, 1, 0, 0, 0, 0, 0, [])), (1, (2, 2, 2, 0, 0, 0, 0, [])), (2, (1, 3, 2, 0, 0, 0, 0, [])), (3, (1, 4, 0, 2, 0, 0, 0, [])), (4, (15, 7, 9, 7, 30, 316, 0, [])), (7, (19, 8, 0, 0, 0, 0, 0, [])), (8, (11, 11, 3, 41, 0, 0, 0, [])), (11, (1, 12, 0, 2, 0, 0, 0, [])), (12, (15, 15, 9, 7, 30, 316, 0, [])), (15, (1, 16, 2, 0, 0, 0, 0, [])), (16, (17, 17, 0, 0, 0, 0, 0, [])), (17, (10, 20, 2, 35, 0, 0, 0, [])), (20, (1, 21, 0, 2, 0, 0, 0, [])), (21, (15, 24, 9, 7, 30, 316, 0, [])), (24, (1, 25, 2, 0, 0, 0, 0, [])), (25, (17, 26, 0, 0, 0, 0, 0, [])), (26, (0, 28, 0, 0, 0, 0, 10, [])), (28, (5, 29, 0, 0, 0, 0, 0, [])), (29, (1, 30, 1, 0, 0, 0, 0, [])), (30, (11, 33, 1, 35, 0, 0, 0, []))],
  [(33, (0, 34, 0, 0, 0, 0, 1, [])), (34, (21, 35, 2, 0, 3, 0, 0, [])), (35, (3, 38, 2, 0, 0, 0, 1, [])), (38, (13, 41, 0, 2, 0, 0, 0, [])), (41, (0, 42, 0, 0, 0, 0, 0, [])), (42, (21, 43, 2, 0, 3, 0, 0, []))]]
set_option maxRecDepth 100000 in
noncomputable def tb154 : List (List (Nat × II)) := [[(0, (0, 1, 0, 0, 0, 0, 0, [])), (1, (2, 2, 2, 0, 0, 0, 0, [])), (2, (0, 3, 0, 0, 0, 0, 0, [])), (3, (2, 4, 3, 0, 0, 0, 0, [])), (4, (1, 5, 3, 0, 0, 0, 0, [])), (5, (1, 6, 0, 2, 0, 0, 0, [])), (6, (15, 9, 9, 7, 30, 316, 0, [])), (9, (19, 10, 0, 0, 0, 0, 0, [])), (10, (11, 13, 3, 32, 0, 0, 0, [])), (13, (1, 14, 0, 2, 0, 0, 0, [])), (14, (15, 17, 9, 7, 30, 316, 0, [])), (17, (1, 18, 3, 0, 0, 0, 0, [])), (18, (17, 19, 0, 0, 0, 0, 0, [])), (19, (1, 20, 1, 0, 0, 0, 0, [])), (20, (11, 23, 1, 26, 0, 0, 0, [])), (23, (3, 26, 2, 0, 0, 0, 1, [])), (26, (3, 29, 3, 0, 0, 0, 1, [])), (29, (13, 32, 0, 4, 0, 0, 0, []))],
  [(32, (1, 33, 2, 0, 0, 0, 0, [])), (33, (21, 34, 1, 0, 0, 0, 0, []))]]
set_option maxRecDepth 100000 in
noncomputable def tb155 : List (List (Nat × II)) := [[(0, (0, 1, 0, 0, 0, 0, 0, [])), (1, (2, 2, 1, 0, 0, 0, 0, [])), (2, (0, 3, 0, 0, 0, 0, 0, [])), (3, (2, 4, 2, 0, 0, 0, 0, [])), (4, (1, 5, 2, 0, 0, 0, 0, [])), (5, (1, 6, 0, 2, 0, 0, 0, [])), (6, (15, 9, 3, 7, 32, 310, 0, [])), (9, (19, 10, 0, 0, 0, 0, 0, [])), (10, (11, 13, 3, 34, 0, 0, 0, [])), (13, (1, 14, 0, 2, 0, 0, 0, [])), (14, (15, 17, 3, 7, 32, 310, 0, [])), (17, (1, 18, 2, 0, 0, 0, 0, [])), (18, (17, 19, 2, 0, 0, 0, 0, [])), (19, (15, 22, 0, 1, 3, 247, 0, [])), (22, (10, 25, 0, 28, 0, 0, 0, [])), (25, (3, 28, 1, 0, 0, 0, 1, [])), (28, (3, 31, 2, 0, 0, 0, 1, [])), (31, (13, 34, 0, 4, 0, 0, 0, []))],
  [(34, (1, 35, 1, 0, 0, 0, 0, [])), (35, (21, 36, 1, 0, 0, 0, 0, []))]]
set_option maxRecDepth 100000 in
noncomputable def tb156 : List (List (Nat × II)) := [[(0, (0, 1, 0, 0, 0, 0, 0, [])), (1, (2, 2, 1, 0, 0, 0, 0, [])), (2, (0, 3, 0, 0, 0, 0, 0, [])), (3, (2, 4, 2, 0, 0, 0, 0, [])), (4, (1, 5, 2, 0, 0, 0, 0, [])), (5, (1, 6, 0, 2, 0, 0, 0, [])), (6, (15, 9, 3, 7, 32, 310, 0, [])), (9, (19, 10, 0, 0, 0, 0, 0, [])), (10, (11, 13, 3, 31, 0, 0, 0, [])), (13, (1, 14, 1, 0, 0, 0, 0, [])), (14, (1, 15, 0, 2, 0, 0, 0, [])), (15, (15, 18, 3, 7, 32, 310, 0, [])), (18, (1, 19, 2, 0, 0, 0, 0, [])), (19, (17, 20, 2, 0, 0, 0, 0, [])), (20, (15, 23, 5, 1, 0, 264, 0, [])), (23, (4, 24, 0, 0, 0, 0, 0, [])), (24, (2, 25, 1, 0, 0, 0, 0, [])), (25, (3, 28, 2, 0, 0, 0, 1, [])), (28, (13, 31, 0, 4, 0, 0, 0, [])), (31, (1, 32, 1, 0, 0, 0, 0, []))],
  [(32, (21, 33, 1, 0, 0, 0, 0, []))]]
set_option maxRecDepth 100000 in
noncomputable def tb157 : List (List (Nat × II)) := [[(0, (0, 1, 0, 0, 0, 0, 0, [])), (1, (2, 2, 1, 0, 0, 0, 0, [])), (2, (0, 3, 0, 0, 0, 0, 0, [])), (3, (2, 4, 2, 0, 0, 0, 0, [])), (4, (1, 5, 2, 0, 0, 0, 0, [])), (5, (1, 6, 0, 2, 0, 0, 0, [])), (6, (15, 9, 3, 7, 32, 310, 0, [])), (9, (19, 10, 0, 0, 0, 0, 0, [])), (10, (11, 13, 3, 31, 0, 0, 0, [])), (13, (1, 14, 1, 0, 0, 0, 0, [])), (14, (1, 15, 0, 2, 0, 0, 0, [])), (15, (15, 18, 3, 7, 32, 310, 0, [])), (18, (1, 19, 2, 0, 0, 0, 0, [])), (19, (17, 20, 2, 0, 0, 0, 0, [])), (20, (20, 23, 58, 1, 0, 901, 0, [(3, 1), (0, 41)])), (23, (4, 24, 0, 0, 0, 0, 0, [])), (24, (2, 25, 1, 0, 0, 0, 0, [])), (25, (3, 28, 2, 0, 0, 0, 1, [])), (28, (13, 31, 0, 4, 0, 0, 0, [])), (31, (1, 32, 1, 0, 0, 0, 0, []))],
  [(32, (21, 33, 1, 0, 0, 0, 0, []))]]
set_option maxRecDepth 100000 in
noncomputable def tb158 : List (List (Nat × II)) := [[(0, (1, 1, 0, 2, 0, 0, 0, [])), (1, (29, 4, 0, 0, 0, 1027, 0, [])), (4, (1, 5, 0, 2, 0, 0, 0, [])), (5, (0, 7, 0, 0, 0, 0, 12, [])), (7, (26, 9, 20, 0, 0, 0, 0, [])), (9, (16, 12, 0, 8, 30, 1030, 0, [])), (12, (1, 13, 0, 2, 0, 0, 0, [])), (13, (0, 15, 0, 0, 0, 0, 7, [])), (15, (26, 17, 20, 0, 0, 0, 0, [])), (17, (16, 20, 1, 8, 30, 1031, 0, [])), (20, (1, 21, 0, 2, 0, 0, 0, [])), (21, (0, 22, 0, 0, 0, 0, 3, [])), (22, (26, 24, 20, 0, 0, 0, 0, [])), (24, (16, 27, 2, 8, 30, 1032, 0, [])), (27, (1, 28, 0, 2, 0, 0, 0, [])), (28, (0, 29, 0, 0, 0, 0, 3, [])), (29, (26, 31, 20, 0, 0, 0, 0, [])), (31, (16, 34, 3, 8, 30, 1033, 0, []))],
  [(34, (1, 35, 0, 2, 0, 0, 0, [])), (35, (0, 36, 0, 0, 0, 0, 3, [])), (36, (26, 38, 20, 0, 0, 0, 0, [])), (38, (16, 41, 4, 8, 30, 1034, 0, [])), (41, (1, 42, 0, 2, 0, 0, 0, [])), (42, (0, 44, 0, 0, 0, 0, 30, [])), (44, (26, 46, 20, 0, 0, 0, 0, [])), (46, (16, 49, 5, 8, 30, 1035, 0, [])), (49, (1, 50, 0, 2, 0, 0, 0, [])), (50, (0, 52, 0, 0, 0, 0, 30, [])), (52, (26, 54, 20, 0, 0, 0, 0, [])), (54, (16, 57, 6, 8, 30, 1036, 0, [])), (57, (1, 58, 0, 2, 0, 0, 0, [])), (58, (0, 61, 0, 0, 0, 0, 579, [])), (61, (26, 63, 20, 0, 0, 0, 0, [])), (63, (16, 66, 7, 8, 30, 1037, 0, []))],
  [(66, (1, 67, 0, 2, 0, 0, 0, [])), (67, (0, 70, 0, 0, 0, 0, 2895, [])), (70, (26, 72, 20, 0, 0, 0, 0, [])), (72, (16, 75, 8, 8, 30, 1038, 0, [])), (75, (1, 76, 0, 2, 0, 0, 0, [])), (76, (0, 79, 0, 0, 0, 0, 579, [])), (79, (26, 81, 20, 0, 0, 0, 0, [])), (81, (16, 84, 9, 8, 30, 1039, 0, [])), (84, (1, 85, 0, 2, 0, 0, 0, [])), (85, (0, 88, 0, 0, 0, 0, 1188, [])), (88, (26, 90, 21, 0, 0, 0, 0, [])), (90, (16, 93, 11, 8, 31, 1041, 0, [])), (93, (1, 94, 0, 2, 0, 0, 0, [])), (94, (0, 96, 0, 0, 0, 0, 18, []))],
  [(96, (26, 98, 20, 0, 0, 0, 0, [])), (98, (16, 101, 12, 8, 30, 1042, 0, [])), (101, (1, 102, 0, 2, 0, 0, 0, [])), (102, (0, 104, 0, 0, 0, 0, 10, [])), (104, (26, 106, 20, 0, 0, 0, 0, [])), (106, (16, 109, 13, 8, 30, 1043, 0, [])), (109, (1, 110, 0, 2, 0, 0, 0, [])), (110, (0, 111, 0, 0, 0, 0, 1, [])), (111, (16, 114, 16, 8, 0, 1046, 0, [])), (114, (1, 115, 0, 2, 0, 0, 0, [])), (115, (0, 118, 0, 0, 0, 0, 606, [])), (118, (26, 120, 20, 0, 0, 0, 0, [])), (120, (16, 123, 18, 8, 30, 1048, 0, [])), (123, (1, 124, 0, 2, 0, 0, 0, [])), (124, (0, 127, 0, 0, 0, 0, 1001, [])), (127, (26, 129, 20, 0, 0, 0, 0, []))],
  [(129, (16, 132, 19, 8, 30, 1049, 0, [])), (132, (1, 133, 0, 2, 0, 0, 0, [])), (133, (0, 136, 0, 0, 0, 0, 1000, [])), (136, (26, 138, 20, 0, 0, 0, 0, [])), (138, (16, 141, 20, 8, 30, 1050, 0, [])), (141, (1, 142, 0, 2, 0, 0, 0, [])), (142, (0, 144, 0, 0, 0, 1028, 42021, [])), (144, (26, 146, 21, 0, 0, 0, 0, [])), (146, (16, 149, 23, 8, 31, 1053, 0, [])), (149, (1, 150, 0, 2, 0, 0, 0, [])), (150, (0, 152, 0, 0, 0, 0, 121, [])), (152, (26, 154, 20, 0, 0, 0, 0, [])), (154, (16, 157, 29, 8, 30, 1059, 0, [])), (157, (0, 158, 0, 0, 0, 0, 0, [])), (158, (2, 159, 1, 0, 0, 0, 0, [])), (159, (1, 160, 1, 0, 0, 0, 0, []))],
  [(160, (0, 162, 0, 0, 0, 0, 7, [])), (162, (11, 165, 3, 180, 0, 0, 0, [])), (165, (1, 166, 0, 2, 0, 0, 0, [])), (166, (15, 169, 1, 8, 30, 1031, 0, [])), (169, (1, 170, 1, 0, 0, 0, 0, [])), (170, (0, 173, 0, 0, 0, 0, 1000, [])), (173, (18, 174, 0, 0, 0, 0, 0, [])), (174, (3, 177, 1, 0, 0, 0, 1, [])), (177, (13, 180, 0, 159, 0, 0, 0, [])), (180, (0, 181, 0, 0, 0, 0, 0, [])), (181, (2, 182, 1, 0, 0, 0, 0, [])), (182, (1, 183, 1, 0, 0, 0, 0, [])), (183, (0, 185, 0, 0, 0, 0, 18, [])), (185, (11, 188, 3, 202, 0, 0, 0, [])), (188, (1, 189, 0, 2, 0, 0, 0, [])), (189, (15, 192, 12, 8, 30, 1042, 0, []))],
  [(192, (1, 193, 1, 0, 0, 0, 0, [])), (193, (0, 195, 0, 0, 0, 1029, (-1000000005), [])), (195, (18, 196, 0, 0, 0, 0, 0, [])), (196, (3, 199, 1, 0, 0, 0, 1, [])), (199, (13, 202, 0, 182, 0, 0, 0, [])), (202, (0, 203, 0, 0, 0, 0, 0, [])), (203, (2, 204, 1, 0, 0, 0, 0, [])), (204, (1, 205, 1, 0, 0, 0, 0, [])), (205, (0, 207, 0, 0, 0, 0, 10, [])), (207, (11, 210, 3, 224, 0, 0, 0, [])), (210, (1, 211, 0, 2, 0, 0, 0, [])), (211, (15, 214, 13, 8, 30, 1043, 0, [])), (214, (1, 215, 1, 0, 0, 0, 0, [])), (215, (0, 217, 0, 0, 0, 1029, (-1000000005), [])), (217, (18, 218, 0, 0, 0, 0, 0, [])), (218, (3, 221, 1, 0, 0, 0, 1, [])), (221, (13, 224, 0, 204, 0, 0, 0, []))],
  [(224, (21, 225, 0, 0, 9, 0, 0, []))]]
set_option maxRecDepth 100000 in
noncomputable def tb159 : List (List (Nat × II)) := [[(0, (1, 1, 0, 0, 0, 0, 0, [])), (1, (1, 2, 1, 0, 0, 0, 0, [])), (2, (11, 5, 2, 14, 0, 0, 0, [])), (5, (1, 6, 0, 0, 0, 0, 0, [])), (6, (1, 7, 2, 0, 0, 0, 0, [])), (7, (11, 10, 4, 14, 0, 0, 0, [])), (10, (0, 11, 0, 0, 0, 0, 1, [])), (11, (13, 14, 0, 15, 0, 0, 0, [])), (14, (0, 15, 0, 0, 0, 0, 0, [])), (15, (21, 16, 2, 0, 3, 0, 0, []))]]
set_option maxRecDepth 100000 in
noncomputable def tb160 : List (List (Nat × II)) := [[(0, (1, 1, 1, 0, 0, 0, 0, [])), (1, (0, 2, 0, 0, 0, 0, 0, [])), (2, (0, 3, 0, 0, 0, 0, 1, [])), (3, (20, 6, 159, 0, 0, 1125, 0, [(3, 3), (0, 0), (0, 0), (0, 0)])), (6, (10, 9, 0, 28, 0, 0, 0, [])), (9, (1, 10, 2, 0, 0, 0, 0, [])), (10, (0, 11, 0, 0, 0, 0, 0, [])), (11, (0, 12, 0, 0, 0, 0, 5, [])), (12, (20, 15, 159, 0, 0, 1125, 0, [(3, 3), (0, 0), (0, 0), (0, 0)])), (15, (10, 18, 0, 28, 0, 0, 0, [])), (18, (1, 19, 3, 0, 0, 0, 0, [])), (19, (0, 20, 0, 0, 0, 0, 0, [])), (20, (0, 22, 0, 0, 0, 0, 100, [])), (22, (20, 25, 159, 0, 0, 1125, 0, [(3, 3), (0, 0), (0, 0), (0, 0)])), (25, (10, 28, 1, 53, 0, 0, 0, [])), (28, (1, 29, 1, 0, 0, 0, 0, [])), (29, (0, 30, 0, 0, 0, 0, 2, [])), (30, (11, 33, 1, 57, 0, 0, 0, []))],
  [(33, (1, 34, 2, 0, 0, 0, 0, [])), (34, (0, 35, 0, 0, 0, 0, 0, [])), (35, (0, 37, 0, 0, 0, 0, 6, [])), (37, (20, 40, 159, 0, 0, 1125, 0, [(3, 3), (0, 0), (0, 0), (0, 0)])), (40, (10, 43, 0, 57, 0, 0, 0, [])), (43, (1, 44, 3, 0, 0, 0, 0, [])), (44, (0, 45, 0, 0, 0, 0, 0, [])), (45, (0, 47, 0, 0, 0, 1128, 1000000, [])), (47, (20, 50, 159, 0, 0, 1125, 0, [(3, 3), (0, 0), (0, 0), (0, 0)])), (50, (10, 53, 0, 57, 0, 0, 0, [])), (53, (0, 54, 0, 0, 0, 0, 1, [])), (54, (13, 57, 0, 58, 0, 0, 0, [])), (57, (0, 58, 0, 0, 0, 0, 0, [])), (58, (2, 60, 4, 0, 0, 0, 0, [])), (60, (1, 62, 4, 0, 0, 0, 0, [])), (62, (10, 65, 1, 68, 0, 0, 0, []))],
  [(65, (0, 67, 0, 0, 0, 1129, (-1000000001), [])), (67, (21, 68, 1, 0, 0, 0, 0, [])), (68, (1, 69, 1, 0, 0, 0, 0, [])), (69, (0, 70, 0, 0, 0, 0, 2, [])), (70, (11, 73, 1, 82, 0, 0, 0, [])), (73, (1, 74, 0, 2, 0, 0, 0, [])), (74, (15, 77, 1, 8, 30, 1031, 0, [])), (77, (1, 78, 2, 0, 0, 0, 0, [])), (78, (17, 79, 0, 0, 0, 0, 0, [])), (79, (13, 82, 0, 93, 0, 0, 0, [])), (82, (1, 83, 0, 2, 0, 0, 0, [])), (83, (15, 86, 0, 8, 30, 1030, 0, [])), (86, (0, 88, 0, 0, 0, 0, 6, [])), (88, (1, 89, 1, 0, 0, 0, 0, [])), (89, (4, 90, 2, 0, 0, 0, 0, [])), (90, (1, 91, 2, 0, 0, 0, 0, [])), (91, (4, 92, 0, 0, 0, 0, 0, [])), (92, (17, 93, 0, 0, 0, 0, 0, [])), (93, (2, 95, 5, 0, 0, 0, 0, [])), (95, (1, 96, 1, 0, 0, 0, 0, []))],
  [(96, (0, 97, 0, 0, 0, 0, 2, [])), (97, (11, 100, 1, 110, 0, 0, 0, [])), (100, (1, 101, 0, 2, 0, 0, 0, [])), (101, (15, 104, 1, 8, 30, 1031, 0, [])), (104, (1, 105, 2, 0, 0, 0, 0, [])), (105, (1, 106, 3, 0, 0, 0, 0, [])), (106, (18, 107, 0, 0, 0, 0, 0, [])), (107, (13, 110, 0, 122, 0, 0, 0, [])), (110, (1, 111, 0, 2, 0, 0, 0, [])), (111, (15, 114, 0, 8, 30, 1030, 0, [])), (114, (0, 116, 0, 0, 0, 0, 6, [])), (116, (1, 117, 1, 0, 0, 0, 0, [])), (117, (4, 118, 2, 0, 0, 0, 0, [])), (118, (1, 119, 2, 0, 0, 0, 0, [])), (119, (4, 120, 0, 0, 0, 0, 0, [])), (120, (1, 121, 3, 0, 0, 0, 0, [])), (121, (18, 122, 0, 0, 0, 0, 0, [])), (122, (1, 124, 5, 0, 0, 0, 0, [])), (124, (21, 125, 1, 0, 0, 0, 0, []))]]
set_option maxRecDepth 100000 in
noncomputable def tb161 : List (List (Nat × II)) := [[(0, (0, 1, 0, 0, 0, 0, 0, [])), (1, (2, 2, 2, 0, 0, 0, 0, [])), (2, (1, 3, 2, 0, 0, 0, 0, [])), (3, (1, 4, 1, 0, 0, 0, 0, [])), (4, (11, 7, 4, 99, 0, 0, 0, [])), (7, (1, 8, 0, 2, 0, 0, 0, [])), (8, (15, 11, 19, 8, 30, 1049, 0, [])), (11, (1, 12, 2, 0, 0, 0, 0, [])), (12, (1, 13, 2, 0, 0, 0, 0, [])), (13, (10, 16, 1, 20, 0, 0, 0, [])), (16, (0, 17, 0, 0, 0, 0, 0, [])), (17, (13, 20, 0, 22, 0, 0, 0, [])), (20, (0, 22, 0, 0, 0, 1142, 100000, [])), (22, (18, 23, 0, 0, 0, 0, 0, [])), (23, (0, 24, 0, 0, 0, 0, 0, [])), (24, (2, 25, 3, 0, 0, 0, 0, [])), (25, (1, 26, 3, 0, 0, 0, 0, [])), (26, (0, 28, 0, 0, 0, 0, 6, [])), (28, (11, 31, 3, 93, 0, 0, 0, [])), (31, (1, 32, 0, 2, 0, 0, 0, []))],
  [(32, (15, 35, 0, 8, 30, 1030, 0, [])), (35, (1, 36, 3, 0, 0, 0, 0, [])), (36, (17, 37, 0, 0, 0, 0, 0, [])), (37, (2, 39, 4, 0, 0, 0, 0, [])), (39, (1, 41, 4, 0, 0, 0, 0, [])), (41, (10, 44, 5, 87, 0, 0, 0, [])), (44, (1, 46, 4, 0, 0, 0, 0, [])), (46, (1, 47, 2, 0, 0, 0, 0, [])), (47, (11, 50, 4, 87, 0, 0, 0, [])), (50, (1, 51, 0, 2, 0, 0, 0, [])), (51, (15, 54, 19, 8, 30, 1049, 0, [])), (54, (1, 55, 2, 0, 0, 0, 0, [])), (55, (1, 57, 4, 0, 0, 0, 0, [])), (57, (4, 58, 1, 0, 0, 0, 0, [])), (58, (17, 59, 0, 0, 0, 0, 0, [])), (59, (0, 60, 0, 0, 0, 0, 1, [])), (60, (4, 61, 0, 0, 0, 0, 0, [])), (61, (1, 62, 0, 2, 0, 0, 0, [])), (62, (15, 65, 19, 8, 30, 1049, 0, []))],
  [(65, (1, 66, 2, 0, 0, 0, 0, [])), (66, (17, 67, 0, 0, 0, 0, 0, [])), (67, (11, 70, 3, 87, 0, 0, 0, [])), (70, (1, 71, 0, 2, 0, 0, 0, [])), (71, (15, 74, 19, 8, 30, 1049, 0, [])), (74, (1, 75, 2, 0, 0, 0, 0, [])), (75, (1, 76, 0, 2, 0, 0, 0, [])), (76, (15, 79, 19, 8, 30, 1049, 0, [])), (79, (1, 80, 2, 0, 0, 0, 0, [])), (80, (1, 82, 4, 0, 0, 0, 0, [])), (82, (4, 83, 1, 0, 0, 0, 0, [])), (83, (17, 84, 0, 0, 0, 0, 0, [])), (84, (0, 85, 0, 0, 0, 0, 1, [])), (85, (4, 86, 0, 0, 0, 0, 0, [])), (86, (18, 87, 0, 0, 0, 0, 0, [])), (87, (3, 90, 3, 0, 0, 0, 1, [])), (90, (13, 93, 0, 25, 0, 0, 0, [])), (93, (3, 96, 2, 0, 0, 0, 1, []))],
  [(96, (13, 99, 0, 2, 0, 0, 0, [])), (99, (21, 100, 0, 0, 9, 0, 0, []))]]
set_option maxRecDepth 100000 in
noncomputable def tb162 : List (List (Nat × II)) := [[(0, (1, 1, 0, 2, 0, 0, 0, [])), (1, (1, 2, 1, 0, 0, 0, 0, [])), (2, (20, 5, 161, 1, 9, 1138, 0, [(5, 2), (0, 48), (0, 0)])), (5, (0, 6, 0, 0, 0, 0, 0, [])), (6, (2, 7, 3, 0, 0, 0, 0, [])), (7, (1, 8, 1, 0, 0, 0, 0, [])), (8, (2, 10, 4, 0, 0, 0, 0, [])), (10, (1, 12, 4, 0, 0, 0, 0, [])), (12, (0, 13, 0, 0, 0, 0, 1, [])), (13, (11, 16, 2, 65, 0, 0, 0, [])), (16, (1, 18, 4, 0, 0, 0, 0, [])), (18, (1, 19, 1, 0, 0, 0, 0, [])), (19, (1, 20, 2, 0, 0, 0, 0, [])), (20, (4, 21, 1, 0, 0, 0, 0, [])), (21, (11, 24, 2, 65, 0, 0, 0, [])), (24, (1, 25, 0, 2, 0, 0, 0, [])), (25, (15, 28, 19, 8, 30, 1049, 0, [])), (28, (1, 30, 4, 0, 0, 0, 0, [])), (30, (17, 31, 0, 0, 0, 0, 0, [])), (31, (0, 33, 0, 0, 0, 1142, 100000, []))],
  [(33, (11, 36, 3, 59, 0, 0, 0, [])), (36, (1, 37, 3, 0, 0, 0, 0, [])), (37, (10, 40, 0, 56, 0, 0, 0, [])), (40, (1, 41, 0, 2, 0, 0, 0, [])), (41, (15, 44, 19, 8, 30, 1049, 0, [])), (44, (1, 46, 4, 0, 0, 0, 0, [])), (46, (17, 47, 0, 0, 0, 0, 0, [])), (47, (1, 48, 0, 2, 0, 0, 0, [])), (48, (15, 51, 19, 8, 30, 1049, 0, [])), (51, (1, 52, 3, 0, 0, 0, 0, [])), (52, (17, 53, 0, 0, 0, 0, 0, [])), (53, (11, 56, 3, 59, 0, 0, 0, [])), (56, (1, 58, 4, 0, 0, 0, 0, [])), (58, (2, 59, 3, 0, 0, 0, 0, [])), (59, (3, 62, 4, 0, 0, 0, (-1), [])), (62, (13, 65, 0, 10, 0, 0, 0, []))],
  [(65, (1, 66, 3, 0, 0, 0, 0, [])), (66, (10, 69, 1, 71, 0, 0, 0, [])), (69, (0, 70, 0, 0, 0, 0, 0, [])), (70, (21, 71, 2, 0, 3, 0, 0, [])), (71, (1, 72, 0, 2, 0, 0, 0, [])), (72, (1, 73, 3, 0, 0, 0, 0, [])), (73, (16, 76, 22, 8, 0, 1052, 0, [])), (76, (1, 77, 0, 2, 0, 0, 0, [])), (77, (0, 78, 0, 0, 0, 0, 0, [])), (78, (16, 81, 21, 8, 0, 1051, 0, [])), (81, (1, 82, 3, 0, 0, 0, 0, [])), (82, (2, 84, 4, 0, 0, 0, 0, [])), (84, (1, 86, 4, 0, 0, 0, 0, [])), (86, (10, 89, 5, 188, 0, 0, 0, [])), (89, (0, 90, 0, 0, 0, 0, 0, [])), (90, (2, 92, 5, 0, 0, 0, 0, [])), (92, (0, 93, 0, 0, 0, 0, 0, [])), (93, (2, 95, 6, 0, 0, 0, 0, [])), (95, (1, 97, 6, 0, 0, 0, 0, []))],
  [(97, (0, 99, 0, 0, 0, 0, 6, [])), (99, (11, 102, 3, 157, 0, 0, 0, [])), (102, (1, 103, 0, 2, 0, 0, 0, [])), (103, (15, 106, 0, 8, 30, 1030, 0, [])), (106, (1, 108, 6, 0, 0, 0, 0, [])), (108, (17, 109, 0, 0, 0, 0, 0, [])), (109, (2, 111, 7, 0, 0, 0, 0, [])), (111, (1, 113, 7, 0, 0, 0, 0, [])), (113, (1, 115, 5, 0, 0, 0, 0, [])), (115, (11, 118, 5, 151, 0, 0, 0, [])), (118, (1, 120, 7, 0, 0, 0, 0, [])), (120, (1, 122, 4, 0, 0, 0, 0, [])), (122, (11, 125, 4, 151, 0, 0, 0, [])), (125, (1, 126, 0, 2, 0, 0, 0, [])), (126, (15, 129, 19, 8, 30, 1049, 0, []))],
  [(129, (1, 131, 4, 0, 0, 0, 0, [])), (131, (1, 133, 7, 0, 0, 0, 0, [])), (133, (4, 134, 1, 0, 0, 0, 0, [])), (134, (17, 135, 0, 0, 0, 0, 0, [])), (135, (1, 136, 0, 2, 0, 0, 0, [])), (136, (15, 139, 19, 8, 30, 1049, 0, [])), (139, (1, 141, 4, 0, 0, 0, 0, [])), (141, (17, 142, 0, 0, 0, 0, 0, [])), (142, (0, 143, 0, 0, 0, 0, 1, [])), (143, (4, 144, 1, 0, 0, 0, 0, [])), (144, (11, 147, 1, 151, 0, 0, 0, [])), (147, (1, 149, 7, 0, 0, 0, 0, [])), (149, (2, 151, 5, 0, 0, 0, 0, [])), (151, (3, 154, 6, 0, 0, 0, 1, [])), (154, (13, 157, 0, 95, 0, 0, 0, [])), (157, (1, 158, 0, 2, 0, 0, 0, [])), (158, (15, 161, 20, 8, 30, 1050, 0, []))],
  [(161, (1, 162, 0, 2, 0, 0, 0, [])), (162, (15, 165, 21, 8, 0, 1051, 0, [])), (165, (1, 167, 5, 0, 0, 0, 0, [])), (167, (18, 168, 0, 0, 0, 0, 0, [])), (168, (1, 169, 0, 2, 0, 0, 0, [])), (169, (22, 170, 0, 0, 0, 0, 0, [])), (170, (15, 173, 21, 8, 0, 1051, 0, [])), (173, (0, 174, 0, 0, 0, 0, 1, [])), (174, (4, 175, 0, 0, 0, 0, 0, [])), (175, (16, 178, 21, 8, 0, 1051, 0, [])), (178, (1, 180, 4, 0, 0, 0, 0, [])), (180, (1, 182, 5, 0, 0, 0, 0, [])), (182, (4, 183, 1, 0, 0, 0, 0, [])), (183, (2, 185, 4, 0, 0, 0, 0, [])), (185, (13, 188, 0, 84, 0, 0, 0, [])), (188, (0, 189, 0, 0, 0, 0, 1, [])), (189, (21, 190, 2, 0, 3, 0, 0, []))]]
set_option maxRecDepth 100000 in
noncomputable def tb163 : List (List (Nat × II)) := [[(0, (1, 1, 1, 0, 0, 0, 0, [])), (1, (10, 4, 1, 7, 0, 0, 0, [])), (4, (0, 6, 0, 0, 0, 1029, (-1000000005), [])), (6, (21, 7, 1, 0, 0, 0, 0, [])), (7, (1, 8, 2, 0, 0, 0, 0, [])), (8, (10, 11, 1, 18, 0, 0, 0, [])), (11, (1, 12, 0, 2, 0, 0, 0, [])), (12, (15, 15, 21, 8, 0, 1051, 0, [])), (15, (13, 18, 0, 49, 0, 0, 0, [])), (18, (1, 19, 2, 0, 0, 0, 0, [])), (19, (0, 20, 0, 0, 0, 0, 1, [])), (20, (11, 23, 1, 30, 0, 0, 0, [])), (23, (1, 24, 0, 2, 0, 0, 0, [])), (24, (15, 27, 22, 8, 0, 1052, 0, [])), (27, (13, 30, 0, 49, 0, 0, 0, [])), (30, (1, 31, 3, 0, 0, 0, 0, [])), (31, (1, 32, 0, 2, 0, 0, 0, []))],
  [(32, (15, 35, 21, 8, 0, 1051, 0, [])), (35, (11, 38, 3, 47, 0, 0, 0, [])), (38, (1, 39, 0, 2, 0, 0, 0, [])), (39, (15, 42, 20, 8, 30, 1050, 0, [])), (42, (1, 43, 3, 0, 0, 0, 0, [])), (43, (17, 44, 0, 0, 0, 0, 0, [])), (44, (13, 47, 0, 49, 0, 0, 0, [])), (47, (0, 49, 0, 0, 0, 1029, (-1000000005), [])), (49, (21, 50, 1, 0, 0, 0, 0, []))]]
set_option maxRecDepth 100000 in
noncomputable def tb164 : List (List (Nat × II)) := [[(0, (1, 1, 1, 0, 0, 0, 0, [])), (1, (0, 2, 0, 0, 0, 0, 1, [])), (2, (0, 5, 0, 0, 0, 0, 1000, [])), (5, (20, 8, 159, 0, 0, 1125, 0, [(3, 3), (0, 0), (0, 0), (0, 0)])), (8, (10, 11, 0, 35, 0, 0, 0, [])), (11, (1, 12, 2, 0, 0, 0, 0, [])), (12, (0, 13, 0, 0, 0, 0, 0, [])), (13, (0, 15, 0, 0, 0, 0, 99, [])), (15, (20, 18, 159, 0, 0, 1125, 0, [(3, 3), (0, 0), (0, 0), (0, 0)])), (18, (10, 21, 0, 35, 0, 0, 0, [])), (21, (1, 22, 3, 0, 0, 0, 0, [])), (22, (0, 23, 0, 0, 0, 0, 0, [])), (23, (0, 24, 0, 0, 0, 0, 2, [])), (24, (20, 27, 159, 0, 0, 1125, 0, [(3, 3), (0, 0), (0, 0), (0, 0)])), (27, (10, 30, 0, 35, 0, 0, 0, [])), (30, (1, 32, 4, 0, 0, 0, 0, []))],
  [(32, (10, 35, 3, 38, 0, 0, 0, [])), (35, (0, 37, 0, 0, 0, 1129, (-1000000001), [])), (37, (21, 38, 1, 0, 0, 0, 0, [])), (38, (1, 39, 0, 2, 0, 0, 0, [])), (39, (1, 40, 0, 2, 0, 0, 0, [])), (40, (1, 41, 1, 0, 0, 0, 0, [])), (41, (1, 42, 2, 0, 0, 0, 0, [])), (42, (20, 45, 162, 1, 0, 1134, 0, [(8, 3), (0, 48), (0, 0), (0, 0)])), (45, (1, 46, 3, 0, 0, 0, 0, [])), (46, (1, 48, 4, 0, 0, 0, 0, [])), (48, (20, 51, 163, 1, 0, 1143, 0, [(4, 4), (0, 48), (0, 0), (0, 0), (0, 0)])), (51, (21, 52, 1, 0, 0, 0, 0, []))]]
set_option maxRecDepth 100000 in
noncomputable def tb165 : List (List (Nat × II)) := [[(0, (0, 1, 0, 0, 0, 0, 0, [])), (1, (2, 2, 1, 0, 0, 0, 0, [])), (2, (1, 3, 1, 0, 0, 0, 0, [])), (3, (0, 5, 0, 0, 0, 0, 20, [])), (5, (11, 8, 4, 129, 0, 0, 0, [])), (8, (0, 9, 0, 0, 0, 0, 0, [])), (9, (2, 10, 2, 0, 0, 0, 0, [])), (10, (1, 11, 2, 0, 0, 0, 0, [])), (11, (0, 14, 0, 0, 0, 0, 2000, [])), (14, (11, 17, 4, 123, 0, 0, 0, [])), (17, (1, 18, 1, 0, 0, 0, 0, [])), (18, (10, 21, 1, 29, 0, 0, 0, [])), (21, (1, 22, 2, 0, 0, 0, 0, [])), (22, (10, 25, 1, 29, 0, 0, 0, [])), (25, (0, 26, 0, 0, 0, 0, 1, [])), (26, (13, 29, 0, 30, 0, 0, 0, [])), (29, (0, 30, 0, 0, 0, 0, 0, [])), (30, (2, 31, 3, 0, 0, 0, 0, [])), (31, (0, 32, 0, 0, 0, 0, 0, []))],
  [(32, (2, 34, 4, 0, 0, 0, 0, [])), (34, (1, 36, 4, 0, 0, 0, 0, [])), (36, (0, 38, 0, 0, 0, 0, 6, [])), (38, (11, 41, 3, 104, 0, 0, 0, [])), (41, (1, 42, 1, 0, 0, 0, 0, [])), (42, (10, 45, 5, 104, 0, 0, 0, [])), (45, (1, 46, 0, 2, 0, 0, 0, [])), (46, (15, 49, 0, 8, 30, 1030, 0, [])), (49, (0, 51, 0, 0, 0, 0, 6, [])), (51, (1, 53, 4, 0, 0, 0, 0, [])), (53, (4, 54, 0, 0, 0, 0, 0, [])), (54, (17, 55, 0, 0, 0, 0, 0, [])), (55, (2, 57, 5, 0, 0, 0, 0, [])), (57, (1, 58, 3, 0, 0, 0, 0, [])), (58, (10, 61, 1, 92, 0, 0, 0, [])), (61, (1, 63, 5, 0, 0, 0, 0, [])), (63, (10, 66, 5, 96, 0, 0, 0, []))],
  [(66, (1, 68, 5, 0, 0, 0, 0, [])), (68, (1, 69, 2, 0, 0, 0, 0, [])), (69, (11, 72, 4, 96, 0, 0, 0, [])), (72, (1, 73, 0, 2, 0, 0, 0, [])), (73, (15, 76, 23, 8, 31, 1053, 0, [])), (76, (0, 79, 0, 0, 0, 0, 2001, [])), (79, (1, 80, 1, 0, 0, 0, 0, [])), (80, (0, 81, 0, 0, 0, 0, 1, [])), (81, (4, 82, 1, 0, 0, 0, 0, [])), (82, (4, 83, 2, 0, 0, 0, 0, [])), (83, (1, 84, 2, 0, 0, 0, 0, [])), (84, (4, 85, 0, 0, 0, 0, 0, [])), (85, (1, 87, 5, 0, 0, 0, 0, [])), (87, (4, 88, 1, 0, 0, 0, 0, [])), (88, (17, 89, 1, 0, 0, 0, 0, [])), (89, (10, 92, 0, 96, 0, 0, 0, [])), (92, (0, 93, 0, 0, 0, 0, 1, [])), (93, (13, 96, 0, 97, 0, 0, 0, []))],
  [(96, (0, 97, 0, 0, 0, 0, 0, [])), (97, (2, 98, 3, 0, 0, 0, 0, [])), (98, (3, 101, 4, 0, 0, 0, 1, [])), (101, (13, 104, 0, 34, 0, 0, 0, [])), (104, (1, 105, 0, 2, 0, 0, 0, [])), (105, (15, 108, 23, 8, 31, 1053, 0, [])), (108, (0, 111, 0, 0, 0, 0, 2001, [])), (111, (1, 112, 1, 0, 0, 0, 0, [])), (112, (4, 113, 2, 0, 0, 0, 0, [])), (113, (1, 114, 2, 0, 0, 0, 0, [])), (114, (4, 115, 0, 0, 0, 0, 0, [])), (115, (1, 116, 3, 0, 0, 0, 0, [])), (116, (18, 117, 1, 0, 0, 0, 0, [])), (117, (3, 120, 2, 0, 0, 0, 1, [])), (120, (13, 123, 0, 10, 0, 0, 0, [])), (123, (3, 126, 1, 0, 0, 0, 1, [])), (126, (13, 129, 0, 2, 0, 0, 0, []))],
  [(129, (21, 130, 0, 0, 9, 0, 0, []))]]
set_option maxRecDepth 100000 in
noncomputable def tb166 : List (List (Nat × II)) := [[(0, (1, 1, 0, 2, 0, 0, 0, [])), (1, (20, 4, 165, 1, 9, 1155, 0, [(6, 1), (0, 48)])), (4, (0, 5, 0, 0, 0, 0, 1, [])), (5, (2, 6, 3, 0, 0, 0, 0, [])), (6, (1, 7, 3, 0, 0, 0, 0, [])), (7, (0, 9, 0, 0, 0, 0, 20, [])), (9, (11, 12, 4, 66, 0, 0, 0, [])), (12, (1, 13, 1, 0, 0, 0, 0, [])), (13, (1, 14, 2, 0, 0, 0, 0, [])), (14, (1, 15, 3, 0, 0, 0, 0, [])), (15, (0, 16, 0, 0, 0, 0, 1, [])), (16, (4, 17, 1, 0, 0, 0, 0, [])), (17, (4, 18, 2, 0, 0, 0, 0, [])), (18, (4, 19, 0, 0, 0, 0, 0, [])), (19, (2, 21, 4, 0, 0, 0, 0, [])), (21, (1, 23, 4, 0, 0, 0, 0, [])), (23, (0, 26, 0, 0, 0, 0, 2000, [])), (26, (11, 29, 4, 60, 0, 0, 0, [])), (29, (1, 30, 0, 2, 0, 0, 0, [])), (30, (15, 33, 23, 8, 31, 1053, 0, []))],
  [(33, (0, 36, 0, 0, 0, 0, 2001, [])), (36, (1, 37, 3, 0, 0, 0, 0, [])), (37, (4, 38, 2, 0, 0, 0, 0, [])), (38, (1, 40, 4, 0, 0, 0, 0, [])), (40, (4, 41, 0, 0, 0, 0, 0, [])), (41, (17, 42, 1, 0, 0, 0, 0, [])), (42, (10, 45, 0, 54, 0, 0, 0, [])), (45, (1, 46, 0, 2, 0, 0, 0, [])), (46, (1, 47, 3, 0, 0, 0, 0, [])), (47, (1, 49, 4, 0, 0, 0, 0, [])), (49, (20, 52, 167, 1, 9, 1159, 0, [(8, 3), (0, 48), (0, 0), (0, 0)])), (52, (0, 53, 0, 0, 0, 0, 1, [])), (53, (21, 54, 2, 0, 3, 0, 0, [])), (54, (3, 57, 4, 0, 0, 0, 1, [])), (57, (13, 60, 0, 21, 0, 0, 0, [])), (60, (3, 63, 3, 0, 0, 0, 1, [])), (63, (13, 66, 0, 6, 0, 0, 0, []))],
  [(66, (0, 67, 0, 0, 0, 0, 0, [])), (67, (21, 68, 2, 0, 3, 0, 0, []))]]
set_option maxRecDepth 100000 in
noncomputable def tb167 : List (List (Nat × II)) := [[(0, (1, 1, 0, 2, 0, 0, 0, [])), (1, (0, 2, 0, 0, 0, 0, 0, [])), (2, (16, 5, 21, 8, 0, 1051, 0, [])), (5, (1, 6, 0, 2, 0, 0, 0, [])), (6, (1, 7, 2, 0, 0, 0, 0, [])), (7, (16, 10, 22, 8, 0, 1052, 0, [])), (10, (1, 11, 2, 0, 0, 0, 0, [])), (11, (2, 12, 3, 0, 0, 0, 0, [])), (12, (1, 13, 1, 0, 0, 0, 0, [])), (13, (0, 14, 0, 0, 0, 0, 1, [])), (14, (4, 15, 1, 0, 0, 0, 0, [])), (15, (2, 17, 4, 0, 0, 0, 0, [])), (17, (1, 19, 4, 0, 0, 0, 0, [])), (19, (10, 22, 2, 121, 0, 0, 0, [])), (22, (0, 23, 0, 0, 0, 0, 0, [])), (23, (2, 25, 5, 0, 0, 0, 0, [])), (25, (0, 26, 0, 0, 0, 0, 0, [])), (26, (2, 28, 6, 0, 0, 0, 0, [])), (28, (1, 30, 6, 0, 0, 0, 0, [])), (30, (0, 32, 0, 0, 0, 0, 6, []))],
  [(32, (11, 35, 3, 89, 0, 0, 0, [])), (35, (1, 36, 0, 2, 0, 0, 0, [])), (36, (15, 39, 0, 8, 30, 1030, 0, [])), (39, (0, 41, 0, 0, 0, 0, 6, [])), (41, (1, 43, 6, 0, 0, 0, 0, [])), (43, (4, 44, 0, 0, 0, 0, 0, [])), (44, (17, 45, 0, 0, 0, 0, 0, [])), (45, (2, 47, 7, 0, 0, 0, 0, [])), (47, (1, 49, 7, 0, 0, 0, 0, [])), (49, (1, 51, 5, 0, 0, 0, 0, [])), (51, (11, 54, 5, 83, 0, 0, 0, [])), (54, (1, 56, 7, 0, 0, 0, 0, [])), (56, (1, 57, 3, 0, 0, 0, 0, [])), (57, (11, 60, 4, 83, 0, 0, 0, [])), (60, (1, 61, 0, 2, 0, 0, 0, [])), (61, (15, 64, 23, 8, 31, 1053, 0, []))],
  [(64, (0, 67, 0, 0, 0, 0, 2001, [])), (67, (1, 69, 4, 0, 0, 0, 0, [])), (69, (4, 70, 2, 0, 0, 0, 0, [])), (70, (1, 71, 3, 0, 0, 0, 0, [])), (71, (4, 72, 0, 0, 0, 0, 0, [])), (72, (1, 74, 7, 0, 0, 0, 0, [])), (74, (4, 75, 1, 0, 0, 0, 0, [])), (75, (17, 76, 1, 0, 0, 0, 0, [])), (76, (10, 79, 0, 83, 0, 0, 0, [])), (79, (1, 81, 7, 0, 0, 0, 0, [])), (81, (2, 83, 5, 0, 0, 0, 0, [])), (83, (3, 86, 6, 0, 0, 0, 1, [])), (86, (13, 89, 0, 28, 0, 0, 0, [])), (89, (1, 90, 0, 2, 0, 0, 0, [])), (90, (15, 93, 20, 8, 30, 1050, 0, [])), (93, (1, 94, 0, 2, 0, 0, 0, [])), (94, (15, 97, 21, 8, 0, 1051, 0, []))],
  [(97, (1, 99, 5, 0, 0, 0, 0, [])), (99, (18, 100, 0, 0, 0, 0, 0, [])), (100, (1, 101, 0, 2, 0, 0, 0, [])), (101, (22, 102, 0, 0, 0, 0, 0, [])), (102, (15, 105, 21, 8, 0, 1051, 0, [])), (105, (0, 106, 0, 0, 0, 0, 1, [])), (106, (4, 107, 0, 0, 0, 0, 0, [])), (107, (16, 110, 21, 8, 0, 1051, 0, [])), (110, (1, 111, 3, 0, 0, 0, 0, [])), (111, (1, 113, 5, 0, 0, 0, 0, [])), (113, (4, 114, 1, 0, 0, 0, 0, [])), (114, (2, 115, 3, 0, 0, 0, 0, [])), (115, (3, 118, 4, 0, 0, 0, (-1), [])), (118, (13, 121, 0, 17, 0, 0, 0, [])), (121, (21, 122, 0, 0, 9, 0, 0, []))]]
set_option maxRecDepth 100000 in
noncomputable def tb168 : List (List (Nat × II)) := [[(0, (1, 1, 1, 0, 0, 0, 0, [])), (1, (0, 2, 0, 0, 0, 0, 1, [])), (2, (0, 5, 0, 0, 0, 0, 400, [])), (5, (20, 8, 159, 0, 0, 1125, 0, [(3, 3), (0, 0), (0, 0), (0, 0)])), (8, (10, 11, 0, 35, 0, 0, 0, [])), (11, (1, 12, 2, 0, 0, 0, 0, [])), (12, (0, 13, 0, 0, 0, 0, 0, [])), (13, (0, 15, 0, 0, 0, 0, 50, [])), (15, (20, 18, 159, 0, 0, 1125, 0, [(3, 3), (0, 0), (0, 0), (0, 0)])), (18, (10, 21, 0, 35, 0, 0, 0, [])), (21, (1, 22, 3, 0, 0, 0, 0, [])), (22, (0, 23, 0, 0, 0, 0, 0, [])), (23, (0, 24, 0, 0, 0, 0, 2, [])), (24, (20, 27, 159, 0, 0, 1125, 0, [(3, 3), (0, 0), (0, 0), (0, 0)])), (27, (10, 30, 0, 35, 0, 0, 0, [])), (30, (1, 32, 4, 0, 0, 0, 0, []))],
  [(32, (10, 35, 3, 38, 0, 0, 0, [])), (35, (0, 37, 0, 0, 0, 1129, (-1000000001), [])), (37, (21, 38, 1, 0, 0, 0, 0, [])), (38, (1, 39, 0, 2, 0, 0, 0, [])), (39, (1, 40, 0, 2, 0, 0, 0, [])), (40, (1, 41, 1, 0, 0, 0, 0, [])), (41, (1, 42, 2, 0, 0, 0, 0, [])), (42, (20, 45, 166, 1, 0, 1151, 0, [(5, 3), (0, 48), (0, 0), (0, 0)])), (45, (1, 46, 3, 0, 0, 0, 0, [])), (46, (1, 48, 4, 0, 0, 0, 0, [])), (48, (20, 51, 163, 1, 0, 1143, 0, [(4, 4), (0, 48), (0, 0), (0, 0), (0, 0)])), (51, (21, 52, 1, 0, 0, 0, 0, []))]]
set_option maxRecDepth 100000 in
noncomputable def tb169 : List (List (Nat × II)) := [[(0, (1, 1, 0, 0, 0, 0, 0, [])), (1, (0, 2, 0, 0, 0, 0, 0, [])), (2, (0, 3, 0, 0, 0, 0, 2, [])), (3, (20, 6, 159, 0, 0, 1125, 0, [(3, 3), (0, 0), (0, 0), (0, 0)])), (6, (21, 7, 2, 0, 3, 0, 0, []))]]
set_option maxRecDepth 100000 in
noncomputable def tb170 : List (List (Nat × II)) := [[(0, (1, 1, 0, 2, 0, 0, 0, [])), (1, (15, 4, 4, 8, 30, 1034, 0, [])), (4, (1, 5, 1, 0, 0, 0, 0, [])), (5, (17, 6, 0, 0, 0, 0, 0, [])), (6, (10, 9, 1, 13, 0, 0, 0, [])), (9, (0, 10, 0, 0, 0, 0, 1, [])), (10, (13, 13, 0, 14, 0, 0, 0, [])), (13, (0, 14, 0, 0, 0, 0, 0, [])), (14, (21, 15, 2, 0, 3, 0, 0, []))]]
set_option maxRecDepth 100000 in
noncomputable def tb171 : List (List (Nat × II)) := [[(0, (1, 1, 0, 2, 0, 0, 0, [])), (1, (15, 4, 5, 8, 30, 1035, 0, [])), (4, (0, 6, 0, 0, 0, 0, 10, [])), (6, (1, 7, 1, 0, 0, 0, 0, [])), (7, (4, 8, 2, 0, 0, 0, 0, [])), (8, (1, 9, 2, 0, 0, 0, 0, [])), (9, (4, 10, 0, 0, 0, 0, 0, [])), (10, (17, 11, 0, 0, 0, 0, 0, [])), (11, (21, 12, 1, 0, 0, 0, 0, []))]]
set_option maxRecDepth 100000 in
noncomputable def tb172 : List (List (Nat × II)) := [[(0, (1, 1, 0, 2, 0, 0, 0, [])), (1, (15, 4, 6, 8, 30, 1036, 0, [])), (4, (0, 6, 0, 0, 0, 0, 10, [])), (6, (1, 7, 1, 0, 0, 0, 0, [])), (7, (4, 8, 2, 0, 0, 0, 0, [])), (8, (1, 9, 2, 0, 0, 0, 0, [])), (9, (4, 10, 0, 0, 0, 0, 0, [])), (10, (17, 11, 0, 0, 0, 0, 0, [])), (11, (21, 12, 1, 0, 0, 0, 0, []))]]
set_option maxRecDepth 100000 in
noncomputable def tb173 : List (List (Nat × II)) := [[(0, (1, 1, 2, 0, 0, 0, 0, [])), (1, (10, 4, 2, 28, 0, 0, 0, [])), (4, (1, 5, 2, 0, 0, 0, 0, [])), (5, (1, 6, 0, 2, 0, 0, 0, [])), (6, (15, 9, 4, 8, 30, 1034, 0, [])), (9, (1, 10, 1, 0, 0, 0, 0, [])), (10, (17, 11, 0, 0, 0, 0, 0, [])), (11, (11, 14, 3, 28, 0, 0, 0, [])), (14, (1, 15, 0, 2, 0, 0, 0, [])), (15, (1, 16, 1, 0, 0, 0, 0, [])), (16, (1, 17, 2, 0, 0, 0, 0, [])), (17, (20, 20, 171, 1, 0, 1208, 0, [(3, 3), (0, 48), (0, 0), (0, 0)])), (20, (0, 21, 0, 0, 0, 0, 1, [])), (21, (11, 24, 1, 28, 0, 0, 0, [])), (24, (0, 25, 0, 0, 0, 0, 1, [])), (25, (13, 28, 0, 29, 0, 0, 0, [])), (28, (0, 29, 0, 0, 0, 0, 0, [])), (29, (21, 30, 2, 0, 3, 0, 0, []))]]
set_option maxRecDepth 100000 in
noncomputable def tb174 : List (List (Nat × II)) := [[(0, (1, 1, 0, 2, 0, 0, 0, [])), (1, (1, 2, 1, 0, 0, 0, 0, [])), (2, (1, 3, 2, 0, 0, 0, 0, [])), (3, (0, 4, 0, 0, 0, 0, 1, [])), (4, (4, 5, 1, 0, 0, 0, 0, [])), (5, (20, 8, 173, 1, 0, 1204, 0, [(3, 3), (0, 48), (0, 0), (0, 0)])), (8, (10, 11, 0, 20, 0, 0, 0, [])), (11, (1, 12, 0, 2, 0, 0, 0, [])), (12, (1, 13, 1, 0, 0, 0, 0, [])), (13, (1, 14, 2, 0, 0, 0, 0, [])), (14, (20, 17, 173, 1, 0, 1204, 0, [(3, 3), (0, 48), (0, 0), (0, 0)])), (17, (10, 20, 1, 24, 0, 0, 0, [])), (20, (0, 21, 0, 0, 0, 0, 1, [])), (21, (13, 24, 0, 25, 0, 0, 0, [])), (24, (0, 25, 0, 0, 0, 0, 0, [])), (25, (21, 26, 2, 0, 3, 0, 0, []))]]
set_option maxRecDepth 100000 in
noncomputable def tb175 : List (List (Nat × II)) := [[(0, (1, 1, 2, 0, 0, 0, 0, [])), (1, (0, 2, 0, 0, 0, 0, 0, [])), (2, (1, 3, 0, 2, 0, 0, 0, [])), (3, (15, 6, 2, 8, 30, 1032, 0, [])), (6, (1, 7, 1, 0, 0, 0, 0, [])), (7, (17, 8, 0, 0, 0, 0, 0, [])), (8, (0, 9, 0, 0, 0, 0, 1, [])), (9, (4, 10, 1, 0, 0, 0, 0, [])), (10, (20, 13, 159, 0, 0, 1125, 0, [(3, 3), (0, 0), (0, 0), (0, 0)])), (13, (21, 14, 2, 0, 3, 0, 0, []))]]
set_option maxRecDepth 100000 in
noncomputable def tb176 : List (List (Nat × II)) := [[(0, (1, 1, 2, 0, 0, 0, 0, [])), (1, (0, 2, 0, 0, 0, 0, 0, [])), (2, (1, 3, 0, 2, 0, 0, 0, [])), (3, (15, 6, 4, 8, 30, 1034, 0, [])), (6, (1, 7, 1, 0, 0, 0, 0, [])), (7, (17, 8, 0, 0, 0, 0, 0, [])), (8, (0, 9, 0, 0, 0, 0, 1, [])), (9, (4, 10, 1, 0, 0, 0, 0, [])), (10, (20, 13, 159, 0, 0, 1125, 0, [(3, 3), (0, 0), (0, 0), (0, 0)])), (13, (21, 14, 2, 0, 3, 0, 0, []))]]
set_option maxRecDepth 100000 in
noncomputable def tb177 : List (List (Nat × II)) := [[(0, (1, 1, 2, 0, 0, 0, 0, [])), (1, (0, 2, 0, 0, 0, 0, 0, [])), (2, (1, 3, 0, 2, 0, 0, 0, [])), (3, (15, 6, 4, 8, 30, 1034, 0, [])), (6, (1, 7, 1, 0, 0, 0, 0, [])), (7, (17, 8, 0, 0, 0, 0, 0, [])), (8, (20, 11, 159, 0, 0, 1125, 0, [(3, 3), (0, 0), (0, 0), (0, 0)])), (11, (21, 12, 2, 0, 3, 0, 0, []))]]
set_option maxRecDepth 100000 in
noncomputable def tb178 : List (List (Nat × II)) := [[(0, (1, 1, 0, 2, 0, 0, 0, [])), (1, (15, 4, 7, 8, 30, 1037, 0, [])), (4, (0, 7, 0, 0, 0, 0, 193, [])), (7, (1, 8, 1, 0, 0, 0, 0, [])), (8, (4, 9, 2, 0, 0, 0, 0, [])), (9, (1, 10, 2, 0, 0, 0, 0, [])), (10, (4, 11, 0, 0, 0, 0, 0, [])), (11, (17, 12, 0, 0, 0, 0, 0, [])), (12, (0, 13, 0, 0, 0, 0, 1, [])), (13, (11, 16, 1, 20, 0, 0, 0, [])), (16, (0, 17, 0, 0, 0, 0, 1, [])), (17, (13, 20, 0, 21, 0, 0, 0, [])), (20, (0, 21, 0, 0, 0, 0, 0, [])), (21, (21, 22, 2, 0, 3, 0, 0, []))]]
set_option maxRecDepth 100000 in
noncomputable def tb179 : List (List (Nat × II)) := [[(0, (1, 1, 0, 2, 0, 0, 0, [])), (1, (15, 4, 7, 8, 30, 1037, 0, [])), (4, (0, 7, 0, 0, 0, 0, 193, [])), (7, (1, 8, 1, 0, 0, 0, 0, [])), (8, (4, 9, 2, 0, 0, 0, 0, [])), (9, (0, 11, 0, 0, 0, 0, 6, [])), (11, (4, 12, 0, 0, 0, 0, 0, [])), (12, (0, 14, 0, 0, 0, 0, 10, [])), (14, (1, 15, 3, 0, 0, 0, 0, [])), (15, (4, 16, 2, 0, 0, 0, 0, [])), (16, (4, 17, 0, 0, 0, 0, 0, [])), (17, (1, 18, 2, 0, 0, 0, 0, [])), (18, (4, 19, 0, 0, 0, 0, 0, [])), (19, (17, 20, 0, 0, 0, 0, 0, [])), (20, (21, 21, 1, 0, 0, 0, 0, []))]]
set_option maxRecDepth 100000 in
noncomputable def tb180 : List (List (Nat × II)) := [[(0, (1, 1, 0, 2, 0, 0, 0, [])), (1, (15, 4, 7, 8, 30, 1037, 0, [])), (4, (0, 7, 0, 0, 0, 0, 193, [])), (7, (1, 8, 1, 0, 0, 0, 0, [])), (8, (4, 9, 2, 0, 0, 0, 0, [])), (9, (0, 11, 0, 0, 0, 0, 66, [])), (11, (4, 12, 0, 0, 0, 0, 0, [])), (12, (0, 14, 0, 0, 0, 0, 10, [])), (14, (1, 15, 3, 0, 0, 0, 0, [])), (15, (4, 16, 2, 0, 0, 0, 0, [])), (16, (4, 17, 0, 0, 0, 0, 0, [])), (17, (1, 18, 2, 0, 0, 0, 0, [])), (18, (4, 19, 0, 0, 0, 0, 0, [])), (19, (17, 20, 0, 0, 0, 0, 0, [])), (20, (0, 21, 0, 0, 0, 0, 1, [])), (21, (11, 24, 1, 28, 0, 0, 0, [])), (24, (0, 25, 0, 0, 0, 0, 1, [])), (25, (13, 28, 0, 29, 0, 0, 0, [])), (28, (0, 29, 0, 0, 0, 0, 0, [])), (29, (21, 30, 2, 0, 3, 0, 0, []))]]
set_option maxRecDepth 100000 in
noncomputable def tb181 : List (List (Nat × II)) := [[(0, (1, 1, 0, 2, 0, 0, 0, [])), (1, (15, 4, 7, 8, 30, 1037, 0, [])), (4, (0, 7, 0, 0, 0, 0, 193, [])), (7, (1, 8, 1, 0, 0, 0, 0, [])), (8, (4, 9, 2, 0, 0, 0, 0, [])), (9, (0, 11, 0, 0, 0, 0, 126, [])), (11, (4, 12, 0, 0, 0, 0, 0, [])), (12, (0, 14, 0, 0, 0, 0, 11, [])), (14, (1, 15, 3, 0, 0, 0, 0, [])), (15, (4, 16, 2, 0, 0, 0, 0, [])), (16, (4, 17, 0, 0, 0, 0, 0, [])), (17, (1, 18, 2, 0, 0, 0, 0, [])), (18, (4, 19, 0, 0, 0, 0, 0, [])), (19, (17, 20, 0, 0, 0, 0, 0, [])), (20, (0, 21, 0, 0, 0, 0, 1, [])), (21, (11, 24, 1, 28, 0, 0, 0, [])), (24, (0, 25, 0, 0, 0, 0, 1, [])), (25, (13, 28, 0, 29, 0, 0, 0, [])), (28, (0, 29, 0, 0, 0, 0, 0, [])), (29, (21, 30, 2, 0, 3, 0, 0, []))]]
set_option maxRecDepth 100000 in
noncomputable def tb182 : List (List (Nat × II)) := [[(0, (0, 1, 0, 0, 0, 0, 0, [])), (1, (2, 2, 2, 0, 0, 0, 0, [])), (2, (0, 3, 0, 0, 0, 0, 0, [])), (3, (2, 4, 3, 0, 0, 0, 0, [])), (4, (1, 5, 3, 0, 0, 0, 0, [])), (5, (0, 8, 0, 0, 0, 0, 396, [])), (8, (11, 11, 3, 40, 0, 0, 0, [])), (11, (1, 12, 2, 0, 0, 0, 0, [])), (12, (1, 13, 0, 2, 0, 0, 0, [])), (13, (15, 16, 11, 8, 31, 1041, 0, [])), (16, (0, 19, 0, 0, 0, 0, 396, [])), (19, (1, 20, 1, 0, 0, 0, 0, [])), (20, (4, 21, 2, 0, 0, 0, 0, [])), (21, (1, 22, 3, 0, 0, 0, 0, [])), (22, (4, 23, 0, 0, 0, 0, 0, [])), (23, (17, 24, 1, 0, 0, 0, 0, [])), (24, (10, 27, 0, 31, 0, 0, 0, [])), (27, (0, 28, 0, 0, 0, 0, 1, [])), (28, (13, 31, 0, 32, 0, 0, 0, [])), (31, (0, 32, 0, 0, 0, 0, 0, []))],
  [(32, (4, 33, 0, 0, 0, 0, 0, [])), (33, (2, 34, 2, 0, 0, 0, 0, [])), (34, (3, 37, 3, 0, 0, 0, 1, [])), (37, (13, 40, 0, 4, 0, 0, 0, [])), (40, (1, 41, 2, 0, 0, 0, 0, [])), (41, (21, 42, 1, 0, 0, 0, 0, []))]]
set_option maxRecDepth 100000 in
noncomputable def tb183 : List (List (Nat × II)) := [[(0, (0, 1, 0, 0, 0, 0, 0, [])), (1, (2, 2, 2, 0, 0, 0, 0, [])), (2, (0, 3, 0, 0, 0, 0, 0, [])), (3, (2, 4, 3, 0, 0, 0, 0, [])), (4, (1, 5, 3, 0, 0, 0, 0, [])), (5, (0, 7, 0, 0, 0, 0, 10, [])), (7, (11, 10, 3, 50, 0, 0, 0, [])), (10, (1, 11, 2, 0, 0, 0, 0, [])), (11, (10, 14, 1, 38, 0, 0, 0, [])), (14, (1, 15, 0, 2, 0, 0, 0, [])), (15, (15, 18, 13, 8, 30, 1043, 0, [])), (18, (1, 19, 3, 0, 0, 0, 0, [])), (19, (17, 20, 0, 0, 0, 0, 0, [])), (20, (0, 22, 0, 0, 0, 1029, (-1000000005), [])), (22, (11, 25, 0, 42, 0, 0, 0, [])), (25, (1, 26, 0, 2, 0, 0, 0, [])), (26, (15, 29, 13, 8, 30, 1043, 0, [])), (29, (1, 30, 3, 0, 0, 0, 0, [])), (30, (17, 31, 0, 0, 0, 0, 0, [])), (31, (0, 33, 0, 0, 0, 0, 10, []))],
  [(33, (5, 34, 0, 0, 0, 0, 0, [])), (34, (1, 35, 1, 0, 0, 0, 0, [])), (35, (11, 38, 1, 42, 0, 0, 0, [])), (38, (0, 39, 0, 0, 0, 0, 1, [])), (39, (13, 42, 0, 43, 0, 0, 0, [])), (42, (0, 43, 0, 0, 0, 0, 0, [])), (43, (2, 44, 2, 0, 0, 0, 0, [])), (44, (3, 47, 3, 0, 0, 0, 1, [])), (47, (13, 50, 0, 4, 0, 0, 0, [])), (50, (1, 51, 2, 0, 0, 0, 0, [])), (51, (21, 52, 2, 0, 3, 0, 0, []))]]
set_option maxRecDepth 100000 in
noncomputable def tb184 : List (List (Nat × II)) := [[(0, (0, 1, 0, 0, 0, 0, 0, [])), (1, (2, 2, 3, 0, 0, 0, 0, [])), (2, (1, 3, 3, 0, 0, 0, 0, [])), (3, (0, 5, 0, 0, 0, 0, 6, [])), (5, (11, 8, 3, 56, 0, 0, 0, [])), (8, (1, 9, 0, 2, 0, 0, 0, [])), (9, (15, 12, 7, 8, 30, 1037, 0, [])), (12, (0, 15, 0, 0, 0, 0, 193, [])), (15, (1, 16, 1, 0, 0, 0, 0, [])), (16, (4, 17, 2, 0, 0, 0, 0, [])), (17, (0, 19, 0, 0, 0, 0, 6, [])), (19, (4, 20, 0, 0, 0, 0, 0, [])), (20, (0, 22, 0, 0, 0, 0, 10, [])), (22, (1, 23, 3, 0, 0, 0, 0, [])), (23, (4, 24, 2, 0, 0, 0, 0, [])), (24, (4, 25, 0, 0, 0, 0, 0, [])), (25, (1, 26, 2, 0, 0, 0, 0, [])), (26, (4, 27, 0, 0, 0, 0, 0, [])), (27, (0, 28, 0, 0, 0, 0, (-1), [])), (28, (18, 29, 0, 0, 0, 0, 0, [])), (29, (1, 30, 0, 2, 0, 0, 0, [])), (30, (15, 33, 7, 8, 30, 1037, 0, []))],
  [(33, (0, 36, 0, 0, 0, 0, 193, [])), (36, (1, 37, 1, 0, 0, 0, 0, [])), (37, (4, 38, 2, 0, 0, 0, 0, [])), (38, (0, 40, 0, 0, 0, 0, 66, [])), (40, (4, 41, 0, 0, 0, 0, 0, [])), (41, (0, 43, 0, 0, 0, 0, 10, [])), (43, (1, 44, 3, 0, 0, 0, 0, [])), (44, (4, 45, 2, 0, 0, 0, 0, [])), (45, (4, 46, 0, 0, 0, 0, 0, [])), (46, (1, 47, 2, 0, 0, 0, 0, [])), (47, (4, 48, 0, 0, 0, 0, 0, [])), (48, (0, 49, 0, 0, 0, 0, 0, [])), (49, (18, 50, 0, 0, 0, 0, 0, [])), (50, (3, 53, 3, 0, 0, 0, 1, [])), (53, (13, 56, 0, 2, 0, 0, 0, [])), (56, (21, 57, 0, 0, 9, 0, 0, []))]]
set_option maxRecDepth 100000 in
noncomputable def tb185 : List (List (Nat × II)) := [[(0, (0, 1, 0, 0, 0, 0, 0, [])), (1, (2, 2, 3, 0, 0, 0, 0, [])), (2, (1, 3, 3, 0, 0, 0, 0, [])), (3, (0, 5, 0, 0, 0, 0, 6, [])), (5, (11, 8, 3, 35, 0, 0, 0, [])), (8, (1, 9, 0, 2, 0, 0, 0, [])), (9, (15, 12, 7, 8, 30, 1037, 0, [])), (12, (0, 15, 0, 0, 0, 0, 193, [])), (15, (1, 16, 1, 0, 0, 0, 0, [])), (16, (4, 17, 2, 0, 0, 0, 0, [])), (17, (0, 19, 0, 0, 0, 0, 126, [])), (19, (4, 20, 0, 0, 0, 0, 0, [])), (20, (0, 22, 0, 0, 0, 0, 11, [])), (22, (1, 23, 3, 0, 0, 0, 0, [])), (23, (4, 24, 2, 0, 0, 0, 0, [])), (24, (4, 25, 0, 0, 0, 0, 0, [])), (25, (1, 26, 2, 0, 0, 0, 0, [])), (26, (4, 27, 0, 0, 0, 0, 0, [])), (27, (0, 28, 0, 0, 0, 0, 0, [])), (28, (18, 29, 0, 0, 0, 0, 0, [])), (29, (3, 32, 3, 0, 0, 0, 1, []))],
  [(32, (13, 35, 0, 2, 0, 0, 0, [])), (35, (21, 36, 0, 0, 9, 0, 0, []))]]
set_option maxRecDepth 100000 in
noncomputable def tb186 : List (List (Nat × II)) := [[(0, (0, 1, 0, 0, 0, 0, 0, [])), (1, (2, 2, 2, 0, 0, 0, 0, [])), (2, (1, 3, 2, 0, 0, 0, 0, [])), (3, (1, 4, 0, 2, 0, 0, 0, [])), (4, (15, 7, 4, 8, 30, 1034, 0, [])), (7, (1, 8, 1, 0, 0, 0, 0, [])), (8, (17, 9, 0, 0, 0, 0, 0, [])), (9, (11, 12, 4, 43, 0, 0, 0, [])), (12, (1, 13, 0, 2, 0, 0, 0, [])), (13, (1, 14, 1, 0, 0, 0, 0, [])), (14, (1, 15, 2, 0, 0, 0, 0, [])), (15, (20, 18, 174, 1, 0, 1200, 0, [(3, 3), (0, 48), (0, 0), (0, 0)])), (18, (10, 21, 1, 37, 0, 0, 0, [])), (21, (1, 22, 0, 2, 0, 0, 0, [])), (22, (15, 25, 7, 8, 30, 1037, 0, [])), (25, (0, 28, 0, 0, 0, 0, 193, [])), (28, (1, 29, 1, 0, 0, 0, 0, [])), (29, (4, 30, 2, 0, 0, 0, 0, [])), (30, (0, 32, 0, 0, 0, 0, 126, []))],
  [(32, (4, 33, 0, 0, 0, 0, 0, [])), (33, (1, 34, 2, 0, 0, 0, 0, [])), (34, (4, 35, 0, 0, 0, 0, 0, [])), (35, (0, 36, 0, 0, 0, 0, 0, [])), (36, (18, 37, 0, 0, 0, 0, 0, [])), (37, (3, 40, 2, 0, 0, 0, 1, [])), (40, (13, 43, 0, 2, 0, 0, 0, [])), (43, (21, 44, 0, 0, 9, 0, 0, []))]]
set_option maxRecDepth 100000 in
noncomputable def tb187 : List (List (Nat × II)) := [[(0, (1, 1, 1, 0, 0, 0, 0, [])), (1, (20, 4, 169, 0, 0, 1167, 0, [(1, 1), (0, 0)])), (4, (10, 7, 0, 38, 0, 0, 0, [])), (7, (1, 8, 2, 0, 0, 0, 0, [])), (8, (0, 9, 0, 0, 0, 0, 1, [])), (9, (0, 11, 0, 0, 0, 0, 6, [])), (11, (20, 14, 159, 0, 0, 1125, 0, [(3, 3), (0, 0), (0, 0), (0, 0)])), (14, (10, 17, 0, 38, 0, 0, 0, [])), (17, (1, 18, 3, 0, 0, 0, 0, [])), (18, (0, 19, 0, 0, 0, 0, 1, [])), (19, (0, 21, 0, 0, 0, 0, 20, [])), (21, (20, 24, 159, 0, 0, 1125, 0, [(3, 3), (0, 0), (0, 0), (0, 0)])), (24, (10, 27, 0, 38, 0, 0, 0, [])), (27, (1, 29, 4, 0, 0, 0, 0, [])), (29, (0, 30, 0, 0, 0, 0, 1, [])), (30, (0, 32, 0, 0, 0, 0, 100, []))],
  [(32, (20, 35, 159, 0, 0, 1125, 0, [(3, 3), (0, 0), (0, 0), (0, 0)])), (35, (10, 38, 1, 41, 0, 0, 0, [])), (38, (0, 40, 0, 0, 0, 1129, (-1000000001), [])), (40, (21, 41, 1, 0, 0, 0, 0, [])), (41, (1, 42, 0, 2, 0, 0, 0, [])), (42, (1, 43, 1, 0, 0, 0, 0, [])), (43, (20, 46, 182, 1, 0, 1170, 0, [(4, 2), (0, 48), (0, 0)])), (46, (10, 49, 4, 57, 0, 0, 0, [])), (49, (1, 50, 0, 2, 0, 0, 0, [])), (50, (1, 51, 1, 0, 0, 0, 0, [])), (51, (20, 54, 183, 1, 0, 1174, 0, [(4, 2), (0, 48), (0, 0)])), (54, (10, 57, 0, 60, 0, 0, 0, [])), (57, (0, 59, 0, 0, 0, 1178, (-1000000002), [])), (59, (21, 60, 1, 0, 0, 0, 0, [])), (60, (1, 61, 0, 2, 0, 0, 0, [])), (61, (15, 64, 2, 8, 30, 1032, 0, []))],
  [(64, (1, 65, 1, 0, 0, 0, 0, [])), (65, (1, 66, 2, 0, 0, 0, 0, [])), (66, (18, 67, 0, 0, 0, 0, 0, [])), (67, (1, 68, 0, 2, 0, 0, 0, [])), (68, (15, 71, 3, 8, 30, 1033, 0, [])), (71, (1, 72, 1, 0, 0, 0, 0, [])), (72, (1, 73, 3, 0, 0, 0, 0, [])), (73, (18, 74, 0, 0, 0, 0, 0, [])), (74, (1, 75, 0, 2, 0, 0, 0, [])), (75, (15, 78, 4, 8, 30, 1034, 0, [])), (78, (1, 79, 1, 0, 0, 0, 0, [])), (79, (0, 80, 0, 0, 0, 0, 1, [])), (80, (18, 81, 0, 0, 0, 0, 0, [])), (81, (1, 82, 0, 2, 0, 0, 0, [])), (82, (15, 85, 5, 8, 30, 1035, 0, [])), (85, (0, 87, 0, 0, 0, 0, 10, [])), (87, (1, 88, 1, 0, 0, 0, 0, [])), (88, (4, 89, 2, 0, 0, 0, 0, [])), (89, (0, 90, 0, 0, 0, 0, 0, [])), (90, (18, 91, 0, 0, 0, 0, 0, [])), (91, (1, 92, 0, 2, 0, 0, 0, [])), (92, (15, 95, 6, 8, 30, 1036, 0, [])), (95, (0, 97, 0, 0, 0, 0, 10, []))],
  [(97, (1, 98, 1, 0, 0, 0, 0, [])), (98, (4, 99, 2, 0, 0, 0, 0, [])), (99, (1, 101, 4, 0, 0, 0, 0, [])), (101, (18, 102, 0, 0, 0, 0, 0, [])), (102, (0, 103, 0, 0, 0, 0, 0, [])), (103, (2, 105, 5, 0, 0, 0, 0, [])), (105, (1, 107, 5, 0, 0, 0, 0, [])), (107, (0, 110, 0, 0, 0, 0, 193, [])), (110, (11, 113, 3, 133, 0, 0, 0, [])), (113, (1, 114, 0, 2, 0, 0, 0, [])), (114, (15, 117, 7, 8, 30, 1037, 0, [])), (117, (0, 120, 0, 0, 0, 0, 193, [])), (120, (1, 121, 1, 0, 0, 0, 0, [])), (121, (4, 122, 2, 0, 0, 0, 0, [])), (122, (1, 124, 5, 0, 0, 0, 0, [])), (124, (4, 125, 0, 0, 0, 0, 0, [])), (125, (0, 126, 0, 0, 0, 0, 0, [])), (126, (18, 127, 0, 0, 0, 0, 0, [])), (127, (3, 130, 5, 0, 0, 0, 1, []))],
  [(130, (13, 133, 0, 105, 0, 0, 0, [])), (133, (0, 134, 0, 0, 0, 0, 0, [])), (134, (2, 136, 5, 0, 0, 0, 0, [])), (136, (1, 138, 5, 0, 0, 0, 0, [])), (138, (0, 140, 0, 0, 0, 0, 10, [])), (140, (11, 143, 3, 156, 0, 0, 0, [])), (143, (1, 144, 0, 2, 0, 0, 0, [])), (144, (1, 145, 1, 0, 0, 0, 0, [])), (145, (1, 147, 5, 0, 0, 0, 0, [])), (147, (20, 150, 184, 1, 9, 1179, 0, [(4, 3), (0, 48), (0, 0), (0, 0)])), (150, (3, 153, 5, 0, 0, 0, 1, [])), (153, (13, 156, 0, 136, 0, 0, 0, [])), (156, (0, 157, 0, 0, 0, 0, 0, [])), (157, (2, 159, 5, 0, 0, 0, 0, [])), (159, (1, 161, 5, 0, 0, 0, 0, []))],
  [(161, (0, 163, 0, 0, 0, 0, 6, [])), (163, (11, 166, 3, 186, 0, 0, 0, [])), (166, (1, 167, 0, 2, 0, 0, 0, [])), (167, (15, 170, 12, 8, 30, 1042, 0, [])), (170, (0, 172, 0, 0, 0, 0, 6, [])), (172, (1, 173, 1, 0, 0, 0, 0, [])), (173, (4, 174, 2, 0, 0, 0, 0, [])), (174, (1, 176, 5, 0, 0, 0, 0, [])), (176, (4, 177, 0, 0, 0, 0, 0, [])), (177, (0, 179, 0, 0, 0, 1029, (-1000000005), [])), (179, (18, 180, 0, 0, 0, 0, 0, [])), (180, (3, 183, 5, 0, 0, 0, 1, [])), (183, (13, 186, 0, 159, 0, 0, 0, [])), (186, (1, 187, 0, 2, 0, 0, 0, [])), (187, (0, 188, 0, 0, 0, 0, 0, [])), (188, (16, 191, 10, 8, 0, 1040, 0, [])), (191, (0, 192, 0, 0, 0, 0, 0, []))],
  [(192, (21, 193, 1, 0, 0, 0, 0, []))]]
set_option maxRecDepth 100000 in
noncomputable def tb188 : List (List (Nat × II)) := [[(0, (1, 1, 1, 0, 0, 0, 0, [])), (1, (20, 4, 169, 0, 0, 1167, 0, [(1, 1), (0, 0)])), (4, (10, 7, 0, 26, 0, 0, 0, [])), (7, (1, 8, 2, 0, 0, 0, 0, [])), (8, (0, 9, 0, 0, 0, 0, 0, [])), (9, (0, 10, 0, 0, 0, 0, 4, [])), (10, (20, 13, 159, 0, 0, 1125, 0, [(3, 3), (0, 0), (0, 0), (0, 0)])), (13, (10, 16, 0, 26, 0, 0, 0, [])), (16, (1, 17, 3, 0, 0, 0, 0, [])), (17, (0, 18, 0, 0, 0, 0, 1, [])), (18, (0, 20, 0, 0, 0, 0, 100, [])), (20, (20, 23, 159, 0, 0, 1125, 0, [(3, 3), (0, 0), (0, 0), (0, 0)])), (23, (10, 26, 1, 29, 0, 0, 0, [])), (26, (0, 28, 0, 0, 0, 1129, (-1000000001), [])), (28, (21, 29, 1, 0, 0, 0, 0, [])), (29, (1, 30, 0, 2, 0, 0, 0, [])), (30, (1, 31, 1, 0, 0, 0, 0, [])), (31, (20, 34, 170, 1, 0, 1187, 0, [(2, 2), (0, 48), (0, 0)]))],
  [(34, (10, 37, 1, 45, 0, 0, 0, [])), (37, (1, 38, 0, 2, 0, 0, 0, [])), (38, (1, 39, 1, 0, 0, 0, 0, [])), (39, (20, 42, 182, 1, 0, 1170, 0, [(4, 2), (0, 48), (0, 0)])), (42, (10, 45, 5, 48, 0, 0, 0, [])), (45, (0, 47, 0, 0, 0, 1178, (-1000000002), [])), (47, (21, 48, 1, 0, 0, 0, 0, [])), (48, (1, 49, 0, 2, 0, 0, 0, [])), (49, (15, 52, 4, 8, 30, 1034, 0, [])), (52, (1, 53, 1, 0, 0, 0, 0, [])), (53, (17, 54, 0, 0, 0, 0, 0, [])), (54, (0, 56, 0, 0, 0, 0, 10, [])), (56, (11, 59, 1, 62, 0, 0, 0, [])), (59, (0, 61, 0, 0, 0, 1191, (-1000000003), [])), (61, (21, 62, 1, 0, 0, 0, 0, [])), (62, (1, 63, 0, 2, 0, 0, 0, [])), (63, (15, 66, 4, 8, 30, 1034, 0, []))],
  [(66, (1, 67, 1, 0, 0, 0, 0, [])), (67, (17, 68, 0, 0, 0, 0, 0, [])), (68, (2, 70, 4, 0, 0, 0, 0, [])), (70, (1, 71, 0, 2, 0, 0, 0, [])), (71, (15, 74, 4, 8, 30, 1034, 0, [])), (74, (1, 75, 1, 0, 0, 0, 0, [])), (75, (23, 76, 0, 0, 0, 0, 0, [])), (76, (17, 77, 0, 0, 0, 0, 0, [])), (77, (0, 78, 0, 0, 0, 0, 1, [])), (78, (4, 79, 0, 0, 0, 0, 0, [])), (79, (18, 80, 0, 0, 0, 0, 0, [])), (80, (1, 81, 0, 2, 0, 0, 0, [])), (81, (15, 84, 5, 8, 30, 1035, 0, [])), (84, (0, 86, 0, 0, 0, 0, 10, [])), (86, (1, 87, 1, 0, 0, 0, 0, [])), (87, (4, 88, 2, 0, 0, 0, 0, [])), (88, (1, 90, 4, 0, 0, 0, 0, [])), (90, (4, 91, 0, 0, 0, 0, 0, [])), (91, (1, 92, 2, 0, 0, 0, 0, [])), (92, (18, 93, 0, 0, 0, 0, 0, [])), (93, (1, 94, 0, 2, 0, 0, 0, [])), (94, (15, 97, 6, 8, 30, 1036, 0, []))],
  [(97, (0, 99, 0, 0, 0, 0, 10, [])), (99, (1, 100, 1, 0, 0, 0, 0, [])), (100, (4, 101, 2, 0, 0, 0, 0, [])), (101, (1, 103, 4, 0, 0, 0, 0, [])), (103, (4, 104, 0, 0, 0, 0, 0, [])), (104, (1, 105, 3, 0, 0, 0, 0, [])), (105, (18, 106, 0, 0, 0, 0, 0, [])), (106, (1, 107, 0, 2, 0, 0, 0, [])), (107, (1, 108, 1, 0, 0, 0, 0, [])), (108, (1, 110, 4, 0, 0, 0, 0, [])), (110, (20, 113, 184, 1, 9, 1179, 0, [(4, 3), (0, 48), (0, 0), (0, 0)])), (113, (1, 114, 0, 2, 0, 0, 0, [])), (114, (1, 115, 1, 0, 0, 0, 0, [])), (115, (1, 117, 4, 0, 0, 0, 0, [])), (117, (0, 118, 0, 0, 0, 0, 1, [])), (118, (4, 119, 0, 0, 0, 0, 0, [])), (119, (20, 122, 185, 1, 9, 1192, 0, [(4, 3), (0, 48), (0, 0), (0, 0)])), (122, (1, 123, 0, 2, 0, 0, 0, [])), (123, (1, 124, 1, 0, 0, 0, 0, [])), (124, (20, 127, 186, 1, 9, 1196, 0, [(3, 2), (0, 48), (0, 0)])), (127, (1, 128, 0, 2, 0, 0, 0, []))],
  [(128, (0, 129, 0, 0, 0, 0, 0, [])), (129, (16, 132, 10, 8, 0, 1040, 0, [])), (132, (1, 134, 4, 0, 0, 0, 0, [])), (134, (21, 135, 1, 0, 0, 0, 0, []))]]
set_option maxRecDepth 100000 in
noncomputable def tb189 : List (List (Nat × II)) := [[(0, (1, 1, 1, 0, 0, 0, 0, [])), (1, (20, 4, 169, 0, 0, 1167, 0, [(1, 1), (0, 0)])), (4, (10, 7, 1, 10, 0, 0, 0, [])), (7, (0, 9, 0, 0, 0, 1129, (-1000000001), [])), (9, (21, 10, 1, 0, 0, 0, 0, [])), (10, (1, 11, 0, 2, 0, 0, 0, [])), (11, (15, 14, 4, 8, 30, 1034, 0, [])), (14, (1, 15, 1, 0, 0, 0, 0, [])), (15, (17, 16, 0, 0, 0, 0, 0, [])), (16, (0, 17, 0, 0, 0, 0, 2, [])), (17, (11, 20, 2, 28, 0, 0, 0, [])), (20, (1, 21, 0, 2, 0, 0, 0, [])), (21, (1, 22, 1, 0, 0, 0, 0, [])), (22, (20, 25, 182, 1, 0, 1170, 0, [(4, 2), (0, 48), (0, 0)])), (25, (10, 28, 5, 31, 0, 0, 0, [])), (28, (0, 30, 0, 0, 0, 1178, (-1000000002), [])), (30, (21, 31, 1, 0, 0, 0, 0, [])), (31, (1, 32, 0, 2, 0, 0, 0, []))],
  [(32, (15, 35, 4, 8, 30, 1034, 0, [])), (35, (1, 36, 1, 0, 0, 0, 0, [])), (36, (17, 37, 0, 0, 0, 0, 0, [])), (37, (0, 38, 0, 0, 0, 0, 1, [])), (38, (4, 39, 1, 0, 0, 0, 0, [])), (39, (2, 40, 2, 0, 0, 0, 0, [])), (40, (1, 41, 0, 2, 0, 0, 0, [])), (41, (1, 42, 1, 0, 0, 0, 0, [])), (42, (1, 43, 2, 0, 0, 0, 0, [])), (43, (20, 46, 172, 1, 0, 1216, 0, [(3, 3), (0, 48), (0, 0), (0, 0)])), (46, (2, 47, 3, 0, 0, 0, 0, [])), (47, (1, 48, 0, 2, 0, 0, 0, [])), (48, (1, 49, 1, 0, 0, 0, 0, [])), (49, (1, 50, 2, 0, 0, 0, 0, [])), (50, (20, 53, 184, 1, 9, 1179, 0, [(4, 3), (0, 48), (0, 0), (0, 0)])), (53, (1, 54, 0, 2, 0, 0, 0, [])), (54, (1, 55, 1, 0, 0, 0, 0, [])), (55, (1, 56, 2, 0, 0, 0, 0, [])), (56, (0, 57, 0, 0, 0, 0, 1, [])), (57, (4, 58, 0, 0, 0, 0, 0, [])), (58, (20, 61, 185, 1, 9, 1192, 0, [(4, 3), (0, 48), (0, 0), (0, 0)])), (61, (1, 62, 0, 2, 0, 0, 0, [])), (62, (15, 65, 4, 8, 30, 1034, 0, []))],
  [(65, (1, 66, 1, 0, 0, 0, 0, [])), (66, (23, 67, 0, 0, 0, 0, 0, [])), (67, (17, 68, 0, 0, 0, 0, 0, [])), (68, (0, 69, 0, 0, 0, 0, 1, [])), (69, (4, 70, 1, 0, 0, 0, 0, [])), (70, (18, 71, 0, 0, 0, 0, 0, [])), (71, (1, 72, 0, 2, 0, 0, 0, [])), (72, (1, 73, 1, 0, 0, 0, 0, [])), (73, (20, 76, 186, 1, 9, 1196, 0, [(3, 2), (0, 48), (0, 0)])), (76, (1, 77, 0, 2, 0, 0, 0, [])), (77, (0, 78, 0, 0, 0, 0, 0, [])), (78, (16, 81, 10, 8, 0, 1040, 0, [])), (81, (1, 82, 3, 0, 0, 0, 0, [])), (82, (21, 83, 1, 0, 0, 0, 0, []))]]
set_option maxRecDepth 100000 in
noncomputable def tb190 : List (List (Nat × II)) := [[(0, (1, 1, 0, 2, 0, 0, 0, [])), (1, (15, 4, 10, 8, 0, 1040, 0, [])), (4, (0, 5, 0, 0, 0, 0, 5, [])), (5, (11, 8, 1, 49, 0, 0, 0, [])), (8, (0, 9, 0, 0, 0, 0, 0, [])), (9, (2, 10, 1, 0, 0, 0, 0, [])), (10, (1, 11, 1, 0, 0, 0, 0, [])), (11, (0, 14, 0, 0, 0, 0, 2316, [])), (14, (11, 17, 3, 39, 0, 0, 0, [])), (17, (1, 18, 0, 2, 0, 0, 0, [])), (18, (15, 21, 8, 8, 30, 1038, 0, [])), (21, (1, 22, 1, 0, 0, 0, 0, [])), (22, (1, 23, 0, 2, 0, 0, 0, [])), (23, (15, 26, 8, 8, 30, 1038, 0, [])), (26, (1, 27, 1, 0, 0, 0, 0, [])), (27, (0, 30, 0, 0, 0, 0, 579, [])), (30, (4, 31, 0, 0, 0, 0, 0, [])), (31, (17, 32, 0, 0, 0, 0, 0, []))],
  [(32, (18, 33, 0, 0, 0, 0, 0, [])), (33, (3, 36, 1, 0, 0, 0, 1, [])), (36, (13, 39, 0, 10, 0, 0, 0, [])), (39, (1, 40, 0, 2, 0, 0, 0, [])), (40, (22, 41, 0, 0, 0, 0, 0, [])), (41, (15, 44, 10, 8, 0, 1040, 0, [])), (44, (0, 45, 0, 0, 0, 0, 1, [])), (45, (4, 46, 1, 0, 0, 0, 0, [])), (46, (16, 49, 10, 8, 0, 1040, 0, [])), (49, (0, 50, 0, 0, 0, 0, 0, [])), (50, (2, 51, 1, 0, 0, 0, 0, [])), (51, (1, 52, 1, 0, 0, 0, 0, [])), (52, (0, 55, 0, 0, 0, 0, 579, [])), (55, (11, 58, 3, 85, 0, 0, 0, [])), (58, (1, 59, 0, 2, 0, 0, 0, [])), (59, (15, 62, 8, 8, 30, 1038, 0, [])), (62, (0, 65, 0, 0, 0, 0, 579, []))],
  [(65, (1, 66, 0, 2, 0, 0, 0, [])), (66, (15, 69, 10, 8, 0, 1040, 0, [])), (69, (4, 70, 2, 0, 0, 0, 0, [])), (70, (1, 71, 1, 0, 0, 0, 0, [])), (71, (4, 72, 0, 0, 0, 0, 0, [])), (72, (1, 73, 0, 2, 0, 0, 0, [])), (73, (15, 76, 7, 8, 30, 1037, 0, [])), (76, (1, 77, 1, 0, 0, 0, 0, [])), (77, (17, 78, 0, 0, 0, 0, 0, [])), (78, (18, 79, 0, 0, 0, 0, 0, [])), (79, (3, 82, 1, 0, 0, 0, 1, [])), (82, (13, 85, 0, 51, 0, 0, 0, [])), (85, (1, 86, 0, 2, 0, 0, 0, [])), (86, (22, 87, 0, 0, 0, 0, 0, [])), (87, (15, 90, 10, 8, 0, 1040, 0, [])), (90, (0, 91, 0, 0, 0, 0, 1, [])), (91, (4, 92, 0, 0, 0, 0, 0, [])), (92, (16, 95, 10, 8, 0, 1040, 0, [])), (95, (21, 96, 0, 0, 9, 0, 0, []))]]
set_option maxRecDepth 100000 in
noncomputable def tb191 : List (List (Nat × II)) := [[(0, (1, 1, 1, 0, 0, 0, 0, [])), (1, (20, 4, 169, 0, 0, 1167, 0, [(1, 1), (0, 0)])), (4, (10, 7, 1, 10, 0, 0, 0, [])), (7, (0, 9, 0, 0, 0, 1129, (-1000000001), [])), (9, (21, 10, 1, 0, 0, 0, 0, [])), (10, (1, 11, 0, 2, 0, 0, 0, [])), (11, (1, 12, 1, 0, 0, 0, 0, [])), (12, (20, 15, 170, 1, 0, 1187, 0, [(2, 2), (0, 48), (0, 0)])), (15, (10, 18, 0, 21, 0, 0, 0, [])), (18, (0, 20, 0, 0, 0, 1178, (-1000000002), [])), (20, (21, 21, 1, 0, 0, 0, 0, [])), (21, (1, 22, 0, 2, 0, 0, 0, [])), (22, (1, 23, 1, 0, 0, 0, 0, [])), (23, (1, 24, 2, 0, 0, 0, 0, [])), (24, (20, 27, 175, 1, 0, 1224, 0, [(3, 3), (0, 48), (0, 0), (0, 0)])), (27, (10, 30, 1, 33, 0, 0, 0, [])), (30, (0, 32, 0, 0, 0, 1228, (-1000000013), []))],
  [(32, (21, 33, 1, 0, 0, 0, 0, [])), (33, (1, 34, 0, 2, 0, 0, 0, [])), (34, (20, 37, 190, 1, 9, 1229, 0, [(2, 1), (0, 48)])), (37, (1, 38, 0, 2, 0, 0, 0, [])), (38, (15, 41, 7, 8, 30, 1037, 0, [])), (41, (0, 44, 0, 0, 0, 0, 193, [])), (44, (1, 45, 1, 0, 0, 0, 0, [])), (45, (4, 46, 2, 0, 0, 0, 0, [])), (46, (1, 47, 2, 0, 0, 0, 0, [])), (47, (4, 48, 0, 0, 0, 0, 0, [])), (48, (17, 49, 0, 0, 0, 0, 0, [])), (49, (2, 50, 3, 0, 0, 0, 0, [])), (50, (1, 51, 0, 2, 0, 0, 0, [])), (51, (15, 54, 7, 8, 30, 1037, 0, [])), (54, (0, 57, 0, 0, 0, 0, 193, [])), (57, (1, 58, 1, 0, 0, 0, 0, [])), (58, (4, 59, 2, 0, 0, 0, 0, [])), (59, (1, 60, 2, 0, 0, 0, 0, [])), (60, (4, 61, 0, 0, 0, 0, 0, [])), (61, (0, 62, 0, 0, 0, 0, 1, [])), (62, (18, 63, 0, 0, 0, 0, 0, [])), (63, (0, 64, 0, 0, 0, 0, 1, []))],
  [(64, (1, 65, 3, 0, 0, 0, 0, [])), (65, (4, 66, 1, 0, 0, 0, 0, [])), (66, (21, 67, 1, 0, 0, 0, 0, []))]]
set_option maxRecDepth 100000 in
noncomputable def tb192 : List (List (Nat × II)) := [[(0, (1, 1, 1, 0, 0, 0, 0, [])), (1, (20, 4, 169, 0, 0, 1167, 0, [(1, 1), (0, 0)])), (4, (10, 7, 1, 10, 0, 0, 0, [])), (7, (0, 9, 0, 0, 0, 1129, (-1000000001), [])), (9, (21, 10, 1, 0, 0, 0, 0, [])), (10, (1, 11, 0, 2, 0, 0, 0, [])), (11, (1, 12, 1, 0, 0, 0, 0, [])), (12, (20, 15, 170, 1, 0, 1187, 0, [(2, 2), (0, 48), (0, 0)])), (15, (10, 18, 0, 21, 0, 0, 0, [])), (18, (0, 20, 0, 0, 0, 1178, (-1000000002), [])), (20, (21, 21, 1, 0, 0, 0, 0, [])), (21, (1, 22, 0, 2, 0, 0, 0, [])), (22, (1, 23, 1, 0, 0, 0, 0, [])), (23, (1, 24, 2, 0, 0, 0, 0, [])), (24, (20, 27, 175, 1, 0, 1224, 0, [(3, 3), (0, 48), (0, 0), (0, 0)])), (27, (10, 30, 1, 33, 0, 0, 0, [])), (30, (0, 32, 0, 0, 0, 1228, (-1000000013), []))],
  [(32, (21, 33, 1, 0, 0, 0, 0, [])), (33, (1, 34, 0, 2, 0, 0, 0, [])), (34, (1, 35, 1, 0, 0, 0, 0, [])), (35, (1, 36, 2, 0, 0, 0, 0, [])), (36, (20, 39, 178, 1, 0, 1237, 0, [(3, 3), (0, 48), (0, 0), (0, 0)])), (39, (10, 42, 1, 45, 0, 0, 0, [])), (42, (0, 44, 0, 0, 0, 1241, (-1000000011), [])), (44, (21, 45, 1, 0, 0, 0, 0, [])), (45, (0, 46, 0, 0, 0, 0, 0, [])), (46, (2, 47, 3, 0, 0, 0, 0, [])), (47, (0, 48, 0, 0, 0, 0, 0, [])), (48, (2, 50, 4, 0, 0, 0, 0, [])), (50, (1, 52, 4, 0, 0, 0, 0, [])), (52, (1, 53, 0, 2, 0, 0, 0, [])), (53, (15, 56, 4, 8, 30, 1034, 0, [])), (56, (1, 57, 1, 0, 0, 0, 0, [])), (57, (17, 58, 0, 0, 0, 0, 0, [])), (58, (11, 61, 3, 114, 0, 0, 0, [])), (61, (1, 62, 3, 0, 0, 0, 0, [])), (62, (1, 63, 0, 2, 0, 0, 0, [])), (63, (1, 64, 1, 0, 0, 0, 0, []))],
  [(64, (1, 66, 4, 0, 0, 0, 0, [])), (66, (1, 67, 2, 0, 0, 0, 0, [])), (67, (20, 70, 179, 1, 0, 1242, 0, [(4, 4), (0, 48), (0, 0), (0, 0), (0, 0)])), (70, (10, 73, 2, 77, 0, 0, 0, [])), (73, (0, 74, 0, 0, 0, 0, 1, [])), (74, (13, 77, 0, 78, 0, 0, 0, [])), (77, (0, 78, 0, 0, 0, 0, 0, [])), (78, (4, 79, 0, 0, 0, 0, 0, [])), (79, (2, 80, 3, 0, 0, 0, 0, [])), (80, (1, 81, 0, 2, 0, 0, 0, [])), (81, (15, 84, 11, 8, 31, 1041, 0, [])), (84, (0, 87, 0, 0, 0, 0, 396, [])), (87, (1, 88, 1, 0, 0, 0, 0, [])), (88, (4, 89, 2, 0, 0, 0, 0, [])), (89, (0, 92, 0, 0, 0, 0, 198, [])), (92, (4, 93, 0, 0, 0, 0, 0, [])), (93, (0, 95, 0, 0, 0, 0, 11, [])), (95, (1, 96, 2, 0, 0, 0, 0, []))],
  [(96, (4, 97, 2, 0, 0, 0, 0, [])), (97, (4, 98, 0, 0, 0, 0, 0, [])), (98, (1, 100, 4, 0, 0, 0, 0, [])), (100, (4, 101, 0, 0, 0, 0, 0, [])), (101, (17, 102, 1, 0, 0, 0, 0, [])), (102, (10, 105, 0, 108, 0, 0, 0, [])), (105, (0, 107, 0, 0, 0, 1178, (-1000000002), [])), (107, (21, 108, 1, 0, 0, 0, 0, [])), (108, (3, 111, 4, 0, 0, 0, 1, [])), (111, (13, 114, 0, 50, 0, 0, 0, [])), (114, (1, 115, 0, 2, 0, 0, 0, [])), (115, (20, 118, 190, 1, 9, 1229, 0, [(2, 1), (0, 48)])), (118, (1, 119, 0, 2, 0, 0, 0, [])), (119, (15, 122, 7, 8, 30, 1037, 0, [])), (122, (0, 125, 0, 0, 0, 0, 193, [])), (125, (1, 126, 1, 0, 0, 0, 0, [])), (126, (4, 127, 2, 0, 0, 0, 0, [])), (127, (1, 128, 2, 0, 0, 0, 0, []))],
  [(128, (4, 129, 0, 0, 0, 0, 0, [])), (129, (0, 130, 0, 0, 0, 0, 0, [])), (130, (18, 131, 0, 0, 0, 0, 0, [])), (131, (0, 132, 0, 0, 0, 0, 0, [])), (132, (2, 134, 4, 0, 0, 0, 0, [])), (134, (1, 136, 4, 0, 0, 0, 0, [])), (136, (0, 138, 0, 0, 0, 0, 10, [])), (138, (11, 141, 3, 169, 0, 0, 0, [])), (141, (1, 142, 0, 2, 0, 0, 0, [])), (142, (15, 145, 7, 8, 30, 1037, 0, [])), (145, (0, 148, 0, 0, 0, 0, 193, [])), (148, (1, 149, 1, 0, 0, 0, 0, [])), (149, (4, 150, 2, 0, 0, 0, 0, [])), (150, (0, 152, 0, 0, 0, 0, 6, [])), (152, (4, 153, 0, 0, 0, 0, 0, [])), (153, (0, 155, 0, 0, 0, 0, 10, [])), (155, (1, 156, 2, 0, 0, 0, 0, [])), (156, (4, 157, 2, 0, 0, 0, 0, [])), (157, (4, 158, 0, 0, 0, 0, 0, [])), (158, (1, 160, 4, 0, 0, 0, 0, []))],
  [(160, (4, 161, 0, 0, 0, 0, 0, [])), (161, (0, 162, 0, 0, 0, 0, (-1), [])), (162, (18, 163, 0, 0, 0, 0, 0, [])), (163, (3, 166, 4, 0, 0, 0, 1, [])), (166, (13, 169, 0, 134, 0, 0, 0, [])), (169, (1, 170, 3, 0, 0, 0, 0, [])), (170, (21, 171, 1, 0, 0, 0, 0, []))]]
set_option maxRecDepth 100000 in
noncomputable def tb193 : List (List (Nat × II)) := [[(0, (1, 1, 1, 0, 0, 0, 0, [])), (1, (20, 4, 169, 0, 0, 1167, 0, [(1, 1), (0, 0)])), (4, (10, 7, 0, 18, 0, 0, 0, [])), (7, (1, 9, 4, 0, 0, 0, 0, [])), (9, (0, 10, 0, 0, 0, 0, (-1), [])), (10, (0, 12, 0, 0, 0, 0, 6, [])), (12, (20, 15, 159, 0, 0, 1125, 0, [(3, 3), (0, 0), (0, 0), (0, 0)])), (15, (10, 18, 1, 21, 0, 0, 0, [])), (18, (0, 20, 0, 0, 0, 1129, (-1000000001), [])), (20, (21, 21, 1, 0, 0, 0, 0, [])), (21, (1, 22, 0, 2, 0, 0, 0, [])), (22, (1, 23, 1, 0, 0, 0, 0, [])), (23, (20, 26, 170, 1, 0, 1187, 0, [(2, 2), (0, 48), (0, 0)])), (26, (10, 29, 0, 32, 0, 0, 0, [])), (29, (0, 31, 0, 0, 0, 1178, (-1000000002), [])), (31, (21, 32, 1, 0, 0, 0, 0, []))],
  [(32, (1, 33, 0, 2, 0, 0, 0, [])), (33, (1, 34, 1, 0, 0, 0, 0, [])), (34, (1, 35, 3, 0, 0, 0, 0, [])), (35, (20, 38, 175, 1, 0, 1224, 0, [(3, 3), (0, 48), (0, 0), (0, 0)])), (38, (10, 41, 1, 44, 0, 0, 0, [])), (41, (0, 43, 0, 0, 0, 1228, (-1000000013), [])), (43, (21, 44, 1, 0, 0, 0, 0, [])), (44, (1, 45, 0, 2, 0, 0, 0, [])), (45, (1, 46, 1, 0, 0, 0, 0, [])), (46, (1, 47, 3, 0, 0, 0, 0, [])), (47, (20, 50, 178, 1, 0, 1237, 0, [(3, 3), (0, 48), (0, 0), (0, 0)])), (50, (10, 53, 1, 56, 0, 0, 0, [])), (53, (0, 55, 0, 0, 0, 1241, (-1000000011), [])), (55, (21, 56, 1, 0, 0, 0, 0, [])), (56, (1, 57, 0, 2, 0, 0, 0, [])), (57, (1, 58, 1, 0, 0, 0, 0, [])), (58, (1, 59, 2, 0, 0, 0, 0, [])), (59, (20, 62, 176, 1, 0, 1250, 0, [(3, 3), (0, 48), (0, 0), (0, 0)])), (62, (10, 65, 1, 68, 0, 0, 0, []))],
  [(65, (0, 67, 0, 0, 0, 1228, (-1000000013), [])), (67, (21, 68, 1, 0, 0, 0, 0, [])), (68, (1, 69, 3, 0, 0, 0, 0, [])), (69, (10, 72, 1, 81, 0, 0, 0, [])), (72, (1, 73, 0, 2, 0, 0, 0, [])), (73, (1, 74, 1, 0, 0, 0, 0, [])), (74, (1, 75, 2, 0, 0, 0, 0, [])), (75, (20, 78, 173, 1, 0, 1204, 0, [(3, 3), (0, 48), (0, 0), (0, 0)])), (78, (10, 81, 1, 105, 0, 0, 0, [])), (81, (1, 82, 0, 2, 0, 0, 0, [])), (82, (15, 85, 11, 8, 31, 1041, 0, [])), (85, (0, 88, 0, 0, 0, 0, 396, [])), (88, (1, 89, 1, 0, 0, 0, 0, [])), (89, (4, 90, 2, 0, 0, 0, 0, [])), (90, (0, 93, 0, 0, 0, 0, 198, [])), (93, (4, 94, 0, 0, 0, 0, 0, [])), (94, (0, 96, 0, 0, 0, 0, 11, []))],
  [(96, (1, 97, 3, 0, 0, 0, 0, [])), (97, (4, 98, 2, 0, 0, 0, 0, [])), (98, (4, 99, 0, 0, 0, 0, 0, [])), (99, (1, 100, 2, 0, 0, 0, 0, [])), (100, (4, 101, 0, 0, 0, 0, 0, [])), (101, (17, 102, 1, 0, 0, 0, 0, [])), (102, (10, 105, 0, 108, 0, 0, 0, [])), (105, (0, 107, 0, 0, 0, 1178, (-1000000002), [])), (107, (21, 108, 1, 0, 0, 0, 0, [])), (108, (1, 109, 0, 2, 0, 0, 0, [])), (109, (20, 112, 190, 1, 9, 1229, 0, [(2, 1), (0, 48)])), (112, (1, 113, 0, 2, 0, 0, 0, [])), (113, (1, 114, 1, 0, 0, 0, 0, [])), (114, (1, 115, 2, 0, 0, 0, 0, [])), (115, (1, 116, 3, 0, 0, 0, 0, [])), (116, (20, 119, 179, 1, 0, 1242, 0, [(4, 4), (0, 48), (0, 0), (0, 0), (0, 0)])), (119, (2, 121, 5, 0, 0, 0, 0, [])), (121, (1, 122, 0, 2, 0, 0, 0, [])), (122, (15, 125, 7, 8, 30, 1037, 0, [])), (125, (0, 128, 0, 0, 0, 0, 193, []))],
  [(128, (1, 129, 1, 0, 0, 0, 0, [])), (129, (4, 130, 2, 0, 0, 0, 0, [])), (130, (0, 132, 0, 0, 0, 0, 6, [])), (132, (4, 133, 0, 0, 0, 0, 0, [])), (133, (0, 135, 0, 0, 0, 0, 10, [])), (135, (1, 136, 3, 0, 0, 0, 0, [])), (136, (4, 137, 2, 0, 0, 0, 0, [])), (137, (4, 138, 0, 0, 0, 0, 0, [])), (138, (1, 139, 2, 0, 0, 0, 0, [])), (139, (4, 140, 0, 0, 0, 0, 0, [])), (140, (1, 142, 4, 0, 0, 0, 0, [])), (142, (18, 143, 0, 0, 0, 0, 0, [])), (143, (1, 145, 5, 0, 0, 0, 0, [])), (145, (21, 146, 1, 0, 0, 0, 0, []))]]
set_option maxRecDepth 100000 in
noncomputable def tb194 : List (List (Nat × II)) := [[(0, (1, 1, 1, 0, 0, 0, 0, [])), (1, (20, 4, 169, 0, 0, 1167, 0, [(1, 1), (0, 0)])), (4, (10, 7, 0, 17, 0, 0, 0, [])), (7, (1, 9, 4, 0, 0, 0, 0, [])), (9, (0, 10, 0, 0, 0, 0, 0, [])), (10, (0, 11, 0, 0, 0, 0, 1, [])), (11, (20, 14, 159, 0, 0, 1125, 0, [(3, 3), (0, 0), (0, 0), (0, 0)])), (14, (10, 17, 1, 20, 0, 0, 0, [])), (17, (0, 19, 0, 0, 0, 1129, (-1000000001), [])), (19, (21, 20, 1, 0, 0, 0, 0, [])), (20, (1, 21, 0, 2, 0, 0, 0, [])), (21, (1, 22, 1, 0, 0, 0, 0, [])), (22, (20, 25, 170, 1, 0, 1187, 0, [(2, 2), (0, 48), (0, 0)])), (25, (10, 28, 0, 31, 0, 0, 0, [])), (28, (0, 30, 0, 0, 0, 1178, (-1000000002), [])), (30, (21, 31, 1, 0, 0, 0, 0, [])), (31, (1, 32, 0, 2, 0, 0, 0, []))],
  [(32, (1, 33, 1, 0, 0, 0, 0, [])), (33, (1, 34, 3, 0, 0, 0, 0, [])), (34, (20, 37, 175, 1, 0, 1224, 0, [(3, 3), (0, 48), (0, 0), (0, 0)])), (37, (10, 40, 0, 49, 0, 0, 0, [])), (40, (1, 41, 0, 2, 0, 0, 0, [])), (41, (1, 42, 1, 0, 0, 0, 0, [])), (42, (1, 43, 2, 0, 0, 0, 0, [])), (43, (20, 46, 176, 1, 0, 1250, 0, [(3, 3), (0, 48), (0, 0), (0, 0)])), (46, (10, 49, 1, 52, 0, 0, 0, [])), (49, (0, 51, 0, 0, 0, 1228, (-1000000013), [])), (51, (21, 52, 1, 0, 0, 0, 0, [])), (52, (1, 53, 3, 0, 0, 0, 0, [])), (53, (10, 56, 1, 65, 0, 0, 0, [])), (56, (1, 57, 0, 2, 0, 0, 0, [])), (57, (1, 58, 1, 0, 0, 0, 0, [])), (58, (1, 59, 2, 0, 0, 0, 0, [])), (59, (20, 62, 173, 1, 0, 1204, 0, [(3, 3), (0, 48), (0, 0), (0, 0)])), (62, (10, 65, 1, 89, 0, 0, 0, []))],
  [(65, (1, 66, 0, 2, 0, 0, 0, [])), (66, (15, 69, 11, 8, 31, 1041, 0, [])), (69, (0, 72, 0, 0, 0, 0, 396, [])), (72, (1, 73, 1, 0, 0, 0, 0, [])), (73, (4, 74, 2, 0, 0, 0, 0, [])), (74, (0, 77, 0, 0, 0, 0, 132, [])), (77, (4, 78, 0, 0, 0, 0, 0, [])), (78, (0, 80, 0, 0, 0, 0, 11, [])), (80, (1, 81, 3, 0, 0, 0, 0, [])), (81, (4, 82, 2, 0, 0, 0, 0, [])), (82, (4, 83, 0, 0, 0, 0, 0, [])), (83, (1, 84, 2, 0, 0, 0, 0, [])), (84, (4, 85, 0, 0, 0, 0, 0, [])), (85, (17, 86, 1, 0, 0, 0, 0, [])), (86, (10, 89, 0, 92, 0, 0, 0, [])), (89, (0, 91, 0, 0, 0, 1178, (-1000000002), [])), (91, (21, 92, 1, 0, 0, 0, 0, [])), (92, (1, 93, 0, 2, 0, 0, 0, [])), (93, (20, 96, 190, 1, 9, 1229, 0, [(2, 1), (0, 48)]))],
  [(96, (1, 97, 0, 2, 0, 0, 0, [])), (97, (1, 98, 1, 0, 0, 0, 0, [])), (98, (1, 99, 2, 0, 0, 0, 0, [])), (99, (1, 100, 3, 0, 0, 0, 0, [])), (100, (20, 103, 180, 1, 0, 1258, 0, [(4, 4), (0, 48), (0, 0), (0, 0), (0, 0)])), (103, (10, 106, 0, 110, 0, 0, 0, [])), (106, (0, 107, 0, 0, 0, 0, 1, [])), (107, (13, 110, 0, 111, 0, 0, 0, [])), (110, (0, 111, 0, 0, 0, 0, 0, [])), (111, (2, 113, 5, 0, 0, 0, 0, [])), (113, (1, 114, 0, 2, 0, 0, 0, [])), (114, (15, 117, 7, 8, 30, 1037, 0, [])), (117, (0, 120, 0, 0, 0, 0, 193, [])), (120, (1, 121, 1, 0, 0, 0, 0, [])), (121, (4, 122, 2, 0, 0, 0, 0, [])), (122, (0, 124, 0, 0, 0, 0, 66, [])), (124, (4, 125, 0, 0, 0, 0, 0, [])), (125, (0, 127, 0, 0, 0, 0, 10, [])), (127, (1, 128, 3, 0, 0, 0, 0, []))],
  [(128, (4, 129, 2, 0, 0, 0, 0, [])), (129, (4, 130, 0, 0, 0, 0, 0, [])), (130, (1, 131, 2, 0, 0, 0, 0, [])), (131, (4, 132, 0, 0, 0, 0, 0, [])), (132, (1, 134, 4, 0, 0, 0, 0, [])), (134, (18, 135, 0, 0, 0, 0, 0, [])), (135, (1, 137, 5, 0, 0, 0, 0, [])), (137, (21, 138, 1, 0, 0, 0, 0, []))]]
set_option maxRecDepth 100000 in
noncomputable def tb195 : List (List (Nat × II)) := [[(0, (1, 1, 1, 0, 0, 0, 0, [])), (1, (20, 4, 169, 0, 0, 1167, 0, [(1, 1), (0, 0)])), (4, (10, 7, 0, 17, 0, 0, 0, [])), (7, (1, 9, 4, 0, 0, 0, 0, [])), (9, (0, 10, 0, 0, 0, 0, 0, [])), (10, (0, 11, 0, 0, 0, 0, 1, [])), (11, (20, 14, 159, 0, 0, 1125, 0, [(3, 3), (0, 0), (0, 0), (0, 0)])), (14, (10, 17, 1, 20, 0, 0, 0, [])), (17, (0, 19, 0, 0, 0, 1129, (-1000000001), [])), (19, (21, 20, 1, 0, 0, 0, 0, [])), (20, (1, 21, 0, 2, 0, 0, 0, [])), (21, (1, 22, 1, 0, 0, 0, 0, [])), (22, (20, 25, 170, 1, 0, 1187, 0, [(2, 2), (0, 48), (0, 0)])), (25, (10, 28, 0, 31, 0, 0, 0, [])), (28, (0, 30, 0, 0, 0, 1178, (-1000000002), [])), (30, (21, 31, 1, 0, 0, 0, 0, [])), (31, (1, 32, 0, 2, 0, 0, 0, []))],
  [(32, (1, 33, 1, 0, 0, 0, 0, [])), (33, (1, 34, 3, 0, 0, 0, 0, [])), (34, (20, 37, 175, 1, 0, 1224, 0, [(3, 3), (0, 48), (0, 0), (0, 0)])), (37, (10, 40, 0, 49, 0, 0, 0, [])), (40, (1, 41, 0, 2, 0, 0, 0, [])), (41, (1, 42, 1, 0, 0, 0, 0, [])), (42, (1, 43, 2, 0, 0, 0, 0, [])), (43, (20, 46, 177, 1, 0, 1266, 0, [(3, 3), (0, 48), (0, 0), (0, 0)])), (46, (10, 49, 1, 52, 0, 0, 0, [])), (49, (0, 51, 0, 0, 0, 1228, (-1000000013), [])), (51, (21, 52, 1, 0, 0, 0, 0, [])), (52, (1, 53, 3, 0, 0, 0, 0, [])), (53, (10, 56, 1, 65, 0, 0, 0, [])), (56, (1, 57, 0, 2, 0, 0, 0, [])), (57, (1, 58, 1, 0, 0, 0, 0, [])), (58, (1, 59, 2, 0, 0, 0, 0, [])), (59, (20, 62, 174, 1, 0, 1200, 0, [(3, 3), (0, 48), (0, 0), (0, 0)])), (62, (10, 65, 0, 89, 0, 0, 0, []))],
  [(65, (1, 66, 0, 2, 0, 0, 0, [])), (66, (15, 69, 11, 8, 31, 1041, 0, [])), (69, (0, 72, 0, 0, 0, 0, 396, [])), (72, (1, 73, 1, 0, 0, 0, 0, [])), (73, (4, 74, 2, 0, 0, 0, 0, [])), (74, (0, 77, 0, 0, 0, 0, 264, [])), (77, (4, 78, 0, 0, 0, 0, 0, [])), (78, (0, 80, 0, 0, 0, 0, 11, [])), (80, (1, 81, 3, 0, 0, 0, 0, [])), (81, (4, 82, 2, 0, 0, 0, 0, [])), (82, (4, 83, 0, 0, 0, 0, 0, [])), (83, (1, 84, 2, 0, 0, 0, 0, [])), (84, (4, 85, 0, 0, 0, 0, 0, [])), (85, (17, 86, 1, 0, 0, 0, 0, [])), (86, (10, 89, 0, 92, 0, 0, 0, [])), (89, (0, 91, 0, 0, 0, 1178, (-1000000002), [])), (91, (21, 92, 1, 0, 0, 0, 0, [])), (92, (1, 93, 0, 2, 0, 0, 0, [])), (93, (20, 96, 190, 1, 9, 1229, 0, [(2, 1), (0, 48)]))],
  [(96, (1, 97, 0, 2, 0, 0, 0, [])), (97, (1, 98, 1, 0, 0, 0, 0, [])), (98, (1, 99, 2, 0, 0, 0, 0, [])), (99, (1, 100, 3, 0, 0, 0, 0, [])), (100, (20, 103, 181, 1, 0, 1270, 0, [(4, 4), (0, 48), (0, 0), (0, 0), (0, 0)])), (103, (10, 106, 0, 110, 0, 0, 0, [])), (106, (0, 107, 0, 0, 0, 0, 1, [])), (107, (13, 110, 0, 111, 0, 0, 0, [])), (110, (0, 111, 0, 0, 0, 0, 0, [])), (111, (2, 113, 5, 0, 0, 0, 0, [])), (113, (1, 114, 0, 2, 0, 0, 0, [])), (114, (15, 117, 7, 8, 30, 1037, 0, [])), (117, (0, 120, 0, 0, 0, 0, 193, [])), (120, (1, 121, 1, 0, 0, 0, 0, [])), (121, (4, 122, 2, 0, 0, 0, 0, [])), (122, (0, 124, 0, 0, 0, 0, 126, [])), (124, (4, 125, 0, 0, 0, 0, 0, [])), (125, (0, 127, 0, 0, 0, 0, 11, [])), (127, (1, 128, 3, 0, 0, 0, 0, []))],
  [(128, (4, 129, 2, 0, 0, 0, 0, [])), (129, (4, 130, 0, 0, 0, 0, 0, [])), (130, (1, 131, 2, 0, 0, 0, 0, [])), (131, (4, 132, 0, 0, 0, 0, 0, [])), (132, (1, 134, 4, 0, 0, 0, 0, [])), (134, (18, 135, 0, 0, 0, 0, 0, [])), (135, (1, 137, 5, 0, 0, 0, 0, [])), (137, (21, 138, 1, 0, 0, 0, 0, []))]]
set_option maxRecDepth 100000 in
noncomputable def tb196 : List (List (Nat × II)) := [[(0, (1, 1, 1, 0, 0, 0, 0, [])), (1, (20, 4, 169, 0, 0, 1167, 0, [(1, 1), (0, 0)])), (4, (10, 7, 0, 17, 0, 0, 0, [])), (7, (1, 8, 2, 0, 0, 0, 0, [])), (8, (0, 9, 0, 0, 0, 0, 0, [])), (9, (0, 11, 0, 0, 0, 0, 20, [])), (11, (20, 14, 159, 0, 0, 1125, 0, [(3, 3), (0, 0), (0, 0), (0, 0)])), (14, (10, 17, 1, 20, 0, 0, 0, [])), (17, (0, 19, 0, 0, 0, 1129, (-1000000001), [])), (19, (21, 20, 1, 0, 0, 0, 0, [])), (20, (1, 21, 0, 2, 0, 0, 0, [])), (21, (1, 22, 1, 0, 0, 0, 0, [])), (22, (20, 25, 170, 1, 0, 1187, 0, [(2, 2), (0, 48), (0, 0)])), (25, (10, 28, 0, 31, 0, 0, 0, [])), (28, (0, 30, 0, 0, 0, 1178, (-1000000002), [])), (30, (21, 31, 1, 0, 0, 0, 0, [])), (31, (1, 32, 0, 2, 0, 0, 0, []))],
  [(32, (20, 35, 190, 1, 9, 1229, 0, [(2, 1), (0, 48)])), (35, (1, 36, 0, 2, 0, 0, 0, [])), (36, (15, 39, 7, 8, 30, 1037, 0, [])), (39, (0, 42, 0, 0, 0, 0, 193, [])), (42, (1, 43, 1, 0, 0, 0, 0, [])), (43, (4, 44, 2, 0, 0, 0, 0, [])), (44, (0, 47, 0, 0, 0, 0, 192, [])), (47, (4, 48, 0, 0, 0, 0, 0, [])), (48, (17, 49, 0, 0, 0, 0, 0, [])), (49, (2, 50, 3, 0, 0, 0, 0, [])), (50, (1, 51, 0, 2, 0, 0, 0, [])), (51, (15, 54, 7, 8, 30, 1037, 0, [])), (54, (0, 57, 0, 0, 0, 0, 193, [])), (57, (1, 58, 1, 0, 0, 0, 0, [])), (58, (4, 59, 2, 0, 0, 0, 0, [])), (59, (0, 62, 0, 0, 0, 0, 192, [])), (62, (4, 63, 0, 0, 0, 0, 0, [])), (63, (1, 64, 2, 0, 0, 0, 0, []))],
  [(64, (18, 65, 0, 0, 0, 0, 0, [])), (65, (1, 66, 3, 0, 0, 0, 0, [])), (66, (21, 67, 1, 0, 0, 0, 0, []))]]
set_option maxRecDepth 100000 in
noncomputable def tb197 : List (List (Nat × II)) := [[(0, (1, 1, 0, 2, 0, 0, 0, [])), (1, (15, 4, 10, 8, 0, 1040, 0, [])), (4, (10, 7, 1, 10, 0, 0, 0, [])), (7, (0, 9, 0, 0, 0, 1178, (-1000000002), [])), (9, (21, 10, 1, 0, 0, 0, 0, [])), (10, (0, 11, 0, 0, 0, 0, 0, [])), (11, (2, 12, 1, 0, 0, 0, 0, [])), (12, (1, 13, 1, 0, 0, 0, 0, [])), (13, (0, 16, 0, 0, 0, 0, 579, [])), (16, (11, 19, 3, 60, 0, 0, 0, [])), (19, (1, 20, 0, 2, 0, 0, 0, [])), (20, (15, 23, 9, 8, 30, 1039, 0, [])), (23, (1, 24, 1, 0, 0, 0, 0, [])), (24, (1, 25, 0, 2, 0, 0, 0, [])), (25, (15, 28, 7, 8, 30, 1037, 0, [])), (28, (1, 29, 1, 0, 0, 0, 0, [])), (29, (17, 30, 0, 0, 0, 0, 0, [])), (30, (18, 31, 0, 0, 0, 0, 0, [])), (31, (1, 32, 0, 2, 0, 0, 0, []))],
  [(32, (15, 35, 7, 8, 30, 1037, 0, [])), (35, (1, 36, 1, 0, 0, 0, 0, [])), (36, (1, 37, 0, 2, 0, 0, 0, [])), (37, (15, 40, 8, 8, 30, 1038, 0, [])), (40, (0, 43, 0, 0, 0, 0, 579, [])), (43, (1, 44, 0, 2, 0, 0, 0, [])), (44, (15, 47, 10, 8, 0, 1040, 0, [])), (47, (0, 48, 0, 0, 0, 0, 1, [])), (48, (4, 49, 1, 0, 0, 0, 0, [])), (49, (4, 50, 2, 0, 0, 0, 0, [])), (50, (1, 51, 1, 0, 0, 0, 0, [])), (51, (4, 52, 0, 0, 0, 0, 0, [])), (52, (17, 53, 0, 0, 0, 0, 0, [])), (53, (18, 54, 0, 0, 0, 0, 0, [])), (54, (3, 57, 1, 0, 0, 0, 1, [])), (57, (13, 60, 0, 12, 0, 0, 0, [])), (60, (0, 61, 0, 0, 0, 0, 1, [])), (61, (2, 62, 1, 0, 0, 0, 0, [])), (62, (0, 63, 0, 0, 0, 0, 0, [])), (63, (2, 64, 2, 0, 0, 0, 0, []))],
  [(64, (1, 65, 2, 0, 0, 0, 0, [])), (65, (0, 66, 0, 0, 0, 0, 3, [])), (66, (11, 69, 3, 124, 0, 0, 0, [])), (69, (0, 70, 0, 0, 0, 0, 0, [])), (70, (2, 71, 3, 0, 0, 0, 0, [])), (71, (1, 72, 3, 0, 0, 0, 0, [])), (72, (0, 75, 0, 0, 0, 0, 396, [])), (75, (11, 78, 3, 118, 0, 0, 0, [])), (78, (1, 79, 1, 0, 0, 0, 0, [])), (79, (10, 82, 0, 110, 0, 0, 0, [])), (82, (1, 83, 0, 2, 0, 0, 0, [])), (83, (15, 86, 11, 8, 31, 1041, 0, [])), (86, (0, 89, 0, 0, 0, 0, 396, [])), (89, (1, 90, 2, 0, 0, 0, 0, [])), (90, (4, 91, 2, 0, 0, 0, 0, [])), (91, (1, 92, 3, 0, 0, 0, 0, [])), (92, (4, 93, 0, 0, 0, 0, 0, [])), (93, (17, 94, 1, 0, 0, 0, 0, [])), (94, (10, 97, 0, 106, 0, 0, 0, []))],
  [(97, (1, 98, 0, 2, 0, 0, 0, [])), (98, (1, 99, 2, 0, 0, 0, 0, [])), (99, (1, 100, 3, 0, 0, 0, 0, [])), (100, (20, 103, 234, 1, 0, 1282, 0, [(7, 3), (0, 48), (0, 0), (0, 0)])), (103, (10, 106, 0, 110, 0, 0, 0, [])), (106, (0, 107, 0, 0, 0, 0, 1, [])), (107, (13, 110, 0, 111, 0, 0, 0, [])), (110, (0, 111, 0, 0, 0, 0, 0, [])), (111, (2, 112, 1, 0, 0, 0, 0, [])), (112, (3, 115, 3, 0, 0, 0, 1, [])), (115, (13, 118, 0, 71, 0, 0, 0, [])), (118, (3, 121, 2, 0, 0, 0, 1, [])), (121, (13, 124, 0, 64, 0, 0, 0, [])), (124, (1, 125, 1, 0, 0, 0, 0, [])), (125, (10, 128, 1, 158, 0, 0, 0, []))],
  [(128, (0, 129, 0, 0, 0, 0, 0, [])), (129, (2, 130, 2, 0, 0, 0, 0, [])), (130, (1, 131, 2, 0, 0, 0, 0, [])), (131, (0, 134, 0, 0, 0, 0, 579, [])), (134, (11, 137, 3, 155, 0, 0, 0, [])), (137, (1, 138, 0, 2, 0, 0, 0, [])), (138, (15, 141, 7, 8, 30, 1037, 0, [])), (141, (1, 142, 2, 0, 0, 0, 0, [])), (142, (1, 143, 0, 2, 0, 0, 0, [])), (143, (15, 146, 9, 8, 30, 1039, 0, [])), (146, (1, 147, 2, 0, 0, 0, 0, [])), (147, (17, 148, 0, 0, 0, 0, 0, [])), (148, (18, 149, 0, 0, 0, 0, 0, [])), (149, (3, 152, 2, 0, 0, 0, 1, [])), (152, (13, 155, 0, 130, 0, 0, 0, [])), (155, (0, 157, 0, 0, 0, 1178, (-1000000002), [])), (157, (21, 158, 1, 0, 0, 0, 0, [])), (158, (1, 159, 0, 2, 0, 0, 0, [])), (159, (22, 160, 0, 0, 0, 0, 0, []))],
  [(160, (15, 163, 10, 8, 0, 1040, 0, [])), (163, (0, 164, 0, 0, 0, 0, 1, [])), (164, (4, 165, 1, 0, 0, 0, 0, [])), (165, (16, 168, 10, 8, 0, 1040, 0, [])), (168, (1, 169, 0, 2, 0, 0, 0, [])), (169, (15, 172, 10, 8, 0, 1040, 0, [])), (172, (21, 173, 1, 0, 0, 0, 0, []))]]
set_option maxRecDepth 100000 in
noncomputable def tb198 : List (List (Nat × II)) := [[(0, (0, 1, 0, 0, 0, 0, 0, [])), (1, (2, 3, 5, 0, 0, 0, 0, [])), (3, (0, 4, 0, 0, 0, 0, 0, [])), (4, (2, 6, 6, 0, 0, 0, 0, [])), (6, (1, 8, 6, 0, 0, 0, 0, [])), (8, (1, 9, 3, 0, 0, 0, 0, [])), (9, (11, 12, 3, 48, 0, 0, 0, [])), (12, (1, 14, 5, 0, 0, 0, 0, [])), (14, (1, 15, 0, 2, 0, 0, 0, [])), (15, (15, 18, 7, 8, 30, 1037, 0, [])), (18, (0, 21, 0, 0, 0, 0, 193, [])), (21, (1, 22, 1, 0, 0, 0, 0, [])), (22, (4, 23, 2, 0, 0, 0, 0, [])), (23, (1, 24, 2, 0, 0, 0, 0, [])), (24, (4, 25, 0, 0, 0, 0, 0, [])), (25, (1, 27, 6, 0, 0, 0, 0, [])), (27, (4, 28, 0, 0, 0, 0, 0, [])), (28, (17, 29, 0, 0, 0, 0, 0, [])), (29, (1, 31, 4, 0, 0, 0, 0, [])), (31, (11, 34, 2, 38, 0, 0, 0, []))],
  [(34, (0, 35, 0, 0, 0, 0, 1, [])), (35, (13, 38, 0, 39, 0, 0, 0, [])), (38, (0, 39, 0, 0, 0, 0, 0, [])), (39, (4, 40, 0, 0, 0, 0, 0, [])), (40, (2, 42, 5, 0, 0, 0, 0, [])), (42, (3, 45, 6, 0, 0, 0, 1, [])), (45, (13, 48, 0, 6, 0, 0, 0, [])), (48, (1, 50, 5, 0, 0, 0, 0, [])), (50, (21, 51, 1, 0, 0, 0, 0, []))]]
set_option maxRecDepth 100000 in
noncomputable def tb199 : List (List (Nat × II)) := [[(0, (0, 1, 0, 0, 0, 0, 0, [])), (1, (2, 3, 4, 0, 0, 0, 0, [])), (3, (1, 4, 2, 0, 0, 0, 0, [])), (4, (2, 6, 5, 0, 0, 0, 0, [])), (6, (1, 8, 5, 0, 0, 0, 0, [])), (8, (1, 9, 3, 0, 0, 0, 0, [])), (9, (11, 12, 3, 30, 0, 0, 0, [])), (12, (1, 14, 4, 0, 0, 0, 0, [])), (14, (1, 15, 0, 2, 0, 0, 0, [])), (15, (1, 16, 1, 0, 0, 0, 0, [])), (16, (1, 18, 5, 0, 0, 0, 0, [])), (18, (20, 21, 172, 1, 0, 1216, 0, [(3, 3), (0, 48), (0, 0), (0, 0)])), (21, (4, 22, 0, 0, 0, 0, 0, [])), (22, (2, 24, 4, 0, 0, 0, 0, [])), (24, (3, 27, 5, 0, 0, 0, 1, [])), (27, (13, 30, 0, 6, 0, 0, 0, [])), (30, (1, 32, 4, 0, 0, 0, 0, []))],
  [(32, (21, 33, 1, 0, 0, 0, 0, []))]]
set_option maxRecDepth 100000 in
noncomputable def tb200 : List (List (Nat × II)) := [[(0, (1, 1, 1, 0, 0, 0, 0, [])), (1, (20, 4, 169, 0, 0, 1167, 0, [(1, 1), (0, 0)])), (4, (10, 7, 0, 17, 0, 0, 0, [])), (7, (1, 8, 2, 0, 0, 0, 0, [])), (8, (0, 9, 0, 0, 0, 0, 0, [])), (9, (0, 11, 0, 0, 0, 0, 7, [])), (11, (20, 14, 159, 0, 0, 1125, 0, [(3, 3), (0, 0), (0, 0), (0, 0)])), (14, (10, 17, 1, 20, 0, 0, 0, [])), (17, (0, 19, 0, 0, 0, 1129, (-1000000001), [])), (19, (21, 20, 1, 0, 0, 0, 0, [])), (20, (1, 21, 0, 2, 0, 0, 0, [])), (21, (1, 22, 1, 0, 0, 0, 0, [])), (22, (20, 25, 170, 1, 0, 1187, 0, [(2, 2), (0, 48), (0, 0)])), (25, (10, 28, 0, 31, 0, 0, 0, [])), (28, (0, 30, 0, 0, 0, 1178, (-1000000002), [])), (30, (21, 31, 1, 0, 0, 0, 0, [])), (31, (1, 32, 2, 0, 0, 0, 0, []))],
  [(32, (14, 76, 0, 143, 0, 0, 0, [(0, 76), (1, 83), (2, 90), (3, 97), (4, 110), (5, 121), (6, 132)]))],
  [(76, (1, 77, 0, 2, 0, 0, 0, [])), (77, (15, 80, 4, 8, 30, 1034, 0, [])), (80, (1, 81, 1, 0, 0, 0, 0, [])), (81, (17, 82, 0, 0, 0, 0, 0, [])), (82, (21, 83, 1, 0, 0, 0, 0, [])), (83, (1, 84, 0, 2, 0, 0, 0, [])), (84, (15, 87, 2, 8, 30, 1032, 0, [])), (87, (1, 88, 1, 0, 0, 0, 0, [])), (88, (17, 89, 0, 0, 0, 0, 0, [])), (89, (21, 90, 1, 0, 0, 0, 0, [])), (90, (1, 91, 0, 2, 0, 0, 0, [])), (91, (15, 94, 3, 8, 30, 1033, 0, [])), (94, (1, 95, 1, 0, 0, 0, 0, [])), (95, (17, 96, 0, 0, 0, 0, 0, []))],
  [(96, (21, 97, 1, 0, 0, 0, 0, [])), (97, (1, 98, 0, 2, 0, 0, 0, [])), (98, (1, 99, 1, 0, 0, 0, 0, [])), (99, (0, 100, 0, 0, 0, 0, 0, [])), (100, (1, 101, 0, 2, 0, 0, 0, [])), (101, (15, 104, 4, 8, 30, 1034, 0, [])), (104, (1, 105, 1, 0, 0, 0, 0, [])), (105, (17, 106, 0, 0, 0, 0, 0, [])), (106, (20, 109, 199, 1, 0, 1290, 0, [(6, 4), (0, 48), (0, 0), (0, 0), (0, 0)])), (109, (21, 110, 1, 0, 0, 0, 0, [])), (110, (1, 111, 0, 2, 0, 0, 0, [])), (111, (1, 112, 1, 0, 0, 0, 0, [])), (112, (0, 114, 0, 0, 0, 0, 6, [])), (114, (0, 116, 0, 0, 0, 0, 60, [])), (116, (0, 117, 0, 0, 0, 0, 0, [])), (117, (20, 120, 198, 1, 0, 1294, 0, [(7, 5), (0, 48), (0, 0), (0, 0), (0, 0), (0, 0)])), (120, (21, 121, 1, 0, 0, 0, 0, [])), (121, (1, 122, 0, 2, 0, 0, 0, [])), (122, (1, 123, 1, 0, 0, 0, 0, [])), (123, (0, 125, 0, 0, 0, 0, 66, [])), (125, (0, 127, 0, 0, 0, 0, 60, [])), (127, (0, 128, 0, 0, 0, 0, 1, []))],
  [(128, (20, 131, 198, 1, 0, 1294, 0, [(7, 5), (0, 48), (0, 0), (0, 0), (0, 0), (0, 0)])), (131, (21, 132, 1, 0, 0, 0, 0, [])), (132, (1, 133, 0, 2, 0, 0, 0, [])), (133, (1, 134, 1, 0, 0, 0, 0, [])), (134, (0, 136, 0, 0, 0, 0, 126, [])), (136, (0, 138, 0, 0, 0, 0, 66, [])), (138, (0, 139, 0, 0, 0, 0, 1, [])), (139, (20, 142, 198, 1, 0, 1294, 0, [(7, 5), (0, 48), (0, 0), (0, 0), (0, 0), (0, 0)])), (142, (21, 143, 1, 0, 0, 0, 0, [])), (143, (1, 144, 0, 2, 0, 0, 0, [])), (144, (15, 147, 7, 8, 30, 1037, 0, [])), (147, (0, 150, 0, 0, 0, 0, 193, [])), (150, (1, 151, 1, 0, 0, 0, 0, [])), (151, (4, 152, 2, 0, 0, 0, 0, [])), (152, (0, 155, 0, 0, 0, 0, 192, [])), (155, (4, 156, 0, 0, 0, 0, 0, [])), (156, (17, 157, 0, 0, 0, 0, 0, [])), (157, (21, 158, 1, 0, 0, 0, 0, []))]]
set_option maxRecDepth 100000 in
noncomputable def tb201 : List (List (Nat × II)) := [[(0, (1, 1, 1, 0, 0, 0, 0, [])), (1, (20, 4, 169, 0, 0, 1167, 0, [(1, 1), (0, 0)])), (4, (10, 7, 0, 16, 0, 0, 0, [])), (7, (1, 8, 3, 0, 0, 0, 0, [])), (8, (0, 9, 0, 0, 0, 0, 0, [])), (9, (0, 10, 0, 0, 0, 0, 1, [])), (10, (20, 13, 159, 0, 0, 1125, 0, [(3, 3), (0, 0), (0, 0), (0, 0)])), (13, (10, 16, 1, 19, 0, 0, 0, [])), (16, (0, 18, 0, 0, 0, 1129, (-1000000001), [])), (18, (21, 19, 1, 0, 0, 0, 0, [])), (19, (1, 20, 0, 2, 0, 0, 0, [])), (20, (1, 21, 1, 0, 0, 0, 0, [])), (21, (20, 24, 170, 1, 0, 1187, 0, [(2, 2), (0, 48), (0, 0)])), (24, (10, 27, 0, 30, 0, 0, 0, [])), (27, (0, 29, 0, 0, 0, 1178, (-1000000002), [])), (29, (21, 30, 1, 0, 0, 0, 0, [])), (30, (1, 31, 0, 2, 0, 0, 0, [])), (31, (1, 32, 1, 0, 0, 0, 0, []))],
  [(32, (1, 33, 2, 0, 0, 0, 0, [])), (33, (20, 36, 176, 1, 0, 1250, 0, [(3, 3), (0, 48), (0, 0), (0, 0)])), (36, (10, 39, 1, 42, 0, 0, 0, [])), (39, (0, 41, 0, 0, 0, 1228, (-1000000013), [])), (41, (21, 42, 1, 0, 0, 0, 0, [])), (42, (1, 43, 3, 0, 0, 0, 0, [])), (43, (10, 46, 1, 55, 0, 0, 0, [])), (46, (1, 47, 0, 2, 0, 0, 0, [])), (47, (1, 48, 1, 0, 0, 0, 0, [])), (48, (1, 49, 2, 0, 0, 0, 0, [])), (49, (20, 52, 171, 1, 0, 1208, 0, [(3, 3), (0, 48), (0, 0), (0, 0)])), (52, (13, 55, 0, 61, 0, 0, 0, [])), (55, (1, 56, 0, 2, 0, 0, 0, [])), (56, (1, 57, 1, 0, 0, 0, 0, [])), (57, (1, 58, 2, 0, 0, 0, 0, [])), (58, (20, 61, 172, 1, 0, 1216, 0, [(3, 3), (0, 48), (0, 0), (0, 0)])), (61, (21, 62, 1, 0, 0, 0, 0, []))]]
set_option maxRecDepth 100000 in
noncomputable def tb202 : List (List (Nat × II)) := [[(0, (1, 1, 1, 0, 0, 0, 0, [])), (1, (20, 4, 169, 0, 0, 1167, 0, [(1, 1), (0, 0)])), (4, (10, 7, 0, 16, 0, 0, 0, [])), (7, (1, 8, 3, 0, 0, 0, 0, [])), (8, (0, 9, 0, 0, 0, 0, 0, [])), (9, (0, 10, 0, 0, 0, 0, 4, [])), (10, (20, 13, 159, 0, 0, 1125, 0, [(3, 3), (0, 0), (0, 0), (0, 0)])), (13, (10, 16, 1, 19, 0, 0, 0, [])), (16, (0, 18, 0, 0, 0, 1129, (-1000000001), [])), (18, (21, 19, 1, 0, 0, 0, 0, [])), (19, (1, 20, 0, 2, 0, 0, 0, [])), (20, (1, 21, 1, 0, 0, 0, 0, [])), (21, (20, 24, 170, 1, 0, 1187, 0, [(2, 2), (0, 48), (0, 0)])), (24, (10, 27, 0, 30, 0, 0, 0, [])), (27, (0, 29, 0, 0, 0, 1178, (-1000000002), [])), (29, (21, 30, 1, 0, 0, 0, 0, [])), (30, (1, 31, 0, 2, 0, 0, 0, [])), (31, (1, 32, 1, 0, 0, 0, 0, []))],
  [(32, (1, 33, 2, 0, 0, 0, 0, [])), (33, (20, 36, 176, 1, 0, 1250, 0, [(3, 3), (0, 48), (0, 0), (0, 0)])), (36, (10, 39, 1, 42, 0, 0, 0, [])), (39, (0, 41, 0, 0, 0, 1228, (-1000000013), [])), (41, (21, 42, 1, 0, 0, 0, 0, [])), (42, (1, 43, 0, 2, 0, 0, 0, [])), (43, (1, 44, 1, 0, 0, 0, 0, [])), (44, (1, 45, 2, 0, 0, 0, 0, [])), (45, (20, 48, 171, 1, 0, 1208, 0, [(3, 3), (0, 48), (0, 0), (0, 0)])), (48, (2, 50, 4, 0, 0, 0, 0, [])), (50, (1, 51, 3, 0, 0, 0, 0, [])), (51, (10, 54, 0, 71, 0, 0, 0, [])), (54, (1, 56, 4, 0, 0, 0, 0, [])), (56, (1, 57, 3, 0, 0, 0, 0, [])), (57, (11, 60, 0, 71, 0, 0, 0, [])), (60, (1, 61, 3, 0, 0, 0, 0, [])), (61, (0, 62, 0, 0, 0, 0, 2, [])), (62, (11, 65, 1, 75, 0, 0, 0, []))],
  [(65, (1, 67, 4, 0, 0, 0, 0, [])), (67, (0, 68, 0, 0, 0, 0, 4, [])), (68, (11, 71, 1, 75, 0, 0, 0, [])), (71, (0, 72, 0, 0, 0, 0, 1, [])), (72, (13, 75, 0, 76, 0, 0, 0, [])), (75, (0, 76, 0, 0, 0, 0, 0, [])), (76, (21, 77, 1, 0, 0, 0, 0, []))]]
set_option maxRecDepth 100000 in
noncomputable def tb203 : List (List (Nat × II)) := [[(0, (1, 1, 1, 0, 0, 0, 0, [])), (1, (20, 4, 169, 0, 0, 1167, 0, [(1, 1), (0, 0)])), (4, (10, 7, 0, 17, 0, 0, 0, [])), (7, (1, 9, 4, 0, 0, 0, 0, [])), (9, (0, 10, 0, 0, 0, 0, 0, [])), (10, (0, 11, 0, 0, 0, 0, 2, [])), (11, (20, 14, 159, 0, 0, 1125, 0, [(3, 3), (0, 0), (0, 0), (0, 0)])), (14, (10, 17, 1, 20, 0, 0, 0, [])), (17, (0, 19, 0, 0, 0, 1129, (-1000000001), [])), (19, (21, 20, 1, 0, 0, 0, 0, [])), (20, (1, 21, 0, 2, 0, 0, 0, [])), (21, (1, 22, 1, 0, 0, 0, 0, [])), (22, (20, 25, 170, 1, 0, 1187, 0, [(2, 2), (0, 48), (0, 0)])), (25, (10, 28, 0, 31, 0, 0, 0, [])), (28, (0, 30, 0, 0, 0, 1178, (-1000000002), [])), (30, (21, 31, 1, 0, 0, 0, 0, [])), (31, (1, 33, 4, 0, 0, 0, 0, []))],
  [(33, (0, 34, 0, 0, 0, 0, 2, [])), (34, (11, 37, 1, 46, 0, 0, 0, [])), (37, (1, 38, 0, 2, 0, 0, 0, [])), (38, (1, 39, 1, 0, 0, 0, 0, [])), (39, (1, 40, 2, 0, 0, 0, 0, [])), (40, (20, 43, 177, 1, 0, 1266, 0, [(3, 3), (0, 48), (0, 0), (0, 0)])), (43, (13, 46, 0, 52, 0, 0, 0, [])), (46, (1, 47, 0, 2, 0, 0, 0, [])), (47, (1, 48, 1, 0, 0, 0, 0, [])), (48, (1, 49, 2, 0, 0, 0, 0, [])), (49, (20, 52, 176, 1, 0, 1250, 0, [(3, 3), (0, 48), (0, 0), (0, 0)])), (52, (2, 54, 5, 0, 0, 0, 0, [])), (54, (1, 55, 0, 2, 0, 0, 0, [])), (55, (1, 56, 1, 0, 0, 0, 0, [])), (56, (1, 57, 3, 0, 0, 0, 0, [])), (57, (20, 60, 175, 1, 0, 1224, 0, [(3, 3), (0, 48), (0, 0), (0, 0)])), (60, (10, 63, 0, 68, 0, 0, 0, [])), (63, (1, 65, 5, 0, 0, 0, 0, []))],
  [(65, (10, 68, 1, 71, 0, 0, 0, [])), (68, (0, 70, 0, 0, 0, 1228, (-1000000013), [])), (70, (21, 71, 1, 0, 0, 0, 0, [])), (71, (1, 73, 4, 0, 0, 0, 0, [])), (73, (10, 76, 1, 86, 0, 0, 0, [])), (76, (1, 77, 0, 2, 0, 0, 0, [])), (77, (1, 78, 1, 0, 0, 0, 0, [])), (78, (1, 79, 2, 0, 0, 0, 0, [])), (79, (1, 80, 3, 0, 0, 0, 0, [])), (80, (20, 83, 179, 1, 0, 1242, 0, [(4, 4), (0, 48), (0, 0), (0, 0), (0, 0)])), (83, (13, 86, 0, 125, 0, 0, 0, [])), (86, (1, 88, 4, 0, 0, 0, 0, [])), (88, (0, 89, 0, 0, 0, 0, 1, [])), (89, (11, 92, 1, 110, 0, 0, 0, [])), (92, (1, 93, 0, 2, 0, 0, 0, [])), (93, (1, 94, 1, 0, 0, 0, 0, [])), (94, (1, 95, 2, 0, 0, 0, 0, [])), (95, (1, 96, 3, 0, 0, 0, 0, []))],
  [(96, (20, 99, 180, 1, 0, 1258, 0, [(4, 4), (0, 48), (0, 0), (0, 0), (0, 0)])), (99, (10, 102, 0, 106, 0, 0, 0, [])), (102, (0, 103, 0, 0, 0, 0, 1, [])), (103, (13, 106, 0, 125, 0, 0, 0, [])), (106, (0, 107, 0, 0, 0, 0, 0, [])), (107, (13, 110, 0, 125, 0, 0, 0, [])), (110, (1, 111, 0, 2, 0, 0, 0, [])), (111, (1, 112, 1, 0, 0, 0, 0, [])), (112, (1, 113, 2, 0, 0, 0, 0, [])), (113, (1, 114, 3, 0, 0, 0, 0, [])), (114, (20, 117, 181, 1, 0, 1270, 0, [(4, 4), (0, 48), (0, 0), (0, 0), (0, 0)])), (117, (10, 120, 0, 124, 0, 0, 0, [])), (120, (0, 121, 0, 0, 0, 0, 1, [])), (121, (13, 124, 0, 125, 0, 0, 0, [])), (124, (0, 125, 0, 0, 0, 0, 0, [])), (125, (21, 126, 1, 0, 0, 0, 0, []))]]
set_option maxRecDepth 100000 in
noncomputable def tb204 : List (List (Nat × II)) := [[(0, (1, 1, 0, 2, 0, 0, 0, [])), (1, (1, 2, 1, 0, 0, 0, 0, [])), (2, (1, 3, 2, 0, 0, 0, 0, [])), (3, (1, 4, 3, 0, 0, 0, 0, [])), (4, (20, 7, 179, 1, 0, 1242, 0, [(4, 4), (0, 48), (0, 0), (0, 0), (0, 0)])), (7, (2, 9, 4, 0, 0, 0, 0, [])), (9, (1, 11, 4, 0, 0, 0, 0, [])), (11, (10, 14, 3, 16, 0, 0, 0, [])), (14, (0, 15, 0, 0, 0, 0, 0, [])), (15, (21, 16, 1, 0, 0, 0, 0, [])), (16, (1, 17, 0, 2, 0, 0, 0, [])), (17, (1, 18, 1, 0, 0, 0, 0, [])), (18, (1, 19, 2, 0, 0, 0, 0, [])), (19, (20, 22, 171, 1, 0, 1208, 0, [(3, 3), (0, 48), (0, 0), (0, 0)])), (22, (2, 24, 5, 0, 0, 0, 0, [])), (24, (0, 25, 0, 0, 0, 0, 2, [])), (25, (1, 26, 0, 2, 0, 0, 0, [])), (26, (1, 27, 1, 0, 0, 0, 0, [])), (27, (1, 28, 2, 0, 0, 0, 0, [])), (28, (20, 31, 172, 1, 0, 1216, 0, [(3, 3), (0, 48), (0, 0), (0, 0)])), (31, (4, 32, 2, 0, 0, 0, 0, []))],
  [(32, (1, 34, 5, 0, 0, 0, 0, [])), (34, (0, 35, 0, 0, 0, 0, 2, [])), (35, (11, 38, 0, 44, 0, 0, 0, [])), (38, (1, 40, 5, 0, 0, 0, 0, [])), (40, (0, 41, 0, 0, 0, 0, 4, [])), (41, (11, 44, 1, 51, 0, 0, 0, [])), (44, (0, 45, 0, 0, 0, 0, 2, [])), (45, (1, 47, 4, 0, 0, 0, 0, [])), (47, (4, 48, 2, 0, 0, 0, 0, [])), (48, (13, 51, 0, 53, 0, 0, 0, [])), (51, (1, 53, 4, 0, 0, 0, 0, [])), (53, (4, 54, 0, 0, 0, 0, 0, [])), (54, (21, 55, 1, 0, 0, 0, 0, []))]]
set_option maxRecDepth 100000 in
noncomputable def tb205 : List (List (Nat × II)) := [[(0, (0, 1, 0, 0, 0, 0, 2, [])), (1, (1, 2, 0, 2, 0, 0, 0, [])), (2, (15, 5, 3, 8, 30, 1033, 0, [])), (5, (1, 6, 1, 0, 0, 0, 0, [])), (6, (17, 7, 0, 0, 0, 0, 0, [])), (7, (4, 8, 2, 0, 0, 0, 0, [])), (8, (1, 9, 0, 2, 0, 0, 0, [])), (9, (1, 10, 1, 0, 0, 0, 0, [])), (10, (1, 11, 2, 0, 0, 0, 0, [])), (11, (20, 14, 174, 1, 0, 1200, 0, [(3, 3), (0, 48), (0, 0), (0, 0)])), (14, (10, 17, 0, 26, 0, 0, 0, [])), (17, (1, 18, 0, 2, 0, 0, 0, [])), (18, (15, 21, 2, 8, 30, 1032, 0, [])), (21, (1, 22, 1, 0, 0, 0, 0, [])), (22, (17, 23, 0, 0, 0, 0, 0, [])), (23, (13, 26, 0, 34, 0, 0, 0, [])), (26, (1, 27, 0, 2, 0, 0, 0, [])), (27, (15, 30, 2, 8, 30, 1032, 0, [])), (30, (1, 31, 1, 0, 0, 0, 0, [])), (31, (17, 32, 0, 0, 0, 0, 0, []))],
  [(32, (0, 33, 0, 0, 0, 0, 1, [])), (33, (4, 34, 1, 0, 0, 0, 0, [])), (34, (4, 35, 2, 0, 0, 0, 0, [])), (35, (2, 36, 3, 0, 0, 0, 0, [])), (36, (0, 37, 0, 0, 0, 0, 0, [])), (37, (2, 39, 4, 0, 0, 0, 0, [])), (39, (1, 41, 4, 0, 0, 0, 0, [])), (41, (1, 42, 0, 2, 0, 0, 0, [])), (42, (15, 45, 2, 8, 30, 1032, 0, [])), (45, (1, 46, 1, 0, 0, 0, 0, [])), (46, (17, 47, 0, 0, 0, 0, 0, [])), (47, (11, 50, 3, 127, 0, 0, 0, [])), (50, (1, 51, 2, 0, 0, 0, 0, [])), (51, (1, 52, 0, 2, 0, 0, 0, [])), (52, (15, 55, 4, 8, 30, 1034, 0, [])), (55, (1, 56, 1, 0, 0, 0, 0, [])), (56, (17, 57, 0, 0, 0, 0, 0, [])), (57, (11, 60, 3, 92, 0, 0, 0, [])), (60, (1, 61, 0, 2, 0, 0, 0, [])), (61, (1, 62, 1, 0, 0, 0, 0, [])), (62, (1, 63, 2, 0, 0, 0, 0, [])), (63, (1, 65, 4, 0, 0, 0, 0, []))],
  [(65, (20, 68, 204, 1, 0, 1326, 0, [(6, 4), (0, 48), (0, 0), (0, 0), (0, 0)])), (68, (2, 70, 5, 0, 0, 0, 0, [])), (70, (1, 71, 3, 0, 0, 0, 0, [])), (71, (1, 72, 0, 2, 0, 0, 0, [])), (72, (1, 73, 1, 0, 0, 0, 0, [])), (73, (1, 74, 2, 0, 0, 0, 0, [])), (74, (20, 77, 171, 1, 0, 1208, 0, [(3, 3), (0, 48), (0, 0), (0, 0)])), (77, (0, 78, 0, 0, 0, 0, 3, [])), (78, (11, 81, 1, 88, 0, 0, 0, [])), (81, (0, 82, 0, 0, 0, 0, 2, [])), (82, (1, 84, 5, 0, 0, 0, 0, [])), (84, (4, 85, 2, 0, 0, 0, 0, [])), (85, (13, 88, 0, 90, 0, 0, 0, [])), (88, (1, 90, 5, 0, 0, 0, 0, [])), (90, (4, 91, 0, 0, 0, 0, 0, [])), (91, (2, 92, 3, 0, 0, 0, 0, [])), (92, (1, 93, 2, 0, 0, 0, 0, [])), (93, (10, 96, 5, 121, 0, 0, 0, []))],
  [(96, (1, 97, 0, 2, 0, 0, 0, [])), (97, (1, 98, 1, 0, 0, 0, 0, [])), (98, (1, 99, 2, 0, 0, 0, 0, [])), (99, (0, 100, 0, 0, 0, 0, 1, [])), (100, (4, 101, 1, 0, 0, 0, 0, [])), (101, (20, 104, 171, 1, 0, 1208, 0, [(3, 3), (0, 48), (0, 0), (0, 0)])), (104, (0, 105, 0, 0, 0, 0, 3, [])), (105, (11, 108, 0, 121, 0, 0, 0, [])), (108, (1, 109, 3, 0, 0, 0, 0, [])), (109, (1, 110, 0, 2, 0, 0, 0, [])), (110, (1, 111, 1, 0, 0, 0, 0, [])), (111, (1, 112, 2, 0, 0, 0, 0, [])), (112, (0, 113, 0, 0, 0, 0, 1, [])), (113, (4, 114, 1, 0, 0, 0, 0, [])), (114, (1, 116, 4, 0, 0, 0, 0, [])), (116, (20, 119, 204, 1, 0, 1326, 0, [(6, 4), (0, 48), (0, 0), (0, 0), (0, 0)])), (119, (4, 120, 0, 0, 0, 0, 0, [])), (120, (2, 121, 3, 0, 0, 0, 0, [])), (121, (3, 124, 4, 0, 0, 0, 1, [])), (124, (13, 127, 0, 39, 0, 0, 0, [])), (127, (1, 128, 3, 0, 0, 0, 0, []))],
  [(128, (21, 129, 1, 0, 0, 0, 0, []))]]
set_option maxRecDepth 100000 in
noncomputable def tb206 : List (List (Nat × II)) := [[(0, (1, 1, 1, 0, 0, 0, 0, [])), (1, (20, 4, 169, 0, 0, 1167, 0, [(1, 1), (0, 0)])), (4, (10, 7, 1, 12, 0, 0, 0, [])), (7, (0, 9, 0, 0, 0, 1129, (-1000000001), [])), (9, (13, 12, 0, 26, 0, 0, 0, [])), (12, (1, 13, 0, 2, 0, 0, 0, [])), (13, (1, 14, 1, 0, 0, 0, 0, [])), (14, (20, 17, 170, 1, 0, 1187, 0, [(2, 2), (0, 48), (0, 0)])), (17, (10, 20, 0, 25, 0, 0, 0, [])), (20, (0, 22, 0, 0, 0, 1178, (-1000000002), [])), (22, (13, 25, 0, 26, 0, 0, 0, [])), (25, (0, 26, 0, 0, 0, 0, 0, [])), (26, (21, 27, 1, 0, 0, 0, 0, []))]]
set_option maxRecDepth 100000 in
noncomputable def tb207 : List (List (Nat × II)) := [[(0, (1, 1, 0, 2, 0, 0, 0, [])), (1, (1, 2, 1, 0, 0, 0, 0, [])), (2, (20, 5, 206, 1, 0, 1318, 0, [(2, 2), (0, 48), (0, 0)])), (5, (2, 6, 3, 0, 0, 0, 0, [])), (6, (1, 7, 3, 0, 0, 0, 0, [])), (7, (10, 10, 0, 14, 0, 0, 0, [])), (10, (1, 11, 3, 0, 0, 0, 0, [])), (11, (13, 14, 0, 29, 0, 0, 0, [])), (14, (1, 15, 0, 2, 0, 0, 0, [])), (15, (1, 16, 1, 0, 0, 0, 0, [])), (16, (1, 17, 2, 0, 0, 0, 0, [])), (17, (20, 20, 177, 1, 0, 1266, 0, [(3, 3), (0, 48), (0, 0), (0, 0)])), (20, (10, 23, 0, 27, 0, 0, 0, [])), (23, (0, 24, 0, 0, 0, 0, 0, [])), (24, (13, 27, 0, 29, 0, 0, 0, [])), (27, (0, 29, 0, 0, 0, 1228, (-1000000013), [])), (29, (21, 30, 1, 0, 0, 0, 0, []))]]
set_option maxRecDepth 100000 in
noncomputable def tb208 : List (List (Nat × II)) := [[(0, (1, 1, 0, 2, 0, 0, 0, [])), (1, (1, 2, 1, 0, 0, 0, 0, [])), (2, (1, 3, 2, 0, 0, 0, 0, [])), (3, (20, 6, 207, 1, 0, 1314, 0, [(4, 3), (0, 48), (0, 0), (0, 0)])), (6, (2, 7, 3, 0, 0, 0, 0, [])), (7, (1, 8, 3, 0, 0, 0, 0, [])), (8, (10, 11, 0, 15, 0, 0, 0, [])), (11, (1, 12, 3, 0, 0, 0, 0, [])), (12, (13, 15, 0, 21, 0, 0, 0, [])), (15, (1, 16, 0, 2, 0, 0, 0, [])), (16, (1, 17, 1, 0, 0, 0, 0, [])), (17, (1, 18, 2, 0, 0, 0, 0, [])), (18, (20, 21, 205, 1, 0, 1322, 0, [(6, 3), (0, 48), (0, 0), (0, 0)])), (21, (21, 22, 1, 0, 0, 0, 0, []))]]
set_option maxRecDepth 100000 in
noncomputable def tb209 : List (List (Nat × II)) := [[(0, (1, 1, 2, 0, 0, 0, 0, [])), (1, (0, 2, 0, 0, 0, 0, 1, [])), (2, (4, 3, 1, 0, 0, 0, 0, [])), (3, (2, 4, 3, 0, 0, 0, 0, [])), (4, (1, 5, 0, 2, 0, 0, 0, [])), (5, (1, 6, 1, 0, 0, 0, 0, [])), (6, (1, 7, 3, 0, 0, 0, 0, [])), (7, (20, 10, 174, 1, 0, 1200, 0, [(3, 3), (0, 48), (0, 0), (0, 0)])), (10, (10, 13, 1, 19, 0, 0, 0, [])), (13, (3, 16, 3, 0, 0, 0, (-1), [])), (16, (13, 19, 0, 4, 0, 0, 0, [])), (19, (1, 20, 3, 0, 0, 0, 0, [])), (20, (21, 21, 1, 0, 0, 0, 0, []))]]
set_option maxRecDepth 100000 in
noncomputable def tb210 : List (List (Nat × II)) := [[(0, (1, 1, 2, 0, 0, 0, 0, [])), (1, (0, 2, 0, 0, 0, 0, 1, [])), (2, (4, 3, 0, 0, 0, 0, 0, [])), (3, (2, 4, 3, 0, 0, 0, 0, [])), (4, (1, 5, 0, 2, 0, 0, 0, [])), (5, (1, 6, 1, 0, 0, 0, 0, [])), (6, (1, 7, 3, 0, 0, 0, 0, [])), (7, (20, 10, 174, 1, 0, 1200, 0, [(3, 3), (0, 48), (0, 0), (0, 0)])), (10, (10, 13, 1, 19, 0, 0, 0, [])), (13, (3, 16, 3, 0, 0, 0, 1, [])), (16, (13, 19, 0, 4, 0, 0, 0, [])), (19, (1, 20, 3, 0, 0, 0, 0, [])), (20, (21, 21, 1, 0, 0, 0, 0, []))]]
set_option maxRecDepth 100000 in
noncomputable def tb211 : List (List (Nat × II)) := [[(0, (1, 1, 0, 1, 0, 0, 0, [])), (1, (2, 3, 4, 1, 0, 0, 0, [])), (3, (1, 4, 2, 1, 0, 0, 0, [])), (4, (2, 6, 6, 1, 0, 0, 0, [])), (6, (1, 8, 6, 1, 0, 0, 0, [])), (8, (0, 9, 1, 0, 0, 0, 0, [])), (9, (8, 10, 0, 0, 0, 0, 0, [])), (10, (10, 13, 0, 31, 0, 0, 0, [])), (13, (1, 15, 4, 1, 0, 0, 0, [])), (15, (1, 17, 6, 1, 0, 0, 0, [])), (17, (7, 18, 1, 0, 0, 0, 0, [])), (18, (2, 20, 8, 1, 0, 0, 0, [])), (20, (1, 22, 6, 1, 0, 0, 0, [])), (22, (2, 24, 4, 1, 0, 0, 0, [])), (24, (1, 26, 8, 1, 0, 0, 0, [])), (26, (2, 28, 6, 1, 0, 0, 0, [])), (28, (13, 31, 0, 6, 0, 0, 0, [])), (31, (1, 33, 4, 1, 0, 0, 0, []))],
  [(33, (21, 34, 3, 0, 1, 0, 0, []))]]
set_option maxRecDepth 100000 in
noncomputable def tb212 : List (List (Nat × II)) := [[(0, (1, 1, 0, 2, 0, 0, 0, [])), (1, (1, 2, 0, 2, 0, 0, 0, [])), (2, (15, 5, 24, 8, 1, 1054, 0, [])), (5, (1, 6, 3, 1, 0, 0, 0, [])), (6, (6, 7, 1, 0, 0, 0, 0, [])), (7, (1, 8, 1, 1, 0, 0, 0, [])), (8, (1, 9, 0, 2, 0, 0, 0, [])), (9, (15, 12, 25, 8, 1, 1055, 0, [])), (12, (6, 13, 1, 0, 0, 0, 0, [])), (13, (6, 14, 0, 0, 0, 0, 0, [])), (14, (16, 17, 24, 8, 1, 1054, 0, [])), (17, (1, 18, 0, 2, 0, 0, 0, [])), (18, (1, 19, 0, 2, 0, 0, 0, [])), (19, (15, 22, 25, 8, 1, 1055, 0, [])), (22, (1, 23, 3, 1, 0, 0, 0, [])), (23, (6, 24, 1, 0, 0, 0, 0, [])), (24, (16, 27, 25, 8, 1, 1055, 0, [])), (27, (1, 28, 0, 2, 0, 0, 0, [])), (28, (15, 31, 24, 8, 1, 1054, 0, [])), (31, (1, 32, 0, 2, 0, 0, 0, []))],
  [(32, (15, 35, 25, 8, 1, 1055, 0, [])), (35, (20, 38, 211, 0, 1, 1345, 0, [(10, 2), (0, 1), (0, 1)])), (38, (2, 40, 5, 1, 0, 0, 0, [])), (40, (1, 41, 0, 2, 0, 0, 0, [])), (41, (22, 42, 0, 0, 0, 0, 0, [])), (42, (15, 45, 24, 8, 1, 1054, 0, [])), (45, (1, 47, 5, 1, 0, 0, 0, [])), (47, (7, 48, 0, 0, 0, 0, 0, [])), (48, (16, 51, 24, 8, 1, 1054, 0, [])), (51, (1, 52, 0, 2, 0, 0, 0, [])), (52, (22, 53, 0, 0, 0, 0, 0, [])), (53, (15, 56, 25, 8, 1, 1055, 0, [])), (56, (1, 58, 5, 1, 0, 0, 0, [])), (58, (7, 59, 0, 0, 0, 0, 0, [])), (59, (16, 62, 25, 8, 1, 1055, 0, [])), (62, (21, 63, 0, 0, 9, 0, 0, []))]]
set_option maxRecDepth 100000 in
noncomputable def tb213 : List (List (Nat × II)) := [[(0, (1, 1, 0, 2, 0, 0, 0, [])), (1, (0, 2, 1, 0, 0, 0, 0, [])), (2, (16, 5, 24, 8, 1, 1054, 0, [])), (5, (1, 6, 0, 2, 0, 0, 0, [])), (6, (0, 7, 1, 0, 0, 0, 1, [])), (7, (16, 10, 25, 8, 1, 1055, 0, [])), (10, (1, 11, 0, 2, 0, 0, 0, [])), (11, (1, 12, 0, 2, 0, 0, 0, [])), (12, (1, 13, 1, 0, 0, 0, 0, [])), (13, (1, 14, 2, 0, 0, 0, 0, [])), (14, (20, 17, 205, 1, 0, 1322, 0, [(6, 3), (0, 48), (0, 0), (0, 0)])), (17, (9, 18, 1, 0, 0, 0, 0, [])), (18, (0, 21, 1, 0, 0, 1340, 2, [])), (21, (20, 24, 212, 1, 9, 1341, 0, [(7, 3), (0, 48), (0, 1), (0, 1)])), (24, (0, 25, 0, 0, 0, 0, 0, [])), (25, (2, 26, 3, 0, 0, 0, 0, [])), (26, (1, 27, 3, 0, 0, 0, 0, [])), (27, (1, 28, 0, 2, 0, 0, 0, [])), (28, (15, 31, 4, 8, 30, 1034, 0, [])), (31, (1, 32, 1, 0, 0, 0, 0, []))],
  [(32, (17, 33, 0, 0, 0, 0, 0, [])), (33, (11, 36, 4, 147, 0, 0, 0, [])), (36, (1, 37, 0, 2, 0, 0, 0, [])), (37, (1, 38, 1, 0, 0, 0, 0, [])), (38, (1, 39, 3, 0, 0, 0, 0, [])), (39, (20, 42, 174, 1, 0, 1200, 0, [(3, 3), (0, 48), (0, 0), (0, 0)])), (42, (10, 45, 1, 141, 0, 0, 0, [])), (45, (1, 46, 0, 2, 0, 0, 0, [])), (46, (1, 47, 1, 0, 0, 0, 0, [])), (47, (1, 48, 3, 0, 0, 0, 0, [])), (48, (20, 51, 209, 1, 0, 1348, 0, [(4, 3), (0, 48), (0, 0), (0, 0)])), (51, (2, 53, 4, 0, 0, 0, 0, [])), (53, (1, 54, 0, 2, 0, 0, 0, [])), (54, (1, 55, 1, 0, 0, 0, 0, [])), (55, (1, 56, 3, 0, 0, 0, 0, [])), (56, (20, 59, 210, 1, 0, 1352, 0, [(4, 3), (0, 48), (0, 0), (0, 0)])), (59, (2, 61, 5, 0, 0, 0, 0, [])), (61, (1, 62, 0, 2, 0, 0, 0, [])), (62, (1, 63, 1, 0, 0, 0, 0, [])), (63, (1, 65, 4, 0, 0, 0, 0, []))],
  [(65, (1, 66, 3, 0, 0, 0, 0, [])), (66, (20, 69, 199, 1, 0, 1290, 0, [(6, 4), (0, 48), (0, 0), (0, 0), (0, 0)])), (69, (9, 70, 1, 0, 0, 0, 0, [])), (70, (2, 72, 6, 1, 0, 0, 0, [])), (72, (1, 73, 0, 2, 0, 0, 0, [])), (73, (1, 74, 1, 0, 0, 0, 0, [])), (74, (1, 75, 3, 0, 0, 0, 0, [])), (75, (1, 77, 5, 0, 0, 0, 0, [])), (77, (20, 80, 199, 1, 0, 1290, 0, [(6, 4), (0, 48), (0, 0), (0, 0), (0, 0)])), (80, (9, 81, 1, 0, 0, 0, 0, [])), (81, (2, 83, 8, 1, 0, 0, 0, [])), (83, (1, 85, 4, 0, 0, 0, 0, [])), (85, (1, 86, 2, 0, 0, 0, 0, [])), (86, (11, 89, 1, 112, 0, 0, 0, [])), (89, (1, 90, 0, 2, 0, 0, 0, [])), (90, (1, 91, 0, 2, 0, 0, 0, [])), (91, (1, 92, 1, 0, 0, 0, 0, [])), (92, (1, 93, 3, 0, 0, 0, 0, [])), (93, (20, 96, 205, 1, 0, 1322, 0, [(6, 3), (0, 48), (0, 0), (0, 0)]))],
  [(96, (9, 97, 1, 0, 0, 0, 0, [])), (97, (1, 99, 8, 1, 0, 0, 0, [])), (99, (6, 100, 1, 0, 0, 0, 0, [])), (100, (0, 103, 1, 0, 0, 1340, 2, [])), (103, (1, 105, 6, 1, 0, 0, 0, [])), (105, (1, 107, 8, 1, 0, 0, 0, [])), (107, (6, 108, 0, 0, 0, 0, 0, [])), (108, (6, 109, 1, 0, 0, 0, 0, [])), (109, (20, 112, 212, 1, 9, 1341, 0, [(7, 3), (0, 48), (0, 1), (0, 1)])), (112, (1, 114, 5, 0, 0, 0, 0, [])), (114, (1, 115, 2, 0, 0, 0, 0, [])), (115, (11, 118, 1, 141, 0, 0, 0, [])), (118, (1, 119, 0, 2, 0, 0, 0, [])), (119, (1, 120, 0, 2, 0, 0, 0, [])), (120, (1, 121, 1, 0, 0, 0, 0, [])), (121, (1, 122, 3, 0, 0, 0, 0, [])), (122, (20, 125, 205, 1, 0, 1322, 0, [(6, 3), (0, 48), (0, 0), (0, 0)])), (125, (9, 126, 1, 0, 0, 0, 0, [])), (126, (1, 128, 6, 1, 0, 0, 0, []))],
  [(128, (6, 129, 1, 0, 0, 0, 0, [])), (129, (0, 132, 1, 0, 0, 1340, 2, [])), (132, (1, 134, 6, 1, 0, 0, 0, [])), (134, (1, 136, 8, 1, 0, 0, 0, [])), (136, (6, 137, 0, 0, 0, 0, 0, [])), (137, (6, 138, 1, 0, 0, 0, 0, [])), (138, (20, 141, 212, 1, 9, 1341, 0, [(7, 3), (0, 48), (0, 1), (0, 1)])), (141, (3, 144, 3, 0, 0, 0, 1, [])), (144, (13, 147, 0, 26, 0, 0, 0, [])), (147, (21, 148, 0, 0, 9, 0, 0, []))]]
set_option maxRecDepth 100000 in
noncomputable def tb214 : List (List (Nat × II)) := [[(0, (1, 1, 1, 0, 0, 0, 0, [])), (1, (20, 4, 169, 0, 0, 1167, 0, [(1, 1), (0, 0)])), (4, (10, 7, 0, 16, 0, 0, 0, [])), (7, (1, 8, 3, 0, 0, 0, 0, [])), (8, (0, 9, 0, 0, 0, 0, 0, [])), (9, (0, 10, 0, 0, 0, 0, 1, [])), (10, (20, 13, 159, 0, 0, 1125, 0, [(3, 3), (0, 0), (0, 0), (0, 0)])), (13, (10, 16, 1, 20, 0, 0, 0, [])), (16, (0, 19, 1, 0, 0, 1334, (-1000000001), [])), (19, (21, 20, 3, 0, 1, 0, 0, [])), (20, (1, 21, 0, 2, 0, 0, 0, [])), (21, (1, 22, 1, 0, 0, 0, 0, [])), (22, (1, 23, 2, 0, 0, 0, 0, [])), (23, (20, 26, 207, 1, 0, 1314, 0, [(4, 3), (0, 48), (0, 0), (0, 0)])), (26, (2, 28, 4, 0, 0, 0, 0, [])), (28, (1, 30, 4, 0, 0, 0, 0, [])), (30, (10, 33, 0, 37, 0, 0, 0, []))],
  [(33, (1, 35, 4, 0, 0, 0, 0, [])), (35, (9, 36, 1, 0, 0, 0, 0, [])), (36, (21, 37, 3, 0, 1, 0, 0, [])), (37, (1, 38, 0, 2, 0, 0, 0, [])), (38, (1, 39, 1, 0, 0, 0, 0, [])), (39, (1, 40, 2, 0, 0, 0, 0, [])), (40, (20, 43, 174, 1, 0, 1200, 0, [(3, 3), (0, 48), (0, 0), (0, 0)])), (43, (10, 46, 1, 50, 0, 0, 0, [])), (46, (0, 49, 1, 0, 0, 1335, (-1000000005), [])), (49, (21, 50, 3, 0, 1, 0, 0, [])), (50, (1, 51, 0, 2, 0, 0, 0, [])), (51, (1, 52, 1, 0, 0, 0, 0, [])), (52, (1, 53, 2, 0, 0, 0, 0, [])), (53, (20, 56, 213, 1, 9, 1336, 0, [(10, 3), (0, 48), (0, 0), (0, 0)])), (56, (1, 57, 3, 0, 0, 0, 0, [])), (57, (10, 60, 1, 67, 0, 0, 0, [])), (60, (1, 61, 0, 2, 0, 0, 0, [])), (61, (15, 64, 24, 8, 1, 1054, 0, []))],
  [(64, (13, 67, 0, 71, 0, 0, 0, [])), (67, (1, 68, 0, 2, 0, 0, 0, [])), (68, (15, 71, 25, 8, 1, 1055, 0, [])), (71, (21, 72, 3, 0, 1, 0, 0, []))]]
set_option maxRecDepth 100000 in
noncomputable def tb215 : List (List (Nat × II)) := [[(0, (1, 1, 0, 0, 0, 0, 0, [])), (1, (10, 4, 3, 9, 0, 0, 0, [])), (4, (1, 5, 0, 0, 0, 0, 0, [])), (5, (9, 6, 0, 0, 0, 0, 0, [])), (6, (13, 9, 0, 10, 0, 0, 0, [])), (9, (1, 10, 0, 0, 0, 0, 0, [])), (10, (21, 11, 1, 0, 0, 0, 0, []))]]
set_option maxRecDepth 100000 in
noncomputable def tb216 : List (List (Nat × II)) := [[(0, (0, 1, 0, 0, 0, 0, (-1), [])), (1, (2, 3, 4, 0, 0, 0, 0, [])), (3, (0, 4, 0, 0, 0, 0, 0, [])), (4, (2, 6, 5, 0, 0, 0, 0, [])), (6, (0, 7, 0, 0, 0, 0, 0, [])), (7, (2, 9, 6, 0, 0, 0, 0, [])), (9, (1, 11, 6, 0, 0, 0, 0, [])), (11, (1, 12, 0, 2, 0, 0, 0, [])), (12, (15, 15, 4, 8, 30, 1034, 0, [])), (15, (1, 16, 1, 0, 0, 0, 0, [])), (16, (17, 17, 0, 0, 0, 0, 0, [])), (17, (11, 20, 4, 109, 0, 0, 0, [])), (20, (0, 21, 0, 0, 0, 0, 0, [])), (21, (2, 23, 7, 0, 0, 0, 0, [])), (23, (1, 25, 7, 0, 0, 0, 0, [])), (25, (1, 26, 0, 2, 0, 0, 0, [])), (26, (15, 29, 2, 8, 30, 1032, 0, [])), (29, (1, 30, 1, 0, 0, 0, 0, [])), (30, (17, 31, 0, 0, 0, 0, 0, [])), (31, (11, 34, 3, 103, 0, 0, 0, []))],
  [(34, (0, 35, 0, 0, 0, 0, 2, [])), (35, (1, 37, 6, 0, 0, 0, 0, [])), (37, (4, 38, 2, 0, 0, 0, 0, [])), (38, (0, 39, 0, 0, 0, 0, 2, [])), (39, (1, 40, 2, 0, 0, 0, 0, [])), (40, (4, 41, 2, 0, 0, 0, 0, [])), (41, (4, 42, 1, 0, 0, 0, 0, [])), (42, (0, 43, 0, 0, 0, 0, 1, [])), (43, (4, 44, 1, 0, 0, 0, 0, [])), (44, (20, 47, 215, 0, 0, 1368, 0, [(1, 1), (0, 0)])), (47, (0, 48, 0, 0, 0, 0, 2, [])), (48, (1, 50, 7, 0, 0, 0, 0, [])), (50, (1, 51, 3, 0, 0, 0, 0, [])), (51, (4, 52, 1, 0, 0, 0, 0, [])), (52, (20, 55, 215, 0, 0, 1368, 0, [(1, 1), (0, 0)])), (55, (4, 56, 2, 0, 0, 0, 0, [])), (56, (4, 57, 0, 0, 0, 0, 0, [])), (57, (2, 59, 8, 0, 0, 0, 0, [])), (59, (1, 60, 0, 2, 0, 0, 0, [])), (60, (1, 61, 1, 0, 0, 0, 0, [])), (61, (1, 63, 6, 0, 0, 0, 0, [])), (63, (1, 65, 7, 0, 0, 0, 0, []))],
  [(65, (20, 68, 181, 1, 0, 1270, 0, [(4, 4), (0, 48), (0, 0), (0, 0), (0, 0)])), (68, (10, 71, 0, 97, 0, 0, 0, [])), (71, (1, 73, 4, 0, 0, 0, 0, [])), (73, (10, 76, 2, 83, 0, 0, 0, [])), (76, (1, 78, 8, 0, 0, 0, 0, [])), (78, (1, 80, 5, 0, 0, 0, 0, [])), (80, (11, 83, 3, 97, 0, 0, 0, [])), (83, (0, 85, 0, 0, 0, 0, 6, [])), (85, (1, 87, 6, 0, 0, 0, 0, [])), (87, (4, 88, 2, 0, 0, 0, 0, [])), (88, (1, 90, 7, 0, 0, 0, 0, [])), (90, (4, 91, 0, 0, 0, 0, 0, [])), (91, (2, 93, 4, 0, 0, 0, 0, [])), (93, (1, 95, 8, 0, 0, 0, 0, [])), (95, (2, 97, 5, 0, 0, 0, 0, []))],
  [(97, (3, 100, 7, 0, 0, 0, 1, [])), (100, (13, 103, 0, 23, 0, 0, 0, [])), (103, (3, 106, 6, 0, 0, 0, 1, [])), (106, (13, 109, 0, 9, 0, 0, 0, [])), (109, (1, 111, 4, 0, 0, 0, 0, [])), (111, (21, 112, 1, 0, 0, 0, 0, []))]]
set_option maxRecDepth 100000 in
noncomputable def tb217 : List (List (Nat × II)) := [[(0, (0, 1, 0, 0, 0, 0, 0, [])), (1, (2, 2, 3, 0, 0, 0, 0, [])), (2, (0, 3, 0, 0, 0, 0, 0, [])), (3, (2, 5, 4, 0, 0, 0, 0, [])), (5, (1, 7, 4, 0, 0, 0, 0, [])), (7, (1, 8, 0, 2, 0, 0, 0, [])), (8, (15, 11, 4, 8, 30, 1034, 0, [])), (11, (1, 12, 1, 0, 0, 0, 0, [])), (12, (17, 13, 0, 0, 0, 0, 0, [])), (13, (11, 16, 3, 98, 0, 0, 0, [])), (16, (0, 17, 0, 0, 0, 0, 0, [])), (17, (2, 19, 5, 0, 0, 0, 0, [])), (19, (1, 21, 5, 0, 0, 0, 0, [])), (21, (1, 22, 0, 2, 0, 0, 0, [])), (22, (15, 25, 2, 8, 30, 1032, 0, [])), (25, (1, 26, 1, 0, 0, 0, 0, [])), (26, (17, 27, 0, 0, 0, 0, 0, [])), (27, (11, 30, 3, 92, 0, 0, 0, [])), (30, (1, 31, 0, 2, 0, 0, 0, [])), (31, (1, 32, 1, 0, 0, 0, 0, []))],
  [(32, (1, 34, 4, 0, 0, 0, 0, [])), (34, (20, 37, 171, 1, 0, 1208, 0, [(3, 3), (0, 48), (0, 0), (0, 0)])), (37, (0, 38, 0, 0, 0, 0, 4, [])), (38, (11, 41, 1, 86, 0, 0, 0, [])), (41, (1, 42, 0, 2, 0, 0, 0, [])), (42, (1, 43, 1, 0, 0, 0, 0, [])), (43, (1, 45, 4, 0, 0, 0, 0, [])), (45, (1, 47, 5, 0, 0, 0, 0, [])), (47, (20, 50, 216, 1, 0, 1364, 0, [(9, 4), (0, 48), (0, 0), (0, 0), (0, 0)])), (50, (1, 51, 2, 0, 0, 0, 0, [])), (51, (11, 54, 1, 86, 0, 0, 0, [])), (54, (1, 55, 3, 0, 0, 0, 0, [])), (55, (1, 56, 0, 2, 0, 0, 0, [])), (56, (15, 59, 7, 8, 30, 1037, 0, [])), (59, (0, 62, 0, 0, 0, 0, 193, [])), (62, (1, 63, 1, 0, 0, 0, 0, [])), (63, (4, 64, 2, 0, 0, 0, 0, []))],
  [(64, (0, 67, 0, 0, 0, 0, 192, [])), (67, (4, 68, 0, 0, 0, 0, 0, [])), (68, (17, 69, 0, 0, 0, 0, 0, [])), (69, (1, 70, 0, 2, 0, 0, 0, [])), (70, (1, 71, 1, 0, 0, 0, 0, [])), (71, (1, 73, 4, 0, 0, 0, 0, [])), (73, (20, 76, 172, 1, 0, 1216, 0, [(3, 3), (0, 48), (0, 0), (0, 0)])), (76, (4, 77, 2, 0, 0, 0, 0, [])), (77, (1, 78, 0, 2, 0, 0, 0, [])), (78, (15, 81, 3, 8, 30, 1033, 0, [])), (81, (1, 82, 1, 0, 0, 0, 0, [])), (82, (17, 83, 0, 0, 0, 0, 0, [])), (83, (4, 84, 2, 0, 0, 0, 0, [])), (84, (4, 85, 0, 0, 0, 0, 0, [])), (85, (2, 86, 3, 0, 0, 0, 0, [])), (86, (3, 89, 5, 0, 0, 0, 1, [])), (89, (13, 92, 0, 19, 0, 0, 0, [])), (92, (3, 95, 4, 0, 0, 0, 1, [])), (95, (13, 98, 0, 5, 0, 0, 0, []))],
  [(98, (1, 99, 3, 0, 0, 0, 0, [])), (99, (21, 100, 1, 0, 0, 0, 0, []))]]
set_option maxRecDepth 100000 in
noncomputable def tb218 : List (List (Nat × II)) := [[(0, (1, 1, 0, 2, 0, 0, 0, [])), (1, (1, 2, 1, 0, 0, 0, 0, [])), (2, (1, 3, 2, 0, 0, 0, 0, [])), (3, (20, 6, 207, 1, 0, 1314, 0, [(4, 3), (0, 48), (0, 0), (0, 0)])), (6, (2, 8, 4, 0, 0, 0, 0, [])), (8, (1, 10, 4, 0, 0, 0, 0, [])), (10, (10, 13, 0, 16, 0, 0, 0, [])), (13, (1, 15, 4, 0, 0, 0, 0, [])), (15, (21, 16, 1, 0, 0, 0, 0, [])), (16, (1, 17, 0, 2, 0, 0, 0, [])), (17, (1, 18, 1, 0, 0, 0, 0, [])), (18, (1, 19, 3, 0, 0, 0, 0, [])), (19, (20, 22, 175, 1, 0, 1224, 0, [(3, 3), (0, 48), (0, 0), (0, 0)])), (22, (10, 25, 1, 28, 0, 0, 0, [])), (25, (0, 27, 0, 0, 0, 1228, (-1000000013), [])), (27, (21, 28, 1, 0, 0, 0, 0, [])), (28, (1, 29, 0, 2, 0, 0, 0, [])), (29, (1, 30, 1, 0, 0, 0, 0, [])), (30, (1, 31, 2, 0, 0, 0, 0, [])), (31, (1, 32, 3, 0, 0, 0, 0, []))],
  [(32, (20, 35, 181, 1, 0, 1270, 0, [(4, 4), (0, 48), (0, 0), (0, 0), (0, 0)])), (35, (10, 38, 0, 52, 0, 0, 0, [])), (38, (1, 39, 0, 2, 0, 0, 0, [])), (39, (1, 40, 1, 0, 0, 0, 0, [])), (40, (0, 42, 0, 0, 0, 0, 6, [])), (42, (1, 43, 2, 0, 0, 0, 0, [])), (43, (4, 44, 2, 0, 0, 0, 0, [])), (44, (1, 45, 3, 0, 0, 0, 0, [])), (45, (4, 46, 0, 0, 0, 0, 0, [])), (46, (20, 49, 217, 1, 0, 1360, 0, [(6, 3), (0, 48), (0, 0), (0, 0)])), (49, (13, 52, 0, 53, 0, 0, 0, [])), (52, (0, 53, 0, 0, 0, 0, 0, [])), (53, (21, 54, 1, 0, 0, 0, 0, []))]]
set_option maxRecDepth 100000 in
noncomputable def tb219 : List (List (Nat × II)) := [[(0, (1, 1, 0, 2, 0, 0, 0, [])), (1, (1, 2, 1, 0, 0, 0, 0, [])), (2, (20, 5, 206, 1, 0, 1318, 0, [(2, 2), (0, 48), (0, 0)])), (5, (2, 6, 2, 0, 0, 0, 0, [])), (6, (1, 7, 2, 0, 0, 0, 0, [])), (7, (10, 10, 0, 14, 0, 0, 0, [])), (10, (1, 11, 2, 0, 0, 0, 0, [])), (11, (13, 14, 0, 20, 0, 0, 0, [])), (14, (1, 15, 0, 2, 0, 0, 0, [])), (15, (1, 16, 1, 0, 0, 0, 0, [])), (16, (0, 17, 0, 0, 0, 0, (-1), [])), (17, (20, 20, 217, 1, 0, 1360, 0, [(6, 3), (0, 48), (0, 0), (0, 0)])), (20, (21, 21, 1, 0, 0, 0, 0, []))]]
set_option maxRecDepth 100000 in
noncomputable def tb220 : List (List (Nat × II)) := [[(0, (1, 1, 0, 2, 0, 0, 0, [])), (1, (1, 2, 1, 0, 0, 0, 0, [])), (2, (1, 3, 2, 0, 0, 0, 0, [])), (3, (20, 6, 174, 1, 0, 1200, 0, [(3, 3), (0, 48), (0, 0), (0, 0)])), (6, (10, 9, 0, 13, 0, 0, 0, [])), (9, (0, 10, 0, 0, 0, 0, 0, [])), (10, (13, 13, 0, 14, 0, 0, 0, [])), (13, (0, 14, 0, 0, 0, 0, 1, [])), (14, (2, 15, 3, 0, 0, 0, 0, [])), (15, (0, 16, 0, 0, 0, 0, 1, [])), (16, (2, 18, 4, 0, 0, 0, 0, [])), (18, (0, 19, 0, 0, 0, 0, 0, [])), (19, (2, 21, 5, 0, 0, 0, 0, [])), (21, (1, 23, 5, 0, 0, 0, 0, [])), (23, (1, 24, 0, 2, 0, 0, 0, [])), (24, (15, 27, 2, 8, 30, 1032, 0, [])), (27, (1, 28, 1, 0, 0, 0, 0, [])), (28, (17, 29, 0, 0, 0, 0, 0, [])), (29, (11, 32, 3, 78, 0, 0, 0, []))],
  [(32, (1, 33, 0, 2, 0, 0, 0, [])), (33, (1, 34, 1, 0, 0, 0, 0, [])), (34, (1, 35, 2, 0, 0, 0, 0, [])), (35, (1, 37, 5, 0, 0, 0, 0, [])), (37, (20, 40, 181, 1, 0, 1270, 0, [(4, 4), (0, 48), (0, 0), (0, 0), (0, 0)])), (40, (10, 43, 0, 72, 0, 0, 0, [])), (43, (1, 45, 5, 0, 0, 0, 0, [])), (45, (0, 46, 0, 0, 0, 0, 1, [])), (46, (4, 47, 0, 0, 0, 0, 0, [])), (47, (1, 48, 3, 0, 0, 0, 0, [])), (48, (4, 49, 1, 0, 0, 0, 0, [])), (49, (1, 51, 4, 0, 0, 0, 0, [])), (51, (11, 54, 5, 63, 0, 0, 0, [])), (54, (1, 56, 5, 0, 0, 0, 0, [])), (56, (0, 57, 0, 0, 0, 0, 1, [])), (57, (4, 58, 0, 0, 0, 0, 0, [])), (58, (1, 59, 3, 0, 0, 0, 0, [])), (59, (4, 60, 1, 0, 0, 0, 0, [])), (60, (13, 63, 0, 65, 0, 0, 0, [])), (63, (1, 65, 4, 0, 0, 0, 0, []))],
  [(65, (2, 67, 4, 0, 0, 0, 0, [])), (67, (1, 69, 5, 0, 0, 0, 0, [])), (69, (0, 70, 0, 0, 0, 0, 1, [])), (70, (4, 71, 0, 0, 0, 0, 0, [])), (71, (2, 72, 3, 0, 0, 0, 0, [])), (72, (3, 75, 5, 0, 0, 0, 1, [])), (75, (13, 78, 0, 21, 0, 0, 0, [])), (78, (1, 79, 0, 2, 0, 0, 0, [])), (79, (15, 82, 2, 8, 30, 1032, 0, [])), (82, (1, 83, 1, 0, 0, 0, 0, [])), (83, (17, 84, 0, 0, 0, 0, 0, [])), (84, (1, 85, 3, 0, 0, 0, 0, [])), (85, (4, 86, 1, 0, 0, 0, 0, [])), (86, (1, 88, 4, 0, 0, 0, 0, [])), (88, (11, 91, 5, 102, 0, 0, 0, [])), (91, (1, 92, 0, 2, 0, 0, 0, [])), (92, (15, 95, 2, 8, 30, 1032, 0, [])), (95, (1, 96, 1, 0, 0, 0, 0, []))],
  [(96, (17, 97, 0, 0, 0, 0, 0, [])), (97, (1, 98, 3, 0, 0, 0, 0, [])), (98, (4, 99, 1, 0, 0, 0, 0, [])), (99, (13, 102, 0, 104, 0, 0, 0, [])), (102, (1, 104, 4, 0, 0, 0, 0, [])), (104, (21, 105, 1, 0, 0, 0, 0, []))]]
set_option maxRecDepth 100000 in
noncomputable def tb221 : List (List (Nat × II)) := [[(0, (1, 1, 0, 2, 0, 0, 0, [])), (1, (1, 2, 1, 0, 0, 0, 0, [])), (2, (1, 3, 2, 0, 0, 0, 0, [])), (3, (20, 6, 207, 1, 0, 1314, 0, [(4, 3), (0, 48), (0, 0), (0, 0)])), (6, (2, 7, 3, 0, 0, 0, 0, [])), (7, (1, 8, 3, 0, 0, 0, 0, [])), (8, (10, 11, 0, 15, 0, 0, 0, [])), (11, (1, 12, 3, 0, 0, 0, 0, [])), (12, (13, 15, 0, 21, 0, 0, 0, [])), (15, (1, 16, 0, 2, 0, 0, 0, [])), (16, (1, 17, 1, 0, 0, 0, 0, [])), (17, (1, 18, 2, 0, 0, 0, 0, [])), (18, (20, 21, 220, 1, 0, 1379, 0, [(6, 3), (0, 48), (0, 0), (0, 0)])), (21, (21, 22, 1, 0, 0, 0, 0, []))]]
set_option maxRecDepth 100000 in
noncomputable def tb222 : List (List (Nat × II)) := [[(0, (1, 1, 0, 2, 0, 0, 0, [])), (1, (15, 4, 1, 8, 30, 1031, 0, [])), (4, (1, 5, 0, 2, 0, 0, 0, [])), (5, (1, 6, 1, 0, 0, 0, 0, [])), (6, (1, 7, 2, 0, 0, 0, 0, [])), (7, (20, 10, 220, 1, 0, 1379, 0, [(6, 3), (0, 48), (0, 0), (0, 0)])), (10, (17, 11, 0, 0, 0, 0, 0, [])), (11, (9, 12, 1, 0, 0, 0, 0, [])), (12, (2, 13, 3, 1, 0, 0, 0, [])), (13, (1, 14, 0, 2, 0, 0, 0, [])), (14, (1, 15, 1, 0, 0, 0, 0, [])), (15, (1, 16, 2, 0, 0, 0, 0, [])), (16, (20, 19, 174, 1, 0, 1200, 0, [(3, 3), (0, 48), (0, 0), (0, 0)])), (19, (10, 22, 1, 44, 0, 0, 0, [])), (22, (1, 23, 0, 2, 0, 0, 0, [])), (23, (1, 24, 1, 0, 0, 0, 0, [])), (24, (1, 25, 2, 0, 0, 0, 0, [])), (25, (20, 28, 205, 1, 0, 1322, 0, [(6, 3), (0, 48), (0, 0), (0, 0)])), (28, (9, 29, 1, 0, 0, 0, 0, [])), (29, (0, 32, 1, 0, 0, 1340, 2, []))],
  [(32, (1, 33, 3, 1, 0, 0, 0, [])), (33, (6, 34, 1, 0, 0, 0, 0, [])), (34, (8, 35, 0, 0, 0, 0, 0, [])), (35, (10, 38, 5, 42, 0, 0, 0, [])), (38, (0, 39, 0, 0, 0, 0, 1, [])), (39, (13, 42, 0, 43, 0, 0, 0, [])), (42, (0, 43, 0, 0, 0, 0, 0, [])), (43, (21, 44, 2, 0, 3, 0, 0, [])), (44, (1, 45, 0, 2, 0, 0, 0, [])), (45, (1, 46, 1, 0, 0, 0, 0, [])), (46, (1, 47, 2, 0, 0, 0, 0, [])), (47, (20, 50, 213, 1, 9, 1336, 0, [(10, 3), (0, 48), (0, 0), (0, 0)])), (50, (1, 51, 0, 2, 0, 0, 0, [])), (51, (15, 54, 24, 8, 1, 1054, 0, [])), (54, (1, 55, 3, 1, 0, 0, 0, [])), (55, (1, 56, 0, 2, 0, 0, 0, [])), (56, (15, 59, 25, 8, 1, 1055, 0, [])), (59, (6, 60, 1, 0, 0, 0, 0, [])), (60, (8, 61, 0, 0, 0, 0, 0, [])), (61, (10, 64, 5, 68, 0, 0, 0, []))],
  [(64, (0, 65, 0, 0, 0, 0, 1, [])), (65, (13, 68, 0, 69, 0, 0, 0, [])), (68, (0, 69, 0, 0, 0, 0, 0, [])), (69, (21, 70, 2, 0, 3, 0, 0, []))]]
set_option maxRecDepth 100000 in
noncomputable def tb223 : List (List (Nat × II)) := [[(0, (0, 1, 0, 0, 0, 0, 0, [])), (1, (2, 2, 2, 0, 0, 0, 0, [])), (2, (0, 3, 0, 0, 0, 0, 0, [])), (3, (2, 4, 3, 0, 0, 0, 0, [])), (4, (1, 5, 3, 0, 0, 0, 0, [])), (5, (1, 6, 0, 2, 0, 0, 0, [])), (6, (15, 9, 4, 8, 30, 1034, 0, [])), (9, (1, 10, 1, 0, 0, 0, 0, [])), (10, (17, 11, 0, 0, 0, 0, 0, [])), (11, (11, 14, 4, 39, 0, 0, 0, [])), (14, (1, 15, 2, 0, 0, 0, 0, [])), (15, (1, 16, 0, 2, 0, 0, 0, [])), (16, (1, 17, 1, 0, 0, 0, 0, [])), (17, (1, 18, 3, 0, 0, 0, 0, [])), (18, (20, 21, 222, 1, 0, 1391, 0, [(5, 3), (0, 48), (0, 0), (0, 0)])), (21, (10, 24, 0, 30, 0, 0, 0, [])), (24, (0, 25, 0, 0, 0, 0, 1, [])), (25, (1, 26, 3, 0, 0, 0, 0, [])), (26, (4, 27, 5, 0, 0, 0, 0, [])), (27, (13, 30, 0, 31, 0, 0, 0, [])), (30, (0, 31, 0, 0, 0, 0, 0, [])), (31, (4, 32, 4, 0, 0, 0, 0, []))],
  [(32, (2, 33, 2, 0, 0, 0, 0, [])), (33, (3, 36, 3, 0, 0, 0, 1, [])), (36, (13, 39, 0, 4, 0, 0, 0, [])), (39, (1, 40, 2, 0, 0, 0, 0, [])), (40, (21, 41, 1, 0, 0, 0, 0, []))]]
set_option maxRecDepth 100000 in
noncomputable def tb224 : List (List (Nat × II)) := [[(0, (1, 1, 1, 0, 0, 0, 0, [])), (1, (20, 4, 169, 0, 0, 1167, 0, [(1, 1), (0, 0)])), (4, (10, 7, 0, 16, 0, 0, 0, [])), (7, (1, 8, 2, 0, 0, 0, 0, [])), (8, (0, 9, 0, 0, 0, 0, 0, [])), (9, (0, 10, 0, 0, 0, 0, 1, [])), (10, (20, 13, 159, 0, 0, 1125, 0, [(3, 3), (0, 0), (0, 0), (0, 0)])), (13, (10, 16, 1, 19, 0, 0, 0, [])), (16, (0, 18, 0, 0, 0, 1129, (-1000000001), [])), (18, (21, 19, 1, 0, 0, 0, 0, [])), (19, (1, 20, 0, 2, 0, 0, 0, [])), (20, (1, 21, 1, 0, 0, 0, 0, [])), (21, (20, 24, 170, 1, 0, 1187, 0, [(2, 2), (0, 48), (0, 0)])), (24, (10, 27, 0, 30, 0, 0, 0, [])), (27, (0, 29, 0, 0, 0, 1178, (-1000000002), [])), (29, (21, 30, 1, 0, 0, 0, 0, [])), (30, (1, 31, 2, 0, 0, 0, 0, [])), (31, (10, 34, 1, 40, 0, 0, 0, []))],
  [(34, (1, 35, 0, 2, 0, 0, 0, [])), (35, (1, 36, 1, 0, 0, 0, 0, [])), (36, (20, 39, 223, 1, 0, 1387, 0, [(4, 2), (0, 48), (0, 0)])), (39, (21, 40, 1, 0, 0, 0, 0, [])), (40, (0, 41, 0, 0, 0, 0, 0, [])), (41, (2, 42, 3, 0, 0, 0, 0, [])), (42, (0, 43, 0, 0, 0, 0, 0, [])), (43, (2, 45, 4, 0, 0, 0, 0, [])), (45, (1, 47, 4, 0, 0, 0, 0, [])), (47, (1, 48, 0, 2, 0, 0, 0, [])), (48, (15, 51, 4, 8, 30, 1034, 0, [])), (51, (1, 52, 1, 0, 0, 0, 0, [])), (52, (17, 53, 0, 0, 0, 0, 0, [])), (53, (11, 56, 4, 124, 0, 0, 0, [])), (56, (0, 57, 0, 0, 0, 0, 0, [])), (57, (2, 59, 5, 0, 0, 0, 0, [])), (59, (1, 61, 5, 0, 0, 0, 0, [])), (61, (1, 62, 0, 2, 0, 0, 0, [])), (62, (15, 65, 2, 8, 30, 1032, 0, []))],
  [(65, (1, 66, 1, 0, 0, 0, 0, [])), (66, (17, 67, 0, 0, 0, 0, 0, [])), (67, (11, 70, 3, 118, 0, 0, 0, [])), (70, (1, 71, 3, 0, 0, 0, 0, [])), (71, (1, 72, 0, 2, 0, 0, 0, [])), (72, (1, 73, 1, 0, 0, 0, 0, [])), (73, (1, 75, 4, 0, 0, 0, 0, [])), (75, (1, 77, 5, 0, 0, 0, 0, [])), (77, (20, 80, 181, 1, 0, 1270, 0, [(4, 4), (0, 48), (0, 0), (0, 0), (0, 0)])), (80, (10, 83, 0, 109, 0, 0, 0, [])), (83, (1, 84, 0, 2, 0, 0, 0, [])), (84, (1, 85, 1, 0, 0, 0, 0, [])), (85, (0, 87, 0, 0, 0, 0, 6, [])), (87, (1, 89, 4, 0, 0, 0, 0, [])), (89, (4, 90, 2, 0, 0, 0, 0, [])), (90, (1, 92, 5, 0, 0, 0, 0, [])), (92, (4, 93, 0, 0, 0, 0, 0, [])), (93, (20, 96, 217, 1, 0, 1360, 0, [(6, 3), (0, 48), (0, 0), (0, 0)]))],
  [(96, (1, 97, 0, 2, 0, 0, 0, [])), (97, (15, 100, 1, 8, 30, 1031, 0, [])), (100, (0, 101, 0, 0, 0, 0, 0, [])), (101, (17, 102, 0, 0, 0, 0, 0, [])), (102, (11, 105, 5, 109, 0, 0, 0, [])), (105, (0, 106, 0, 0, 0, 0, 1, [])), (106, (13, 109, 0, 110, 0, 0, 0, [])), (109, (0, 110, 0, 0, 0, 0, 0, [])), (110, (4, 111, 0, 0, 0, 0, 0, [])), (111, (2, 112, 3, 0, 0, 0, 0, [])), (112, (3, 115, 5, 0, 0, 0, 1, [])), (115, (13, 118, 0, 59, 0, 0, 0, [])), (118, (3, 121, 4, 0, 0, 0, 1, [])), (121, (13, 124, 0, 45, 0, 0, 0, [])), (124, (1, 125, 3, 0, 0, 0, 0, [])), (125, (21, 126, 1, 0, 0, 0, 0, []))]]
set_option maxRecDepth 100000 in
noncomputable def tb225 : List (List (Nat × II)) := [[(0, (1, 1, 1, 0, 0, 0, 0, [])), (1, (10, 4, 1, 14, 0, 0, 0, [])), (4, (1, 5, 2, 0, 0, 0, 0, [])), (5, (0, 6, 0, 0, 0, 0, 0, [])), (6, (0, 8, 0, 0, 0, 0, 9, [])), (8, (20, 11, 159, 0, 0, 1125, 0, [(3, 3), (0, 0), (0, 0), (0, 0)])), (11, (10, 14, 1, 44, 0, 0, 0, [])), (14, (1, 15, 1, 0, 0, 0, 0, [])), (15, (0, 16, 0, 0, 0, 0, 1, [])), (16, (11, 19, 1, 29, 0, 0, 0, [])), (19, (1, 20, 2, 0, 0, 0, 0, [])), (20, (0, 21, 0, 0, 0, 0, 1, [])), (21, (0, 23, 0, 0, 0, 0, 6, [])), (23, (20, 26, 159, 0, 0, 1125, 0, [(3, 3), (0, 0), (0, 0), (0, 0)])), (26, (10, 29, 1, 44, 0, 0, 0, [])), (29, (1, 30, 1, 0, 0, 0, 0, [])), (30, (0, 31, 0, 0, 0, 0, 2, [])), (31, (11, 34, 1, 48, 0, 0, 0, []))],
  [(34, (1, 35, 2, 0, 0, 0, 0, [])), (35, (0, 36, 0, 0, 0, 0, 0, [])), (36, (0, 38, 0, 0, 0, 0, 10, [])), (38, (20, 41, 159, 0, 0, 1125, 0, [(3, 3), (0, 0), (0, 0), (0, 0)])), (41, (10, 44, 0, 48, 0, 0, 0, [])), (44, (0, 45, 0, 0, 0, 0, 1, [])), (45, (13, 48, 0, 49, 0, 0, 0, [])), (48, (0, 49, 0, 0, 0, 0, 0, [])), (49, (2, 50, 3, 0, 0, 0, 0, [])), (50, (1, 51, 3, 0, 0, 0, 0, [])), (51, (10, 54, 1, 57, 0, 0, 0, [])), (54, (0, 56, 0, 0, 0, 1129, (-1000000001), [])), (56, (21, 57, 1, 0, 0, 0, 0, [])), (57, (1, 58, 1, 0, 0, 0, 0, [])), (58, (10, 61, 1, 68, 0, 0, 0, [])), (61, (1, 62, 0, 2, 0, 0, 0, [])), (62, (15, 65, 15, 8, 0, 1045, 0, []))],
  [(65, (13, 68, 0, 84, 0, 0, 0, [])), (68, (1, 69, 1, 0, 0, 0, 0, [])), (69, (0, 70, 0, 0, 0, 0, 1, [])), (70, (11, 73, 1, 80, 0, 0, 0, [])), (73, (1, 74, 0, 2, 0, 0, 0, [])), (74, (15, 77, 16, 8, 0, 1046, 0, [])), (77, (13, 80, 0, 84, 0, 0, 0, [])), (80, (1, 81, 0, 2, 0, 0, 0, [])), (81, (15, 84, 17, 8, 0, 1047, 0, [])), (84, (2, 86, 4, 0, 0, 0, 0, [])), (86, (1, 87, 1, 0, 0, 0, 0, [])), (87, (10, 90, 1, 98, 0, 0, 0, [])), (90, (1, 91, 0, 2, 0, 0, 0, [])), (91, (1, 92, 2, 0, 0, 0, 0, [])), (92, (16, 95, 15, 8, 0, 1045, 0, [])), (95, (13, 98, 0, 116, 0, 0, 0, []))],
  [(98, (1, 99, 1, 0, 0, 0, 0, [])), (99, (0, 100, 0, 0, 0, 0, 1, [])), (100, (11, 103, 1, 111, 0, 0, 0, [])), (103, (1, 104, 0, 2, 0, 0, 0, [])), (104, (1, 105, 2, 0, 0, 0, 0, [])), (105, (16, 108, 16, 8, 0, 1046, 0, [])), (108, (13, 111, 0, 116, 0, 0, 0, [])), (111, (1, 112, 0, 2, 0, 0, 0, [])), (112, (1, 113, 2, 0, 0, 0, 0, [])), (113, (16, 116, 17, 8, 0, 1047, 0, [])), (116, (1, 118, 4, 0, 0, 0, 0, [])), (118, (21, 119, 1, 0, 0, 0, 0, []))]]
set_option maxRecDepth 100000 in
noncomputable def tb226 : List (List (Nat × II)) := [[(0, (1, 1, 0, 0, 0, 0, 0, [])), (1, (1, 2, 1, 0, 0, 0, 0, [])), (2, (11, 5, 3, 9, 0, 0, 0, [])), (5, (1, 6, 0, 0, 0, 0, 0, [])), (6, (13, 9, 0, 10, 0, 0, 0, [])), (9, (1, 10, 1, 0, 0, 0, 0, [])), (10, (21, 11, 1, 0, 0, 0, 0, []))]]
set_option maxRecDepth 100000 in
noncomputable def tb227 : List (List (Nat × II)) := [[(0, (0, 1, 0, 0, 0, 0, 0, [])), (1, (2, 3, 6, 0, 0, 0, 0, [])), (3, (1, 4, 2, 0, 0, 0, 0, [])), (4, (2, 6, 7, 0, 0, 0, 0, [])), (6, (1, 8, 7, 0, 0, 0, 0, [])), (8, (1, 9, 2, 0, 0, 0, 0, [])), (9, (1, 10, 3, 0, 0, 0, 0, [])), (10, (4, 11, 0, 0, 0, 0, 0, [])), (11, (11, 14, 3, 64, 0, 0, 0, [])), (14, (1, 16, 4, 0, 0, 0, 0, [])), (16, (2, 18, 8, 0, 0, 0, 0, [])), (18, (1, 20, 8, 0, 0, 0, 0, [])), (20, (1, 22, 4, 0, 0, 0, 0, [])), (22, (1, 24, 5, 0, 0, 0, 0, [])), (24, (4, 25, 0, 0, 0, 0, 0, [])), (25, (11, 28, 3, 58, 0, 0, 0, [])), (28, (1, 30, 6, 0, 0, 0, 0, [])), (30, (10, 33, 1, 45, 0, 0, 0, []))],
  [(33, (1, 34, 0, 2, 0, 0, 0, [])), (34, (1, 35, 1, 0, 0, 0, 0, [])), (35, (1, 37, 7, 0, 0, 0, 0, [])), (37, (1, 39, 8, 0, 0, 0, 0, [])), (39, (20, 42, 181, 1, 0, 1270, 0, [(4, 4), (0, 48), (0, 0), (0, 0), (0, 0)])), (42, (10, 45, 0, 49, 0, 0, 0, [])), (45, (0, 46, 0, 0, 0, 0, 1, [])), (46, (13, 49, 0, 50, 0, 0, 0, [])), (49, (0, 50, 0, 0, 0, 0, 0, [])), (50, (2, 52, 6, 0, 0, 0, 0, [])), (52, (3, 55, 8, 0, 0, 0, 1, [])), (55, (13, 58, 0, 18, 0, 0, 0, [])), (58, (3, 61, 7, 0, 0, 0, 1, [])), (61, (13, 64, 0, 6, 0, 0, 0, []))],
  [(64, (1, 66, 6, 0, 0, 0, 0, [])), (66, (21, 67, 2, 0, 3, 0, 0, []))]]
set_option maxRecDepth 100000 in
noncomputable def tb228 : List (List (Nat × II)) := [[(0, (0, 1, 0, 0, 0, 0, 0, [])), (1, (2, 3, 5, 0, 0, 0, 0, [])), (3, (1, 4, 2, 0, 0, 0, 0, [])), (4, (2, 6, 6, 0, 0, 0, 0, [])), (6, (1, 8, 6, 0, 0, 0, 0, [])), (8, (1, 9, 2, 0, 0, 0, 0, [])), (9, (1, 10, 3, 0, 0, 0, 0, [])), (10, (4, 11, 0, 0, 0, 0, 0, [])), (11, (11, 14, 3, 59, 0, 0, 0, [])), (14, (1, 16, 5, 0, 0, 0, 0, [])), (16, (10, 19, 1, 46, 0, 0, 0, [])), (19, (1, 20, 0, 2, 0, 0, 0, [])), (20, (1, 21, 1, 0, 0, 0, 0, [])), (21, (1, 23, 6, 0, 0, 0, 0, [])), (23, (1, 25, 4, 0, 0, 0, 0, [])), (25, (20, 28, 180, 1, 0, 1258, 0, [(4, 4), (0, 48), (0, 0), (0, 0), (0, 0)])), (28, (10, 31, 1, 46, 0, 0, 0, [])), (31, (1, 33, 4, 0, 0, 0, 0, []))],
  [(33, (10, 36, 1, 50, 0, 0, 0, [])), (36, (1, 37, 0, 2, 0, 0, 0, [])), (37, (1, 38, 1, 0, 0, 0, 0, [])), (38, (1, 40, 6, 0, 0, 0, 0, [])), (40, (20, 43, 173, 1, 0, 1204, 0, [(3, 3), (0, 48), (0, 0), (0, 0)])), (43, (10, 46, 0, 50, 0, 0, 0, [])), (46, (0, 47, 0, 0, 0, 0, 1, [])), (47, (13, 50, 0, 51, 0, 0, 0, [])), (50, (0, 51, 0, 0, 0, 0, 0, [])), (51, (2, 53, 5, 0, 0, 0, 0, [])), (53, (3, 56, 6, 0, 0, 0, 1, [])), (56, (13, 59, 0, 6, 0, 0, 0, [])), (59, (1, 61, 5, 0, 0, 0, 0, [])), (61, (21, 62, 2, 0, 3, 0, 0, []))]]
set_option maxRecDepth 100000 in
noncomputable def tb229 : List (List (Nat × II)) := [[(0, (1, 1, 0, 2, 0, 0, 0, [])), (1, (1, 2, 1, 0, 0, 0, 0, [])), (2, (16, 5, 26, 8, 0, 1056, 0, [])), (5, (1, 6, 0, 2, 0, 0, 0, [])), (6, (1, 7, 2, 0, 0, 0, 0, [])), (7, (16, 10, 27, 8, 0, 1057, 0, [])), (10, (1, 11, 0, 2, 0, 0, 0, [])), (11, (1, 12, 3, 0, 0, 0, 0, [])), (12, (16, 15, 28, 8, 0, 1058, 0, [])), (15, (21, 16, 0, 0, 9, 0, 0, []))]]
set_option maxRecDepth 100000 in
noncomputable def tb230 : List (List (Nat × II)) := [[(0, (0, 1, 0, 0, 0, 0, 0, [])), (1, (2, 2, 3, 0, 0, 0, 0, [])), (2, (1, 3, 0, 2, 0, 0, 0, [])), (3, (15, 6, 15, 8, 0, 1045, 0, [])), (6, (0, 7, 0, 0, 0, 0, 1, [])), (7, (4, 8, 0, 0, 0, 0, 0, [])), (8, (1, 9, 0, 2, 0, 0, 0, [])), (9, (15, 12, 4, 8, 30, 1034, 0, [])), (12, (1, 13, 1, 0, 0, 0, 0, [])), (13, (17, 14, 0, 0, 0, 0, 0, [])), (14, (0, 15, 0, 0, 0, 0, 1, [])), (15, (4, 16, 0, 0, 0, 0, 0, [])), (16, (20, 19, 226, 0, 0, 1407, 0, [(2, 2), (0, 0), (0, 0)])), (19, (2, 21, 4, 0, 0, 0, 0, [])), (21, (1, 22, 0, 2, 0, 0, 0, [])), (22, (15, 25, 16, 8, 0, 1046, 0, [])), (25, (1, 26, 0, 2, 0, 0, 0, [])), (26, (15, 29, 2, 8, 30, 1032, 0, [])), (29, (1, 30, 1, 0, 0, 0, 0, [])), (30, (17, 31, 0, 0, 0, 0, 0, [])), (31, (20, 34, 226, 0, 0, 1407, 0, [(2, 2), (0, 0), (0, 0)]))],
  [(34, (2, 36, 5, 0, 0, 0, 0, [])), (36, (0, 37, 0, 0, 0, 0, 0, [])), (37, (2, 39, 6, 0, 0, 0, 0, [])), (39, (1, 41, 6, 0, 0, 0, 0, [])), (41, (1, 43, 5, 0, 0, 0, 0, [])), (43, (4, 44, 0, 0, 0, 0, 0, [])), (44, (1, 45, 0, 2, 0, 0, 0, [])), (45, (15, 48, 2, 8, 30, 1032, 0, [])), (48, (1, 49, 1, 0, 0, 0, 0, [])), (49, (17, 50, 0, 0, 0, 0, 0, [])), (50, (11, 53, 4, 124, 0, 0, 0, [])), (53, (1, 54, 0, 2, 0, 0, 0, [])), (54, (15, 57, 15, 8, 0, 1045, 0, [])), (57, (10, 60, 5, 124, 0, 0, 0, [])), (60, (0, 61, 0, 0, 0, 0, 0, [])), (61, (2, 63, 7, 0, 0, 0, 0, [])), (63, (1, 65, 7, 0, 0, 0, 0, []))],
  [(65, (1, 67, 4, 0, 0, 0, 0, [])), (67, (4, 68, 0, 0, 0, 0, 0, [])), (68, (1, 69, 0, 2, 0, 0, 0, [])), (69, (15, 72, 4, 8, 30, 1034, 0, [])), (72, (1, 73, 1, 0, 0, 0, 0, [])), (73, (17, 74, 0, 0, 0, 0, 0, [])), (74, (0, 75, 0, 0, 0, 0, 1, [])), (75, (4, 76, 0, 0, 0, 0, 0, [])), (76, (11, 79, 4, 118, 0, 0, 0, [])), (79, (1, 80, 0, 2, 0, 0, 0, [])), (80, (1, 81, 1, 0, 0, 0, 0, [])), (81, (1, 83, 7, 0, 0, 0, 0, [])), (83, (1, 85, 4, 0, 0, 0, 0, [])), (85, (1, 87, 6, 0, 0, 0, 0, [])), (87, (1, 89, 5, 0, 0, 0, 0, [])), (89, (20, 92, 227, 1, 0, 1410, 0, [(9, 6), (0, 48), (0, 0), (0, 0), (0, 0), (0, 0), (0, 0)])), (92, (10, 95, 1, 112, 0, 0, 0, [])), (95, (1, 96, 3, 0, 0, 0, 0, []))],
  [(96, (1, 97, 2, 0, 0, 0, 0, [])), (97, (11, 100, 1, 109, 0, 0, 0, [])), (100, (1, 101, 0, 2, 0, 0, 0, [])), (101, (0, 102, 0, 0, 0, 0, 0, [])), (102, (1, 104, 6, 0, 0, 0, 0, [])), (104, (1, 106, 7, 0, 0, 0, 0, [])), (106, (20, 109, 229, 1, 9, 1414, 0, [(4, 4), (0, 48), (0, 0), (0, 0), (0, 0)])), (109, (3, 112, 3, 0, 0, 0, 1, [])), (112, (3, 115, 7, 0, 0, 0, 1, [])), (115, (13, 118, 0, 63, 0, 0, 0, [])), (118, (3, 121, 6, 0, 0, 0, 1, [])), (121, (13, 124, 0, 39, 0, 0, 0, [])), (124, (1, 125, 0, 2, 0, 0, 0, [])), (125, (15, 128, 17, 8, 0, 1047, 0, []))],
  [(128, (1, 129, 0, 2, 0, 0, 0, [])), (129, (15, 132, 4, 8, 30, 1034, 0, [])), (132, (1, 133, 1, 0, 0, 0, 0, [])), (133, (17, 134, 0, 0, 0, 0, 0, [])), (134, (20, 137, 226, 0, 0, 1407, 0, [(2, 2), (0, 0), (0, 0)])), (137, (2, 139, 6, 0, 0, 0, 0, [])), (139, (0, 140, 0, 0, 0, 0, 0, [])), (140, (2, 142, 7, 0, 0, 0, 0, [])), (142, (1, 144, 7, 0, 0, 0, 0, [])), (144, (1, 145, 0, 2, 0, 0, 0, [])), (145, (15, 148, 2, 8, 30, 1032, 0, [])), (148, (1, 149, 1, 0, 0, 0, 0, [])), (149, (17, 150, 0, 0, 0, 0, 0, [])), (150, (11, 153, 3, 220, 0, 0, 0, [])), (153, (1, 154, 0, 2, 0, 0, 0, [])), (154, (15, 157, 17, 8, 0, 1047, 0, [])), (157, (10, 160, 5, 220, 0, 0, 0, []))],
  [(160, (0, 161, 0, 0, 0, 0, 0, [])), (161, (2, 163, 8, 0, 0, 0, 0, [])), (163, (1, 165, 8, 0, 0, 0, 0, [])), (165, (1, 167, 6, 0, 0, 0, 0, [])), (167, (4, 168, 0, 0, 0, 0, 0, [])), (168, (1, 169, 0, 2, 0, 0, 0, [])), (169, (15, 172, 4, 8, 30, 1034, 0, [])), (172, (1, 173, 1, 0, 0, 0, 0, [])), (173, (17, 174, 0, 0, 0, 0, 0, [])), (174, (11, 177, 4, 214, 0, 0, 0, [])), (177, (1, 178, 0, 2, 0, 0, 0, [])), (178, (1, 179, 1, 0, 0, 0, 0, [])), (179, (1, 181, 8, 0, 0, 0, 0, [])), (181, (1, 183, 6, 0, 0, 0, 0, [])), (183, (1, 185, 7, 0, 0, 0, 0, [])), (185, (20, 188, 228, 1, 0, 1418, 0, [(7, 5), (0, 48), (0, 0), (0, 0), (0, 0), (0, 0)])), (188, (10, 191, 1, 208, 0, 0, 0, [])), (191, (1, 192, 3, 0, 0, 0, 0, []))],
  [(192, (1, 193, 2, 0, 0, 0, 0, [])), (193, (11, 196, 1, 205, 0, 0, 0, [])), (196, (1, 197, 0, 2, 0, 0, 0, [])), (197, (0, 198, 0, 0, 0, 0, 1, [])), (198, (1, 200, 7, 0, 0, 0, 0, [])), (200, (1, 202, 8, 0, 0, 0, 0, [])), (202, (20, 205, 229, 1, 9, 1414, 0, [(4, 4), (0, 48), (0, 0), (0, 0), (0, 0)])), (205, (3, 208, 3, 0, 0, 0, 1, [])), (208, (3, 211, 8, 0, 0, 0, 1, [])), (211, (13, 214, 0, 163, 0, 0, 0, [])), (214, (3, 217, 7, 0, 0, 0, 1, [])), (217, (13, 220, 0, 142, 0, 0, 0, [])), (220, (1, 221, 3, 0, 0, 0, 0, [])), (221, (21, 222, 1, 0, 0, 0, 0, []))]]
set_option maxRecDepth 100000 in
noncomputable def tb231 : List (List (Nat × II)) := [[(0, (1, 1, 0, 2, 0, 0, 0, [])), (1, (1, 2, 1, 0, 0, 0, 0, [])), (2, (20, 5, 206, 1, 0, 1318, 0, [(2, 2), (0, 48), (0, 0)])), (5, (2, 6, 2, 0, 0, 0, 0, [])), (6, (1, 7, 2, 0, 0, 0, 0, [])), (7, (10, 10, 0, 14, 0, 0, 0, [])), (10, (1, 11, 2, 0, 0, 0, 0, [])), (11, (13, 14, 0, 20, 0, 0, 0, [])), (14, (1, 15, 0, 2, 0, 0, 0, [])), (15, (1, 16, 1, 0, 0, 0, 0, [])), (16, (0, 17, 0, 0, 0, 0, (-1), [])), (17, (20, 20, 230, 1, 0, 1403, 0, [(9, 3), (0, 48), (0, 0), (0, 0)])), (20, (21, 21, 1, 0, 0, 0, 0, []))]]
set_option maxRecDepth 100000 in
noncomputable def tb232 : List (List (Nat × II)) := [[(0, (1, 1, 1, 0, 0, 0, 0, [])), (1, (20, 4, 169, 0, 0, 1167, 0, [(1, 1), (0, 0)])), (4, (10, 7, 0, 20, 0, 0, 0, [])), (7, (1, 8, 2, 0, 0, 0, 0, [])), (8, (10, 11, 2, 20, 0, 0, 0, [])), (11, (1, 12, 3, 0, 0, 0, 0, [])), (12, (0, 13, 0, 0, 0, 0, 0, [])), (13, (0, 14, 0, 0, 0, 0, 2, [])), (14, (20, 17, 159, 0, 0, 1125, 0, [(3, 3), (0, 0), (0, 0), (0, 0)])), (17, (10, 20, 1, 23, 0, 0, 0, [])), (20, (0, 22, 0, 0, 0, 1129, (-1000000001), [])), (22, (21, 23, 1, 0, 0, 0, 0, [])), (23, (1, 24, 0, 2, 0, 0, 0, [])), (24, (1, 25, 1, 0, 0, 0, 0, [])), (25, (20, 28, 170, 1, 0, 1187, 0, [(2, 2), (0, 48), (0, 0)])), (28, (10, 31, 0, 34, 0, 0, 0, [])), (31, (0, 33, 0, 0, 0, 1178, (-1000000002), []))],
  [(33, (21, 34, 1, 0, 0, 0, 0, [])), (34, (1, 35, 2, 0, 0, 0, 0, [])), (35, (1, 36, 0, 2, 0, 0, 0, [])), (36, (1, 37, 1, 0, 0, 0, 0, [])), (37, (1, 38, 2, 0, 0, 0, 0, [])), (38, (20, 41, 230, 1, 0, 1403, 0, [(9, 3), (0, 48), (0, 0), (0, 0)])), (41, (11, 44, 2, 47, 0, 0, 0, [])), (44, (0, 46, 0, 0, 0, 1029, (-1000000005), [])), (46, (21, 47, 1, 0, 0, 0, 0, [])), (47, (1, 48, 3, 0, 0, 0, 0, [])), (48, (10, 51, 1, 58, 0, 0, 0, [])), (51, (1, 52, 0, 2, 0, 0, 0, [])), (52, (15, 55, 26, 8, 0, 1056, 0, [])), (55, (13, 58, 0, 74, 0, 0, 0, [])), (58, (1, 59, 3, 0, 0, 0, 0, [])), (59, (0, 60, 0, 0, 0, 0, 1, [])), (60, (11, 63, 1, 70, 0, 0, 0, [])), (63, (1, 64, 0, 2, 0, 0, 0, []))],
  [(64, (15, 67, 27, 8, 0, 1057, 0, [])), (67, (13, 70, 0, 74, 0, 0, 0, [])), (70, (1, 71, 0, 2, 0, 0, 0, [])), (71, (15, 74, 28, 8, 0, 1058, 0, [])), (74, (21, 75, 1, 0, 0, 0, 0, []))]]
set_option maxRecDepth 100000 in
noncomputable def tb233 : List (List (Nat × II)) := [[(0, (0, 2, 0, 0, 0, 0, 66, [])), (2, (1, 3, 0, 0, 0, 0, 0, [])), (3, (4, 4, 2, 0, 0, 0, 0, [])), (4, (0, 6, 0, 0, 0, 0, 11, [])), (6, (1, 7, 1, 0, 0, 0, 0, [])), (7, (4, 8, 2, 0, 0, 0, 0, [])), (8, (4, 9, 0, 0, 0, 0, 0, [])), (9, (1, 10, 2, 0, 0, 0, 0, [])), (10, (4, 11, 0, 0, 0, 0, 0, [])), (11, (21, 12, 1, 0, 0, 0, 0, []))]]
set_option maxRecDepth 100000 in
noncomputable def tb234 : List (List (Nat × II)) := [[(0, (1, 1, 2, 0, 0, 0, 0, [])), (1, (0, 2, 0, 0, 0, 0, 0, [])), (2, (0, 5, 0, 0, 0, 0, 395, [])), (5, (20, 8, 159, 0, 0, 1125, 0, [(3, 3), (0, 0), (0, 0), (0, 0)])), (8, (10, 11, 0, 19, 0, 0, 0, [])), (11, (1, 12, 0, 2, 0, 0, 0, [])), (12, (1, 13, 1, 0, 0, 0, 0, [])), (13, (20, 16, 170, 1, 0, 1187, 0, [(2, 2), (0, 48), (0, 0)])), (16, (10, 19, 0, 21, 0, 0, 0, [])), (19, (0, 20, 0, 0, 0, 0, 0, [])), (20, (21, 21, 2, 0, 3, 0, 0, [])), (21, (1, 22, 2, 0, 0, 0, 0, [])), (22, (0, 24, 0, 0, 0, 0, 66, [])), (24, (5, 25, 0, 0, 0, 0, 0, [])), (25, (2, 26, 3, 0, 0, 0, 0, [])), (26, (1, 27, 2, 0, 0, 0, 0, [])), (27, (0, 29, 0, 0, 0, 0, 66, [])), (29, (5, 30, 1, 0, 0, 0, 0, [])), (30, (0, 32, 0, 0, 0, 0, 11, []))],
  [(32, (5, 33, 0, 0, 0, 0, 0, [])), (33, (2, 35, 4, 0, 0, 0, 0, [])), (35, (1, 36, 2, 0, 0, 0, 0, [])), (36, (0, 38, 0, 0, 0, 0, 11, [])), (38, (5, 39, 1, 0, 0, 0, 0, [])), (39, (2, 41, 5, 0, 0, 0, 0, [])), (41, (1, 42, 3, 0, 0, 0, 0, [])), (42, (10, 45, 0, 50, 0, 0, 0, [])), (45, (1, 46, 3, 0, 0, 0, 0, [])), (46, (0, 47, 0, 0, 0, 0, 4, [])), (47, (11, 50, 1, 54, 0, 0, 0, [])), (50, (0, 51, 0, 0, 0, 0, 1, [])), (51, (13, 54, 0, 55, 0, 0, 0, [])), (54, (0, 55, 0, 0, 0, 0, 0, [])), (55, (2, 57, 6, 0, 0, 0, 0, [])), (57, (1, 59, 4, 0, 0, 0, 0, [])), (59, (1, 60, 0, 2, 0, 0, 0, [])), (60, (15, 63, 2, 8, 30, 1032, 0, [])), (63, (1, 64, 1, 0, 0, 0, 0, []))],
  [(64, (17, 65, 0, 0, 0, 0, 0, [])), (65, (11, 68, 3, 95, 0, 0, 0, [])), (68, (1, 70, 5, 0, 0, 0, 0, [])), (70, (1, 71, 0, 2, 0, 0, 0, [])), (71, (15, 74, 4, 8, 30, 1034, 0, [])), (74, (1, 75, 1, 0, 0, 0, 0, [])), (75, (17, 76, 0, 0, 0, 0, 0, [])), (76, (11, 79, 4, 95, 0, 0, 0, [])), (79, (1, 81, 6, 0, 0, 0, 0, [])), (81, (10, 84, 1, 97, 0, 0, 0, [])), (84, (1, 86, 5, 0, 0, 0, 0, [])), (86, (1, 87, 0, 2, 0, 0, 0, [])), (87, (15, 90, 4, 8, 30, 1034, 0, [])), (90, (1, 91, 1, 0, 0, 0, 0, [])), (91, (17, 92, 0, 0, 0, 0, 0, [])), (92, (11, 95, 1, 97, 0, 0, 0, [])), (95, (0, 96, 0, 0, 0, 0, 0, []))],
  [(96, (21, 97, 2, 0, 3, 0, 0, [])), (97, (1, 98, 3, 0, 0, 0, 0, [])), (98, (14, 132, 0, 212, 0, 0, 0, [(0, 132), (1, 153), (2, 174), (3, 184), (4, 202)]))],
  [(132, (1, 134, 4, 0, 0, 0, 0, [])), (134, (10, 137, 4, 147, 0, 0, 0, [])), (137, (1, 138, 0, 2, 0, 0, 0, [])), (138, (1, 139, 1, 0, 0, 0, 0, [])), (139, (1, 141, 5, 0, 0, 0, 0, [])), (141, (20, 144, 174, 1, 0, 1200, 0, [(3, 3), (0, 48), (0, 0), (0, 0)])), (144, (10, 147, 0, 151, 0, 0, 0, [])), (147, (0, 148, 0, 0, 0, 0, 1, [])), (148, (13, 151, 0, 152, 0, 0, 0, [])), (151, (0, 152, 0, 0, 0, 0, 0, [])), (152, (21, 153, 2, 0, 3, 0, 0, [])), (153, (1, 155, 4, 0, 0, 0, 0, [])), (155, (10, 158, 4, 168, 0, 0, 0, [])), (158, (1, 159, 0, 2, 0, 0, 0, [])), (159, (1, 160, 1, 0, 0, 0, 0, []))],
  [(160, (1, 162, 5, 0, 0, 0, 0, [])), (162, (20, 165, 173, 1, 0, 1204, 0, [(3, 3), (0, 48), (0, 0), (0, 0)])), (165, (10, 168, 1, 172, 0, 0, 0, [])), (168, (0, 169, 0, 0, 0, 0, 1, [])), (169, (13, 172, 0, 173, 0, 0, 0, [])), (172, (0, 173, 0, 0, 0, 0, 0, [])), (173, (21, 174, 2, 0, 3, 0, 0, [])), (174, (1, 175, 0, 2, 0, 0, 0, [])), (175, (1, 176, 1, 0, 0, 0, 0, [])), (176, (1, 178, 5, 0, 0, 0, 0, [])), (178, (1, 180, 4, 0, 0, 0, 0, [])), (180, (20, 183, 180, 1, 0, 1258, 0, [(4, 4), (0, 48), (0, 0), (0, 0), (0, 0)])), (183, (21, 184, 2, 0, 3, 0, 0, [])), (184, (1, 185, 0, 2, 0, 0, 0, [])), (185, (1, 186, 1, 0, 0, 0, 0, [])), (186, (1, 188, 5, 0, 0, 0, 0, [])), (188, (1, 190, 4, 0, 0, 0, 0, [])), (190, (20, 193, 179, 1, 0, 1242, 0, [(4, 4), (0, 48), (0, 0), (0, 0), (0, 0)]))],
  [(193, (10, 196, 2, 200, 0, 0, 0, [])), (196, (0, 197, 0, 0, 0, 0, 1, [])), (197, (13, 200, 0, 201, 0, 0, 0, [])), (200, (0, 201, 0, 0, 0, 0, 0, [])), (201, (21, 202, 2, 0, 3, 0, 0, [])), (202, (1, 203, 0, 2, 0, 0, 0, [])), (203, (1, 204, 1, 0, 0, 0, 0, [])), (204, (1, 206, 5, 0, 0, 0, 0, [])), (206, (1, 208, 4, 0, 0, 0, 0, [])), (208, (20, 211, 181, 1, 0, 1270, 0, [(4, 4), (0, 48), (0, 0), (0, 0), (0, 0)])), (211, (21, 212, 2, 0, 3, 0, 0, [])), (212, (1, 214, 4, 0, 0, 0, 0, [])), (214, (10, 217, 1, 231, 0, 0, 0, [])), (217, (1, 218, 0, 2, 0, 0, 0, [])), (218, (1, 219, 1, 0, 0, 0, 0, [])), (219, (1, 221, 5, 0, 0, 0, 0, [])), (221, (20, 224, 173, 1, 0, 1204, 0, [(3, 3), (0, 48), (0, 0), (0, 0)]))],
  [(224, (10, 227, 0, 231, 0, 0, 0, [])), (227, (0, 228, 0, 0, 0, 0, 1, [])), (228, (13, 231, 0, 232, 0, 0, 0, [])), (231, (0, 232, 0, 0, 0, 0, 0, [])), (232, (21, 233, 2, 0, 3, 0, 0, []))]]
set_option maxRecDepth 100000 in
noncomputable def tb235 : List (List (Nat × II)) := [[(0, (1, 1, 2, 0, 0, 0, 0, [])), (1, (0, 3, 0, 0, 0, 0, 66, [])), (3, (5, 4, 0, 0, 0, 0, 0, [])), (4, (2, 6, 4, 0, 0, 0, 0, [])), (6, (1, 7, 2, 0, 0, 0, 0, [])), (7, (0, 9, 0, 0, 0, 0, 66, [])), (9, (5, 10, 1, 0, 0, 0, 0, [])), (10, (0, 12, 0, 0, 0, 0, 11, [])), (12, (5, 13, 0, 0, 0, 0, 0, [])), (13, (2, 15, 5, 0, 0, 0, 0, [])), (15, (1, 16, 2, 0, 0, 0, 0, [])), (16, (0, 18, 0, 0, 0, 0, 11, [])), (18, (5, 19, 1, 0, 0, 0, 0, [])), (19, (2, 21, 6, 0, 0, 0, 0, [])), (21, (1, 23, 4, 0, 0, 0, 0, [])), (23, (14, 56, 0, 148, 0, 0, 0, [(0, 56), (1, 80), (2, 112), (3, 112), (4, 130)]))],
  [(56, (1, 58, 5, 0, 0, 0, 0, [])), (58, (10, 61, 5, 78, 0, 0, 0, [])), (61, (1, 62, 0, 2, 0, 0, 0, [])), (62, (1, 63, 1, 0, 0, 0, 0, [])), (63, (1, 65, 6, 0, 0, 0, 0, []))],
  [(65, (1, 67, 5, 0, 0, 0, 0, [])), (67, (1, 68, 3, 0, 0, 0, 0, [])), (68, (20, 71, 236, 1, 0, 1446, 0, [(5, 5), (0, 48), (0, 0), (0, 0), (0, 0), (0, 0)])), (71, (10, 74, 0, 78, 0, 0, 0, [])), (74, (0, 75, 0, 0, 0, 0, 1, [])), (75, (13, 78, 0, 79, 0, 0, 0, [])), (78, (0, 79, 0, 0, 0, 0, 0, [])), (79, (21, 80, 2, 0, 3, 0, 0, [])), (80, (1, 81, 3, 0, 0, 0, 0, [])), (81, (0, 82, 0, 0, 0, 0, 0, [])), (82, (1, 84, 5, 0, 0, 0, 0, [])), (84, (1, 86, 6, 0, 0, 0, 0, [])), (86, (20, 89, 233, 0, 0, 1450, 0, [(3, 3), (0, 0), (0, 0), (0, 0)])), (89, (11, 92, 0, 106, 0, 0, 0, [])), (92, (1, 93, 3, 0, 0, 0, 0, [])), (93, (0, 94, 0, 0, 0, 0, 0, [])), (94, (1, 96, 5, 0, 0, 0, 0, []))],
  [(96, (1, 98, 6, 0, 0, 0, 0, [])), (98, (0, 99, 0, 0, 0, 0, 1, [])), (99, (4, 100, 0, 0, 0, 0, 0, [])), (100, (20, 103, 233, 0, 0, 1450, 0, [(3, 3), (0, 0), (0, 0), (0, 0)])), (103, (11, 106, 1, 110, 0, 0, 0, [])), (106, (0, 107, 0, 0, 0, 0, 1, [])), (107, (13, 110, 0, 111, 0, 0, 0, [])), (110, (0, 111, 0, 0, 0, 0, 0, [])), (111, (21, 112, 2, 0, 3, 0, 0, [])), (112, (1, 113, 3, 0, 0, 0, 0, [])), (113, (0, 114, 0, 0, 0, 0, 1, [])), (114, (1, 116, 5, 0, 0, 0, 0, [])), (116, (1, 118, 6, 0, 0, 0, 0, [])), (118, (20, 121, 233, 0, 0, 1450, 0, [(3, 3), (0, 0), (0, 0), (0, 0)])), (121, (11, 124, 1, 128, 0, 0, 0, [])), (124, (0, 125, 0, 0, 0, 0, 1, [])), (125, (13, 128, 0, 129, 0, 0, 0, []))],
  [(128, (0, 129, 0, 0, 0, 0, 0, [])), (129, (21, 130, 2, 0, 3, 0, 0, [])), (130, (1, 131, 3, 0, 0, 0, 0, [])), (131, (0, 132, 0, 0, 0, 0, 0, [])), (132, (1, 134, 5, 0, 0, 0, 0, [])), (134, (1, 136, 6, 0, 0, 0, 0, [])), (136, (20, 139, 233, 0, 0, 1450, 0, [(3, 3), (0, 0), (0, 0), (0, 0)])), (139, (11, 142, 1, 146, 0, 0, 0, [])), (142, (0, 143, 0, 0, 0, 0, 1, [])), (143, (13, 146, 0, 147, 0, 0, 0, [])), (146, (0, 147, 0, 0, 0, 0, 0, [])), (147, (21, 148, 2, 0, 3, 0, 0, [])), (148, (1, 149, 0, 2, 0, 0, 0, [])), (149, (1, 150, 1, 0, 0, 0, 0, [])), (150, (1, 152, 6, 0, 0, 0, 0, [])), (152, (1, 153, 3, 0, 0, 0, 0, [])), (153, (20, 156, 237, 1, 0, 1453, 0, [(6, 4), (0, 48), (0, 0), (0, 0), (0, 0)])), (156, (21, 157, 2, 0, 3, 0, 0, []))]]
set_option maxRecDepth 100000 in
noncomputable def tb236 : List (List (Nat × II)) := [[(0, (1, 1, 3, 0, 0, 0, 0, [])), (1, (0, 2, 0, 0, 0, 0, 1, [])), (2, (11, 5, 1, 44, 0, 0, 0, [])), (5, (1, 6, 0, 2, 0, 0, 0, [])), (6, (1, 7, 1, 0, 0, 0, 0, [])), (7, (1, 8, 2, 0, 0, 0, 0, [])), (8, (20, 11, 174, 1, 0, 1200, 0, [(3, 3), (0, 48), (0, 0), (0, 0)])), (11, (10, 14, 1, 44, 0, 0, 0, [])), (14, (1, 16, 4, 0, 0, 0, 0, [])), (16, (0, 17, 0, 0, 0, 0, 5, [])), (17, (0, 18, 0, 0, 0, 0, 0, [])), (18, (1, 19, 2, 0, 0, 0, 0, [])), (19, (0, 20, 0, 0, 0, 0, 1, [])), (20, (4, 21, 1, 0, 0, 0, 0, [])), (21, (20, 24, 233, 0, 0, 1450, 0, [(3, 3), (0, 0), (0, 0), (0, 0)])), (24, (11, 27, 0, 38, 0, 0, 0, [])), (27, (1, 29, 4, 0, 0, 0, 0, [])), (29, (0, 30, 0, 0, 0, 0, 5, [])), (30, (0, 31, 0, 0, 0, 0, 0, [])), (31, (1, 32, 2, 0, 0, 0, 0, []))],
  [(32, (20, 35, 233, 0, 0, 1450, 0, [(3, 3), (0, 0), (0, 0), (0, 0)])), (35, (11, 38, 1, 42, 0, 0, 0, [])), (38, (0, 39, 0, 0, 0, 0, 1, [])), (39, (13, 42, 0, 43, 0, 0, 0, [])), (42, (0, 43, 0, 0, 0, 0, 0, [])), (43, (21, 44, 2, 0, 3, 0, 0, [])), (44, (1, 46, 4, 0, 0, 0, 0, [])), (46, (0, 47, 0, 0, 0, 0, 0, [])), (47, (1, 48, 3, 0, 0, 0, 0, [])), (48, (0, 49, 0, 0, 0, 0, 1, [])), (49, (4, 50, 1, 0, 0, 0, 0, [])), (50, (1, 51, 2, 0, 0, 0, 0, [])), (51, (20, 54, 233, 0, 0, 1450, 0, [(3, 3), (0, 0), (0, 0), (0, 0)])), (54, (11, 57, 1, 61, 0, 0, 0, [])), (57, (0, 58, 0, 0, 0, 0, 1, [])), (58, (13, 61, 0, 62, 0, 0, 0, [])), (61, (0, 62, 0, 0, 0, 0, 0, [])), (62, (21, 63, 2, 0, 3, 0, 0, []))]]
set_option maxRecDepth 100000 in
noncomputable def tb237 : List (List (Nat × II)) := [[(0, (1, 1, 0, 2, 0, 0, 0, [])), (1, (1, 2, 1, 0, 0, 0, 0, [])), (2, (1, 3, 2, 0, 0, 0, 0, [])), (3, (20, 6, 174, 1, 0, 1200, 0, [(3, 3), (0, 48), (0, 0), (0, 0)])), (6, (10, 9, 0, 13, 0, 0, 0, [])), (9, (1, 10, 2, 0, 0, 0, 0, [])), (10, (13, 13, 0, 19, 0, 0, 0, [])), (13, (1, 14, 0, 2, 0, 0, 0, [])), (14, (1, 15, 1, 0, 0, 0, 0, [])), (15, (1, 16, 2, 0, 0, 0, 0, [])), (16, (20, 19, 209, 1, 0, 1348, 0, [(4, 3), (0, 48), (0, 0), (0, 0)])), (19, (2, 21, 4, 0, 0, 0, 0, [])), (21, (1, 22, 0, 2, 0, 0, 0, [])), (22, (1, 23, 1, 0, 0, 0, 0, [])), (23, (1, 24, 2, 0, 0, 0, 0, [])), (24, (0, 25, 0, 0, 0, 0, 1, [])), (25, (4, 26, 0, 0, 0, 0, 0, [])), (26, (20, 29, 174, 1, 0, 1200, 0, [(3, 3), (0, 48), (0, 0), (0, 0)])), (29, (10, 32, 0, 38, 0, 0, 0, []))],
  [(32, (1, 33, 2, 0, 0, 0, 0, [])), (33, (0, 34, 0, 0, 0, 0, 1, [])), (34, (4, 35, 0, 0, 0, 0, 0, [])), (35, (13, 38, 0, 46, 0, 0, 0, [])), (38, (1, 39, 0, 2, 0, 0, 0, [])), (39, (1, 40, 1, 0, 0, 0, 0, [])), (40, (1, 41, 2, 0, 0, 0, 0, [])), (41, (0, 42, 0, 0, 0, 0, 1, [])), (42, (4, 43, 0, 0, 0, 0, 0, [])), (43, (20, 46, 210, 1, 0, 1352, 0, [(4, 3), (0, 48), (0, 0), (0, 0)])), (46, (2, 48, 5, 0, 0, 0, 0, [])), (48, (1, 49, 3, 0, 0, 0, 0, [])), (49, (0, 50, 0, 0, 0, 0, 0, [])), (50, (0, 51, 0, 0, 0, 0, 0, [])), (51, (1, 53, 4, 0, 0, 0, 0, [])), (53, (20, 56, 233, 0, 0, 1450, 0, [(3, 3), (0, 0), (0, 0), (0, 0)])), (56, (11, 59, 0, 70, 0, 0, 0, [])), (59, (1, 60, 3, 0, 0, 0, 0, [])), (60, (0, 61, 0, 0, 0, 0, 0, [])), (61, (0, 62, 0, 0, 0, 0, 0, [])), (62, (1, 64, 5, 0, 0, 0, 0, []))],
  [(64, (20, 67, 233, 0, 0, 1450, 0, [(3, 3), (0, 0), (0, 0), (0, 0)])), (67, (11, 70, 1, 74, 0, 0, 0, [])), (70, (0, 71, 0, 0, 0, 0, 1, [])), (71, (13, 74, 0, 75, 0, 0, 0, [])), (74, (0, 75, 0, 0, 0, 0, 0, [])), (75, (21, 76, 2, 0, 3, 0, 0, []))]]
set_option maxRecDepth 100000 in
noncomputable def tb238 : List (List (Nat × II)) := [[(0, (1, 1, 0, 2, 0, 0, 0, [])), (1, (15, 4, 11, 8, 31, 1041, 0, [])), (4, (0, 7, 0, 0, 0, 0, 396, [])), (7, (1, 8, 1, 0, 0, 0, 0, [])), (8, (4, 9, 2, 0, 0, 0, 0, [])), (9, (1, 10, 2, 0, 0, 0, 0, [])), (10, (4, 11, 0, 0, 0, 0, 0, [])), (11, (17, 12, 1, 0, 0, 0, 0, [])), (12, (21, 13, 2, 0, 3, 0, 0, []))]]
set_option maxRecDepth 100000 in
noncomputable def tb239 : List (List (Nat × II)) := [[(0, (1, 1, 0, 2, 0, 0, 0, [])), (1, (1, 2, 1, 0, 0, 0, 0, [])), (2, (1, 3, 2, 0, 0, 0, 0, [])), (3, (20, 6, 234, 1, 0, 1282, 0, [(7, 3), (0, 48), (0, 0), (0, 0)])), (6, (10, 9, 0, 18, 0, 0, 0, [])), (9, (1, 10, 0, 2, 0, 0, 0, [])), (10, (1, 11, 1, 0, 0, 0, 0, [])), (11, (1, 12, 2, 0, 0, 0, 0, [])), (12, (20, 15, 238, 1, 0, 1438, 0, [(3, 3), (0, 48), (0, 0), (0, 0)])), (15, (10, 18, 0, 20, 0, 0, 0, [])), (18, (0, 19, 0, 0, 0, 0, 0, [])), (19, (21, 20, 2, 0, 3, 0, 0, [])), (20, (0, 21, 0, 0, 0, 0, 1, [])), (21, (2, 22, 3, 0, 0, 0, 0, [])), (22, (0, 23, 0, 0, 0, 0, 0, [])), (23, (2, 25, 4, 0, 0, 0, 0, [])), (25, (1, 27, 4, 0, 0, 0, 0, [])), (27, (0, 30, 0, 0, 0, 0, 396, [])), (30, (11, 33, 3, 80, 0, 0, 0, []))],
  [(33, (1, 34, 3, 0, 0, 0, 0, [])), (34, (10, 37, 0, 72, 0, 0, 0, [])), (37, (1, 38, 0, 2, 0, 0, 0, [])), (38, (1, 39, 1, 0, 0, 0, 0, [])), (39, (1, 41, 4, 0, 0, 0, 0, [])), (41, (20, 44, 238, 1, 0, 1438, 0, [(3, 3), (0, 48), (0, 0), (0, 0)])), (44, (10, 47, 1, 68, 0, 0, 0, [])), (47, (1, 48, 0, 2, 0, 0, 0, [])), (48, (1, 49, 1, 0, 0, 0, 0, [])), (49, (1, 51, 4, 0, 0, 0, 0, [])), (51, (20, 54, 234, 1, 0, 1282, 0, [(7, 3), (0, 48), (0, 0), (0, 0)])), (54, (10, 57, 0, 68, 0, 0, 0, [])), (57, (1, 58, 0, 2, 0, 0, 0, [])), (58, (1, 59, 1, 0, 0, 0, 0, [])), (59, (1, 60, 2, 0, 0, 0, 0, [])), (60, (1, 62, 4, 0, 0, 0, 0, [])), (62, (20, 65, 235, 1, 0, 1442, 0, [(7, 4), (0, 48), (0, 0), (0, 0), (0, 0)]))],
  [(65, (10, 68, 1, 72, 0, 0, 0, [])), (68, (0, 69, 0, 0, 0, 0, 1, [])), (69, (13, 72, 0, 73, 0, 0, 0, [])), (72, (0, 73, 0, 0, 0, 0, 0, [])), (73, (2, 74, 3, 0, 0, 0, 0, [])), (74, (3, 77, 4, 0, 0, 0, 1, [])), (77, (13, 80, 0, 25, 0, 0, 0, [])), (80, (1, 81, 3, 0, 0, 0, 0, [])), (81, (21, 82, 2, 0, 3, 0, 0, []))]]
set_option maxRecDepth 100000 in
noncomputable def tb240 : List (List (Nat × II)) := [[(0, (1, 1, 0, 2, 0, 0, 0, [])), (1, (1, 2, 1, 0, 0, 0, 0, [])), (2, (1, 3, 2, 0, 0, 0, 0, [])), (3, (20, 6, 234, 1, 0, 1282, 0, [(7, 3), (0, 48), (0, 0), (0, 0)])), (6, (10, 9, 0, 18, 0, 0, 0, [])), (9, (1, 10, 0, 2, 0, 0, 0, [])), (10, (1, 11, 1, 0, 0, 0, 0, [])), (11, (1, 12, 2, 0, 0, 0, 0, [])), (12, (20, 15, 238, 1, 0, 1438, 0, [(3, 3), (0, 48), (0, 0), (0, 0)])), (15, (10, 18, 1, 20, 0, 0, 0, [])), (18, (0, 19, 0, 0, 0, 0, 0, [])), (19, (21, 20, 2, 0, 3, 0, 0, [])), (20, (0, 21, 0, 0, 0, 0, 1, [])), (21, (2, 22, 3, 0, 0, 0, 0, [])), (22, (0, 23, 0, 0, 0, 0, 0, [])), (23, (2, 25, 4, 0, 0, 0, 0, [])), (25, (1, 27, 4, 0, 0, 0, 0, [])), (27, (0, 30, 0, 0, 0, 0, 396, [])), (30, (11, 33, 3, 70, 0, 0, 0, []))],
  [(33, (1, 34, 3, 0, 0, 0, 0, [])), (34, (10, 37, 0, 62, 0, 0, 0, [])), (37, (1, 38, 0, 2, 0, 0, 0, [])), (38, (1, 39, 1, 0, 0, 0, 0, [])), (39, (1, 41, 4, 0, 0, 0, 0, [])), (41, (20, 44, 238, 1, 0, 1438, 0, [(3, 3), (0, 48), (0, 0), (0, 0)])), (44, (10, 47, 0, 58, 0, 0, 0, [])), (47, (1, 48, 0, 2, 0, 0, 0, [])), (48, (1, 49, 1, 0, 0, 0, 0, [])), (49, (1, 51, 4, 0, 0, 0, 0, [])), (51, (1, 52, 2, 0, 0, 0, 0, [])), (52, (20, 55, 235, 1, 0, 1442, 0, [(7, 4), (0, 48), (0, 0), (0, 0), (0, 0)])), (55, (10, 58, 1, 62, 0, 0, 0, [])), (58, (0, 59, 0, 0, 0, 0, 1, [])), (59, (13, 62, 0, 63, 0, 0, 0, [])), (62, (0, 63, 0, 0, 0, 0, 0, [])), (63, (2, 64, 3, 0, 0, 0, 0, []))],
  [(64, (3, 67, 4, 0, 0, 0, 1, [])), (67, (13, 70, 0, 25, 0, 0, 0, [])), (70, (1, 71, 3, 0, 0, 0, 0, [])), (71, (21, 72, 2, 0, 3, 0, 0, []))]]
set_option maxRecDepth 100000 in
noncomputable def tb241 : List (List (Nat × II)) := [[(0, (1, 1, 0, 2, 0, 0, 0, [])), (1, (15, 4, 11, 8, 31, 1041, 0, [])), (4, (0, 7, 0, 0, 0, 0, 396, [])), (7, (1, 8, 1, 0, 0, 0, 0, [])), (8, (4, 9, 2, 0, 0, 0, 0, [])), (9, (1, 10, 2, 0, 0, 0, 0, [])), (10, (4, 11, 0, 0, 0, 0, 0, [])), (11, (1, 12, 3, 0, 0, 0, 0, [])), (12, (18, 13, 1, 0, 0, 0, 0, [])), (13, (1, 14, 2, 0, 0, 0, 0, [])), (14, (0, 16, 0, 0, 0, 0, 66, [])), (16, (5, 17, 1, 0, 0, 0, 0, [])), (17, (0, 19, 0, 0, 0, 0, 11, [])), (19, (5, 20, 0, 0, 0, 0, 0, [])), (20, (2, 22, 4, 0, 0, 0, 0, [])), (22, (1, 24, 4, 0, 0, 0, 0, [])), (24, (0, 26, 0, 0, 0, 0, 6, [])), (26, (11, 29, 3, 49, 0, 0, 0, [])), (29, (1, 30, 0, 2, 0, 0, 0, [])), (30, (15, 33, 12, 8, 30, 1042, 0, []))],
  [(33, (0, 35, 0, 0, 0, 0, 6, [])), (35, (1, 36, 1, 0, 0, 0, 0, [])), (36, (4, 37, 2, 0, 0, 0, 0, [])), (37, (1, 39, 4, 0, 0, 0, 0, [])), (39, (4, 40, 0, 0, 0, 0, 0, [])), (40, (0, 42, 0, 0, 0, 1029, (-1000000005), [])), (42, (18, 43, 0, 0, 0, 0, 0, [])), (43, (3, 46, 4, 0, 0, 0, 1, [])), (46, (13, 49, 0, 22, 0, 0, 0, [])), (49, (21, 50, 0, 0, 9, 0, 0, []))]]
set_option maxRecDepth 100000 in
noncomputable def tb242 : List (List (Nat × II)) := [[(0, (1, 1, 0, 2, 0, 0, 0, [])), (1, (1, 2, 1, 0, 0, 0, 0, [])), (2, (20, 5, 206, 1, 0, 1318, 0, [(2, 2), (0, 48), (0, 0)])), (5, (2, 7, 4, 0, 0, 0, 0, [])), (7, (1, 9, 4, 0, 0, 0, 0, [])), (9, (10, 12, 0, 15, 0, 0, 0, [])), (12, (1, 14, 4, 0, 0, 0, 0, [])), (14, (21, 15, 1, 0, 0, 0, 0, [])), (15, (1, 16, 0, 2, 0, 0, 0, [])), (16, (1, 17, 1, 0, 0, 0, 0, [])), (17, (1, 18, 2, 0, 0, 0, 0, [])), (18, (20, 21, 234, 1, 0, 1282, 0, [(7, 3), (0, 48), (0, 0), (0, 0)])), (21, (10, 24, 1, 27, 0, 0, 0, [])), (24, (0, 26, 0, 0, 0, 1129, (-1000000001), [])), (26, (21, 27, 1, 0, 0, 0, 0, [])), (27, (1, 28, 3, 0, 0, 0, 0, [])), (28, (10, 31, 0, 43, 0, 0, 0, [])), (31, (1, 32, 0, 2, 0, 0, 0, []))],
  [(32, (1, 33, 1, 0, 0, 0, 0, [])), (33, (1, 34, 2, 0, 0, 0, 0, [])), (34, (20, 37, 239, 1, 0, 1434, 0, [(5, 3), (0, 48), (0, 0), (0, 0)])), (37, (10, 40, 1, 55, 0, 0, 0, [])), (40, (13, 43, 0, 52, 0, 0, 0, [])), (43, (1, 44, 0, 2, 0, 0, 0, [])), (44, (1, 45, 1, 0, 0, 0, 0, [])), (45, (1, 46, 2, 0, 0, 0, 0, [])), (46, (20, 49, 240, 1, 0, 1457, 0, [(5, 3), (0, 48), (0, 0), (0, 0)])), (49, (10, 52, 1, 55, 0, 0, 0, [])), (52, (0, 54, 0, 0, 0, 1178, (-1000000002), [])), (54, (21, 55, 1, 0, 0, 0, 0, [])), (55, (1, 56, 0, 2, 0, 0, 0, [])), (56, (1, 57, 1, 0, 0, 0, 0, [])), (57, (1, 58, 2, 0, 0, 0, 0, [])), (58, (1, 59, 3, 0, 0, 0, 0, [])), (59, (20, 62, 241, 1, 9, 1461, 0, [(5, 4), (0, 48), (0, 0), (0, 0), (0, 0)])), (62, (1, 63, 0, 2, 0, 0, 0, [])), (63, (1, 64, 1, 0, 0, 0, 0, []))],
  [(64, (20, 67, 182, 1, 0, 1170, 0, [(4, 2), (0, 48), (0, 0)])), (67, (21, 68, 1, 0, 0, 0, 0, []))]]
set_option maxRecDepth 100000 in
noncomputable def tb243 : List (List (Nat × II)) := [[(0, (1, 1, 0, 2, 0, 0, 0, [])), (1, (1, 2, 1, 0, 0, 0, 0, [])), (2, (1, 3, 2, 0, 0, 0, 0, [])), (3, (0, 4, 0, 0, 0, 0, 1, [])), (4, (20, 7, 242, 1, 0, 1430, 0, [(5, 4), (0, 48), (0, 0), (0, 0), (0, 0)])), (7, (21, 8, 1, 0, 0, 0, 0, []))]]
set_option maxRecDepth 100000 in
noncomputable def tb244 : List (List (Nat × II)) := [[(0, (1, 1, 0, 2, 0, 0, 0, [])), (1, (1, 2, 1, 0, 0, 0, 0, [])), (2, (1, 3, 2, 0, 0, 0, 0, [])), (3, (0, 4, 0, 0, 0, 0, 0, [])), (4, (20, 7, 242, 1, 0, 1430, 0, [(5, 4), (0, 48), (0, 0), (0, 0), (0, 0)])), (7, (21, 8, 1, 0, 0, 0, 0, []))]]
set_option maxRecDepth 100000 in
noncomputable def tb245 : List (List (Nat × II)) := [[(0, (0, 1, 0, 0, 0, 0, 0, [])), (1, (2, 2, 2, 0, 0, 0, 0, [])), (2, (1, 3, 2, 0, 0, 0, 0, [])), (3, (0, 6, 0, 0, 0, 0, 396, [])), (6, (11, 9, 3, 26, 0, 0, 0, [])), (9, (1, 10, 0, 2, 0, 0, 0, [])), (10, (1, 11, 1, 0, 0, 0, 0, [])), (11, (1, 12, 2, 0, 0, 0, 0, [])), (12, (20, 15, 239, 1, 0, 1434, 0, [(5, 3), (0, 48), (0, 0), (0, 0)])), (15, (10, 18, 0, 20, 0, 0, 0, [])), (18, (1, 19, 2, 0, 0, 0, 0, [])), (19, (21, 20, 1, 0, 0, 0, 0, [])), (20, (3, 23, 2, 0, 0, 0, 1, [])), (23, (13, 26, 0, 2, 0, 0, 0, [])), (26, (0, 28, 0, 0, 0, 1029, (-1000000005), [])), (28, (21, 29, 1, 0, 0, 0, 0, []))]]
set_option maxRecDepth 100000 in
noncomputable def tb246 : List (List (Nat × II)) := [[(0, (0, 3, 0, 0, 0, 0, 395, [])), (3, (2, 4, 2, 0, 0, 0, 0, [])), (4, (1, 5, 2, 0, 0, 0, 0, [])), (5, (10, 8, 2, 25, 0, 0, 0, [])), (8, (1, 9, 0, 2, 0, 0, 0, [])), (9, (1, 10, 1, 0, 0, 0, 0, [])), (10, (1, 11, 2, 0, 0, 0, 0, [])), (11, (20, 14, 240, 1, 0, 1457, 0, [(5, 3), (0, 48), (0, 0), (0, 0)])), (14, (10, 17, 0, 19, 0, 0, 0, [])), (17, (1, 18, 2, 0, 0, 0, 0, [])), (18, (21, 19, 1, 0, 0, 0, 0, [])), (19, (3, 22, 2, 0, 0, 0, (-1), [])), (22, (13, 25, 0, 4, 0, 0, 0, [])), (25, (0, 27, 0, 0, 0, 1029, (-1000000005), [])), (27, (21, 28, 1, 0, 0, 0, 0, []))]]
set_option maxRecDepth 100000 in
noncomputable def tb247 : List (List (Nat × II)) := [[(0, (0, 1, 0, 0, 0, 0, 0, [])), (1, (2, 2, 2, 0, 0, 0, 0, [])), (2, (1, 3, 2, 0, 0, 0, 0, [])), (3, (0, 6, 0, 0, 0, 0, 396, [])), (6, (11, 9, 3, 35, 0, 0, 0, [])), (9, (1, 10, 0, 2, 0, 0, 0, [])), (10, (1, 11, 1, 0, 0, 0, 0, [])), (11, (1, 12, 2, 0, 0, 0, 0, [])), (12, (20, 15, 234, 1, 0, 1282, 0, [(7, 3), (0, 48), (0, 0), (0, 0)])), (15, (10, 18, 0, 29, 0, 0, 0, [])), (18, (1, 19, 0, 2, 0, 0, 0, [])), (19, (1, 20, 1, 0, 0, 0, 0, [])), (20, (1, 21, 2, 0, 0, 0, 0, [])), (21, (20, 24, 238, 1, 0, 1438, 0, [(3, 3), (0, 48), (0, 0), (0, 0)])), (24, (10, 27, 1, 29, 0, 0, 0, [])), (27, (1, 28, 2, 0, 0, 0, 0, [])), (28, (21, 29, 1, 0, 0, 0, 0, [])), (29, (3, 32, 2, 0, 0, 0, 1, []))],
  [(32, (13, 35, 0, 2, 0, 0, 0, [])), (35, (0, 37, 0, 0, 0, 1029, (-1000000005), [])), (37, (21, 38, 1, 0, 0, 0, 0, []))]]
set_option maxRecDepth 100000 in
noncomputable def tb248 : List (List (Nat × II)) := [[(0, (1, 1, 1, 0, 0, 0, 0, [])), (1, (20, 4, 169, 0, 0, 1167, 0, [(1, 1), (0, 0)])), (4, (10, 7, 0, 16, 0, 0, 0, [])), (7, (1, 8, 2, 0, 0, 0, 0, [])), (8, (0, 9, 0, 0, 0, 0, 0, [])), (9, (0, 10, 0, 0, 0, 0, 2, [])), (10, (20, 13, 159, 0, 0, 1125, 0, [(3, 3), (0, 0), (0, 0), (0, 0)])), (13, (10, 16, 1, 19, 0, 0, 0, [])), (16, (0, 18, 0, 0, 0, 1129, (-1000000001), [])), (18, (21, 19, 1, 0, 0, 0, 0, [])), (19, (1, 20, 0, 2, 0, 0, 0, [])), (20, (1, 21, 1, 0, 0, 0, 0, [])), (21, (20, 24, 170, 1, 0, 1187, 0, [(2, 2), (0, 48), (0, 0)])), (24, (10, 27, 0, 30, 0, 0, 0, [])), (27, (0, 29, 0, 0, 0, 1178, (-1000000002), [])), (29, (21, 30, 1, 0, 0, 0, 0, [])), (30, (1, 31, 2, 0, 0, 0, 0, [])), (31, (10, 34, 1, 42, 0, 0, 0, []))],
  [(34, (1, 35, 0, 2, 0, 0, 0, [])), (35, (1, 36, 1, 0, 0, 0, 0, [])), (36, (20, 39, 245, 1, 0, 1473, 0, [(3, 2), (0, 48), (0, 0)])), (39, (13, 42, 0, 60, 0, 0, 0, [])), (42, (1, 43, 2, 0, 0, 0, 0, [])), (43, (0, 44, 0, 0, 0, 0, 1, [])), (44, (11, 47, 1, 55, 0, 0, 0, [])), (47, (1, 48, 0, 2, 0, 0, 0, [])), (48, (1, 49, 1, 0, 0, 0, 0, [])), (49, (20, 52, 246, 1, 0, 1477, 0, [(3, 2), (0, 48), (0, 0)])), (52, (13, 55, 0, 60, 0, 0, 0, [])), (55, (1, 56, 0, 2, 0, 0, 0, [])), (56, (1, 57, 1, 0, 0, 0, 0, [])), (57, (20, 60, 247, 1, 0, 1481, 0, [(3, 2), (0, 48), (0, 0)])), (60, (21, 61, 1, 0, 0, 0, 0, []))]]
set_option maxRecDepth 100000 in
noncomputable def tb249 : List (List (Nat × II)) := [[(0, (1, 1, 1, 0, 0, 0, 0, [])), (1, (20, 4, 169, 0, 0, 1167, 0, [(1, 1), (0, 0)])), (4, (10, 7, 0, 27, 0, 0, 0, [])), (7, (1, 8, 2, 0, 0, 0, 0, [])), (8, (0, 9, 0, 0, 0, 0, 1, [])), (9, (0, 12, 0, 0, 0, 0, 400, [])), (12, (20, 15, 159, 0, 0, 1125, 0, [(3, 3), (0, 0), (0, 0), (0, 0)])), (15, (10, 18, 0, 27, 0, 0, 0, [])), (18, (1, 19, 3, 0, 0, 0, 0, [])), (19, (0, 20, 0, 0, 0, 0, 0, [])), (20, (0, 21, 0, 0, 0, 0, 1, [])), (21, (20, 24, 159, 0, 0, 1125, 0, [(3, 3), (0, 0), (0, 0), (0, 0)])), (24, (10, 27, 1, 30, 0, 0, 0, [])), (27, (0, 29, 0, 0, 0, 1129, (-1000000001), [])), (29, (21, 30, 1, 0, 0, 0, 0, [])), (30, (1, 31, 0, 2, 0, 0, 0, [])), (31, (1, 32, 1, 0, 0, 0, 0, []))],
  [(32, (20, 35, 170, 1, 0, 1187, 0, [(2, 2), (0, 48), (0, 0)])), (35, (10, 38, 0, 41, 0, 0, 0, [])), (38, (0, 40, 0, 0, 0, 1178, (-1000000002), [])), (40, (21, 41, 1, 0, 0, 0, 0, [])), (41, (0, 42, 0, 0, 0, 0, 0, [])), (42, (2, 44, 4, 0, 0, 0, 0, [])), (44, (1, 46, 4, 0, 0, 0, 0, [])), (46, (1, 47, 2, 0, 0, 0, 0, [])), (47, (11, 50, 3, 103, 0, 0, 0, [])), (50, (1, 51, 3, 0, 0, 0, 0, [])), (51, (0, 52, 0, 0, 0, 0, 1, [])), (52, (11, 55, 1, 63, 0, 0, 0, [])), (55, (1, 56, 0, 2, 0, 0, 0, [])), (56, (1, 57, 1, 0, 0, 0, 0, [])), (57, (20, 60, 245, 1, 0, 1473, 0, [(3, 2), (0, 48), (0, 0)])), (60, (13, 63, 0, 68, 0, 0, 0, [])), (63, (1, 64, 0, 2, 0, 0, 0, []))],
  [(64, (1, 65, 1, 0, 0, 0, 0, [])), (65, (20, 68, 246, 1, 0, 1477, 0, [(3, 2), (0, 48), (0, 0)])), (68, (2, 70, 5, 0, 0, 0, 0, [])), (70, (1, 72, 5, 0, 0, 0, 0, [])), (72, (0, 74, 0, 0, 0, 1029, (-1000000005), [])), (74, (11, 77, 1, 80, 0, 0, 0, [])), (77, (1, 79, 4, 0, 0, 0, 0, [])), (79, (21, 80, 1, 0, 0, 0, 0, [])), (80, (1, 81, 0, 2, 0, 0, 0, [])), (81, (1, 82, 1, 0, 0, 0, 0, [])), (82, (1, 84, 5, 0, 0, 0, 0, [])), (84, (1, 85, 3, 0, 0, 0, 0, [])), (85, (0, 86, 0, 0, 0, 0, 1, [])), (86, (11, 89, 1, 93, 0, 0, 0, [])), (89, (0, 90, 0, 0, 0, 0, 1, [])), (90, (13, 93, 0, 94, 0, 0, 0, [])), (93, (0, 94, 0, 0, 0, 0, 0, [])), (94, (20, 97, 241, 1, 9, 1461, 0, [(5, 4), (0, 48), (0, 0), (0, 0), (0, 0)]))],
  [(97, (3, 100, 4, 0, 0, 0, 1, [])), (100, (13, 103, 0, 44, 0, 0, 0, [])), (103, (1, 105, 4, 0, 0, 0, 0, [])), (105, (21, 106, 1, 0, 0, 0, 0, []))]]
set_option maxRecDepth 100000 in
noncomputable def tb250 : List (List (Nat × II)) := [[(0, (1, 1, 0, 2, 0, 0, 0, [])), (1, (1, 2, 1, 0, 0, 0, 0, [])), (2, (20, 5, 206, 1, 0, 1318, 0, [(2, 2), (0, 48), (0, 0)])), (5, (2, 6, 3, 0, 0, 0, 0, [])), (6, (1, 7, 3, 0, 0, 0, 0, [])), (7, (10, 10, 0, 12, 0, 0, 0, [])), (10, (1, 11, 3, 0, 0, 0, 0, [])), (11, (21, 12, 1, 0, 0, 0, 0, [])), (12, (1, 13, 0, 2, 0, 0, 0, [])), (13, (1, 14, 1, 0, 0, 0, 0, [])), (14, (1, 15, 2, 0, 0, 0, 0, [])), (15, (20, 18, 234, 1, 0, 1282, 0, [(7, 3), (0, 48), (0, 0), (0, 0)])), (18, (10, 21, 1, 26, 0, 0, 0, [])), (21, (0, 23, 0, 0, 0, 1029, (-1000000005), [])), (23, (13, 26, 0, 40, 0, 0, 0, [])), (26, (1, 27, 0, 2, 0, 0, 0, [])), (27, (1, 28, 1, 0, 0, 0, 0, [])), (28, (1, 29, 2, 0, 0, 0, 0, [])), (29, (20, 32, 238, 1, 0, 1438, 0, [(3, 3), (0, 48), (0, 0), (0, 0)]))],
  [(32, (10, 35, 0, 39, 0, 0, 0, [])), (35, (0, 36, 0, 0, 0, 0, 1, [])), (36, (13, 39, 0, 40, 0, 0, 0, [])), (39, (0, 40, 0, 0, 0, 0, 0, [])), (40, (21, 41, 1, 0, 0, 0, 0, []))]]
set_option maxRecDepth 100000 in
noncomputable def tb251 : List (List (Nat × II)) := [[(0, (1, 1, 0, 2, 0, 0, 0, [])), (1, (15, 4, 12, 8, 30, 1042, 0, [])), (4, (0, 6, 0, 0, 0, 0, 6, [])), (6, (1, 7, 1, 0, 0, 0, 0, [])), (7, (4, 8, 2, 0, 0, 0, 0, [])), (8, (1, 9, 2, 0, 0, 0, 0, [])), (9, (4, 10, 0, 0, 0, 0, 0, [])), (10, (17, 11, 0, 0, 0, 0, 0, [])), (11, (2, 12, 3, 0, 0, 0, 0, [])), (12, (1, 13, 3, 0, 0, 0, 0, [])), (13, (0, 15, 0, 0, 0, 1029, (-1000000005), [])), (15, (11, 18, 0, 26, 0, 0, 0, [])), (18, (1, 19, 3, 0, 0, 0, 0, [])), (19, (1, 20, 0, 2, 0, 0, 0, [])), (20, (15, 23, 14, 8, 0, 1044, 0, [])), (23, (11, 26, 3, 31, 0, 0, 0, [])), (26, (0, 28, 0, 0, 0, 1029, (-1000000005), [])), (28, (13, 31, 0, 32, 0, 0, 0, [])), (31, (1, 32, 3, 0, 0, 0, 0, []))],
  [(32, (21, 33, 1, 0, 0, 0, 0, []))]]
set_option maxRecDepth 100000 in
noncomputable def tb252 : List (List (Nat × II)) := [[(0, (1, 1, 1, 0, 0, 0, 0, [])), (1, (0, 2, 0, 0, 0, 0, 0, [])), (2, (0, 5, 0, 0, 0, 0, 1000, [])), (5, (20, 8, 159, 0, 0, 1125, 0, [(3, 3), (0, 0), (0, 0), (0, 0)])), (8, (10, 11, 0, 22, 0, 0, 0, [])), (11, (1, 12, 0, 2, 0, 0, 0, [])), (12, (15, 15, 14, 8, 0, 1044, 0, [])), (15, (1, 16, 1, 0, 0, 0, 0, [])), (16, (4, 17, 0, 0, 0, 0, 0, [])), (17, (0, 19, 0, 0, 0, 1128, 1000000, [])), (19, (11, 22, 5, 25, 0, 0, 0, [])), (22, (0, 24, 0, 0, 0, 1129, (-1000000001), [])), (24, (21, 25, 1, 0, 0, 0, 0, [])), (25, (1, 26, 0, 2, 0, 0, 0, [])), (26, (22, 27, 0, 0, 0, 0, 0, [])), (27, (15, 30, 14, 8, 0, 1044, 0, [])), (30, (1, 31, 1, 0, 0, 0, 0, [])), (31, (4, 32, 0, 0, 0, 0, 0, []))],
  [(32, (16, 35, 14, 8, 0, 1044, 0, [])), (35, (1, 36, 0, 2, 0, 0, 0, [])), (36, (15, 39, 14, 8, 0, 1044, 0, [])), (39, (21, 40, 1, 0, 0, 0, 0, []))]]
set_option maxRecDepth 100000 in
noncomputable def tb253 : List (List (Nat × II)) := [[(0, (0, 1, 0, 0, 0, 0, 0, [])), (1, (2, 2, 1, 0, 0, 0, 0, [])), (2, (0, 3, 0, 0, 0, 0, 0, [])), (3, (2, 4, 2, 0, 0, 0, 0, [])), (4, (1, 5, 2, 0, 0, 0, 0, [])), (5, (0, 6, 0, 0, 0, 0, 3, [])), (6, (11, 9, 3, 48, 0, 0, 0, [])), (9, (0, 10, 0, 0, 0, 0, 0, [])), (10, (2, 11, 3, 0, 0, 0, 0, [])), (11, (1, 12, 3, 0, 0, 0, 0, [])), (12, (0, 14, 0, 0, 0, 0, 6, [])), (14, (11, 17, 3, 42, 0, 0, 0, [])), (17, (1, 18, 1, 0, 0, 0, 0, [])), (18, (1, 19, 0, 2, 0, 0, 0, [])), (19, (1, 20, 2, 0, 0, 0, 0, [])), (20, (1, 21, 3, 0, 0, 0, 0, [])), (21, (20, 24, 251, 1, 0, 1505, 0, [(4, 3), (0, 48), (0, 0), (0, 0)])), (24, (0, 26, 0, 0, 0, 1029, (-1000000005), [])), (26, (11, 29, 0, 33, 0, 0, 0, [])), (29, (0, 30, 0, 0, 0, 0, 1, [])), (30, (13, 33, 0, 34, 0, 0, 0, []))],
  [(33, (0, 34, 0, 0, 0, 0, 0, [])), (34, (4, 35, 0, 0, 0, 0, 0, [])), (35, (2, 36, 1, 0, 0, 0, 0, [])), (36, (3, 39, 3, 0, 0, 0, 1, [])), (39, (13, 42, 0, 11, 0, 0, 0, [])), (42, (3, 45, 2, 0, 0, 0, 1, [])), (45, (13, 48, 0, 4, 0, 0, 0, [])), (48, (1, 49, 1, 0, 0, 0, 0, [])), (49, (21, 50, 1, 0, 0, 0, 0, []))]]
set_option maxRecDepth 100000 in
noncomputable def tb254 : List (List (Nat × II)) := [[(0, (1, 1, 0, 2, 0, 0, 0, [])), (1, (20, 4, 253, 1, 0, 1501, 0, [(4, 1), (0, 48)])), (4, (2, 5, 1, 0, 0, 0, 0, [])), (5, (0, 6, 0, 0, 0, 0, 0, [])), (6, (2, 7, 2, 0, 0, 0, 0, [])), (7, (1, 8, 2, 0, 0, 0, 0, [])), (8, (0, 10, 0, 0, 0, 0, 18, [])), (10, (11, 13, 3, 27, 0, 0, 0, [])), (13, (1, 14, 0, 2, 0, 0, 0, [])), (14, (15, 17, 12, 8, 30, 1042, 0, [])), (17, (1, 18, 2, 0, 0, 0, 0, [])), (18, (0, 20, 0, 0, 0, 1029, (-1000000005), [])), (20, (18, 21, 0, 0, 0, 0, 0, [])), (21, (3, 24, 2, 0, 0, 0, 1, [])), (24, (13, 27, 0, 7, 0, 0, 0, [])), (27, (1, 28, 1, 0, 0, 0, 0, [])), (28, (21, 29, 1, 0, 0, 0, 0, []))]]
set_option maxRecDepth 100000 in
noncomputable def tb255 : List (List (Nat × II)) := [[(0, (1, 1, 0, 2, 0, 0, 0, [])), (1, (1, 2, 1, 0, 0, 0, 0, [])), (2, (20, 5, 206, 1, 0, 1318, 0, [(2, 2), (0, 48), (0, 0)])), (5, (2, 6, 3, 0, 0, 0, 0, [])), (6, (1, 7, 3, 0, 0, 0, 0, [])), (7, (10, 10, 0, 14, 0, 0, 0, [])), (10, (1, 11, 3, 0, 0, 0, 0, [])), (11, (13, 14, 0, 29, 0, 0, 0, [])), (14, (1, 15, 0, 2, 0, 0, 0, [])), (15, (1, 16, 1, 0, 0, 0, 0, [])), (16, (1, 17, 2, 0, 0, 0, 0, [])), (17, (20, 20, 175, 1, 0, 1224, 0, [(3, 3), (0, 48), (0, 0), (0, 0)])), (20, (10, 23, 0, 27, 0, 0, 0, [])), (23, (0, 24, 0, 0, 0, 0, 0, [])), (24, (13, 27, 0, 29, 0, 0, 0, [])), (27, (0, 29, 0, 0, 0, 1228, (-1000000013), [])), (29, (21, 30, 1, 0, 0, 0, 0, []))]]
set_option maxRecDepth 100000 in
noncomputable def tb256 : List (List (Nat × II)) := [[(0, (0, 1, 0, 0, 0, 0, 0, [])), (1, (2, 2, 3, 0, 0, 0, 0, [])), (2, (1, 3, 3, 0, 0, 0, 0, [])), (3, (0, 6, 0, 0, 0, 0, 396, [])), (6, (11, 9, 3, 46, 0, 0, 0, [])), (9, (1, 10, 0, 2, 0, 0, 0, [])), (10, (1, 11, 1, 0, 0, 0, 0, [])), (11, (1, 12, 3, 0, 0, 0, 0, [])), (12, (20, 15, 234, 1, 0, 1282, 0, [(7, 3), (0, 48), (0, 0), (0, 0)])), (15, (10, 18, 0, 40, 0, 0, 0, [])), (18, (1, 19, 3, 0, 0, 0, 0, [])), (19, (0, 21, 0, 0, 0, 0, 66, [])), (21, (5, 22, 1, 0, 0, 0, 0, [])), (22, (0, 24, 0, 0, 0, 0, 11, [])), (24, (5, 25, 0, 0, 0, 0, 0, [])), (25, (1, 26, 2, 0, 0, 0, 0, [])), (26, (11, 29, 4, 40, 0, 0, 0, [])), (29, (1, 30, 0, 2, 0, 0, 0, [])), (30, (1, 31, 1, 0, 0, 0, 0, [])), (31, (1, 32, 3, 0, 0, 0, 0, []))],
  [(32, (20, 35, 238, 1, 0, 1438, 0, [(3, 3), (0, 48), (0, 0), (0, 0)])), (35, (10, 38, 1, 40, 0, 0, 0, [])), (38, (0, 39, 0, 0, 0, 0, 0, [])), (39, (21, 40, 2, 0, 3, 0, 0, [])), (40, (3, 43, 3, 0, 0, 0, 1, [])), (43, (13, 46, 0, 2, 0, 0, 0, [])), (46, (1, 47, 0, 2, 0, 0, 0, [])), (47, (1, 48, 1, 0, 0, 0, 0, [])), (48, (0, 49, 0, 0, 0, 0, (-1), [])), (49, (20, 52, 230, 1, 0, 1403, 0, [(9, 3), (0, 48), (0, 0), (0, 0)])), (52, (2, 53, 3, 0, 0, 0, 0, [])), (53, (0, 54, 0, 0, 0, 0, 0, [])), (54, (2, 56, 4, 0, 0, 0, 0, [])), (56, (1, 58, 4, 0, 0, 0, 0, [])), (58, (1, 59, 3, 0, 0, 0, 0, [])), (59, (11, 62, 3, 86, 0, 0, 0, [])), (62, (1, 63, 0, 2, 0, 0, 0, [])), (63, (1, 64, 1, 0, 0, 0, 0, []))],
  [(64, (1, 66, 4, 0, 0, 0, 0, [])), (66, (20, 69, 230, 1, 0, 1403, 0, [(9, 3), (0, 48), (0, 0), (0, 0)])), (69, (24, 70, 0, 0, 0, 0, 0, [])), (70, (1, 71, 0, 2, 0, 0, 0, [])), (71, (15, 74, 27, 8, 0, 1057, 0, [])), (74, (1, 75, 2, 0, 0, 0, 0, [])), (75, (11, 78, 4, 80, 0, 0, 0, [])), (78, (0, 79, 0, 0, 0, 0, 0, [])), (79, (21, 80, 2, 0, 3, 0, 0, [])), (80, (3, 83, 4, 0, 0, 0, 1, [])), (83, (13, 86, 0, 56, 0, 0, 0, [])), (86, (1, 87, 0, 2, 0, 0, 0, [])), (87, (1, 88, 1, 0, 0, 0, 0, [])), (88, (20, 91, 223, 1, 0, 1387, 0, [(4, 2), (0, 48), (0, 0)])), (91, (10, 94, 1, 98, 0, 0, 0, [])), (94, (0, 95, 0, 0, 0, 0, 1, [])), (95, (13, 98, 0, 99, 0, 0, 0, []))],
  [(98, (0, 99, 0, 0, 0, 0, 0, [])), (99, (21, 100, 2, 0, 3, 0, 0, []))]]
set_option maxRecDepth 100000 in
noncomputable def tb257 : List (List (Nat × II)) := [[(0, (1, 1, 1, 0, 0, 0, 0, [])), (1, (20, 4, 169, 0, 0, 1167, 0, [(1, 1), (0, 0)])), (4, (10, 7, 0, 17, 0, 0, 0, [])), (7, (1, 8, 3, 0, 0, 0, 0, [])), (8, (0, 9, 0, 0, 0, 0, 1, [])), (9, (0, 11, 0, 0, 0, 0, 30, [])), (11, (20, 14, 159, 0, 0, 1125, 0, [(3, 3), (0, 0), (0, 0), (0, 0)])), (14, (10, 17, 1, 20, 0, 0, 0, [])), (17, (0, 19, 0, 0, 0, 1129, (-1000000001), [])), (19, (21, 20, 1, 0, 0, 0, 0, [])), (20, (1, 21, 0, 2, 0, 0, 0, [])), (21, (1, 22, 1, 0, 0, 0, 0, [])), (22, (1, 23, 2, 0, 0, 0, 0, [])), (23, (20, 26, 255, 1, 0, 1513, 0, [(4, 3), (0, 48), (0, 0), (0, 0)])), (26, (2, 28, 4, 0, 0, 0, 0, [])), (28, (1, 30, 4, 0, 0, 0, 0, [])), (30, (10, 33, 0, 36, 0, 0, 0, []))],
  [(33, (1, 35, 4, 0, 0, 0, 0, [])), (35, (21, 36, 1, 0, 0, 0, 0, [])), (36, (1, 37, 0, 2, 0, 0, 0, [])), (37, (1, 38, 1, 0, 0, 0, 0, [])), (38, (1, 39, 2, 0, 0, 0, 0, [])), (39, (20, 42, 256, 1, 0, 1517, 0, [(5, 3), (0, 48), (0, 0), (0, 0)])), (42, (10, 45, 1, 48, 0, 0, 0, [])), (45, (0, 47, 0, 0, 0, 1178, (-1000000002), [])), (47, (21, 48, 1, 0, 0, 0, 0, [])), (48, (1, 49, 0, 2, 0, 0, 0, [])), (49, (15, 52, 12, 8, 30, 1042, 0, [])), (52, (0, 54, 0, 0, 0, 0, 6, [])), (54, (1, 55, 1, 0, 0, 0, 0, [])), (55, (4, 56, 2, 0, 0, 0, 0, [])), (56, (1, 57, 2, 0, 0, 0, 0, [])), (57, (4, 58, 0, 0, 0, 0, 0, [])), (58, (1, 59, 0, 2, 0, 0, 0, [])), (59, (15, 62, 14, 8, 0, 1044, 0, [])), (62, (1, 63, 3, 0, 0, 0, 0, [])), (63, (4, 64, 0, 0, 0, 0, 0, []))],
  [(64, (0, 65, 0, 0, 0, 0, 1, [])), (65, (4, 66, 1, 0, 0, 0, 0, [])), (66, (18, 67, 0, 0, 0, 0, 0, [])), (67, (1, 68, 0, 2, 0, 0, 0, [])), (68, (15, 71, 14, 8, 0, 1044, 0, [])), (71, (1, 72, 3, 0, 0, 0, 0, [])), (72, (4, 73, 0, 0, 0, 0, 0, [])), (73, (0, 74, 0, 0, 0, 0, 1, [])), (74, (4, 75, 1, 0, 0, 0, 0, [])), (75, (21, 76, 1, 0, 0, 0, 0, []))]]
set_option maxRecDepth 100000 in
noncomputable def tb258 : List (List (Nat × II)) := [[(0, (1, 1, 0, 2, 0, 0, 0, [])), (1, (1, 2, 1, 0, 0, 0, 0, [])), (2, (1, 3, 2, 0, 0, 0, 0, [])), (3, (20, 6, 255, 1, 0, 1513, 0, [(4, 3), (0, 48), (0, 0), (0, 0)])), (6, (2, 7, 3, 0, 0, 0, 0, [])), (7, (1, 8, 3, 0, 0, 0, 0, [])), (8, (10, 11, 0, 15, 0, 0, 0, [])), (11, (1, 12, 3, 0, 0, 0, 0, [])), (12, (13, 15, 0, 21, 0, 0, 0, [])), (15, (1, 16, 0, 2, 0, 0, 0, [])), (16, (1, 17, 1, 0, 0, 0, 0, [])), (17, (1, 18, 2, 0, 0, 0, 0, [])), (18, (20, 21, 251, 1, 0, 1505, 0, [(4, 3), (0, 48), (0, 0), (0, 0)])), (21, (21, 22, 1, 0, 0, 0, 0, []))]]
set_option maxRecDepth 100000 in
noncomputable def tb259 : List (List (Nat × II)) := [[(0, (0, 1, 0, 0, 0, 0, 0, [])), (1, (2, 2, 3, 0, 0, 0, 0, [])), (2, (0, 3, 0, 0, 0, 0, 0, [])), (3, (2, 5, 4, 0, 0, 0, 0, [])), (5, (1, 7, 4, 0, 0, 0, 0, [])), (7, (0, 9, 0, 0, 0, 0, 10, [])), (9, (11, 12, 3, 42, 0, 0, 0, [])), (12, (1, 13, 3, 0, 0, 0, 0, [])), (13, (1, 14, 0, 2, 0, 0, 0, [])), (14, (15, 17, 13, 8, 30, 1043, 0, [])), (17, (1, 19, 4, 0, 0, 0, 0, [])), (19, (17, 20, 0, 0, 0, 0, 0, [])), (20, (0, 22, 0, 0, 0, 0, 10, [])), (22, (1, 23, 1, 0, 0, 0, 0, [])), (23, (4, 24, 2, 0, 0, 0, 0, [])), (24, (1, 25, 2, 0, 0, 0, 0, [])), (25, (4, 26, 0, 0, 0, 0, 0, [])), (26, (11, 29, 1, 33, 0, 0, 0, [])), (29, (0, 30, 0, 0, 0, 0, 1, [])), (30, (13, 33, 0, 34, 0, 0, 0, []))],
  [(33, (0, 34, 0, 0, 0, 0, 0, [])), (34, (4, 35, 0, 0, 0, 0, 0, [])), (35, (2, 36, 3, 0, 0, 0, 0, [])), (36, (3, 39, 4, 0, 0, 0, 1, [])), (39, (13, 42, 0, 5, 0, 0, 0, [])), (42, (1, 43, 3, 0, 0, 0, 0, [])), (43, (21, 44, 1, 0, 0, 0, 0, []))]]
set_option maxRecDepth 100000 in
noncomputable def tb260 : List (List (Nat × II)) := [[(0, (1, 1, 1, 0, 0, 0, 0, [])), (1, (0, 2, 0, 0, 0, 0, 0, [])), (2, (0, 4, 0, 0, 0, 0, 9, [])), (4, (20, 7, 159, 0, 0, 1125, 0, [(3, 3), (0, 0), (0, 0), (0, 0)])), (7, (10, 10, 0, 17, 0, 0, 0, [])), (10, (1, 11, 2, 0, 0, 0, 0, [])), (11, (20, 14, 169, 0, 0, 1167, 0, [(1, 1), (0, 0)])), (14, (10, 17, 1, 20, 0, 0, 0, [])), (17, (0, 19, 0, 0, 0, 1129, (-1000000001), [])), (19, (21, 20, 1, 0, 0, 0, 0, [])), (20, (1, 21, 0, 2, 0, 0, 0, [])), (21, (1, 22, 2, 0, 0, 0, 0, [])), (22, (1, 23, 3, 0, 0, 0, 0, [])), (23, (20, 26, 255, 1, 0, 1513, 0, [(4, 3), (0, 48), (0, 0), (0, 0)])), (26, (2, 28, 4, 0, 0, 0, 0, [])), (28, (1, 30, 4, 0, 0, 0, 0, [])), (30, (10, 33, 0, 36, 0, 0, 0, []))],
  [(33, (1, 35, 4, 0, 0, 0, 0, [])), (35, (21, 36, 1, 0, 0, 0, 0, [])), (36, (1, 37, 0, 2, 0, 0, 0, [])), (37, (1, 38, 2, 0, 0, 0, 0, [])), (38, (1, 39, 3, 0, 0, 0, 0, [])), (39, (20, 42, 251, 1, 0, 1505, 0, [(4, 3), (0, 48), (0, 0), (0, 0)])), (42, (0, 44, 0, 0, 0, 1029, (-1000000005), [])), (44, (11, 47, 0, 58, 0, 0, 0, [])), (47, (1, 48, 0, 2, 0, 0, 0, [])), (48, (15, 51, 13, 8, 30, 1043, 0, [])), (51, (1, 52, 1, 0, 0, 0, 0, [])), (52, (17, 53, 0, 0, 0, 0, 0, [])), (53, (0, 55, 0, 0, 0, 1029, (-1000000005), [])), (55, (11, 58, 0, 61, 0, 0, 0, [])), (58, (0, 60, 0, 0, 0, 1178, (-1000000002), [])), (60, (21, 61, 1, 0, 0, 0, 0, [])), (61, (1, 62, 0, 2, 0, 0, 0, [])), (62, (15, 65, 13, 8, 30, 1043, 0, []))],
  [(65, (1, 66, 1, 0, 0, 0, 0, [])), (66, (0, 68, 0, 0, 0, 0, 10, [])), (68, (1, 69, 2, 0, 0, 0, 0, [])), (69, (4, 70, 2, 0, 0, 0, 0, [])), (70, (1, 71, 3, 0, 0, 0, 0, [])), (71, (4, 72, 0, 0, 0, 0, 0, [])), (72, (18, 73, 0, 0, 0, 0, 0, [])), (73, (1, 74, 0, 2, 0, 0, 0, [])), (74, (1, 75, 2, 0, 0, 0, 0, [])), (75, (1, 76, 3, 0, 0, 0, 0, [])), (76, (20, 79, 259, 1, 0, 1529, 0, [(5, 3), (0, 48), (0, 0), (0, 0)])), (79, (21, 80, 1, 0, 0, 0, 0, []))]]
set_option maxRecDepth 100000 in
noncomputable def tb261 : List (List (Nat × II)) := [[(0, (1, 1, 1, 0, 0, 0, 0, [])), (1, (0, 2, 0, 0, 0, 0, 0, [])), (2, (0, 4, 0, 0, 0, 0, 9, [])), (4, (20, 7, 159, 0, 0, 1125, 0, [(3, 3), (0, 0), (0, 0), (0, 0)])), (7, (10, 10, 1, 13, 0, 0, 0, [])), (10, (0, 12, 0, 0, 0, 1129, (-1000000001), [])), (12, (21, 13, 1, 0, 0, 0, 0, [])), (13, (1, 14, 0, 2, 0, 0, 0, [])), (14, (15, 17, 13, 8, 30, 1043, 0, [])), (17, (1, 18, 1, 0, 0, 0, 0, [])), (18, (17, 19, 0, 0, 0, 0, 0, [])), (19, (0, 21, 0, 0, 0, 1029, (-1000000005), [])), (21, (11, 24, 1, 27, 0, 0, 0, [])), (24, (0, 26, 0, 0, 0, 1178, (-1000000002), [])), (26, (21, 27, 1, 0, 0, 0, 0, [])), (27, (1, 28, 0, 2, 0, 0, 0, [])), (28, (15, 31, 13, 8, 30, 1043, 0, [])), (31, (1, 32, 1, 0, 0, 0, 0, []))],
  [(32, (17, 33, 0, 0, 0, 0, 0, [])), (33, (2, 34, 2, 0, 0, 0, 0, [])), (34, (1, 35, 0, 2, 0, 0, 0, [])), (35, (15, 38, 13, 8, 30, 1043, 0, [])), (38, (1, 39, 1, 0, 0, 0, 0, [])), (39, (0, 41, 0, 0, 0, 1029, (-1000000005), [])), (41, (18, 42, 0, 0, 0, 0, 0, [])), (42, (1, 43, 2, 0, 0, 0, 0, [])), (43, (21, 44, 1, 0, 0, 0, 0, []))]]
set_option maxRecDepth 100000 in
noncomputable def tb262 : List (List (Nat × II)) := [[(0, (0, 1, 0, 0, 0, 0, 0, [])), (1, (2, 2, 1, 0, 0, 0, 0, [])), (2, (0, 3, 0, 0, 0, 0, 0, [])), (3, (2, 4, 2, 0, 0, 0, 0, [])), (4, (1, 5, 2, 0, 0, 0, 0, [])), (5, (0, 7, 0, 0, 0, 0, 10, [])), (7, (11, 10, 3, 64, 0, 0, 0, [])), (10, (1, 11, 1, 0, 0, 0, 0, [])), (11, (1, 12, 0, 2, 0, 0, 0, [])), (12, (15, 15, 13, 8, 30, 1043, 0, [])), (15, (1, 16, 2, 0, 0, 0, 0, [])), (16, (17, 17, 0, 0, 0, 0, 0, [])), (17, (0, 19, 0, 0, 0, 1029, (-1000000005), [])), (19, (11, 22, 0, 55, 0, 0, 0, [])), (22, (1, 23, 0, 2, 0, 0, 0, [])), (23, (1, 24, 0, 2, 0, 0, 0, [])), (24, (15, 27, 13, 8, 30, 1043, 0, [])), (27, (1, 28, 2, 0, 0, 0, 0, [])), (28, (17, 29, 0, 0, 0, 0, 0, [])), (29, (0, 31, 0, 0, 0, 0, 10, [])), (31, (5, 32, 0, 0, 0, 0, 0, []))],
  [(32, (1, 33, 0, 2, 0, 0, 0, [])), (33, (15, 36, 13, 8, 30, 1043, 0, [])), (36, (1, 37, 2, 0, 0, 0, 0, [])), (37, (17, 38, 0, 0, 0, 0, 0, [])), (38, (0, 40, 0, 0, 0, 0, 10, [])), (40, (5, 41, 1, 0, 0, 0, 0, [])), (41, (20, 44, 251, 1, 0, 1505, 0, [(4, 3), (0, 48), (0, 0), (0, 0)])), (44, (0, 46, 0, 0, 0, 1029, (-1000000005), [])), (46, (11, 49, 1, 55, 0, 0, 0, [])), (49, (0, 50, 0, 0, 0, 0, 1, [])), (50, (1, 51, 2, 0, 0, 0, 0, [])), (51, (4, 52, 5, 0, 0, 0, 0, [])), (52, (13, 55, 0, 56, 0, 0, 0, [])), (55, (0, 56, 0, 0, 0, 0, 0, [])), (56, (4, 57, 4, 0, 0, 0, 0, [])), (57, (2, 58, 1, 0, 0, 0, 0, [])), (58, (3, 61, 2, 0, 0, 0, 1, [])), (61, (13, 64, 0, 4, 0, 0, 0, []))],
  [(64, (1, 65, 1, 0, 0, 0, 0, [])), (65, (21, 66, 1, 0, 0, 0, 0, []))]]
set_option maxRecDepth 100000 in
noncomputable def tb263 : List (List (Nat × II)) := [[(0, (1, 1, 0, 0, 0, 0, 0, [])), (1, (0, 2, 0, 0, 0, 0, 0, [])), (2, (0, 3, 0, 0, 0, 0, 5, [])), (3, (20, 6, 159, 0, 0, 1125, 0, [(3, 3), (0, 0), (0, 0), (0, 0)])), (6, (10, 9, 0, 23, 0, 0, 0, [])), (9, (1, 10, 1, 0, 0, 0, 0, [])), (10, (0, 11, 0, 0, 0, 0, 1, [])), (11, (0, 13, 0, 0, 0, 0, 100, [])), (13, (20, 16, 159, 0, 0, 1125, 0, [(3, 3), (0, 0), (0, 0), (0, 0)])), (16, (10, 19, 0, 23, 0, 0, 0, [])), (19, (0, 20, 0, 0, 0, 0, 1, [])), (20, (13, 23, 0, 24, 0, 0, 0, [])), (23, (0, 24, 0, 0, 0, 0, 0, [])), (24, (21, 25, 2, 0, 3, 0, 0, []))]]
set_option maxRecDepth 100000 in
noncomputable def tb264 : List (List (Nat × II)) := [[(0, (1, 1, 1, 0, 0, 0, 0, [])), (1, (1, 2, 2, 0, 0, 0, 0, [])), (2, (20, 5, 263, 0, 0, 1545, 0, [(2, 2), (0, 0), (0, 0)])), (5, (10, 8, 0, 18, 0, 0, 0, [])), (8, (1, 9, 3, 0, 0, 0, 0, [])), (9, (0, 10, 0, 0, 0, 0, 0, [])), (10, (0, 12, 0, 0, 0, 1142, 100000, [])), (12, (20, 15, 159, 0, 0, 1125, 0, [(3, 3), (0, 0), (0, 0), (0, 0)])), (15, (10, 18, 1, 21, 0, 0, 0, [])), (18, (0, 20, 0, 0, 0, 1129, (-1000000001), [])), (20, (21, 21, 1, 0, 0, 0, 0, [])), (21, (1, 22, 0, 2, 0, 0, 0, [])), (22, (15, 25, 18, 8, 30, 1048, 0, [])), (25, (0, 27, 0, 0, 0, 0, 101, [])), (27, (1, 28, 1, 0, 0, 0, 0, [])), (28, (4, 29, 2, 0, 0, 0, 0, [])), (29, (1, 30, 2, 0, 0, 0, 0, [])), (30, (4, 31, 0, 0, 0, 0, 0, [])), (31, (17, 32, 0, 0, 0, 0, 0, []))],
  [(32, (2, 34, 4, 0, 0, 0, 0, [])), (34, (1, 35, 0, 2, 0, 0, 0, [])), (35, (15, 38, 18, 8, 30, 1048, 0, [])), (38, (0, 40, 0, 0, 0, 0, 101, [])), (40, (1, 41, 1, 0, 0, 0, 0, [])), (41, (4, 42, 2, 0, 0, 0, 0, [])), (42, (1, 43, 2, 0, 0, 0, 0, [])), (43, (4, 44, 0, 0, 0, 0, 0, [])), (44, (1, 45, 3, 0, 0, 0, 0, [])), (45, (18, 46, 0, 0, 0, 0, 0, [])), (46, (1, 48, 4, 0, 0, 0, 0, [])), (48, (21, 49, 1, 0, 0, 0, 0, []))]]
set_option maxRecDepth 100000 in
noncomputable def tb265 : List (List (Nat × II)) := [[(0, (0, 1, 0, 0, 0, 0, 0, [])), (1, (2, 3, 4, 0, 0, 0, 0, [])), (3, (0, 5, 0, 0, 0, 0, 66, [])), (5, (1, 6, 2, 0, 0, 0, 0, [])), (6, (4, 7, 2, 0, 0, 0, 0, [])), (7, (2, 9, 5, 0, 0, 0, 0, [])), (9, (1, 11, 5, 0, 0, 0, 0, [])), (11, (0, 13, 0, 0, 0, 0, 66, [])), (13, (1, 14, 2, 0, 0, 0, 0, [])), (14, (4, 15, 2, 0, 0, 0, 0, [])), (15, (0, 17, 0, 0, 0, 0, 66, [])), (17, (4, 18, 0, 0, 0, 0, 0, [])), (18, (11, 21, 3, 87, 0, 0, 0, [])), (21, (1, 22, 0, 2, 0, 0, 0, [])), (22, (1, 23, 1, 0, 0, 0, 0, [])), (23, (1, 25, 5, 0, 0, 0, 0, [])), (25, (20, 28, 234, 1, 0, 1282, 0, [(7, 3), (0, 48), (0, 0), (0, 0)])), (28, (10, 31, 0, 81, 0, 0, 0, [])), (31, (1, 32, 2, 0, 0, 0, 0, []))],
  [(32, (10, 35, 1, 44, 0, 0, 0, [])), (35, (1, 36, 0, 2, 0, 0, 0, [])), (36, (15, 39, 3, 8, 30, 1033, 0, [])), (39, (1, 40, 1, 0, 0, 0, 0, [])), (40, (17, 41, 0, 0, 0, 0, 0, [])), (41, (13, 44, 0, 63, 0, 0, 0, [])), (44, (1, 45, 2, 0, 0, 0, 0, [])), (45, (0, 46, 0, 0, 0, 0, 4, [])), (46, (11, 49, 1, 53, 0, 0, 0, [])), (49, (0, 50, 0, 0, 0, 0, 1, [])), (50, (13, 53, 0, 63, 0, 0, 0, [])), (53, (1, 54, 0, 2, 0, 0, 0, [])), (54, (1, 55, 1, 0, 0, 0, 0, [])), (55, (1, 57, 5, 0, 0, 0, 0, [])), (57, (0, 59, 0, 0, 0, 0, 11, [])), (59, (5, 60, 1, 0, 0, 0, 0, [])), (60, (20, 63, 172, 1, 0, 1216, 0, [(3, 3), (0, 48), (0, 0), (0, 0)])), (63, (2, 65, 6, 0, 0, 0, 0, []))],
  [(65, (1, 67, 4, 0, 0, 0, 0, [])), (67, (1, 69, 6, 0, 0, 0, 0, [])), (69, (1, 70, 3, 0, 0, 0, 0, [])), (70, (11, 73, 1, 77, 0, 0, 0, [])), (73, (0, 74, 0, 0, 0, 0, 1, [])), (74, (13, 77, 0, 78, 0, 0, 0, [])), (77, (0, 78, 0, 0, 0, 0, 0, [])), (78, (4, 79, 0, 0, 0, 0, 0, [])), (79, (2, 81, 4, 0, 0, 0, 0, [])), (81, (3, 84, 5, 0, 0, 0, 1, [])), (84, (13, 87, 0, 9, 0, 0, 0, [])), (87, (1, 89, 4, 0, 0, 0, 0, [])), (89, (21, 90, 1, 0, 0, 0, 0, []))]]
set_option maxRecDepth 100000 in
noncomputable def tb266 : List (List (Nat × II)) := [[(0, (1, 1, 1, 0, 0, 0, 0, [])), (1, (20, 4, 169, 0, 0, 1167, 0, [(1, 1), (0, 0)])), (4, (10, 7, 0, 15, 0, 0, 0, [])), (7, (1, 8, 2, 0, 0, 0, 0, [])), (8, (1, 9, 3, 0, 0, 0, 0, [])), (9, (20, 12, 263, 0, 0, 1545, 0, [(2, 2), (0, 0), (0, 0)])), (12, (10, 15, 1, 18, 0, 0, 0, [])), (15, (0, 17, 0, 0, 0, 1129, (-1000000001), [])), (17, (21, 18, 1, 0, 0, 0, 0, [])), (18, (1, 19, 0, 2, 0, 0, 0, [])), (19, (1, 20, 1, 0, 0, 0, 0, [])), (20, (20, 23, 170, 1, 0, 1187, 0, [(2, 2), (0, 48), (0, 0)])), (23, (10, 26, 0, 31, 0, 0, 0, [])), (26, (0, 28, 0, 0, 0, 1178, (-1000000002), [])), (28, (13, 31, 0, 38, 0, 0, 0, [])), (31, (1, 32, 0, 2, 0, 0, 0, []))],
  [(32, (1, 33, 1, 0, 0, 0, 0, [])), (33, (1, 34, 2, 0, 0, 0, 0, [])), (34, (1, 35, 3, 0, 0, 0, 0, [])), (35, (20, 38, 265, 1, 0, 1552, 0, [(7, 4), (0, 48), (0, 0), (0, 0), (0, 0)])), (38, (21, 39, 1, 0, 0, 0, 0, []))]]
set_option maxRecDepth 100000 in
noncomputable def tb267 : List (List (Nat × II)) := [[(0, (1, 1, 1, 0, 0, 0, 0, [])), (1, (1, 2, 2, 0, 0, 0, 0, [])), (2, (20, 5, 263, 0, 0, 1545, 0, [(2, 2), (0, 0), (0, 0)])), (5, (10, 8, 1, 11, 0, 0, 0, [])), (8, (0, 10, 0, 0, 0, 1129, (-1000000001), [])), (10, (21, 11, 1, 0, 0, 0, 0, [])), (11, (1, 12, 0, 2, 0, 0, 0, [])), (12, (15, 15, 18, 8, 30, 1048, 0, [])), (15, (0, 17, 0, 0, 0, 0, 101, [])), (17, (1, 18, 1, 0, 0, 0, 0, [])), (18, (4, 19, 2, 0, 0, 0, 0, [])), (19, (1, 20, 2, 0, 0, 0, 0, [])), (20, (4, 21, 0, 0, 0, 0, 0, [])), (21, (17, 22, 0, 0, 0, 0, 0, [])), (22, (9, 23, 0, 0, 0, 0, 0, [])), (23, (2, 24, 3, 0, 0, 0, 0, [])), (24, (0, 25, 0, 0, 0, 0, 0, [])), (25, (2, 27, 4, 0, 0, 0, 0, [])), (27, (1, 29, 4, 0, 0, 0, 0, [])), (29, (0, 30, 0, 0, 0, 0, 3, [])), (30, (11, 33, 3, 50, 0, 0, 0, []))],
  [(33, (1, 34, 3, 0, 0, 0, 0, [])), (34, (1, 35, 0, 2, 0, 0, 0, [])), (35, (1, 37, 4, 0, 0, 0, 0, [])), (37, (1, 38, 1, 0, 0, 0, 0, [])), (38, (1, 39, 2, 0, 0, 0, 0, [])), (39, (20, 42, 265, 1, 0, 1552, 0, [(7, 4), (0, 48), (0, 0), (0, 0), (0, 0)])), (42, (4, 43, 0, 0, 0, 0, 0, [])), (43, (2, 44, 3, 0, 0, 0, 0, [])), (44, (3, 47, 4, 0, 0, 0, 1, [])), (47, (13, 50, 0, 27, 0, 0, 0, [])), (50, (1, 51, 3, 0, 0, 0, 0, [])), (51, (10, 54, 3, 58, 0, 0, 0, [])), (54, (0, 55, 0, 0, 0, 0, 0, [])), (55, (13, 58, 0, 59, 0, 0, 0, [])), (58, (1, 59, 3, 0, 0, 0, 0, [])), (59, (21, 60, 1, 0, 0, 0, 0, []))]]
set_option maxRecDepth 100000 in
noncomputable def tb268 : List (List (Nat × II)) := [[(0, (1, 1, 0, 2, 0, 0, 0, [])), (1, (1, 2, 1, 0, 0, 0, 0, [])), (2, (1, 3, 2, 0, 0, 0, 0, [])), (3, (20, 6, 171, 1, 0, 1208, 0, [(3, 3), (0, 48), (0, 0), (0, 0)])), (6, (1, 7, 0, 2, 0, 0, 0, [])), (7, (1, 8, 3, 0, 0, 0, 0, [])), (8, (1, 10, 4, 0, 0, 0, 0, [])), (10, (20, 13, 171, 1, 0, 1208, 0, [(3, 3), (0, 48), (0, 0), (0, 0)])), (13, (11, 16, 1, 36, 0, 0, 0, [])), (16, (1, 17, 0, 2, 0, 0, 0, [])), (17, (1, 18, 1, 0, 0, 0, 0, [])), (18, (1, 19, 2, 0, 0, 0, 0, [])), (19, (20, 22, 172, 1, 0, 1216, 0, [(3, 3), (0, 48), (0, 0), (0, 0)])), (22, (1, 23, 0, 2, 0, 0, 0, [])), (23, (1, 24, 3, 0, 0, 0, 0, [])), (24, (1, 26, 4, 0, 0, 0, 0, [])), (26, (20, 29, 172, 1, 0, 1216, 0, [(3, 3), (0, 48), (0, 0), (0, 0)])), (29, (11, 32, 1, 36, 0, 0, 0, []))],
  [(32, (0, 33, 0, 0, 0, 0, 1, [])), (33, (13, 36, 0, 37, 0, 0, 0, [])), (36, (0, 37, 0, 0, 0, 0, 0, [])), (37, (21, 38, 2, 0, 3, 0, 0, []))]]
set_option maxRecDepth 100000 in
noncomputable def tb269 : List (List (Nat × II)) := [[(0, (1, 1, 0, 2, 0, 0, 0, [])), (1, (15, 4, 4, 8, 30, 1034, 0, [])), (4, (1, 5, 1, 0, 0, 0, 0, [])), (5, (17, 6, 0, 0, 0, 0, 0, [])), (6, (2, 7, 3, 0, 0, 0, 0, [])), (7, (1, 8, 3, 0, 0, 0, 0, [])), (8, (10, 11, 2, 193, 0, 0, 0, [])), (11, (1, 12, 0, 2, 0, 0, 0, [])), (12, (15, 15, 4, 8, 30, 1034, 0, [])), (15, (1, 16, 2, 0, 0, 0, 0, [])), (16, (17, 17, 0, 0, 0, 0, 0, [])), (17, (2, 19, 4, 0, 0, 0, 0, [])), (19, (1, 21, 4, 0, 0, 0, 0, [])), (21, (10, 24, 2, 187, 0, 0, 0, [])), (24, (0, 25, 0, 0, 0, 0, 0, [])), (25, (2, 27, 5, 0, 0, 0, 0, [])), (27, (1, 28, 3, 0, 0, 0, 0, [])), (28, (1, 29, 0, 2, 0, 0, 0, [])), (29, (15, 32, 4, 8, 30, 1034, 0, []))],
  [(32, (1, 33, 1, 0, 0, 0, 0, [])), (33, (17, 34, 0, 0, 0, 0, 0, [])), (34, (11, 37, 3, 167, 0, 0, 0, [])), (37, (1, 39, 4, 0, 0, 0, 0, [])), (39, (1, 40, 0, 2, 0, 0, 0, [])), (40, (15, 43, 4, 8, 30, 1034, 0, [])), (43, (1, 44, 2, 0, 0, 0, 0, [])), (44, (17, 45, 0, 0, 0, 0, 0, [])), (45, (11, 48, 3, 167, 0, 0, 0, [])), (48, (1, 49, 0, 2, 0, 0, 0, [])), (49, (15, 52, 29, 8, 30, 1059, 0, [])), (52, (0, 54, 0, 0, 0, 0, 11, [])), (54, (1, 55, 3, 0, 0, 0, 0, [])), (55, (0, 56, 0, 0, 0, 0, 1, [])), (56, (4, 57, 0, 0, 0, 0, 0, [])), (57, (4, 58, 2, 0, 0, 0, 0, [])), (58, (1, 60, 4, 0, 0, 0, 0, [])), (60, (4, 61, 0, 0, 0, 0, 0, [])), (61, (17, 62, 0, 0, 0, 0, 0, [])), (62, (1, 63, 0, 2, 0, 0, 0, [])), (63, (15, 66, 29, 8, 30, 1059, 0, []))],
  [(66, (0, 68, 0, 0, 0, 0, 11, [])), (68, (1, 69, 3, 0, 0, 0, 0, [])), (69, (4, 70, 2, 0, 0, 0, 0, [])), (70, (1, 72, 4, 0, 0, 0, 0, [])), (72, (4, 73, 0, 0, 0, 0, 0, [])), (73, (0, 74, 0, 0, 0, 0, 1, [])), (74, (4, 75, 0, 0, 0, 0, 0, [])), (75, (17, 76, 0, 0, 0, 0, 0, [])), (76, (11, 79, 5, 96, 0, 0, 0, [])), (79, (1, 80, 0, 2, 0, 0, 0, [])), (80, (15, 83, 29, 8, 30, 1059, 0, [])), (83, (0, 85, 0, 0, 0, 0, 11, [])), (85, (1, 86, 3, 0, 0, 0, 0, [])), (86, (0, 87, 0, 0, 0, 0, 1, [])), (87, (4, 88, 0, 0, 0, 0, 0, [])), (88, (4, 89, 2, 0, 0, 0, 0, [])), (89, (1, 91, 4, 0, 0, 0, 0, [])), (91, (4, 92, 0, 0, 0, 0, 0, [])), (92, (17, 93, 0, 0, 0, 0, 0, [])), (93, (13, 96, 0, 110, 0, 0, 0, []))],
  [(96, (1, 97, 0, 2, 0, 0, 0, [])), (97, (15, 100, 29, 8, 30, 1059, 0, [])), (100, (0, 102, 0, 0, 0, 0, 11, [])), (102, (1, 103, 3, 0, 0, 0, 0, [])), (103, (4, 104, 2, 0, 0, 0, 0, [])), (104, (1, 106, 4, 0, 0, 0, 0, [])), (106, (4, 107, 0, 0, 0, 0, 0, [])), (107, (0, 108, 0, 0, 0, 0, 1, [])), (108, (4, 109, 0, 0, 0, 0, 0, [])), (109, (17, 110, 0, 0, 0, 0, 0, [])), (110, (2, 112, 5, 0, 0, 0, 0, [])), (112, (1, 113, 0, 2, 0, 0, 0, [])), (113, (1, 114, 1, 0, 0, 0, 0, [])), (114, (1, 115, 3, 0, 0, 0, 0, [])), (115, (1, 116, 2, 0, 0, 0, 0, [])), (116, (1, 118, 4, 0, 0, 0, 0, [])), (118, (20, 121, 268, 1, 0, 1568, 0, [(5, 5), (0, 48), (0, 0), (0, 0), (0, 0), (0, 0)])), (121, (10, 124, 0, 167, 0, 0, 0, [])), (124, (1, 125, 0, 2, 0, 0, 0, [])), (125, (15, 128, 29, 8, 30, 1059, 0, []))],
  [(128, (0, 130, 0, 0, 0, 0, 11, [])), (130, (1, 131, 3, 0, 0, 0, 0, [])), (131, (0, 132, 0, 0, 0, 0, 1, [])), (132, (4, 133, 0, 0, 0, 0, 0, [])), (133, (4, 134, 2, 0, 0, 0, 0, [])), (134, (1, 136, 4, 0, 0, 0, 0, [])), (136, (4, 137, 0, 0, 0, 0, 0, [])), (137, (0, 138, 0, 0, 0, 0, 1, [])), (138, (4, 139, 0, 0, 0, 0, 0, [])), (139, (17, 140, 0, 0, 0, 0, 0, [])), (140, (0, 141, 0, 0, 0, 0, 1, [])), (141, (4, 142, 0, 0, 0, 0, 0, [])), (142, (1, 144, 5, 0, 0, 0, 0, [])), (144, (11, 147, 5, 167, 0, 0, 0, [])), (147, (1, 148, 0, 2, 0, 0, 0, [])), (148, (15, 151, 29, 8, 30, 1059, 0, [])), (151, (0, 153, 0, 0, 0, 0, 11, [])), (153, (1, 154, 3, 0, 0, 0, 0, [])), (154, (0, 155, 0, 0, 0, 0, 1, [])), (155, (4, 156, 0, 0, 0, 0, 0, [])), (156, (4, 157, 2, 0, 0, 0, 0, [])), (157, (1, 159, 4, 0, 0, 0, 0, [])), (159, (4, 160, 0, 0, 0, 0, 0, []))],
  [(160, (0, 161, 0, 0, 0, 0, 1, [])), (161, (4, 162, 0, 0, 0, 0, 0, [])), (162, (17, 163, 0, 0, 0, 0, 0, [])), (163, (0, 164, 0, 0, 0, 0, 1, [])), (164, (4, 165, 0, 0, 0, 0, 0, [])), (165, (2, 167, 5, 0, 0, 0, 0, [])), (167, (1, 168, 0, 2, 0, 0, 0, [])), (168, (15, 171, 29, 8, 30, 1059, 0, [])), (171, (0, 173, 0, 0, 0, 0, 11, [])), (173, (1, 174, 3, 0, 0, 0, 0, [])), (174, (4, 175, 2, 0, 0, 0, 0, [])), (175, (1, 177, 4, 0, 0, 0, 0, [])), (177, (4, 178, 0, 0, 0, 0, 0, [])), (178, (1, 180, 5, 0, 0, 0, 0, [])), (180, (18, 181, 0, 0, 0, 0, 0, [])), (181, (3, 184, 4, 0, 0, 0, (-1), [])), (184, (13, 187, 0, 19, 0, 0, 0, [])), (187, (3, 190, 3, 0, 0, 0, (-1), [])), (190, (13, 193, 0, 7, 0, 0, 0, []))],
  [(193, (21, 194, 0, 0, 9, 0, 0, []))]]
set_option maxRecDepth 100000 in
noncomputable def tb270 : List (List (Nat × II)) := [[(0, (1, 1, 1, 0, 0, 0, 0, [])), (1, (20, 4, 169, 0, 0, 1167, 0, [(1, 1), (0, 0)])), (4, (10, 7, 0, 19, 0, 0, 0, [])), (7, (1, 8, 2, 0, 0, 0, 0, [])), (8, (20, 11, 169, 0, 0, 1167, 0, [(1, 1), (0, 0)])), (11, (10, 14, 0, 19, 0, 0, 0, [])), (14, (1, 15, 3, 0, 0, 0, 0, [])), (15, (0, 16, 0, 0, 0, 0, (-1), [])), (16, (11, 19, 3, 22, 0, 0, 0, [])), (19, (0, 21, 0, 0, 0, 1129, (-1000000001), [])), (21, (21, 22, 1, 0, 0, 0, 0, [])), (22, (1, 23, 0, 2, 0, 0, 0, [])), (23, (1, 24, 1, 0, 0, 0, 0, [])), (24, (20, 27, 170, 1, 0, 1187, 0, [(2, 2), (0, 48), (0, 0)])), (27, (10, 30, 1, 38, 0, 0, 0, [])), (30, (1, 31, 0, 2, 0, 0, 0, [])), (31, (1, 32, 2, 0, 0, 0, 0, []))],
  [(32, (20, 35, 170, 1, 0, 1187, 0, [(2, 2), (0, 48), (0, 0)])), (35, (10, 38, 0, 41, 0, 0, 0, [])), (38, (0, 40, 0, 0, 0, 1178, (-1000000002), [])), (40, (21, 41, 1, 0, 0, 0, 0, [])), (41, (1, 42, 0, 2, 0, 0, 0, [])), (42, (1, 43, 1, 0, 0, 0, 0, [])), (43, (1, 44, 2, 0, 0, 0, 0, [])), (44, (20, 47, 269, 1, 9, 1564, 0, [(6, 3), (0, 48), (0, 0), (0, 0)])), (47, (1, 48, 0, 2, 0, 0, 0, [])), (48, (15, 51, 29, 8, 30, 1059, 0, [])), (51, (0, 52, 0, 0, 0, 0, 0, [])), (52, (17, 53, 0, 0, 0, 0, 0, [])), (53, (2, 55, 4, 0, 0, 0, 0, [])), (55, (1, 56, 3, 0, 0, 0, 0, [])), (56, (10, 59, 3, 62, 0, 0, 0, [])), (59, (1, 61, 4, 0, 0, 0, 0, [])), (61, (21, 62, 1, 0, 0, 0, 0, [])), (62, (1, 63, 3, 0, 0, 0, 0, [])), (63, (1, 65, 4, 0, 0, 0, 0, []))],
  [(65, (11, 68, 2, 71, 0, 0, 0, [])), (68, (0, 70, 0, 0, 0, 1029, (-1000000005), [])), (70, (21, 71, 1, 0, 0, 0, 0, [])), (71, (0, 72, 0, 0, 0, 0, 0, [])), (72, (2, 74, 5, 0, 0, 0, 0, [])), (74, (0, 75, 0, 0, 0, 0, 0, [])), (75, (2, 77, 6, 0, 0, 0, 0, [])), (77, (0, 78, 0, 0, 0, 0, 0, [])), (78, (2, 80, 7, 0, 0, 0, 0, [])), (80, (1, 82, 7, 0, 0, 0, 0, [])), (82, (1, 83, 3, 0, 0, 0, 0, [])), (83, (11, 86, 4, 234, 0, 0, 0, [])), (86, (1, 88, 6, 0, 0, 0, 0, [])), (88, (2, 90, 8, 0, 0, 0, 0, [])), (90, (1, 92, 8, 0, 0, 0, 0, [])), (92, (1, 93, 0, 2, 0, 0, 0, [])), (93, (15, 96, 4, 8, 30, 1034, 0, []))],
  [(96, (1, 97, 2, 0, 0, 0, 0, [])), (97, (17, 98, 0, 0, 0, 0, 0, [])), (98, (11, 101, 3, 144, 0, 0, 0, [])), (101, (1, 102, 0, 2, 0, 0, 0, [])), (102, (1, 103, 1, 0, 0, 0, 0, [])), (103, (1, 105, 5, 0, 0, 0, 0, [])), (105, (1, 106, 2, 0, 0, 0, 0, [])), (106, (1, 108, 8, 0, 0, 0, 0, [])), (108, (20, 111, 268, 1, 0, 1568, 0, [(5, 5), (0, 48), (0, 0), (0, 0), (0, 0), (0, 0)])), (111, (10, 114, 0, 138, 0, 0, 0, [])), (114, (1, 115, 0, 2, 0, 0, 0, [])), (115, (15, 118, 29, 8, 30, 1059, 0, [])), (118, (0, 120, 0, 0, 0, 0, 11, [])), (120, (1, 122, 5, 0, 0, 0, 0, [])), (122, (0, 123, 0, 0, 0, 0, 1, [])), (123, (4, 124, 0, 0, 0, 0, 0, [])), (124, (4, 125, 2, 0, 0, 0, 0, [])), (125, (1, 127, 8, 0, 0, 0, 0, [])), (127, (4, 128, 0, 0, 0, 0, 0, []))],
  [(128, (0, 129, 0, 0, 0, 0, 1, [])), (129, (4, 130, 0, 0, 0, 0, 0, [])), (130, (17, 131, 0, 0, 0, 0, 0, [])), (131, (1, 133, 4, 0, 0, 0, 0, [])), (133, (0, 134, 0, 0, 0, 0, 1, [])), (134, (4, 135, 1, 0, 0, 0, 0, [])), (135, (11, 138, 0, 144, 0, 0, 0, [])), (138, (3, 141, 8, 0, 0, 0, 1, [])), (141, (13, 144, 0, 90, 0, 0, 0, [])), (144, (1, 146, 8, 0, 0, 0, 0, [])), (146, (1, 147, 0, 2, 0, 0, 0, [])), (147, (15, 150, 4, 8, 30, 1034, 0, [])), (150, (1, 151, 2, 0, 0, 0, 0, [])), (151, (17, 152, 0, 0, 0, 0, 0, [])), (152, (11, 155, 1, 216, 0, 0, 0, [])), (155, (3, 158, 5, 0, 0, 0, 1, [])), (158, (1, 160, 6, 0, 0, 0, 0, []))],
  [(160, (2, 162, 8, 0, 0, 0, 0, [])), (162, (1, 164, 8, 0, 0, 0, 0, [])), (164, (1, 165, 0, 2, 0, 0, 0, [])), (165, (15, 168, 4, 8, 30, 1034, 0, [])), (168, (1, 169, 2, 0, 0, 0, 0, [])), (169, (17, 170, 0, 0, 0, 0, 0, [])), (170, (11, 173, 3, 144, 0, 0, 0, [])), (173, (1, 174, 0, 2, 0, 0, 0, [])), (174, (1, 175, 1, 0, 0, 0, 0, [])), (175, (1, 177, 5, 0, 0, 0, 0, [])), (177, (1, 178, 2, 0, 0, 0, 0, [])), (178, (1, 180, 8, 0, 0, 0, 0, [])), (180, (20, 183, 268, 1, 0, 1568, 0, [(5, 5), (0, 48), (0, 0), (0, 0), (0, 0), (0, 0)])), (183, (10, 186, 0, 210, 0, 0, 0, [])), (186, (1, 187, 0, 2, 0, 0, 0, [])), (187, (15, 190, 29, 8, 30, 1059, 0, [])), (190, (0, 192, 0, 0, 0, 0, 11, []))],
  [(192, (1, 194, 5, 0, 0, 0, 0, [])), (194, (0, 195, 0, 0, 0, 0, 1, [])), (195, (4, 196, 0, 0, 0, 0, 0, [])), (196, (4, 197, 2, 0, 0, 0, 0, [])), (197, (1, 199, 8, 0, 0, 0, 0, [])), (199, (4, 200, 0, 0, 0, 0, 0, [])), (200, (0, 201, 0, 0, 0, 0, 1, [])), (201, (4, 202, 0, 0, 0, 0, 0, [])), (202, (17, 203, 0, 0, 0, 0, 0, [])), (203, (1, 205, 4, 0, 0, 0, 0, [])), (205, (0, 206, 0, 0, 0, 0, 1, [])), (206, (4, 207, 1, 0, 0, 0, 0, [])), (207, (11, 210, 0, 144, 0, 0, 0, [])), (210, (3, 213, 8, 0, 0, 0, 1, [])), (213, (13, 216, 0, 162, 0, 0, 0, [])), (216, (1, 218, 8, 0, 0, 0, 0, [])), (218, (0, 219, 0, 0, 0, 0, 1, [])), (219, (4, 220, 0, 0, 0, 0, 0, [])), (220, (2, 222, 6, 0, 0, 0, 0, [])), (222, (3, 225, 5, 0, 0, 0, 1, []))],
  [(225, (3, 228, 4, 0, 0, 0, (-1), [])), (228, (3, 231, 7, 0, 0, 0, 1, [])), (231, (13, 234, 0, 80, 0, 0, 0, [])), (234, (1, 236, 5, 0, 0, 0, 0, [])), (236, (0, 237, 0, 0, 0, 0, 1, [])), (237, (4, 238, 1, 0, 0, 0, 0, [])), (238, (21, 239, 1, 0, 0, 0, 0, []))]]
set_option maxRecDepth 100000 in
noncomputable def tb271 : List (List (Nat × II)) := [[(0, (0, 1, 0, 0, 0, 0, 0, [])), (1, (2, 2, 2, 0, 0, 0, 0, [])), (2, (1, 3, 1, 0, 0, 0, 0, [])), (3, (14, 40, 0, 144, 0, 0, 0, [(0, 40), (1, 71), (2, 94), (3, 99), (4, 134), (5, 139)]))],
  [(40, (0, 41, 0, 0, 0, 0, 0, [])), (41, (2, 42, 3, 0, 0, 0, 0, [])), (42, (1, 43, 3, 0, 0, 0, 0, [])), (43, (0, 44, 0, 0, 0, 0, 3, [])), (44, (11, 47, 3, 69, 0, 0, 0, [])), (47, (1, 48, 2, 0, 0, 0, 0, [])), (48, (1, 49, 0, 2, 0, 0, 0, [])), (49, (1, 50, 3, 0, 0, 0, 0, [])), (50, (20, 53, 170, 1, 0, 1187, 0, [(2, 2), (0, 48), (0, 0)])), (53, (10, 56, 0, 60, 0, 0, 0, [])), (56, (0, 57, 0, 0, 0, 0, 0, [])), (57, (13, 60, 0, 61, 0, 0, 0, [])), (60, (0, 61, 0, 0, 0, 0, 1, [])), (61, (4, 62, 0, 0, 0, 0, 0, [])), (62, (2, 63, 2, 0, 0, 0, 0, [])), (63, (3, 66, 3, 0, 0, 0, 1, []))],
  [(66, (13, 69, 0, 42, 0, 0, 0, [])), (69, (1, 70, 2, 0, 0, 0, 0, [])), (70, (21, 71, 1, 0, 0, 0, 0, [])), (71, (0, 72, 0, 0, 0, 0, 0, [])), (72, (2, 73, 3, 0, 0, 0, 0, [])), (73, (1, 74, 3, 0, 0, 0, 0, [])), (74, (0, 75, 0, 0, 0, 0, 3, [])), (75, (11, 78, 3, 92, 0, 0, 0, [])), (78, (1, 79, 2, 0, 0, 0, 0, [])), (79, (1, 80, 0, 2, 0, 0, 0, [])), (80, (1, 81, 3, 0, 0, 0, 0, [])), (81, (20, 84, 182, 1, 0, 1170, 0, [(4, 2), (0, 48), (0, 0)])), (84, (4, 85, 0, 0, 0, 0, 0, [])), (85, (2, 86, 2, 0, 0, 0, 0, [])), (86, (3, 89, 3, 0, 0, 0, 1, [])), (89, (13, 92, 0, 73, 0, 0, 0, [])), (92, (1, 93, 2, 0, 0, 0, 0, [])), (93, (21, 94, 1, 0, 0, 0, 0, [])), (94, (1, 95, 0, 2, 0, 0, 0, [])), (95, (20, 98, 253, 1, 0, 1501, 0, [(4, 1), (0, 48)]))],
  [(98, (21, 99, 1, 0, 0, 0, 0, [])), (99, (0, 100, 0, 0, 0, 0, 0, [])), (100, (2, 101, 3, 0, 0, 0, 0, [])), (101, (1, 102, 3, 0, 0, 0, 0, [])), (102, (0, 104, 0, 0, 0, 0, 10, [])), (104, (11, 107, 3, 132, 0, 0, 0, [])), (107, (1, 108, 2, 0, 0, 0, 0, [])), (108, (1, 109, 0, 2, 0, 0, 0, [])), (109, (15, 112, 13, 8, 30, 1043, 0, [])), (112, (1, 113, 3, 0, 0, 0, 0, [])), (113, (17, 114, 0, 0, 0, 0, 0, [])), (114, (0, 116, 0, 0, 0, 1029, (-1000000005), [])), (116, (11, 119, 0, 123, 0, 0, 0, [])), (119, (0, 120, 0, 0, 0, 0, 1, [])), (120, (13, 123, 0, 124, 0, 0, 0, [])), (123, (0, 124, 0, 0, 0, 0, 0, [])), (124, (4, 125, 0, 0, 0, 0, 0, [])), (125, (2, 126, 2, 0, 0, 0, 0, [])), (126, (3, 129, 3, 0, 0, 0, 1, []))],
  [(129, (13, 132, 0, 101, 0, 0, 0, [])), (132, (1, 133, 2, 0, 0, 0, 0, [])), (133, (21, 134, 1, 0, 0, 0, 0, [])), (134, (1, 135, 0, 2, 0, 0, 0, [])), (135, (15, 138, 14, 8, 0, 1044, 0, [])), (138, (21, 139, 1, 0, 0, 0, 0, [])), (139, (1, 140, 0, 2, 0, 0, 0, [])), (140, (15, 143, 10, 8, 0, 1040, 0, [])), (143, (21, 144, 1, 0, 0, 0, 0, [])), (144, (0, 146, 0, 0, 0, 1129, (-1000000001), [])), (146, (21, 147, 1, 0, 0, 0, 0, []))]]
set_option maxRecDepth 100000 in
noncomputable def tb272 : List (List (Nat × II)) := [[(0, (0, 1, 0, 0, 0, 0, 0, [])), (1, (2, 2, 2, 0, 0, 0, 0, [])), (2, (1, 3, 0, 2, 0, 0, 0, [])), (3, (19, 4, 0, 0, 0, 0, 0, [])), (4, (2, 5, 3, 0, 0, 0, 0, [])), (5, (1, 6, 2, 0, 0, 0, 0, [])), (6, (1, 7, 3, 0, 0, 0, 0, [])), (7, (11, 10, 3, 20, 0, 0, 0, [])), (10, (1, 11, 0, 2, 0, 0, 0, [])), (11, (1, 12, 2, 0, 0, 0, 0, [])), (12, (1, 13, 1, 0, 0, 0, 0, [])), (13, (18, 14, 0, 0, 0, 0, 0, [])), (14, (3, 17, 2, 0, 0, 0, 1, [])), (17, (13, 20, 0, 5, 0, 0, 0, [])), (20, (21, 21, 0, 0, 9, 0, 0, []))]]
noncomputable def tbs0 : List (List (List (Nat × II))) := [tb0, tb1, tb2, tb3, tb4, tb5, tb6, tb7, tb8, tb9, tb10, tb11, tb12, tb13, tb14, tb15]
noncomputable def tbs1 : List (List (List (Nat × II))) := [tb16, tb17, tb18, tb19, tb20, tb21, tb22, tb23, tb24, tb25, tb26, tb27, tb28, tb29, tb30, tb31]
noncomputable def tbs2 : List (List (List (Nat × II))) := [tb32, tb33, tb34, tb35, tb36, tb37, tb38, tb39, tb40, tb41, tb42, tb43, tb44, tb45, tb46, tb47]
noncomputable def tbs3 : List (List (List (Nat × II))) := [tb48, tb49, tb50, tb51, tb52, tb53, tb54, tb55, tb56, tb57, tb58, tb59, tb60, tb61, tb62, tb63]
noncomputable def tbs4 : List (List (List (Nat × II))) := [tb64, tb65, tb66, tb67, tb68, tb69, tb70, tb71, tb72, tb73, tb74, tb75, tb76, tb77, tb78, tb79]
noncomputable def tbs5 : List (List (List (Nat × II))) := [tb80, tb81, tb82, tb83, tb84, tb85, tb86, tb87, tb88, tb89, tb90, tb91, tb92, tb93, tb94, tb95]
noncomputable def tbs6 : List (List (List (Nat × II))) := [tb96, tb97, tb98, tb99, tb100, tb101, tb102, tb103, tb104, tb105, tb106, tb107, tb108, tb109, tb110, tb111]
noncomputable def tbs7 : List (List (List (Nat × II))) := [tb112, tb113, tb114, tb115, tb116, tb117, tb118, tb119, tb120, tb121, tb122, tb123, tb124, tb125, tb126, tb127]
noncomputable def tbs8 : List (List (List (Nat × II))) := [tb128, tb129, tb130, tb131, tb132, tb133, tb134, tb135, tb136, tb137, tb138, tb139, tb140, tb141, tb142, tb143]
noncomputable def tbs9 : List (List (List (Nat × II))) := [tb144, tb145, tb146, tb147, tb148, tb149, tb150, tb151, tb152, tb153, tb154, tb155, tb156, tb157, tb158, tb159]
noncomputable def tbs10 : List (List (List (Nat × II))) := [tb160, tb161, tb162, tb163, tb164, tb165, tb166, tb167, tb168, tb169, tb170, tb171, tb172, tb173, tb174, tb175]
noncomputable def tbs11 : List (List (List (Nat × II))) := [tb176, tb177, tb178, tb179, tb180, tb181, tb182, tb183, tb184, tb185, tb186, tb187, tb188, tb189, tb190, tb191]
noncomputable def tbs12 : List (List (List (Nat × II))) := [tb192, tb193, tb194, tb195, tb196, tb197, tb198, tb199, tb200, tb201, tb202, tb203, tb204, tb205, tb206, tb207]
noncomputable def tbs13 : List (List (List (Nat × II))) := [tb208, tb209, tb210, tb211, tb212, tb213, tb214, tb215, tb216, tb217, tb218, tb219, tb220, tb221, tb222, tb223]
noncomputable def tbs14 : List (List (List (Nat × II))) := [tb224, tb225, tb226, tb227, tb228, tb229, tb230, tb231, tb232, tb233, tb234, tb235, tb236, tb237, tb238, tb239]
noncomputable def tbs15 : List (List (List (Nat × II))) := [tb240, tb241, tb242, tb243, tb244, tb245, tb246, tb247, tb248, tb249, tb250, tb251, tb252, tb253, tb254, tb255]
noncomputable def tbs16 : List (List (List (Nat × II))) := [tb256, tb257, tb258, tb259, tb260, tb261, tb262, tb263, tb264, tb265, tb266, tb267, tb268, tb269, tb270, tb271]
noncomputable def tbs17 : List (List (List (Nat × II))) := [tb272]
noncomputable def tball : List (List (List (List (Nat × II)))) := [tbs0, tbs1, tbs2, tbs3, tbs4, tbs5, tbs6, tbs7, tbs8, tbs9, tbs10, tbs11, tbs12, tbs13, tbs14, tbs15, tbs16, tbs17]
def fnd : List (Nat × II) → Nat → Option II
  | [], _ => none
  | q :: r, pc => if q.1 = pc then some q.2 else fnd r pc
noncomputable def tabOf (k : Nat) : List (List (Nat × II)) := (tball.getD (k / 16) []).getD (k % 16) []
noncomputable def cod (k pc : Nat) : Option II := fnd ((tabOf k).getD (pc / 32) []) pc
abbrev MI : Type := MethodName × ByteArray × Nat × Option FieldType × List Nat × Nat × Nat × Nat × Nat × Nat × Nat × Nat × Nat
noncomputable def mis0 : List MI := [(yL_law, cL_law, 4, some .boolean, [99], 3, 9, 215, 0, 0, 88, 0, 0),
  (yX0_init, cX0_init, 1, none, [40], 9, 1, 20, 2, 187, 94, 186, 0),
  (yX0_remember, cX0_remember, 7, none, [40, 0, 11, 0, 0, 0], 9, 2, 43, 1, 491, 94, 489, 490),
  (yX0_bearsPiece, cX0_bearsPiece, 3, some .boolean, [40], 3, 1, 22, 1, 577, 94, 575, 576),
  (yX0_revert, cX0_revert, 1, none, [40], 9, 3, 65, 1, 583, 94, 581, 582),
  (yX0_revertRow, cX0_revertRow, 2, none, [40], 9, 2, 44, 1, 590, 94, 589, 7),
  (yX1_init, cX1_init, 1, none, [41], 9, 1, 23, 2, 243, 97, 242, 0),
  (yX1_begin, cX1_begin, 3, none, [41, 0, 0], 9, 1, 23, 1, 416, 97, 414, 415),
  (yX1_clear, cX1_clear, 2, none, [31], 9, 0, 0, 0, 419, 97, 418, 0),
  (yX1_addBay, cX1_addBay, 3, none, [41, 0, 0], 9, 2, 44, 1, 423, 97, 421, 422),
  (yX1_dropBay, cX1_dropBay, 2, none, [41], 9, 2, 44, 1, 464, 97, 462, 463),
  (yX1_hasBay, cX1_hasBay, 2, some .boolean, [41, 0], 3, 0, 0, 1, 431, 97, 429, 430),
  (yX1_hasStandard, cX1_hasStandard, 2, some .boolean, [41, 0], 3, 0, 0, 1, 439, 97, 437, 438),
  (yX1_hasLift, cX1_hasLift, 2, some .boolean, [41, 0], 3, 0, 0, 1, 443, 97, 441, 442),
  (yX1_kindOf, cX1_kindOf, 2, some .int, [41, 0], 0, 1, 21, 1, 623, 97, 621, 622),
  (yX1_widthOf, cX1_widthOf, 2, some .int, [41, 0], 0, 1, 21, 1, 460, 97, 458, 459)]
noncomputable def mis1 : List MI := [(yX1_isOfKind, cX1_isOfKind, 3, some .boolean, [41, 0, 0], 3, 1, 21, 1, 631, 97, 629, 630),
  (yX1_isGate, cX1_isGate, 2, some .boolean, [41, 0], 3, 1, 21, 1, 427, 97, 426, 6),
  (yX1_isOpening, cX1_isOpening, 3, some .boolean, [41, 0, 0], 3, 1, 21, 1, 534, 97, 532, 533),
  (yX1_hasFoot, cX1_hasFoot, 2, some .boolean, [41, 0], 3, 1, 21, 1, 660, 97, 658, 659),
  (yX1_lowestLift, cX1_lowestLift, 2, some .int, [41, 0], 0, 0, 0, 1, 556, 97, 554, 555),
  (yX1_footFrom, cX1_footFrom, 5, some .int, [41, 0, 0], 0, 0, 0, 1, 680, 97, 678, 679),
  (yX1_span, cX1_span, 5, some .int, [41, 0, 0], 0, 1, 21, 1, 599, 97, 597, 598),
  (yX1_hasRow, cX1_hasRow, 2, some .boolean, [41, 0], 3, 1, 21, 1, 482, 97, 480, 481),
  (yX1_setRow, cX1_setRow, 3, none, [41, 0, 0], 9, 1, 21, 1, 499, 97, 497, 498),
  (yX1_clearRow, cX1_clearRow, 3, none, [41, 0], 9, 2, 44, 1, 524, 97, 522, 523),
  (yX1_classOf, cX1_classOf, 3, some .int, [41, 0, 0], 0, 1, 21, 1, 495, 97, 493, 494),
  (yX1_setClass, cX1_setClass, 4, none, [41, 0, 0, 0], 9, 1, 21, 1, 468, 97, 466, 467),
  (yX1_hasBrace, cX1_hasBrace, 3, some .boolean, [41, 0, 0], 3, 1, 21, 1, 546, 97, 544, 545),
  (yX1_setBrace, cX1_setBrace, 4, none, [41, 0, 0, 0], 9, 1, 21, 1, 472, 97, 470, 471),
  (yX1_hasTie, cX1_hasTie, 3, some .boolean, [41, 0, 0], 3, 1, 21, 1, 560, 97, 558, 559),
  (yX1_setTie, cX1_setTie, 4, none, [41, 0, 0, 0], 9, 1, 21, 1, 435, 97, 433, 434)]
noncomputable def mis2 : List MI := [(yX1_boardsOn, cX1_boardsOn, 4, some .int, [41, 0], 0, 2, 43, 1, 519, 97, 517, 518),
  (yX1_boardsStandOn, cX1_boardsStandOn, 3, some .boolean, [41, 0], 3, 1, 22, 1, 508, 97, 506, 507),
  (yX1_boardsWeight, cX1_boardsWeight, 5, some .int, [41, 0, 0], 0, 2, 43, 1, 647, 97, 645, 646),
  (yX1_twiceLoad, cX1_twiceLoad, 5, some .int, [41, 0], 0, 3, 67, 1, 643, 97, 641, 642),
  (yX1_freeLifts, cX1_freeLifts, 5, some .int, [41, 0], 0, 2, 43, 1, 724, 97, 722, 723),
  (yX1_hasPiece, cX1_hasPiece, 4, some .boolean, [41, 0], 3, 2, 43, 1, 611, 97, 609, 610),
  (yX1_piecesOf, cX1_piecesOf, 4, some .int, [41, 0], 0, 3, 66, 1, 607, 97, 605, 606),
  (yX1_piecesOfSize, cX1_piecesOfSize, 5, some .int, [41, 0, 0], 0, 3, 66, 1, 969, 97, 967, 968),
  (yX1_sizeOf, cX1_sizeOf, 3, some .int, [41, 0, 0], 0, 2, 42, 1, 973, 97, 972, 20),
  (yX1_need, cX1_need, 5, some .int, [41, 0, 0], 0, 2, 46, 1, 808, 97, 807, 14),
  (yX1_needOfTube, cX1_needOfTube, 5, some .int, [41, 0, 0, 0], 0, 1, 22, 1, 812, 97, 811, 15),
  (yX1_stands, cX1_stands, 2, some .boolean, [41, 0], 3, 0, 0, 1, 515, 97, 513, 514),
  (yX1_canRaise, cX1_canRaise, 4, some .boolean, [41, 0], 3, 3, 70, 1, 804, 97, 802, 803),
  (yX1_canLower, cX1_canLower, 2, some .boolean, [41, 0], 3, 1, 21, 1, 838, 97, 836, 837),
  (yX1_raise, cX1_raise, 2, none, [41, 0], 9, 4, 93, 1, 817, 97, 815, 816),
  (yX1_lower, cX1_lower, 2, none, [41, 0], 9, 3, 70, 1, 842, 97, 840, 841)]
noncomputable def mis3 : List MI := [(yX1_hang, cX1_hang, 3, none, [41, 0, 0], 9, 1, 21, 1, 822, 97, 821, 16),
  (yX1_leastToRaise, cX1_leastToRaise, 3, some .int, [41, 0], 0, 4, 93, 1, 851, 97, 849, 850),
  (yX1_greatestToLower, cX1_greatestToLower, 3, some .int, [41, 0], 0, 2, 42, 1, 856, 97, 854, 855),
  (yX1_leastDown, cX1_leastDown, 2, some .int, [41], 0, 3, 66, 1, 860, 97, 858, 859),
  (yX1_raiseUpTo, cX1_raiseUpTo, 5, some .int, [41, 0], 0, 5, 115, 1, 868, 97, 866, 867),
  (yX1_lowerUpTo, cX1_lowerUpTo, 5, some .int, [41, 0], 0, 4, 91, 1, 874, 97, 872, 873),
  (yX1_standsUpTo, cX1_standsUpTo, 3, some .boolean, [41, 0], 3, 3, 66, 1, 917, 97, 915, 916),
  (yX1_hasTag, cX1_hasTag, 2, some .boolean, [41, 0], 3, 1, 21, 1, 908, 97, 906, 907),
  (yX1_tagOf, cX1_tagOf, 2, some .int, [41, 0], 0, 1, 21, 1, 892, 97, 890, 891),
  (yX1_setTag, cX1_setTag, 3, none, [41, 0, 0], 9, 1, 21, 1, 830, 97, 828, 829),
  (yX1_tagsHere, cX1_tagsHere, 3, some .int, [41], 0, 2, 42, 1, 904, 97, 902, 903),
  (yX1_endTagsFrom, cX1_endTagsFrom, 3, none, [41, 0], 9, 2, 43, 1, 826, 97, 824, 825),
  (yX1_endTagsBefore, cX1_endTagsBefore, 3, none, [41, 0], 9, 2, 43, 1, 888, 97, 886, 887),
  (yX2_init, cX2_init, 2, none, [42], 9, 2, 40, 2, 180, 93, 179, 0),
  (yX2_note, cX2_note, 6, none, [42, 0, 11, 0, 0, 0], 9, 3, 69, 1, 486, 93, 484, 485),
  (yX2_forget, cX2_forget, 1, none, [42], 9, 0, 0, 1, 447, 93, 445, 446)]
noncomputable def mis4 : List MI := [(yX2_takeBack, cX2_takeBack, 1, some .boolean, [42], 3, 4, 85, 1, 573, 93, 571, 572),
  (yX3_init, cX3_init, 1, none, [43], 9, 1, 20, 2, 133, 91, 132, 0),
  (yX3_weigh, cX3_weigh, 3, none, [43, 11], 9, 4, 91, 1, 665, 91, 663, 664),
  (yX3_reckonFoot, cX3_reckonFoot, 5, none, [43, 11, 0], 9, 3, 74, 1, 670, 91, 668, 669),
  (yX3_addFootless, cX3_addFootless, 10, none, [43, 11, 0, 0], 9, 2, 45, 1, 676, 91, 675, 8),
  (yX3_commonDivisor, cX3_commonDivisor, 11, some .long, [1, 1], 1, 0, 0, 0, 686, 91, 685, 0),
  (yX3_standardsOver, cX3_standardsOver, 5, some .int, [43, 11, 30], 0, 5, 124, 1, 732, 91, 730, 731),
  (yX3_isOver, cX3_isOver, 7, some .boolean, [43, 11, 0, 30], 3, 4, 98, 1, 737, 91, 736, 10),
  (yX3_tiesOver, cX3_tiesOver, 5, some .int, [43, 11, 30], 0, 5, 118, 1, 744, 91, 742, 743),
  (yX3_reckonWind, cX3_reckonWind, 4, none, [43, 11], 9, 4, 95, 1, 694, 91, 692, 693),
  (yX3_blow, cX3_blow, 6, none, [43, 11, 0, 0], 9, 3, 70, 1, 700, 91, 699, 9),
  (yX3_nearestTie, cX3_nearestTie, 8, some .int, [11, 0, 0], 0, 2, 43, 0, 704, 91, 703, 0),
  (yX3_windAt, cX3_windAt, 4, some .int, [43, 0, 0], 0, 1, 22, 1, 712, 91, 710, 711),
  (yX4_init, cX4_init, 1, none, [44], 9, 1, 20, 2, 223, 95, 222, 0),
  (yX4_reckon, cX4_reckon, 5, some .int, [44, 11, 11], 0, 5, 114, 1, 986, 95, 984, 985),
  (yX4_mostFrom, cX4_mostFrom, 6, some .int, [44, 11, 11, 0, 0], 0, 3, 65, 1, 990, 95, 989, 21)]
noncomputable def mis5 : List MI := [(yX4_isLike, cX4_isLike, 4, some .boolean, [11, 0, 11, 0], 3, 2, 42, 0, 994, 95, 993, 0),
  (yX4_choose, cX4_choose, 6, none, [44, 11, 11], 9, 4, 89, 1, 1000, 95, 999, 22),
  (yX4_firstLike, cX4_firstLike, 5, some .int, [11, 0, 11, 0], 0, 3, 65, 0, 1003, 95, 1002, 0),
  (yX4_bayThatStays, cX4_bayThatStays, 2, some .int, [44, 0], 0, 1, 22, 1, 1007, 95, 1005, 1006),
  (yX5_init, cX5_init, 1, none, [45], 9, 1, 20, 2, 114, 90, 113, 0),
  (yX5_findFit, cX5_findFit, 5, some .boolean, [45, 30, 0, 0], 3, 2, 46, 1, 364, 90, 362, 363),
  (yX5_reckonFewest, cX5_reckonFewest, 6, none, [45, 30, 0], 9, 1, 21, 1, 368, 90, 367, 1),
  (yX5_fittedSize, cX5_fittedSize, 7, some .int, [45, 30, 0], 0, 0, 0, 1, 377, 90, 375, 376),
  (yX5_findJoin, cX5_findJoin, 6, some .boolean, [45, 30, 0, 0], 3, 2, 44, 1, 385, 90, 383, 384),
  (yX5_reckonCounts, cX5_reckonCounts, 5, none, [45, 30], 9, 0, 0, 1, 389, 90, 388, 2),
  (yX5_makes, cX5_makes, 3, some .boolean, [45, 0, 0], 3, 1, 22, 1, 394, 90, 393, 3),
  (yX5_joinedSize, cX5_joinedSize, 7, some .int, [45, 30, 0], 0, 2, 44, 1, 399, 90, 397, 398),
  (yX6_init, cX6_init, 1, none, [46], 9, 1, 20, 2, 158, 92, 157, 0),
  (yX6_change, cX6_change, 4, some .int, [46, 0, 0], 0, 1, 22, 1, 753, 92, 751, 752),
  (yX6_reckon, cX6_reckon, 2, some .int, [46, 11], 0, 4, 94, 1, 763, 92, 761, 762),
  (yX6_listTies, cX6_listTies, 6, none, [46, 11], 9, 3, 69, 1, 767, 92, 766, 11)]
noncomputable def mis6 : List MI := [(yX6_isTied, cX6_isTied, 7, some .boolean, [11, 0, 0, 0, 0], 3, 2, 43, 0, 771, 92, 770, 0),
  (yX6_listBraces, cX6_listBraces, 5, none, [46, 11], 9, 3, 67, 1, 781, 92, 780, 13),
  (yX6_isBraced, cX6_isBraced, 5, some .boolean, [11, 0, 0, 0], 3, 2, 43, 0, 784, 92, 783, 0),
  (yX6_list, cX6_list, 4, none, [46, 0, 0, 0], 9, 1, 22, 1, 776, 92, 775, 12),
  (yX6_partOf, cX6_partOf, 3, some .int, [46, 0, 0], 0, 1, 22, 1, 794, 92, 792, 793),
  (yX6_brokenUpTo, cX6_brokenUpTo, 5, some .boolean, [46, 11, 0], 3, 5, 115, 1, 921, 92, 919, 920),
  (yX7_init, cX7_init, 2, none, [47], 9, 3, 61, 2, 104, 89, 103, 0),
  (yX7_table, cX7_table, 6, some .int, [47, 0, 0, 0], 0, 1, 22, 1, 347, 89, 345, 346),
  (yX7_fit, cX7_fit, 5, some .int, [47, 0, 0, 0, 0], 0, 3, 70, 1, 360, 89, 358, 359),
  (yX7_join, cX7_join, 5, some .int, [47, 0, 0, 0, 0], 0, 3, 70, 1, 381, 89, 379, 380),
  (yX7_frame, cX7_frame, 6, some .int, [47, 0, 0, 0, 0], 0, 3, 66, 1, 403, 89, 401, 402),
  (yX7_bay, cX7_bay, 5, some .int, [47, 0, 0, 0], 0, 3, 66, 1, 451, 89, 449, 450),
  (yX7_drop, cX7_drop, 4, some .int, [47, 0], 0, 3, 65, 1, 456, 89, 454, 455),
  (yX7_floor, cX7_floor, 5, some .int, [47, 0, 0], 0, 4, 94, 1, 476, 89, 474, 475),
  (yX7_strip, cX7_strip, 5, some .int, [47, 0, 0], 0, 4, 94, 1, 503, 89, 501, 502),
  (yX7_board, cX7_board, 7, some .int, [47, 0, 0, 0, 0], 0, 4, 94, 1, 529, 89, 527, 528)]
noncomputable def mis7 : List MI := [(yX7_brace, cX7_brace, 7, some .int, [47, 0, 0, 0, 0], 0, 4, 94, 1, 542, 89, 540, 541),
  (yX7_tie, cX7_tie, 7, some .int, [47, 0, 0, 0, 0], 0, 4, 94, 1, 551, 89, 549, 550),
  (yX7_gust, cX7_gust, 5, some .int, [47, 0, 0], 0, 4, 94, 1, 565, 89, 563, 564),
  (yX7_undo, cX7_undo, 1, some .int, [47], 0, 5, 105, 1, 569, 89, 567, 568),
  (yX7_about, cX7_about, 4, some .int, [47, 0, 0], 0, 4, 89, 1, 595, 89, 593, 594),
  (yX7_told, cX7_told, 5, some .int, [47, 0, 0, 0], 0, 2, 43, 1, 619, 89, 617, 618),
  (yX7_isOf, cX7_isOf, 5, some .int, [47, 0, 0, 0], 0, 2, 43, 1, 627, 89, 625, 626),
  (yX7_plan, cX7_plan, 8, some .int, [47, 0, 0, 0, 0], 0, 2, 43, 1, 635, 89, 633, 634),
  (yX7_load, cX7_load, 4, some .int, [47, 0, 0], 0, 4, 91, 1, 639, 89, 637, 638),
  (yX7_foot, cX7_foot, 5, some .long, [47, 0, 0, 0], 1, 5, 113, 1, 653, 89, 651, 652),
  (yX7_wind, cX7_wind, 5, some .int, [47, 0, 0, 0], 0, 5, 118, 1, 690, 89, 688, 689),
  (yX7_lost, cX7_lost, 3, some .int, [47, 0], 0, 5, 118, 1, 716, 89, 714, 715),
  (yX7_free, cX7_free, 4, some .int, [47, 0, 0], 0, 3, 67, 1, 720, 89, 718, 719),
  (yX7_over, cX7_over, 4, some .int, [47, 0, 0], 0, 6, 148, 1, 728, 89, 726, 727),
  (yX7_rule, cX7_rule, 3, some .int, [47, 0, 0], 0, 2, 45, 1, 749, 89, 747, 748),
  (yX7_breaches, cX7_breaches, 3, some .int, [47, 0], 0, 5, 115, 1, 759, 89, 757, 758)]
noncomputable def mis8 : List MI := [(yX7_breach, cX7_breach, 5, some .int, [47, 0, 0, 0], 0, 5, 115, 1, 790, 89, 788, 789),
  (yX7_put, cX7_put, 4, some .int, [47, 0, 0], 0, 5, 114, 1, 799, 89, 797, 798),
  (yX7_take, cX7_take, 4, some .int, [47, 0, 0], 0, 4, 91, 1, 834, 89, 832, 833),
  (yX7_next, cX7_next, 4, some .int, [47, 0, 0], 0, 5, 115, 1, 847, 89, 845, 846),
  (yX7_go, cX7_go, 5, some .int, [47, 0, 0, 0], 0, 6, 139, 1, 864, 89, 862, 863),
  (yX7_isUp, cX7_isUp, 4, some .int, [47, 0, 0], 0, 3, 66, 1, 880, 89, 878, 879),
  (yX7_day, cX7_day, 3, some .int, [47, 0], 0, 3, 65, 1, 884, 89, 882, 883),
  (yX7_storm, cX7_storm, 3, some .int, [47], 0, 4, 86, 1, 896, 89, 894, 895),
  (yX7_tag, cX7_tag, 6, some .int, [47, 0, 0, 0], 0, 6, 148, 1, 913, 89, 911, 912),
  (yX7_tagged, cX7_tagged, 4, some .int, [47, 0, 0], 0, 2, 43, 1, 928, 89, 926, 927),
  (yX7_enter, cX7_enter, 5, some .int, [47, 0, 0, 0], 0, 2, 43, 1, 934, 89, 932, 933),
  (yX7_leave, cX7_leave, 3, some .int, [47, 0], 0, 2, 43, 1, 946, 89, 944, 945),
  (yX7_stranded, cX7_stranded, 5, some .int, [47], 0, 2, 43, 1, 950, 89, 948, 949),
  (yX7_stock, cX7_stock, 6, some .int, [47, 0, 0, 0], 0, 2, 43, 1, 954, 89, 952, 953),
  (yX7_wants, cX7_wants, 5, some .int, [47, 0, 0, 0], 0, 4, 90, 1, 965, 89, 963, 964),
  (yX7_lacks, cX7_lacks, 5, some .int, [47, 0, 0], 0, 4, 90, 1, 977, 89, 975, 976)]
noncomputable def mis9 : List MI := [(yX7_stays, cX7_stays, 7, some .int, [47, 0, 0, 0], 0, 6, 138, 1, 982, 89, 980, 981),
  (yX7_count, cX7_count, 2, some .int, [47, 0], 0, 4, 86, 1, 1013, 89, 1011, 1012),
  (yX7_within, cX7_within, 3, some .boolean, [0, 0, 0], 3, 0, 0, 0, 354, 89, 353, 0),
  (yX7_pieceAt, cX7_pieceAt, 3, some .int, [0, 0, 0], 0, 0, 0, 0, 511, 89, 510, 0),
  (yX7_isPieceSize, cX7_isPieceSize, 2, some .boolean, [0, 0], 3, 1, 22, 0, 957, 89, 956, 0),
  (yX7_shelfOf, cX7_shelfOf, 2, some .int, [0, 0], 0, 0, 0, 0, 961, 89, 960, 0),
  (yX7_tableAt, cX7_tableAt, 2, some (.array .int), [47, 0], 30, 0, 0, 1, 351, 89, 350, 0),
  (yX7_frameAt, cX7_frameAt, 2, some (.object "ScaffoldYard$Frame"), [47, 0], 11, 1, 22, 1, 407, 89, 406, 4),
  (yX7_isPerson, cX7_isPerson, 2, some .boolean, [47, 0], 3, 1, 22, 1, 938, 89, 937, 18),
  (yX7_someoneOn, cX7_someoneOn, 3, some .boolean, [47, 0], 3, 0, 0, 1, 411, 89, 410, 5),
  (yX7_peopleAt, cX7_peopleAt, 4, some .int, [47, 0], 0, 0, 0, 1, 942, 89, 941, 19),
  (yX7_framesInAll, cX7_framesInAll, 3, some .int, [47], 0, 0, 0, 1, 1017, 89, 1016, 23),
  (yX7_upsInAll, cX7_upsInAll, 3, some .int, [47], 0, 0, 0, 1, 1021, 89, 1020, 24),
  (yX7_tagsInAll, cX7_tagsInAll, 3, some .int, [47], 0, 3, 64, 1, 900, 89, 899, 17),
  (yX8_init, cX8_init, 2, none, [48], 9, 1, 20, 2, 1026, 98, 1025, 0),
  (yX8_isIn, cX8_isIn, 3, some .boolean, [0, 0, 0], 3, 0, 0, 0, 1127, 98, 1126, 0)]
noncomputable def mis10 : List MI := [(yX8_table, cX8_table, 6, some .int, [48, 0, 0, 0], 0, 1, 22, 1, 1124, 98, 1122, 1123),
  (yX8_findFewest, cX8_findFewest, 5, none, [48, 0], 9, 0, 0, 1, 1141, 98, 1140, 26),
  (yX8_fits, cX8_fits, 8, some .boolean, [48, 0, 0], 3, 1, 24, 1, 1137, 98, 1136, 25),
  (yX8_shown, cX8_shown, 4, some .int, [48, 0, 0, 0], 0, 0, 0, 1, 1146, 98, 1145, 27),
  (yX8_fit, cX8_fit, 5, some .int, [48, 0, 0, 0, 0], 0, 2, 51, 1, 1133, 98, 1131, 1132),
  (yX8_findSums, cX8_findSums, 6, none, [48], 9, 0, 0, 1, 1158, 98, 1157, 29),
  (yX8_joins, cX8_joins, 5, some .boolean, [48, 0, 0], 3, 1, 27, 1, 1154, 98, 1153, 28),
  (yX8_layTubes, cX8_layTubes, 8, none, [48, 0, 0], 9, 0, 0, 1, 1162, 98, 1161, 30),
  (yX8_join, cX8_join, 5, some .int, [48, 0, 0, 0, 0], 0, 2, 51, 1, 1150, 98, 1148, 1149),
  (yX8_isFrame, cX8_isFrame, 1, some .boolean, [0], 3, 1, 22, 0, 1169, 98, 1168, 0),
  (yX8_isMissing, cX8_isMissing, 2, some .boolean, [48, 0], 3, 0, 0, 1, 1190, 98, 1189, 34),
  (yX8_kind, cX8_kind, 3, some .int, [48, 0, 0], 0, 0, 0, 1, 1211, 98, 1210, 39),
  (yX8_width, cX8_width, 3, some .int, [48, 0, 0], 0, 0, 0, 1, 1219, 98, 1218, 40),
  (yX8_isGate, cX8_isGate, 3, some .boolean, [48, 0, 0], 3, 1, 22, 1, 1207, 98, 1206, 38),
  (yX8_hasFoot, cX8_hasFoot, 3, some .boolean, [48, 0, 0], 3, 2, 44, 1, 1203, 98, 1202, 37),
  (yX8_isLift, cX8_isLift, 3, some .boolean, [48, 0, 0], 3, 1, 22, 1, 1227, 98, 1226, 41)]
noncomputable def mis11 : List MI := [(yX8_isBay, cX8_isBay, 3, some .boolean, [48, 0, 0], 3, 1, 22, 1, 1253, 98, 1252, 45),
  (yX8_isStandard, cX8_isStandard, 3, some .boolean, [48, 0, 0], 3, 1, 22, 1, 1269, 98, 1268, 47),
  (yX8_hasFloor, cX8_hasFloor, 3, some .boolean, [48, 0, 0], 3, 0, 0, 1, 1240, 98, 1239, 43),
  (yX8_boardAt, cX8_boardAt, 4, some .int, [48, 0, 0, 0], 0, 0, 0, 1, 1245, 98, 1244, 44),
  (yX8_hasBrace, cX8_hasBrace, 4, some .boolean, [48, 0, 0, 0], 3, 0, 0, 1, 1261, 98, 1260, 46),
  (yX8_hasTie, cX8_hasTie, 4, some .boolean, [48, 0, 0, 0], 3, 0, 0, 1, 1273, 98, 1272, 48),
  (yX8_upIn, cX8_upIn, 4, some .int, [48, 0], 0, 0, 0, 1, 1173, 98, 1172, 31),
  (yX8_isAnyoneOn, cX8_isAnyoneOn, 4, some .boolean, [48, 0], 3, 0, 0, 1, 1177, 98, 1176, 32),
  (yX8_emptyBay, cX8_emptyBay, 4, none, [48, 0, 0], 9, 0, 0, 1, 1182, 98, 1181, 33),
  (yX8_emptyTies, cX8_emptyTies, 4, none, [48, 0, 0], 9, 0, 0, 1, 1195, 98, 1194, 35),
  (yX8_loseTies, cX8_loseTies, 3, none, [48, 0], 9, 3, 66, 1, 1199, 98, 1198, 36),
  (yX8_frame, cX8_frame, 6, some .int, [48, 0, 0, 0, 0], 0, 2, 42, 1, 1166, 98, 1164, 1165),
  (yX8_bay, cX8_bay, 5, some .int, [48, 0, 0, 0], 0, 4, 88, 1, 1186, 98, 1184, 1185),
  (yX8_drop, cX8_drop, 4, some .int, [48, 0], 0, 4, 88, 1, 1215, 98, 1213, 1214),
  (yX8_keep, cX8_keep, 2, none, [48], 9, 0, 0, 1, 1232, 98, 1231, 42),
  (yX8_floor, cX8_floor, 4, some .int, [48, 0, 0], 0, 2, 44, 1, 1223, 98, 1221, 1222)]
noncomputable def mis12 : List MI := [(yX8_strip, cX8_strip, 5, some .int, [48, 0, 0], 0, 2, 44, 1, 1236, 98, 1234, 1235),
  (yX8_board, cX8_board, 6, some .int, [48, 0, 0, 0, 0], 0, 2, 44, 1, 1249, 98, 1247, 1248),
  (yX8_brace, cX8_brace, 6, some .int, [48, 0, 0, 0, 0], 0, 2, 44, 1, 1257, 98, 1255, 1256),
  (yX8_tie, cX8_tie, 6, some .int, [48, 0, 0, 0, 0], 0, 3, 66, 1, 1265, 98, 1263, 1264),
  (yX8_gust, cX8_gust, 4, some .int, [48, 0, 0], 0, 2, 42, 1, 1277, 98, 1275, 1276),
  (yX8_undo, cX8_undo, 4, some .int, [48], 0, 4, 92, 1, 1281, 98, 1279, 1280),
  (yX8_manyOf, cX8_manyOf, 7, some .int, [48, 0, 0, 0, 0], 0, 0, 0, 1, 1297, 98, 1296, 51),
  (yX8_widthTo, cX8_widthTo, 6, some .int, [48, 0, 0, 0], 0, 1, 22, 1, 1293, 98, 1292, 50),
  (yX8_about, cX8_about, 3, some .int, [48, 0, 0], 0, 2, 47, 1, 1289, 98, 1287, 1288),
  (yX8_told, cX8_told, 4, some .int, [48, 0, 0, 0], 0, 2, 44, 1, 1301, 98, 1299, 1300),
  (yX8_isOf, cX8_isOf, 5, some .int, [48, 0, 0, 0], 0, 2, 44, 1, 1305, 98, 1303, 1304),
  (yX8_plan, cX8_plan, 6, some .int, [48, 0, 0, 0, 0], 0, 2, 44, 1, 1309, 98, 1307, 1308),
  (yX8_weightOf, cX8_weightOf, 6, some .int, [48, 0, 0, 0], 0, 1, 23, 1, 1329, 98, 1328, 55),
  (yX8_twiceLoad, cX8_twiceLoad, 6, some .int, [48, 0, 0], 0, 3, 66, 1, 1325, 98, 1324, 54),
  (yX8_asked, cX8_asked, 2, some .int, [48, 0], 0, 2, 42, 1, 1321, 98, 1320, 53),
  (yX8_askedStandard, cX8_askedStandard, 4, some .int, [48, 0, 0], 0, 3, 63, 1, 1317, 98, 1316, 52)]
noncomputable def mis13 : List MI := [(yX8_load, cX8_load, 4, some .int, [48, 0, 0], 0, 4, 91, 1, 1313, 98, 1311, 1312),
  (yX8_leftFoot, cX8_leftFoot, 4, some .int, [48, 0, 0], 0, 3, 66, 1, 1351, 98, 1350, 58),
  (yX8_rightFoot, cX8_rightFoot, 4, some .int, [48, 0, 0], 0, 3, 66, 1, 1355, 98, 1354, 59),
  (yX8_common, cX8_common, 10, some .long, [1, 1], 1, 0, 0, 0, 1347, 98, 1346, 0),
  (yX8_add, cX8_add, 7, none, [48, 1, 1], 9, 1, 29, 1, 1344, 98, 1343, 57),
  (yX8_findFoot, cX8_findFoot, 10, none, [48, 0, 0], 9, 4, 91, 1, 1339, 98, 1338, 56),
  (yX8_foot, cX8_foot, 5, some .long, [48, 0, 0, 0], 1, 5, 120, 1, 1333, 98, 1331, 1332),
  (yX8_size, cX8_size, 1, some .int, [0], 0, 0, 0, 0, 1370, 98, 1369, 0),
  (yX8_tieFor, cX8_tieFor, 9, some .int, [48, 0, 0, 0], 0, 1, 23, 1, 1367, 98, 1366, 61),
  (yX8_windTo, cX8_windTo, 6, some .int, [48, 0, 0], 0, 2, 51, 1, 1363, 98, 1362, 60),
  (yX8_wind, cX8_wind, 5, some .int, [48, 0, 0, 0], 0, 4, 86, 1, 1359, 98, 1357, 1358),
  (yX8_lost, cX8_lost, 3, some .int, [48, 0], 0, 3, 76, 1, 1374, 98, 1372, 1373),
  (yX8_freeOf, cX8_freeOf, 6, some .int, [48, 0, 0], 0, 3, 66, 1, 1382, 98, 1381, 62),
  (yX8_free, cX8_free, 4, some .int, [48, 0, 0], 0, 4, 91, 1, 1378, 98, 1376, 1377),
  (yX8_isOver, cX8_isOver, 5, some .boolean, [48, 0, 0], 3, 5, 120, 1, 1394, 98, 1393, 64),
  (yX8_standardsOver, cX8_standardsOver, 4, some .int, [48, 0], 0, 6, 144, 1, 1390, 98, 1389, 63)]
noncomputable def mis14 : List MI := [(yX8_over, cX8_over, 6, some .int, [48, 0, 0], 0, 7, 167, 1, 1386, 98, 1384, 1385),
  (yX8_rule, cX8_rule, 5, some .int, [48, 0, 0], 0, 1, 22, 1, 1398, 98, 1396, 1397),
  (yX8_less, cX8_less, 2, some .int, [0, 0], 0, 0, 0, 0, 1409, 98, 1408, 0),
  (yX8_isTied, cX8_isTied, 9, some .boolean, [48, 0, 0, 0, 0, 0], 3, 1, 23, 1, 1413, 98, 1412, 66),
  (yX8_isBraced, cX8_isBraced, 7, some .boolean, [48, 0, 0, 0, 0], 3, 2, 44, 1, 1421, 98, 1420, 68),
  (yX8_note, cX8_note, 4, none, [48, 0, 0, 0], 9, 0, 0, 1, 1417, 98, 1416, 67),
  (yX8_findBreaches, cX8_findBreaches, 9, some .int, [48, 0, 0], 0, 3, 70, 1, 1406, 98, 1405, 65),
  (yX8_breaches, cX8_breaches, 3, some .int, [48, 0], 0, 4, 98, 1, 1402, 98, 1400, 1401),
  (yX8_breach, cX8_breach, 4, some .int, [48, 0, 0, 0], 0, 4, 98, 1, 1425, 98, 1423, 1424),
  (yX8_pieceOf, cX8_pieceOf, 3, some .int, [0, 0, 0], 0, 0, 0, 0, 1452, 98, 1451, 0),
  (yX8_isPiece, cX8_isPiece, 7, some .boolean, [48, 0, 0], 3, 3, 66, 1, 1285, 98, 1284, 49),
  (yX8_needs, cX8_needs, 7, some .boolean, [48, 0, 0, 0], 3, 5, 114, 1, 1445, 98, 1444, 72),
  (yX8_isTubeBelow, cX8_isTubeBelow, 5, some .boolean, [48, 0, 0, 0, 0], 3, 3, 66, 1, 1449, 98, 1448, 73),
  (yX8_isFootOf, cX8_isFootOf, 6, some .boolean, [48, 0, 0, 0], 3, 4, 89, 1, 1456, 98, 1455, 74),
  (yX8_isUpNow, cX8_isUpNow, 3, some .boolean, [48, 0, 0], 3, 0, 0, 1, 1441, 98, 1440, 71),
  (yX8_mayPut, cX8_mayPut, 5, some .boolean, [48, 0, 0], 3, 6, 140, 1, 1437, 98, 1436, 70)]
noncomputable def mis15 : List MI := [(yX8_mayTake, cX8_mayTake, 5, some .boolean, [48, 0, 0], 3, 6, 140, 1, 1460, 98, 1459, 75),
  (yX8_set, cX8_set, 5, none, [48, 0, 0, 0], 9, 0, 0, 1, 1464, 98, 1463, 76),
  (yX8_act, cX8_act, 5, some .int, [48, 0, 0, 0], 0, 7, 164, 1, 1433, 98, 1432, 69),
  (yX8_put, cX8_put, 3, some .int, [48, 0, 0], 0, 8, 188, 1, 1429, 98, 1427, 1428),
  (yX8_take, cX8_take, 3, some .int, [48, 0, 0], 0, 8, 188, 1, 1468, 98, 1466, 1467),
  (yX8_leastPut, cX8_leastPut, 3, some .int, [48, 0], 0, 7, 164, 1, 1476, 98, 1475, 77),
  (yX8_greatestTaken, cX8_greatestTaken, 3, some .int, [48, 0], 0, 7, 164, 1, 1480, 98, 1479, 78),
  (yX8_leastDown, cX8_leastDown, 3, some .int, [48, 0], 0, 4, 92, 1, 1484, 98, 1483, 79),
  (yX8_next, cX8_next, 3, some .int, [48, 0, 0], 0, 8, 186, 1, 1472, 98, 1470, 1471),
  (yX8_go, cX8_go, 6, some .int, [48, 0, 0, 0], 0, 8, 186, 1, 1488, 98, 1486, 1487),
  (yX8_isUp, cX8_isUp, 4, some .int, [48, 0, 0], 0, 4, 92, 1, 1492, 98, 1490, 1491),
  (yX8_tagOf, cX8_tagOf, 4, some .int, [48, 0, 0], 0, 0, 0, 1, 1508, 98, 1507, 81),
  (yX8_day, cX8_day, 2, some .int, [48, 0], 0, 1, 22, 1, 1496, 98, 1494, 1495),
  (yX8_tagsNow, cX8_tagsNow, 4, some .int, [48], 0, 1, 23, 1, 1504, 98, 1503, 80),
  (yX8_storm, cX8_storm, 3, some .int, [48], 0, 2, 46, 1, 1500, 98, 1498, 1499),
  (yX8_askedLift, cX8_askedLift, 4, some .int, [48, 0, 0], 0, 3, 63, 1, 1516, 98, 1515, 82)]
noncomputable def mis16 : List MI := [(yX8_mayTag, cX8_mayTag, 5, some .boolean, [48, 0, 0], 3, 7, 167, 1, 1520, 98, 1519, 83),
  (yX8_tag, cX8_tag, 5, some .int, [48, 0, 0, 0], 0, 8, 191, 1, 1512, 98, 1510, 1511),
  (yX8_tagged, cX8_tagged, 4, some .int, [48, 0, 0], 0, 4, 86, 1, 1524, 98, 1522, 1523),
  (yX8_manyOn, cX8_manyOn, 5, some .int, [48, 0, 0], 0, 0, 0, 1, 1532, 98, 1531, 84),
  (yX8_enter, cX8_enter, 5, some .int, [48, 0, 0, 0], 0, 4, 86, 1, 1528, 98, 1526, 1527),
  (yX8_leave, cX8_leave, 3, some .int, [48, 0], 0, 1, 22, 1, 1536, 98, 1534, 1535),
  (yX8_stranded, cX8_stranded, 3, some .int, [48], 0, 1, 23, 1, 1540, 98, 1538, 1539),
  (yX8_isWare, cX8_isWare, 2, some .boolean, [0, 0], 3, 1, 22, 0, 1547, 98, 1546, 0),
  (yX8_stock, cX8_stock, 5, some .int, [48, 0, 0, 0], 0, 2, 43, 1, 1544, 98, 1542, 1543),
  (yX8_wantsOf, cX8_wantsOf, 7, some .int, [48, 0, 0, 0], 0, 4, 92, 1, 1555, 98, 1554, 85),
  (yX8_wants, cX8_wants, 4, some .int, [48, 0, 0, 0], 0, 5, 118, 1, 1551, 98, 1549, 1550),
  (yX8_lacks, cX8_lacks, 5, some .int, [48, 0, 0], 0, 5, 118, 1, 1559, 98, 1557, 1558),
  (yX8_isLike, cX8_isLike, 5, some .boolean, [48, 0, 0, 0, 0], 3, 1, 22, 1, 1571, 98, 1570, 87),
  (yX8_findStay, cX8_findStay, 6, none, [48, 0, 0], 9, 2, 46, 1, 1567, 98, 1566, 86),
  (yX8_stays, cX8_stays, 9, some .int, [48, 0, 0, 0], 0, 3, 71, 1, 1563, 98, 1561, 1562),
  (yX8_count, cX8_count, 4, some .int, [48, 0], 0, 2, 46, 1, 1575, 98, 1573, 1574)]
noncomputable def mis17 : List MI := [(yJ7_fill_53178, cJ7_fill_53178, 4, none, [30, 0], 9, 0, 0, 0, 239, 96, 238, 0)]
noncomputable def miall : List (List MI) := [mis0, mis1, mis2, mis3, mis4, mis5, mis6, mis7, mis8, mis9, mis10, mis11, mis12, mis13, mis14, mis15, mis16, mis17]
noncomputable def mi0 : MI := (yL_law, cL_law, 0, none, [], 0, 0, 0, 9, 0, 0, 0, 0)
noncomputable def miOf (k : Nat) : MI := (miall.getD (k / 16) []).getD (k % 16) mi0
end
section
def FT : List (List Nat) := [[0, 11, 0, 0, 0, 30], [3, 0, 0, 0, 0, 0, 30, 30, 30, 31, 30, 31, 31, 30, 30], [0, 0, 33], [1, 1, 0, 30, 30], [0, 30, 34], [0, 0, 30], [0, 0, 0, 0, 30], [30, 30, 30, 32, 15, 13, 16, 12, 14, 30, 30, 0], [30, 30, 30, 30, 30, 30, 30, 30, 30, 30, 0, 31, 30, 30, 0, 0, 0, 0, 30, 30, 30, 0, 0, 31, 1, 1, 0, 0, 0, 30]]
def ftg (c j : Nat) : Nat := (FT.getD c []).getD j 9
def fnum (c : Nat) : Nat := (FT.getD c []).length
/-! ===== the data are the machine's: what a program decides ===== -/
noncomputable def mY (k : Nat) : MethodName := (miOf k).1
noncomputable def mC (k : Nat) : ByteArray := (miOf k).2.1
noncomputable def mL (k : Nat) : Nat := (miOf k).2.2.1
noncomputable def mR (k : Nat) : Option FieldType := (miOf k).2.2.2.1
noncomputable def mP (k : Nat) : List Nat := (miOf k).2.2.2.2.1
noncomputable def mT (k : Nat) : Nat := (miOf k).2.2.2.2.2.1
noncomputable def mD (k : Nat) : Nat := (miOf k).2.2.2.2.2.2.1
noncomputable def mW (k : Nat) : Nat := (miOf k).2.2.2.2.2.2.2.1
noncomputable def mK (k : Nat) : Nat := (miOf k).2.2.2.2.2.2.2.2.1
def rg32 (z : Int) : Bool := decide (-2147483648 ≤ z) && decide (z < 2147483648)
def rg64 (z : Int) : Bool := decide (-9223372036854775808 ≤ z) && decide (z < 9223372036854775808)
noncomputable def wd (w : Nat) : Option Jvm.Cond := lw_tbl[w]?
noncomputable def ch0 (k : Nat) (ins : Instr) (len a w : Nat) (z : Int) : Bool := match ins with
  | .iconst n => len == 1 && a == 0 && z == n && rg32 z
  | .bipush n => len == 2 && a == 0 && decide ((Int8.ofInt n).toInt32 = Int32.ofInt z) && rg32 z
  | .sipush n => len == 3 && a == 0 && decide ((Int16.ofInt n).toInt32 = Int32.ofInt z) && rg32 z
  | .ldc i => len == 2 && a == 0 && rg32 z && decide (wd w = some (.constant (mY k).cls i (Int32.ofInt z)))
  | .ldc_w i => len == 3 && a == 0 && rg32 z && decide (wd w = some (.constant (mY k).cls i (Int32.ofInt z)))
  | .lconst n => len == 1 && a == 1 && decide (Int64.ofNat n = Int64.ofInt z) && rg64 z
  | .ldc2_w i => len == 3 && a == 1 && rg64 z && decide (wd w = some (.constantLong (mY k).cls i (Int64.ofInt z)))
  | .aconst_null => len == 1 && a == 8 && z == 0
  | _ => false
def ch1 (ins : Instr) (len a b : Nat) : Bool := match ins with
  | .iload_n n => len == 1 && n.val == a && b == 0
  | .iload n => len == 2 && n == a && b == 0
  | .lload_n n => len == 1 && n.val == a && b == 1
  | .lload n => len == 2 && n == a && b == 1
  | .aload_n n => len == 1 && n.val == a && b == 2
  | .aload n => len == 2 && n == a && b == 2
  | _ => false
def ch2 (ins : Instr) (len a b : Nat) : Bool := match ins with
  | .istore_n n => len == 1 && n.val == a && b == 0
  | .istore n => len == 2 && n == a && b == 0
  | .lstore_n n => len == 1 && n.val == a && b == 1
  | .lstore n => len == 2 && n == a && b == 1
  | .astore_n n => len == 1 && n.val == a && b == 2
  | .astore n => len == 2 && n == a && b == 2
  | _ => false
def ch3 (ins : Instr) (len a : Nat) (z : Int) : Bool := match ins with
  | .iinc n i => len == 3 && n == a && z == i
  | _ => false
def ch4 (ins : Instr) (len a : Nat) : Bool := match ins with
  | .iadd => len == 1 && a == 0
  | .isub => len == 1 && a == 1
  | .imul => len == 1 && a == 2
  | .iand => len == 1 && a == 3
  | .ior => len == 1 && a == 4
  | .ishl => len == 1 && a == 5
  | .ishr => len == 1 && a == 6
  | _ => false
def ch5 (ins : Instr) (len a : Nat) : Bool := match ins with
  | .idiv => len == 1 && a == 0
  | .irem => len == 1 && a == 1
  | _ => false
def ch6 (ins : Instr) (len a : Nat) : Bool := match ins with
  | .ladd => len == 1 && a == 0
  | .lmul => len == 1 && a == 1
  | _ => false
def ch7 (ins : Instr) (len a : Nat) : Bool := match ins with
  | .ldiv => len == 1 && a == 0
  | .lrem => len == 1 && a == 1
  | _ => false
def ch8 (ins : Instr) (len : Nat) : Bool := match ins with
  | .lcmp => len == 1
  | _ => false
def ch9 (ins : Instr) (len a : Nat) : Bool := match ins with
  | .ineg => len == 1 && a == 0
  | .i2l => len == 1 && a == 1
  | _ => false
def cno (c : ClassFile.Cond) : Nat := match c with
  | .eq => 0
  | .ne => 1
  | .lt => 2
  | .ge => 3
  | .gt => 4
  | .le => 5
def ch10 (ins : Instr) (pc len a b : Nat) : Bool := match ins with
  | .ifCond c o => len == 3 && cno c == a && decide ((pc : Int) + o = (b : Int))
  | _ => false
def ch11 (ins : Instr) (pc len a b : Nat) : Bool := match ins with
  | .if_icmp c o => len == 3 && cno c == a && decide ((pc : Int) + o = (b : Int))
  | _ => false
def ch12 (ins : Instr) (pc len a b : Nat) : Bool := match ins with
  | .ifnull o => len == 3 && a == 0 && decide ((pc : Int) + o = (b : Int))
  | .ifnonnull o => len == 3 && a == 1 && decide ((pc : Int) + o = (b : Int))
  | _ => false
def ch13 (ins : Instr) (pc len b : Nat) : Bool := match ins with
  | .goto o => len == 3 && decide ((pc : Int) + o = (b : Int))
  | _ => false
def swT (pc : Nat) (lo : Int) : List Int → List (Int × Nat) → Bool
  | [], [] => true
  | o :: os, q :: qs => decide (q.1 = lo) && decide ((pc : Int) + o = (q.2 : Int)) && swT pc (lo + 1) os qs
  | _, _ => false
def swL (pc : Nat) : List (Int × Int) → List (Int × Nat) → Bool
  | [], [] => true
  | o :: os, q :: qs => decide (q.1 = o.1) && decide ((pc : Int) + o.2 = (q.2 : Int)) && swL pc os qs
  | _, _ => false
def ch14 (ins : Instr) (pc b : Nat) (sw : List (Int × Nat)) : Bool := match ins with
  | .tableswitch d lo hi os => decide ((pc : Int) + d = (b : Int)) && decide (hi = lo + (os.toList.length : Int) - 1) && swT pc lo os.toList sw
  | .lookupswitch d ps => decide ((pc : Int) + d = (b : Int)) && ((ps.toList.zip (ps.toList.drop 1)).all (fun (a, next) => a.1 < next.1)) && swL pc ps.toList sw
  | _ => false
/-- class b's field a has the tag c, and the link is among the words -/
noncomputable def chF (k i a b c w : Nat) : Bool := match vwCl[b]? with
  | some r => decide (a < r.2.2) && decide (c = ftg b a) && decide (wd w = some (.fieldLink (mY k).cls i (r.2.1 a).1 (r.2.1 a).2.1 (r.2.1 a).2.2.1))
  | none => false
noncomputable def ch15 (k : Nat) (ins : Instr) (len a b c w : Nat) : Bool := match ins with
  | .getfield i => len == 3 && chF k i a b c w
  | _ => false
noncomputable def ch16 (k : Nat) (ins : Instr) (len a b c w : Nat) : Bool := match ins with
  | .putfield i => len == 3 && chF k i a b c w && (match vwCl[b]? with
    | some r => !(r.2.1 a).2.2.2 || (decide ((mY k).name = "<init>") && decide ((r.2.1 a).1 = (mY k).cls))
    | none => false)
  | _ => false
def ch17 (ins : Instr) (len a : Nat) : Bool := match ins with
  | .iaload => len == 1 && a == 0
  | .baload => len == 1 && a == 1
  | .aaload => len == 1 && a == 2
  | _ => false
def ch18 (ins : Instr) (len a : Nat) : Bool := match ins with
  | .iastore => len == 1 && a == 0
  | .bastore => len == 1 && a == 1
  | .aastore => len == 1 && a == 2
  | _ => false
def ch19 (ins : Instr) (len : Nat) : Bool := match ins with
  | .arraylength => len == 1
  | _ => false
noncomputable def chC (k i a c w : Nat) (z : Int) (sw : List (Int × Nat)) : Bool :=
  decide (a < 273) && decide (a ≠ 0) && decide (sw = ((mL a : Int), (mP a).length) :: (mP a).map (fun t => ((0 : Int), t))) && decide (c = if mT a = 3 then 0 else mT a)
    && decide (mD a + 1 ≤ mD k) && decide (8 + (mL a + 11) + mW a ≤ mW k)
    && (if z = 0 then decide (wd w = some (.methodLink (mY k).cls i (mY a))) else decide (wd w = some (.methodLinkNest (mY k).cls i (mY a) "ScaffoldYard")))
noncomputable def ch20 (k : Nat) (ins : Instr) (len a b c w : Nat) (z : Int) (sw : List (Int × Nat)) : Bool := match ins with
  | .invokestatic i => len == 3 && b == 0 && mK a == 0 && chC k i a c w z sw
  | .invokevirtual i => len == 3 && b == 1 && mK a == 1 && chC k i a c w z sw
  | .invokespecial i => len == 3 && b == 2 && mK a == 2 && chC k i a c w z sw
  | _ => false
noncomputable def ch21 (k : Nat) (ins : Instr) (len a c : Nat) : Bool := c == mT k && (match ins with
  | .return_ => len == 1 && a == 0 && c == 9
  | .ireturn => len == 1 && ((a == 1 && c == 0) || (a == 2 && c == 3))
  | .lreturn => len == 1 && a == 3 && c == 1
  | .areturn => len == 1 && a == 4 && decide (10 ≤ c) && decide (c < 40)
  | _ => false)
def ch22 (ins : Instr) (len : Nat) : Bool := match ins with
  | .dup => len == 1
  | _ => false
def ch23 (ins : Instr) (len : Nat) : Bool := match ins with
  | .dup2 => len == 1
  | _ => false
def ch24 (ins : Instr) (len : Nat) : Bool := match ins with
  | .pop => len == 1
  | _ => false
noncomputable def ch25 (k : Nat) (ins : Instr) (len a w : Nat) : Bool := match ins with
  | .new i => len == 3 && (match vwCl[a]? with
    | some r => decide (wd w = some (.classLink (mY k).cls i r.1))
    | none => false)
  | _ => false
def ch26 (ins : Instr) (len a : Nat) : Bool := match ins with
  | .newarray t => len == 2 && (match t with | .int => a == 20 | .boolean => a == 21 | _ => false)
  | _ => false
noncomputable def ch27 (k : Nat) (ins : Instr) (len a w : Nat) : Bool := match ins with
  | .anewarray i => len == 3 && ((a == 22 && decide (wd w = some (.classLink (mY k).cls i RX1))) || (a == 23 && decide (wd w = some (.classLink (mY k).cls i RX0))))
  | _ => false
noncomputable def ch28 (k : Nat) (ins : Instr) (len w : Nat) : Bool := match ins with
  | .multianewarray i d => len == 4 && d == 2 && decide (wd w = some (.classLink (mY k).cls i "[[I"))
  | _ => false
noncomputable def ch29 (k : Nat) (ins : Instr) (len w : Nat) : Bool := match ins with
  | .invokespecial i => len == 3 && decide (1 ≤ mD k) && decide (20 ≤ mW k) && decide (wd w = some (.methodLink (mY k).cls i objectInit))
  | _ => false
def ch30 (k : Nat) (ins : Instr) (len : Nat) : Bool := match ins with
  | .iaload => len == 1 && k == 0
  | _ => false
def ch31 (k : Nat) (ins : Instr) (len : Nat) : Bool := match ins with
  | .arraylength => len == 1 && k == 0
  | _ => false
noncomputable def ch32 (k : Nat) (ins : Instr) (len a w : Nat) : Bool := match ins with
  | .invokestatic i => len == 3 && decide (1 ≤ mD k) && decide (21 ≤ mW k) && (match a with
    | 0 => decide (wd w = some (.methodLink (mY k).cls i Lib.Math.max.name))
    | 1 => decide (wd w = some (.methodLink (mY k).cls i Lib.Math.min.name))
    | 2 => decide (wd w = some (.methodLink (mY k).cls i Lib.Math.abs.name))
    | _ => false)
  | _ => false
noncomputable def chO (k pc : Nat) (ins : Instr) (len : Nat) (i : II) : Bool := match i with
  | (op, nx, a, b, c, w, z, sw) => decide (nx = pc + len) && (match op with
    | 0 => ch0 k ins len a w z
    | 1 => ch1 ins len a b
    | 2 => ch2 ins len a b
    | 3 => ch3 ins len a z
    | 4 => ch4 ins len a
    | 5 => ch5 ins len a
    | 6 => ch6 ins len a
    | 7 => ch7 ins len a
    | 8 => ch8 ins len
    | 9 => ch9 ins len a
    | 10 => ch10 ins pc len a b
    | 11 => ch11 ins pc len a b
    | 12 => ch12 ins pc len a b
    | 13 => ch13 ins pc len b
    | 14 => ch14 ins pc b sw
    | 15 => ch15 k ins len a b c w
    | 16 => ch16 k ins len a b c w
    | 17 => ch17 ins len a
    | 18 => ch18 ins len a
    | 19 => ch19 ins len
    | 20 => ch20 k ins len a b c w z sw
    | 21 => ch21 k ins len a c
    | 22 => ch22 ins len
    | 23 => ch23 ins len
    | 24 => ch24 ins len
    | 25 => ch25 k ins len a w
    | 26 => ch26 ins len a
    | 27 => ch27 k ins len a w
    | 28 => ch28 k ins len w
    | 29 => ch29 k ins len w
    | 30 => ch30 k ins len
    | 31 => ch31 k ins len
    | 32 => ch32 k ins len a w
    | _ => false)
noncomputable def chI (k : Nat) (q : Nat × II) : Bool := match decode (mC k) q.1 with
  | .ok r => chO k q.1 r.1 r.2 q.2
  | _ => false
noncomputable def chT (k : Nat) : Bool := (tabOf k).all (fun l => l.all (chI k))
end
section
noncomputable def mwc (k : Nat) : Nat := (miOf k).2.2.2.2.2.2.2.2.2.1
noncomputable def mwi (k : Nat) : Nat := (miOf k).2.2.2.2.2.2.2.2.2.2.1
noncomputable def mws (k : Nat) : Nat := (miOf k).2.2.2.2.2.2.2.2.2.2.2.1
noncomputable def mwl (k : Nat) : Nat := (miOf k).2.2.2.2.2.2.2.2.2.2.2.2
def rtk : Option FieldType → Nat → Bool
  | none, t => t == 9
  | some .int, t => t == 0
  | some .boolean, t => t == 3
  | some .long, t => t == 1
  | some (.object _), t => decide (10 ≤ t) && decide (t < 40)
  | some (.array _), t => decide (10 ≤ t) && decide (t < 40)
  | _, _ => false
def tagk (t : Nat) : Bool := t == 0 || t == 1 || (decide (10 ≤ t) && decide (t < 70))
def tcat : List Nat → Nat
  | [] => 0
  | t :: r => (if t = 1 then 2 else 1) + tcat r
noncomputable def chM (k : Nat) : Bool := plainName (mY k).cls && (decide ((mY k).cls ≠ "java/lang/invoke/MethodHandle") && (decide ((mY k).cls ≠ "java/lang/invoke/VarHandle")
  && (decide ((parseMethodDescriptor (mY k).desc).map (fun d => d.parameters.length) = some ((mP k).length - (if mK k = 0 then 0 else 1)))
  && ((decide (wd (mwi k) = some (.initialized (mY k).cls))
  && ((match mK k with
    | 0 => decide (wd (mws k) = some (.static (mY k)))
    | 1 => decide (wd (mws k) = some (.instanceMethod (mY k))) && decide (wd (mwl k) = some (.selects (mY k).cls (mY k) (mY k)))
    | 2 => decide (wd (mws k) = some (.instanceMethod (mY k))) && decide ((mY k).name = "<init>") && mT k == 9
    | _ => false)
  && (rtk (mR k) (mT k) && ((mP k).all tagk && (decide (tcat (mP k) ≤ mL k)
  && (mK k == 0 || (match vwCl[(mP k).headD 0 - 40]? with
    | some r => decide (r.1 = (mY k).cls) && decide (40 ≤ (mP k).headD 0) && decide ((mP k).headD 0 < 50) && decide ((mP k) ≠ [])
    | none => false)))))))))))
set_option maxRecDepth 1000000 in
theorem cm1 : (List.range 34).all (fun j => chM (j + 1)) = true := by decide +kernel
set_option maxRecDepth 1000000 in
theorem cm2 : (List.range 34).all (fun j => chM (j + 35)) = true := by decide +kernel
set_option maxRecDepth 1000000 in
theorem cm3 : (List.range 34).all (fun j => chM (j + 69)) = true := by decide +kernel
set_option maxRecDepth 1000000 in
theorem cm4 : (List.range 34).all (fun j => chM (j + 103)) = true := by decide +kernel
set_option maxRecDepth 1000000 in
theorem cm5 : (List.range 34).all (fun j => chM (j + 137)) = true := by decide +kernel
set_option maxRecDepth 1000000 in
theorem cm6 : (List.range 34).all (fun j => chM (j + 171)) = true := by decide +kernel
set_option maxRecDepth 1000000 in
theorem cm7 : (List.range 34).all (fun j => chM (j + 205)) = true := by decide +kernel
set_option maxRecDepth 1000000 in
theorem cm8 : (List.range 34).all (fun j => chM (j + 239)) = true := by decide +kernel
theorem chM_ok {k : Nat} (h0 : k ≠ 0) (h : k < 273) : chM k = true := by
  by_cases h1 : k < 35
  · have := List.all_eq_true.mp cm1 (k - 1) (List.mem_range.mpr (by omega))
    rwa [show k - 1 + 1 = k by omega] at this
  by_cases h2 : k < 69
  · have := List.all_eq_true.mp cm2 (k - 35) (List.mem_range.mpr (by omega))
    rwa [show k - 35 + 35 = k by omega] at this
  by_cases h3 : k < 103
  · have := List.all_eq_true.mp cm3 (k - 69) (List.mem_range.mpr (by omega))
    rwa [show k - 69 + 69 = k by omega] at this
  by_cases h4 : k < 137
  · have := List.all_eq_true.mp cm4 (k - 103) (List.mem_range.mpr (by omega))
    rwa [show k - 103 + 103 = k by omega] at this
  by_cases h5 : k < 171
  · have := List.all_eq_true.mp cm5 (k - 137) (List.mem_range.mpr (by omega))
    rwa [show k - 137 + 137 = k by omega] at this
  by_cases h6 : k < 205
  · have := List.all_eq_true.mp cm6 (k - 171) (List.mem_range.mpr (by omega))
    rwa [show k - 171 + 171 = k by omega] at this
  by_cases h7 : k < 239
  · have := List.all_eq_true.mp cm7 (k - 205) (List.mem_range.mpr (by omega))
    rwa [show k - 205 + 205 = k by omega] at this
  have := List.all_eq_true.mp cm8 (k - 239) (List.mem_range.mpr (by omega))
  rwa [show k - 239 + 239 = k by omega] at this
def gws : List Cond := lw_tbl.filter goodWord
theorem gws_in {w : Cond} (h : w ∈ lw_tbl) (hg : goodWord w = true := by rfl) : w ∈ gws := List.mem_filter.mpr ⟨h, hg⟩
theorem u_good {C : String} {T : u_T} {N : Nat} {w : Cond} (h : w ∈ u_ws C T N) : goodWord w = true := by
  obtain ⟨k, -, rfl⟩ := List.mem_map.mp h
  unfold u_lay
  split <;> rfl
/-! fields: their words, their types -/
def tagTy : FieldType → Nat → Bool
  | .int, t => t == 0
  | .boolean, t => t == 3
  | .long, t => t == 1
  | .object _, t => decide (10 ≤ t) && decide (t < 40)
  | .array _, t => decide (10 ≤ t) && decide (t < 40)
  | _, _ => false
def clsOk (b : Nat) (r : vw_C) (ty : Nat → FieldType) : Prop := (∀ w ∈ u_ws r.1 r.2.1 r.2.2, w ∈ gws) ∧ Cond.instantiable r.1 r.2.2 ∈ gws ∧ Cond.initialized r.1 ∈ gws ∧ (∀ a, a < r.2.2 → parseFieldDescriptor (r.2.1 a).2.2.1 = some (ty a)) ∧ (∀ a, a < r.2.2 → ∀ b, b < r.2.2 → a ≠ b → (r.2.1 a).2.1 ≠ (r.2.1 b).2.1) ∧ (∀ a, a < r.2.2 → tagTy (ty a) (ftg b a) = true) ∧ fnum b = r.2.2
theorem cw0 : ∀ w ∈ u_ws RX0 TX0 6, w ∈ lw_tbl := by decide +kernel
theorem cn0 : Cond.instantiable RX0 6 ∈ lw_tbl := by decide +kernel
theorem ci0 : Cond.initialized RX0 ∈ lw_tbl := by decide +kernel
theorem ctg0 : ∀ a, a < 6 → tagTy (tyX0 a) (ftg 0 a) = true := by decide +kernel
theorem cw1 : ∀ w ∈ u_ws RX1 TX1 15, w ∈ lw_tbl := by decide +kernel
theorem cn1 : Cond.instantiable RX1 15 ∈ lw_tbl := by decide +kernel
theorem ci1 : Cond.initialized RX1 ∈ lw_tbl := by decide +kernel
theorem ctg1 : ∀ a, a < 15 → tagTy (tyX1 a) (ftg 1 a) = true := by decide +kernel
theorem cw2 : ∀ w ∈ u_ws RX2 TX2 3, w ∈ lw_tbl := by decide +kernel
theorem cn2 : Cond.instantiable RX2 3 ∈ lw_tbl := by decide +kernel
theorem ci2 : Cond.initialized RX2 ∈ lw_tbl := by decide +kernel
theorem ctg2 : ∀ a, a < 3 → tagTy (tyX2 a) (ftg 2 a) = true := by decide +kernel
theorem cw3 : ∀ w ∈ u_ws RX3 TX3 5, w ∈ lw_tbl := by decide +kernel
theorem cn3 : Cond.instantiable RX3 5 ∈ lw_tbl := by decide +kernel
theorem ci3 : Cond.initialized RX3 ∈ lw_tbl := by decide +kernel
theorem ctg3 : ∀ a, a < 5 → tagTy (tyX3 a) (ftg 3 a) = true := by decide +kernel
theorem cw4 : ∀ w ∈ u_ws RX4 TX4 3, w ∈ lw_tbl := by decide +kernel
theorem cn4 : Cond.instantiable RX4 3 ∈ lw_tbl := by decide +kernel
theorem ci4 : Cond.initialized RX4 ∈ lw_tbl := by decide +kernel
theorem ctg4 : ∀ a, a < 3 → tagTy (tyX4 a) (ftg 4 a) = true := by decide +kernel
theorem cw5 : ∀ w ∈ u_ws RX5 TX5 3, w ∈ lw_tbl := by decide +kernel
theorem cn5 : Cond.instantiable RX5 3 ∈ lw_tbl := by decide +kernel
theorem ci5 : Cond.initialized RX5 ∈ lw_tbl := by decide +kernel
theorem ctg5 : ∀ a, a < 3 → tagTy (tyX5 a) (ftg 5 a) = true := by decide +kernel
theorem cw6 : ∀ w ∈ u_ws RX6 TX6 5, w ∈ lw_tbl := by decide +kernel
theorem cn6 : Cond.instantiable RX6 5 ∈ lw_tbl := by decide +kernel
theorem ci6 : Cond.initialized RX6 ∈ lw_tbl := by decide +kernel
theorem ctg6 : ∀ a, a < 5 → tagTy (tyX6 a) (ftg 6 a) = true := by decide +kernel
theorem cw7 : ∀ w ∈ u_ws RX7 TX7 12, w ∈ lw_tbl := by decide +kernel
theorem cn7 : Cond.instantiable RX7 12 ∈ lw_tbl := by decide +kernel
theorem ci7 : Cond.initialized RX7 ∈ lw_tbl := by decide +kernel
theorem ctg7 : ∀ a, a < 12 → tagTy (tyX7 a) (ftg 7 a) = true := by decide +kernel
theorem cw8 : ∀ w ∈ u_ws RX8 TX8 30, w ∈ lw_tbl := by decide +kernel
theorem cn8 : Cond.instantiable RX8 30 ∈ lw_tbl := by decide +kernel
theorem ci8 : Cond.initialized RX8 ∈ lw_tbl := by decide +kernel
theorem ctg8 : ∀ a, a < 30 → tagTy (tyX8 a) (ftg 8 a) = true := by decide +kernel
def tyOf (b : Nat) : Nat → FieldType := match b with
  | 0 => tyX0
  | 1 => tyX1
  | 2 => tyX2
  | 3 => tyX3
  | 4 => tyX4
  | 5 => tyX5
  | 6 => tyX6
  | 7 => tyX7
  | _ => tyX8
theorem cls_ok : ∀ (b : Nat) (r : vw_C), vwCl[b]? = some r → clsOk b r (tyOf b)
  | 0, _, h => by cases h; exact ⟨fun w h => gws_in (cw0 w h) (u_good h), gws_in cn0, gws_in ci0, tyX0_ok, nmX0, ctg0, rfl⟩
  | 1, _, h => by cases h; exact ⟨fun w h => gws_in (cw1 w h) (u_good h), gws_in cn1, gws_in ci1, tyX1_ok, nmX1, ctg1, rfl⟩
  | 2, _, h => by cases h; exact ⟨fun w h => gws_in (cw2 w h) (u_good h), gws_in cn2, gws_in ci2, tyX2_ok, nmX2, ctg2, rfl⟩
  | 3, _, h => by cases h; exact ⟨fun w h => gws_in (cw3 w h) (u_good h), gws_in cn3, gws_in ci3, tyX3_ok, nmX3, ctg3, rfl⟩
  | 4, _, h => by cases h; exact ⟨fun w h => gws_in (cw4 w h) (u_good h), gws_in cn4, gws_in ci4, tyX4_ok, nmX4, ctg4, rfl⟩
  | 5, _, h => by cases h; exact ⟨fun w h => gws_in (cw5 w h) (u_good h), gws_in cn5, gws_in ci5, tyX5_ok, nmX5, ctg5, rfl⟩
  | 6, _, h => by cases h; exact ⟨fun w h => gws_in (cw6 w h) (u_good h), gws_in cn6, gws_in ci6, tyX6_ok, nmX6, ctg6, rfl⟩
  | 7, _, h => by cases h; exact ⟨fun w h => gws_in (cw7 w h) (u_good h), gws_in cn7, gws_in ci7, tyX7_ok, nmX7, ctg7, rfl⟩
  | 8, _, h => by cases h; exact ⟨fun w h => gws_in (cw8 w h) (u_good h), gws_in cn8, gws_in ci8, tyX8_ok, nmX8, ctg8, rfl⟩
  | _ + 9, _, h => by simp [vwCl] at h
end
section
theorem lwt1 {w : Cond} (h : w ∈ tables_1_1) : w ∈ lw_tbl := List.mem_append_right _ (List.mem_append_left _ h)
theorem lwt2 {w : Cond} (h : w ∈ tables_1_2) : w ∈ lw_tbl := List.mem_append_right _ (List.mem_append_right _ (List.mem_append_left _ h))
theorem lwt3 {w : Cond} (h : w ∈ tables_1_3) : w ∈ lw_tbl := List.mem_append_right _ (List.mem_append_right _ (List.mem_append_right _ (List.mem_append_left _ h)))
theorem lwt4 {w : Cond} (h : w ∈ tables_1_4) : w ∈ lw_tbl := List.mem_append_right _ (List.mem_append_right _ (List.mem_append_right _ (List.mem_append_right _ (List.mem_append_left _ h))))
theorem lwt5 {w : Cond} (h : w ∈ tables_1_5) : w ∈ lw_tbl := List.mem_append_right _ (List.mem_append_right _ (List.mem_append_right _ (List.mem_append_right _ (List.mem_append_right _ (List.mem_append_left _ h)))))
theorem lwt6 {w : Cond} (h : w ∈ tables_1_6) : w ∈ lw_tbl := List.mem_append_right _ (List.mem_append_right _ (List.mem_append_right _ (List.mem_append_right _ (List.mem_append_right _ (List.mem_append_right _ (List.mem_append_left _ h))))))
theorem lwt7 {w : Cond} (h : w ∈ tables_1_7) : w ∈ lw_tbl := List.mem_append_right _ (List.mem_append_right _ (List.mem_append_right _ (List.mem_append_right _ (List.mem_append_right _ (List.mem_append_right _ (List.mem_append_right _ (h)))))))
set_option maxRecDepth 100000 in
theorem cd1 : Cond.code (mY 1) (mC 1) (mL 1) (mR 1) ∈ lw_tbl := lwt1 (List.mem_of_getElem? (i := 99) rfl)
set_option maxRecDepth 100000 in
theorem cd2 : Cond.code (mY 2) (mC 2) (mL 2) (mR 2) ∈ lw_tbl := lwt2 (List.mem_of_getElem? (i := 163) rfl)
set_option maxRecDepth 100000 in
theorem cd3 : Cond.code (mY 3) (mC 3) (mL 3) (mR 3) ∈ lw_tbl := lwt3 (List.mem_of_getElem? (i := 9) rfl)
set_option maxRecDepth 100000 in
theorem cd4 : Cond.code (mY 4) (mC 4) (mL 4) (mR 4) ∈ lw_tbl := lwt3 (List.mem_of_getElem? (i := 15) rfl)
set_option maxRecDepth 100000 in
theorem cd5 : Cond.code (mY 5) (mC 5) (mL 5) (mR 5) ∈ lw_tbl := lwt3 (List.mem_of_getElem? (i := 22) rfl)
set_option maxRecDepth 100000 in
theorem cd6 : Cond.code (mY 6) (mC 6) (mL 6) (mR 6) ∈ lw_tbl := lwt1 (List.mem_of_getElem? (i := 155) rfl)
set_option maxRecDepth 100000 in
theorem cd7 : Cond.code (mY 7) (mC 7) (mL 7) (mR 7) ∈ lw_tbl := lwt2 (List.mem_of_getElem? (i := 88) rfl)
set_option maxRecDepth 100000 in
theorem cd8 : Cond.code (mY 8) (mC 8) (mL 8) (mR 8) ∈ lw_tbl := lwt2 (List.mem_of_getElem? (i := 91) rfl)
set_option maxRecDepth 100000 in
theorem cd9 : Cond.code (mY 9) (mC 9) (mL 9) (mR 9) ∈ lw_tbl := lwt2 (List.mem_of_getElem? (i := 95) rfl)
set_option maxRecDepth 100000 in
theorem cd10 : Cond.code (mY 10) (mC 10) (mL 10) (mR 10) ∈ lw_tbl := lwt2 (List.mem_of_getElem? (i := 136) rfl)
set_option maxRecDepth 100000 in
theorem cd11 : Cond.code (mY 11) (mC 11) (mL 11) (mR 11) ∈ lw_tbl := lwt2 (List.mem_of_getElem? (i := 103) rfl)
set_option maxRecDepth 100000 in
theorem cd12 : Cond.code (mY 12) (mC 12) (mL 12) (mR 12) ∈ lw_tbl := lwt2 (List.mem_of_getElem? (i := 111) rfl)
set_option maxRecDepth 100000 in
theorem cd13 : Cond.code (mY 13) (mC 13) (mL 13) (mR 13) ∈ lw_tbl := lwt2 (List.mem_of_getElem? (i := 115) rfl)
set_option maxRecDepth 100000 in
theorem cd14 : Cond.code (mY 14) (mC 14) (mL 14) (mR 14) ∈ lw_tbl := lwt3 (List.mem_of_getElem? (i := 55) rfl)
set_option maxRecDepth 100000 in
theorem cd15 : Cond.code (mY 15) (mC 15) (mL 15) (mR 15) ∈ lw_tbl := lwt2 (List.mem_of_getElem? (i := 132) rfl)
set_option maxRecDepth 100000 in
theorem cd16 : Cond.code (mY 16) (mC 16) (mL 16) (mR 16) ∈ lw_tbl := lwt3 (List.mem_of_getElem? (i := 63) rfl)
set_option maxRecDepth 100000 in
theorem cd17 : Cond.code (mY 17) (mC 17) (mL 17) (mR 17) ∈ lw_tbl := lwt2 (List.mem_of_getElem? (i := 99) rfl)
set_option maxRecDepth 100000 in
theorem cd18 : Cond.code (mY 18) (mC 18) (mL 18) (mR 18) ∈ lw_tbl := lwt2 (List.mem_of_getElem? (i := 206) rfl)
set_option maxRecDepth 100000 in
theorem cd19 : Cond.code (mY 19) (mC 19) (mL 19) (mR 19) ∈ lw_tbl := lwt3 (List.mem_of_getElem? (i := 92) rfl)
set_option maxRecDepth 100000 in
theorem cd20 : Cond.code (mY 20) (mC 20) (mL 20) (mR 20) ∈ lw_tbl := lwt2 (List.mem_of_getElem? (i := 228) rfl)
set_option maxRecDepth 100000 in
theorem cd21 : Cond.code (mY 21) (mC 21) (mL 21) (mR 21) ∈ lw_tbl := lwt3 (List.mem_of_getElem? (i := 112) rfl)
set_option maxRecDepth 100000 in
theorem cd22 : Cond.code (mY 22) (mC 22) (mL 22) (mR 22) ∈ lw_tbl := lwt3 (List.mem_of_getElem? (i := 31) rfl)
set_option maxRecDepth 100000 in
theorem cd23 : Cond.code (mY 23) (mC 23) (mL 23) (mR 23) ∈ lw_tbl := lwt2 (List.mem_of_getElem? (i := 154) rfl)
set_option maxRecDepth 100000 in
theorem cd24 : Cond.code (mY 24) (mC 24) (mL 24) (mR 24) ∈ lw_tbl := lwt2 (List.mem_of_getElem? (i := 171) rfl)
set_option maxRecDepth 100000 in
theorem cd25 : Cond.code (mY 25) (mC 25) (mL 25) (mR 25) ∈ lw_tbl := lwt2 (List.mem_of_getElem? (i := 196) rfl)
set_option maxRecDepth 100000 in
theorem cd26 : Cond.code (mY 26) (mC 26) (mL 26) (mR 26) ∈ lw_tbl := lwt2 (List.mem_of_getElem? (i := 167) rfl)
set_option maxRecDepth 100000 in
theorem cd27 : Cond.code (mY 27) (mC 27) (mL 27) (mR 27) ∈ lw_tbl := lwt2 (List.mem_of_getElem? (i := 140) rfl)
set_option maxRecDepth 100000 in
theorem cd28 : Cond.code (mY 28) (mC 28) (mL 28) (mR 28) ∈ lw_tbl := lwt2 (List.mem_of_getElem? (i := 218) rfl)
set_option maxRecDepth 100000 in
theorem cd29 : Cond.code (mY 29) (mC 29) (mL 29) (mR 29) ∈ lw_tbl := lwt2 (List.mem_of_getElem? (i := 144) rfl)
set_option maxRecDepth 100000 in
theorem cd30 : Cond.code (mY 30) (mC 30) (mL 30) (mR 30) ∈ lw_tbl := lwt2 (List.mem_of_getElem? (i := 232) rfl)
set_option maxRecDepth 100000 in
theorem cd31 : Cond.code (mY 31) (mC 31) (mL 31) (mR 31) ∈ lw_tbl := lwt2 (List.mem_of_getElem? (i := 107) rfl)
set_option maxRecDepth 100000 in
theorem cd32 : Cond.code (mY 32) (mC 32) (mL 32) (mR 32) ∈ lw_tbl := lwt2 (List.mem_of_getElem? (i := 191) rfl)
set_option maxRecDepth 100000 in
theorem cd33 : Cond.code (mY 33) (mC 33) (mL 33) (mR 33) ∈ lw_tbl := lwt2 (List.mem_of_getElem? (i := 180) rfl)
set_option maxRecDepth 100000 in
theorem cd34 : Cond.code (mY 34) (mC 34) (mL 34) (mR 34) ∈ lw_tbl := lwt3 (List.mem_of_getElem? (i := 79) rfl)
set_option maxRecDepth 100000 in
theorem cd35 : Cond.code (mY 35) (mC 35) (mL 35) (mR 35) ∈ lw_tbl := lwt3 (List.mem_of_getElem? (i := 75) rfl)
set_option maxRecDepth 100000 in
theorem cd36 : Cond.code (mY 36) (mC 36) (mL 36) (mR 36) ∈ lw_tbl := lwt3 (List.mem_of_getElem? (i := 156) rfl)
set_option maxRecDepth 100000 in
theorem cd37 : Cond.code (mY 37) (mC 37) (mL 37) (mR 37) ∈ lw_tbl := lwt3 (List.mem_of_getElem? (i := 43) rfl)
set_option maxRecDepth 100000 in
theorem cd38 : Cond.code (mY 38) (mC 38) (mL 38) (mR 38) ∈ lw_tbl := lwt3 (List.mem_of_getElem? (i := 39) rfl)
set_option maxRecDepth 100000 in
theorem cd39 : Cond.code (mY 39) (mC 39) (mL 39) (mR 39) ∈ lw_tbl := lwt4 (List.mem_of_getElem? (i := 161) rfl)
set_option maxRecDepth 100000 in
theorem cd40 : Cond.code (mY 40) (mC 40) (mL 40) (mR 40) ∈ lw_tbl := lwt4 (List.mem_of_getElem? (i := 165) rfl)
set_option maxRecDepth 100000 in
theorem cd41 : Cond.code (mY 41) (mC 41) (mL 41) (mR 41) ∈ lw_tbl := lwt4 (List.mem_of_getElem? (i := 0) rfl)
set_option maxRecDepth 100000 in
theorem cd42 : Cond.code (mY 42) (mC 42) (mL 42) (mR 42) ∈ lw_tbl := lwt4 (List.mem_of_getElem? (i := 4) rfl)
set_option maxRecDepth 100000 in
theorem cd43 : Cond.code (mY 43) (mC 43) (mL 43) (mR 43) ∈ lw_tbl := lwt2 (List.mem_of_getElem? (i := 187) rfl)
set_option maxRecDepth 100000 in
theorem cd44 : Cond.code (mY 44) (mC 44) (mL 44) (mR 44) ∈ lw_tbl := lwt3 (List.mem_of_getElem? (i := 236) rfl)
set_option maxRecDepth 100000 in
theorem cd45 : Cond.code (mY 45) (mC 45) (mL 45) (mR 45) ∈ lw_tbl := lwt4 (List.mem_of_getElem? (i := 30) rfl)
set_option maxRecDepth 100000 in
theorem cd46 : Cond.code (mY 46) (mC 46) (mL 46) (mR 46) ∈ lw_tbl := lwt4 (List.mem_of_getElem? (i := 9) rfl)
set_option maxRecDepth 100000 in
theorem cd47 : Cond.code (mY 47) (mC 47) (mL 47) (mR 47) ∈ lw_tbl := lwt4 (List.mem_of_getElem? (i := 34) rfl)
set_option maxRecDepth 100000 in
theorem cd48 : Cond.code (mY 48) (mC 48) (mL 48) (mR 48) ∈ lw_tbl := lwt4 (List.mem_of_getElem? (i := 14) rfl)
set_option maxRecDepth 100000 in
theorem cd49 : Cond.code (mY 49) (mC 49) (mL 49) (mR 49) ∈ lw_tbl := lwt4 (List.mem_of_getElem? (i := 43) rfl)
set_option maxRecDepth 100000 in
theorem cd50 : Cond.code (mY 50) (mC 50) (mL 50) (mR 50) ∈ lw_tbl := lwt4 (List.mem_of_getElem? (i := 48) rfl)
set_option maxRecDepth 100000 in
theorem cd51 : Cond.code (mY 51) (mC 51) (mL 51) (mR 51) ∈ lw_tbl := lwt4 (List.mem_of_getElem? (i := 52) rfl)
set_option maxRecDepth 100000 in
theorem cd52 : Cond.code (mY 52) (mC 52) (mL 52) (mR 52) ∈ lw_tbl := lwt4 (List.mem_of_getElem? (i := 60) rfl)
set_option maxRecDepth 100000 in
theorem cd53 : Cond.code (mY 53) (mC 53) (mL 53) (mR 53) ∈ lw_tbl := lwt4 (List.mem_of_getElem? (i := 66) rfl)
set_option maxRecDepth 100000 in
theorem cd54 : Cond.code (mY 54) (mC 54) (mL 54) (mR 54) ∈ lw_tbl := lwt4 (List.mem_of_getElem? (i := 109) rfl)
set_option maxRecDepth 100000 in
theorem cd55 : Cond.code (mY 55) (mC 55) (mL 55) (mR 55) ∈ lw_tbl := lwt4 (List.mem_of_getElem? (i := 100) rfl)
set_option maxRecDepth 100000 in
theorem cd56 : Cond.code (mY 56) (mC 56) (mL 56) (mR 56) ∈ lw_tbl := lwt4 (List.mem_of_getElem? (i := 84) rfl)
set_option maxRecDepth 100000 in
theorem cd57 : Cond.code (mY 57) (mC 57) (mL 57) (mR 57) ∈ lw_tbl := lwt4 (List.mem_of_getElem? (i := 22) rfl)
set_option maxRecDepth 100000 in
theorem cd58 : Cond.code (mY 58) (mC 58) (mL 58) (mR 58) ∈ lw_tbl := lwt4 (List.mem_of_getElem? (i := 96) rfl)
set_option maxRecDepth 100000 in
theorem cd59 : Cond.code (mY 59) (mC 59) (mL 59) (mR 59) ∈ lw_tbl := lwt4 (List.mem_of_getElem? (i := 18) rfl)
set_option maxRecDepth 100000 in
theorem cd60 : Cond.code (mY 60) (mC 60) (mL 60) (mR 60) ∈ lw_tbl := lwt4 (List.mem_of_getElem? (i := 80) rfl)
set_option maxRecDepth 100000 in
theorem cd61 : Cond.code (mY 61) (mC 61) (mL 61) (mR 61) ∈ lw_tbl := lwt1 (List.mem_of_getElem? (i := 92) rfl)
set_option maxRecDepth 100000 in
theorem cd62 : Cond.code (mY 62) (mC 62) (mL 62) (mR 62) ∈ lw_tbl := lwt2 (List.mem_of_getElem? (i := 158) rfl)
set_option maxRecDepth 100000 in
theorem cd63 : Cond.code (mY 63) (mC 63) (mL 63) (mR 63) ∈ lw_tbl := lwt2 (List.mem_of_getElem? (i := 119) rfl)
set_option maxRecDepth 100000 in
theorem cd64 : Cond.code (mY 64) (mC 64) (mL 64) (mR 64) ∈ lw_tbl := lwt3 (List.mem_of_getElem? (i := 5) rfl)
set_option maxRecDepth 100000 in
theorem cd65 : Cond.code (mY 65) (mC 65) (mL 65) (mR 65) ∈ lw_tbl := lwt1 (List.mem_of_getElem? (i := 45) rfl)
set_option maxRecDepth 100000 in
theorem cd66 : Cond.code (mY 66) (mC 66) (mL 66) (mR 66) ∈ lw_tbl := lwt3 (List.mem_of_getElem? (i := 97) rfl)
set_option maxRecDepth 100000 in
theorem cd67 : Cond.code (mY 67) (mC 67) (mL 67) (mR 67) ∈ lw_tbl := lwt3 (List.mem_of_getElem? (i := 102) rfl)
set_option maxRecDepth 100000 in
theorem cd68 : Cond.code (mY 68) (mC 68) (mL 68) (mR 68) ∈ lw_tbl := lwt3 (List.mem_of_getElem? (i := 108) rfl)
set_option maxRecDepth 100000 in
theorem cd69 : Cond.code (mY 69) (mC 69) (mL 69) (mR 69) ∈ lw_tbl := lwt3 (List.mem_of_getElem? (i := 118) rfl)
set_option maxRecDepth 100000 in
theorem cd70 : Cond.code (mY 70) (mC 70) (mL 70) (mR 70) ∈ lw_tbl := lwt3 (List.mem_of_getElem? (i := 164) rfl)
set_option maxRecDepth 100000 in
theorem cd71 : Cond.code (mY 71) (mC 71) (mL 71) (mR 71) ∈ lw_tbl := lwt3 (List.mem_of_getElem? (i := 169) rfl)
set_option maxRecDepth 100000 in
theorem cd72 : Cond.code (mY 72) (mC 72) (mL 72) (mR 72) ∈ lw_tbl := lwt3 (List.mem_of_getElem? (i := 176) rfl)
set_option maxRecDepth 100000 in
theorem cd73 : Cond.code (mY 73) (mC 73) (mL 73) (mR 73) ∈ lw_tbl := lwt3 (List.mem_of_getElem? (i := 126) rfl)
set_option maxRecDepth 100000 in
theorem cd74 : Cond.code (mY 74) (mC 74) (mL 74) (mR 74) ∈ lw_tbl := lwt3 (List.mem_of_getElem? (i := 132) rfl)
set_option maxRecDepth 100000 in
theorem cd75 : Cond.code (mY 75) (mC 75) (mL 75) (mR 75) ∈ lw_tbl := lwt3 (List.mem_of_getElem? (i := 136) rfl)
set_option maxRecDepth 100000 in
theorem cd76 : Cond.code (mY 76) (mC 76) (mL 76) (mR 76) ∈ lw_tbl := lwt3 (List.mem_of_getElem? (i := 144) rfl)
set_option maxRecDepth 100000 in
theorem cd77 : Cond.code (mY 77) (mC 77) (mL 77) (mR 77) ∈ lw_tbl := lwt1 (List.mem_of_getElem? (i := 135) rfl)
set_option maxRecDepth 100000 in
theorem cd78 : Cond.code (mY 78) (mC 78) (mL 78) (mR 78) ∈ lw_tbl := lwt4 (List.mem_of_getElem? (i := 178) rfl)
set_option maxRecDepth 100000 in
theorem cd79 : Cond.code (mY 79) (mC 79) (mL 79) (mR 79) ∈ lw_tbl := lwt4 (List.mem_of_getElem? (i := 182) rfl)
set_option maxRecDepth 100000 in
theorem cd80 : Cond.code (mY 80) (mC 80) (mL 80) (mR 80) ∈ lw_tbl := lwt4 (List.mem_of_getElem? (i := 186) rfl)
set_option maxRecDepth 100000 in
theorem cd81 : Cond.code (mY 81) (mC 81) (mL 81) (mR 81) ∈ lw_tbl := lwt4 (List.mem_of_getElem? (i := 192) rfl)
set_option maxRecDepth 100000 in
theorem cd82 : Cond.code (mY 82) (mC 82) (mL 82) (mR 82) ∈ lw_tbl := lwt4 (List.mem_of_getElem? (i := 195) rfl)
set_option maxRecDepth 100000 in
theorem cd83 : Cond.code (mY 83) (mC 83) (mL 83) (mR 83) ∈ lw_tbl := lwt4 (List.mem_of_getElem? (i := 199) rfl)
set_option maxRecDepth 100000 in
theorem cd84 : Cond.code (mY 84) (mC 84) (mL 84) (mR 84) ∈ lw_tbl := lwt1 (List.mem_of_getElem? (i := 26) rfl)
set_option maxRecDepth 100000 in
theorem cd85 : Cond.code (mY 85) (mC 85) (mL 85) (mR 85) ∈ lw_tbl := lwt2 (List.mem_of_getElem? (i := 36) rfl)
set_option maxRecDepth 100000 in
theorem cd86 : Cond.code (mY 86) (mC 86) (mL 86) (mR 86) ∈ lw_tbl := lwt2 (List.mem_of_getElem? (i := 40) rfl)
set_option maxRecDepth 100000 in
theorem cd87 : Cond.code (mY 87) (mC 87) (mL 87) (mR 87) ∈ lw_tbl := lwt2 (List.mem_of_getElem? (i := 49) rfl)
set_option maxRecDepth 100000 in
theorem cd88 : Cond.code (mY 88) (mC 88) (mL 88) (mR 88) ∈ lw_tbl := lwt2 (List.mem_of_getElem? (i := 57) rfl)
set_option maxRecDepth 100000 in
theorem cd89 : Cond.code (mY 89) (mC 89) (mL 89) (mR 89) ∈ lw_tbl := lwt2 (List.mem_of_getElem? (i := 61) rfl)
set_option maxRecDepth 100000 in
theorem cd90 : Cond.code (mY 90) (mC 90) (mL 90) (mR 90) ∈ lw_tbl := lwt2 (List.mem_of_getElem? (i := 66) rfl)
set_option maxRecDepth 100000 in
theorem cd91 : Cond.code (mY 91) (mC 91) (mL 91) (mR 91) ∈ lw_tbl := lwt2 (List.mem_of_getElem? (i := 71) rfl)
set_option maxRecDepth 100000 in
theorem cd92 : Cond.code (mY 92) (mC 92) (mL 92) (mR 92) ∈ lw_tbl := lwt1 (List.mem_of_getElem? (i := 70) rfl)
set_option maxRecDepth 100000 in
theorem cd93 : Cond.code (mY 93) (mC 93) (mL 93) (mR 93) ∈ lw_tbl := lwt3 (List.mem_of_getElem? (i := 185) rfl)
set_option maxRecDepth 100000 in
theorem cd94 : Cond.code (mY 94) (mC 94) (mL 94) (mR 94) ∈ lw_tbl := lwt3 (List.mem_of_getElem? (i := 195) rfl)
set_option maxRecDepth 100000 in
theorem cd95 : Cond.code (mY 95) (mC 95) (mL 95) (mR 95) ∈ lw_tbl := lwt3 (List.mem_of_getElem? (i := 199) rfl)
set_option maxRecDepth 100000 in
theorem cd96 : Cond.code (mY 96) (mC 96) (mL 96) (mR 96) ∈ lw_tbl := lwt3 (List.mem_of_getElem? (i := 203) rfl)
set_option maxRecDepth 100000 in
theorem cd97 : Cond.code (mY 97) (mC 97) (mL 97) (mR 97) ∈ lw_tbl := lwt3 (List.mem_of_getElem? (i := 213) rfl)
set_option maxRecDepth 100000 in
theorem cd98 : Cond.code (mY 98) (mC 98) (mL 98) (mR 98) ∈ lw_tbl := lwt3 (List.mem_of_getElem? (i := 216) rfl)
set_option maxRecDepth 100000 in
theorem cd99 : Cond.code (mY 99) (mC 99) (mL 99) (mR 99) ∈ lw_tbl := lwt3 (List.mem_of_getElem? (i := 208) rfl)
set_option maxRecDepth 100000 in
theorem cd100 : Cond.code (mY 100) (mC 100) (mL 100) (mR 100) ∈ lw_tbl := lwt3 (List.mem_of_getElem? (i := 226) rfl)
set_option maxRecDepth 100000 in
theorem cd101 : Cond.code (mY 101) (mC 101) (mL 101) (mR 101) ∈ lw_tbl := lwt4 (List.mem_of_getElem? (i := 113) rfl)
set_option maxRecDepth 100000 in
theorem cd102 : Cond.code (mY 102) (mC 102) (mL 102) (mR 102) ∈ lw_tbl := lwt1 (List.mem_of_getElem? (i := 16) rfl)
set_option maxRecDepth 100000 in
theorem cd103 : Cond.code (mY 103) (mC 103) (mL 103) (mR 103) ∈ lw_tbl := lwt2 (List.mem_of_getElem? (i := 19) rfl)
set_option maxRecDepth 100000 in
theorem cd104 : Cond.code (mY 104) (mC 104) (mL 104) (mR 104) ∈ lw_tbl := lwt2 (List.mem_of_getElem? (i := 32) rfl)
set_option maxRecDepth 100000 in
theorem cd105 : Cond.code (mY 105) (mC 105) (mL 105) (mR 105) ∈ lw_tbl := lwt2 (List.mem_of_getElem? (i := 53) rfl)
set_option maxRecDepth 100000 in
theorem cd106 : Cond.code (mY 106) (mC 106) (mL 106) (mR 106) ∈ lw_tbl := lwt2 (List.mem_of_getElem? (i := 75) rfl)
set_option maxRecDepth 100000 in
theorem cd107 : Cond.code (mY 107) (mC 107) (mL 107) (mR 107) ∈ lw_tbl := lwt2 (List.mem_of_getElem? (i := 123) rfl)
set_option maxRecDepth 100000 in
theorem cd108 : Cond.code (mY 108) (mC 108) (mL 108) (mR 108) ∈ lw_tbl := lwt2 (List.mem_of_getElem? (i := 128) rfl)
set_option maxRecDepth 100000 in
theorem cd109 : Cond.code (mY 109) (mC 109) (mL 109) (mR 109) ∈ lw_tbl := lwt2 (List.mem_of_getElem? (i := 148) rfl)
set_option maxRecDepth 100000 in
theorem cd110 : Cond.code (mY 110) (mC 110) (mL 110) (mR 110) ∈ lw_tbl := lwt2 (List.mem_of_getElem? (i := 175) rfl)
set_option maxRecDepth 100000 in
theorem cd111 : Cond.code (mY 111) (mC 111) (mL 111) (mR 111) ∈ lw_tbl := lwt2 (List.mem_of_getElem? (i := 201) rfl)
set_option maxRecDepth 100000 in
theorem cd112 : Cond.code (mY 112) (mC 112) (mL 112) (mR 112) ∈ lw_tbl := lwt2 (List.mem_of_getElem? (i := 214) rfl)
set_option maxRecDepth 100000 in
theorem cd113 : Cond.code (mY 113) (mC 113) (mL 113) (mR 113) ∈ lw_tbl := lwt2 (List.mem_of_getElem? (i := 223) rfl)
set_option maxRecDepth 100000 in
theorem cd114 : Cond.code (mY 114) (mC 114) (mL 114) (mR 114) ∈ lw_tbl := lwt2 (List.mem_of_getElem? (i := 237) rfl)
set_option maxRecDepth 100000 in
theorem cd115 : Cond.code (mY 115) (mC 115) (mL 115) (mR 115) ∈ lw_tbl := lwt3 (List.mem_of_getElem? (i := 1) rfl)
set_option maxRecDepth 100000 in
theorem cd116 : Cond.code (mY 116) (mC 116) (mL 116) (mR 116) ∈ lw_tbl := lwt3 (List.mem_of_getElem? (i := 27) rfl)
set_option maxRecDepth 100000 in
theorem cd117 : Cond.code (mY 117) (mC 117) (mL 117) (mR 117) ∈ lw_tbl := lwt3 (List.mem_of_getElem? (i := 51) rfl)
set_option maxRecDepth 100000 in
theorem cd118 : Cond.code (mY 118) (mC 118) (mL 118) (mR 118) ∈ lw_tbl := lwt3 (List.mem_of_getElem? (i := 59) rfl)
set_option maxRecDepth 100000 in
theorem cd119 : Cond.code (mY 119) (mC 119) (mL 119) (mR 119) ∈ lw_tbl := lwt3 (List.mem_of_getElem? (i := 67) rfl)
set_option maxRecDepth 100000 in
theorem cd120 : Cond.code (mY 120) (mC 120) (mL 120) (mR 120) ∈ lw_tbl := lwt3 (List.mem_of_getElem? (i := 71) rfl)
set_option maxRecDepth 100000 in
theorem cd121 : Cond.code (mY 121) (mC 121) (mL 121) (mR 121) ∈ lw_tbl := lwt3 (List.mem_of_getElem? (i := 85) rfl)
set_option maxRecDepth 100000 in
theorem cd122 : Cond.code (mY 122) (mC 122) (mL 122) (mR 122) ∈ lw_tbl := lwt3 (List.mem_of_getElem? (i := 122) rfl)
set_option maxRecDepth 100000 in
theorem cd123 : Cond.code (mY 123) (mC 123) (mL 123) (mR 123) ∈ lw_tbl := lwt3 (List.mem_of_getElem? (i := 148) rfl)
set_option maxRecDepth 100000 in
theorem cd124 : Cond.code (mY 124) (mC 124) (mL 124) (mR 124) ∈ lw_tbl := lwt3 (List.mem_of_getElem? (i := 152) rfl)
set_option maxRecDepth 100000 in
theorem cd125 : Cond.code (mY 125) (mC 125) (mL 125) (mR 125) ∈ lw_tbl := lwt3 (List.mem_of_getElem? (i := 160) rfl)
set_option maxRecDepth 100000 in
theorem cd126 : Cond.code (mY 126) (mC 126) (mL 126) (mR 126) ∈ lw_tbl := lwt3 (List.mem_of_getElem? (i := 181) rfl)
set_option maxRecDepth 100000 in
theorem cd127 : Cond.code (mY 127) (mC 127) (mL 127) (mR 127) ∈ lw_tbl := lwt3 (List.mem_of_getElem? (i := 191) rfl)
set_option maxRecDepth 100000 in
theorem cd128 : Cond.code (mY 128) (mC 128) (mL 128) (mR 128) ∈ lw_tbl := lwt3 (List.mem_of_getElem? (i := 222) rfl)
set_option maxRecDepth 100000 in
theorem cd129 : Cond.code (mY 129) (mC 129) (mL 129) (mR 129) ∈ lw_tbl := lwt3 (List.mem_of_getElem? (i := 231) rfl)
set_option maxRecDepth 100000 in
theorem cd130 : Cond.code (mY 130) (mC 130) (mL 130) (mR 130) ∈ lw_tbl := lwt4 (List.mem_of_getElem? (i := 26) rfl)
set_option maxRecDepth 100000 in
theorem cd131 : Cond.code (mY 131) (mC 131) (mL 131) (mR 131) ∈ lw_tbl := lwt4 (List.mem_of_getElem? (i := 39) rfl)
set_option maxRecDepth 100000 in
theorem cd132 : Cond.code (mY 132) (mC 132) (mL 132) (mR 132) ∈ lw_tbl := lwt4 (List.mem_of_getElem? (i := 56) rfl)
set_option maxRecDepth 100000 in
theorem cd133 : Cond.code (mY 133) (mC 133) (mL 133) (mR 133) ∈ lw_tbl := lwt4 (List.mem_of_getElem? (i := 72) rfl)
set_option maxRecDepth 100000 in
theorem cd134 : Cond.code (mY 134) (mC 134) (mL 134) (mR 134) ∈ lw_tbl := lwt4 (List.mem_of_getElem? (i := 76) rfl)
set_option maxRecDepth 100000 in
theorem cd135 : Cond.code (mY 135) (mC 135) (mL 135) (mR 135) ∈ lw_tbl := lwt4 (List.mem_of_getElem? (i := 88) rfl)
set_option maxRecDepth 100000 in
theorem cd136 : Cond.code (mY 136) (mC 136) (mL 136) (mR 136) ∈ lw_tbl := lwt4 (List.mem_of_getElem? (i := 105) rfl)
set_option maxRecDepth 100000 in
theorem cd137 : Cond.code (mY 137) (mC 137) (mL 137) (mR 137) ∈ lw_tbl := lwt4 (List.mem_of_getElem? (i := 120) rfl)
set_option maxRecDepth 100000 in
theorem cd138 : Cond.code (mY 138) (mC 138) (mL 138) (mR 138) ∈ lw_tbl := lwt4 (List.mem_of_getElem? (i := 126) rfl)
set_option maxRecDepth 100000 in
theorem cd139 : Cond.code (mY 139) (mC 139) (mL 139) (mR 139) ∈ lw_tbl := lwt4 (List.mem_of_getElem? (i := 138) rfl)
set_option maxRecDepth 100000 in
theorem cd140 : Cond.code (mY 140) (mC 140) (mL 140) (mR 140) ∈ lw_tbl := lwt4 (List.mem_of_getElem? (i := 142) rfl)
set_option maxRecDepth 100000 in
theorem cd141 : Cond.code (mY 141) (mC 141) (mL 141) (mR 141) ∈ lw_tbl := lwt4 (List.mem_of_getElem? (i := 146) rfl)
set_option maxRecDepth 100000 in
theorem cd142 : Cond.code (mY 142) (mC 142) (mL 142) (mR 142) ∈ lw_tbl := lwt4 (List.mem_of_getElem? (i := 157) rfl)
set_option maxRecDepth 100000 in
theorem cd143 : Cond.code (mY 143) (mC 143) (mL 143) (mR 143) ∈ lw_tbl := lwt4 (List.mem_of_getElem? (i := 169) rfl)
set_option maxRecDepth 100000 in
theorem cd144 : Cond.code (mY 144) (mC 144) (mL 144) (mR 144) ∈ lw_tbl := lwt4 (List.mem_of_getElem? (i := 174) rfl)
set_option maxRecDepth 100000 in
theorem cd145 : Cond.code (mY 145) (mC 145) (mL 145) (mR 145) ∈ lw_tbl := lwt4 (List.mem_of_getElem? (i := 205) rfl)
set_option maxRecDepth 100000 in
theorem cd146 : Cond.code (mY 146) (mC 146) (mL 146) (mR 146) ∈ lw_tbl := lwt2 (List.mem_of_getElem? (i := 26) rfl)
set_option maxRecDepth 100000 in
theorem cd147 : Cond.code (mY 147) (mC 147) (mL 147) (mR 147) ∈ lw_tbl := lwt2 (List.mem_of_getElem? (i := 183) rfl)
set_option maxRecDepth 100000 in
theorem cd148 : Cond.code (mY 148) (mC 148) (mL 148) (mR 148) ∈ lw_tbl := lwt4 (List.mem_of_getElem? (i := 149) rfl)
set_option maxRecDepth 100000 in
theorem cd149 : Cond.code (mY 149) (mC 149) (mL 149) (mR 149) ∈ lw_tbl := lwt4 (List.mem_of_getElem? (i := 153) rfl)
set_option maxRecDepth 100000 in
theorem cd150 : Cond.code (mY 150) (mC 150) (mL 150) (mR 150) ∈ lw_tbl := lwt2 (List.mem_of_getElem? (i := 23) rfl)
set_option maxRecDepth 100000 in
theorem cd151 : Cond.code (mY 151) (mC 151) (mL 151) (mR 151) ∈ lw_tbl := lwt2 (List.mem_of_getElem? (i := 79) rfl)
set_option maxRecDepth 100000 in
theorem cd152 : Cond.code (mY 152) (mC 152) (mL 152) (mR 152) ∈ lw_tbl := lwt4 (List.mem_of_getElem? (i := 130) rfl)
set_option maxRecDepth 100000 in
theorem cd153 : Cond.code (mY 153) (mC 153) (mL 153) (mR 153) ∈ lw_tbl := lwt2 (List.mem_of_getElem? (i := 83) rfl)
set_option maxRecDepth 100000 in
theorem cd154 : Cond.code (mY 154) (mC 154) (mL 154) (mR 154) ∈ lw_tbl := lwt4 (List.mem_of_getElem? (i := 134) rfl)
set_option maxRecDepth 100000 in
theorem cd155 : Cond.code (mY 155) (mC 155) (mL 155) (mR 155) ∈ lw_tbl := lwt4 (List.mem_of_getElem? (i := 209) rfl)
set_option maxRecDepth 100000 in
theorem cd156 : Cond.code (mY 156) (mC 156) (mL 156) (mR 156) ∈ lw_tbl := lwt4 (List.mem_of_getElem? (i := 213) rfl)
set_option maxRecDepth 100000 in
theorem cd157 : Cond.code (mY 157) (mC 157) (mL 157) (mR 157) ∈ lw_tbl := lwt4 (List.mem_of_getElem? (i := 92) rfl)
set_option maxRecDepth 100000 in
theorem cd158 : Cond.code (mY 158) (mC 158) (mL 158) (mR 158) ∈ lw_tbl := lwt4 (List.mem_of_getElem? (i := 218) rfl)
set_option maxRecDepth 100000 in
theorem cd159 : Cond.code (mY 159) (mC 159) (mL 159) (mR 159) ∈ lw_tbl := lwt5 (List.mem_of_getElem? (i := 79) rfl)
set_option maxRecDepth 100000 in
theorem cd160 : Cond.code (mY 160) (mC 160) (mL 160) (mR 160) ∈ lw_tbl := lwt5 (List.mem_of_getElem? (i := 76) rfl)
set_option maxRecDepth 100000 in
theorem cd161 : Cond.code (mY 161) (mC 161) (mL 161) (mR 161) ∈ lw_tbl := lwt5 (List.mem_of_getElem? (i := 93) rfl)
set_option maxRecDepth 100000 in
theorem cd162 : Cond.code (mY 162) (mC 162) (mL 162) (mR 162) ∈ lw_tbl := lwt5 (List.mem_of_getElem? (i := 89) rfl)
set_option maxRecDepth 100000 in
theorem cd163 : Cond.code (mY 163) (mC 163) (mL 163) (mR 163) ∈ lw_tbl := lwt5 (List.mem_of_getElem? (i := 98) rfl)
set_option maxRecDepth 100000 in
theorem cd164 : Cond.code (mY 164) (mC 164) (mL 164) (mR 164) ∈ lw_tbl := lwt5 (List.mem_of_getElem? (i := 85) rfl)
set_option maxRecDepth 100000 in
theorem cd165 : Cond.code (mY 165) (mC 165) (mL 165) (mR 165) ∈ lw_tbl := lwt5 (List.mem_of_getElem? (i := 110) rfl)
set_option maxRecDepth 100000 in
theorem cd166 : Cond.code (mY 166) (mC 166) (mL 166) (mR 166) ∈ lw_tbl := lwt5 (List.mem_of_getElem? (i := 106) rfl)
set_option maxRecDepth 100000 in
theorem cd167 : Cond.code (mY 167) (mC 167) (mL 167) (mR 167) ∈ lw_tbl := lwt5 (List.mem_of_getElem? (i := 114) rfl)
set_option maxRecDepth 100000 in
theorem cd168 : Cond.code (mY 168) (mC 168) (mL 168) (mR 168) ∈ lw_tbl := lwt5 (List.mem_of_getElem? (i := 102) rfl)
set_option maxRecDepth 100000 in
theorem cd169 : Cond.code (mY 169) (mC 169) (mL 169) (mR 169) ∈ lw_tbl := lwt5 (List.mem_of_getElem? (i := 121) rfl)
set_option maxRecDepth 100000 in
theorem cd170 : Cond.code (mY 170) (mC 170) (mL 170) (mR 170) ∈ lw_tbl := lwt5 (List.mem_of_getElem? (i := 142) rfl)
set_option maxRecDepth 100000 in
theorem cd171 : Cond.code (mY 171) (mC 171) (mL 171) (mR 171) ∈ lw_tbl := lwt5 (List.mem_of_getElem? (i := 163) rfl)
set_option maxRecDepth 100000 in
theorem cd172 : Cond.code (mY 172) (mC 172) (mL 172) (mR 172) ∈ lw_tbl := lwt5 (List.mem_of_getElem? (i := 171) rfl)
set_option maxRecDepth 100000 in
theorem cd173 : Cond.code (mY 173) (mC 173) (mL 173) (mR 173) ∈ lw_tbl := lwt5 (List.mem_of_getElem? (i := 159) rfl)
set_option maxRecDepth 100000 in
theorem cd174 : Cond.code (mY 174) (mC 174) (mL 174) (mR 174) ∈ lw_tbl := lwt5 (List.mem_of_getElem? (i := 155) rfl)
set_option maxRecDepth 100000 in
theorem cd175 : Cond.code (mY 175) (mC 175) (mL 175) (mR 175) ∈ lw_tbl := lwt5 (List.mem_of_getElem? (i := 179) rfl)
set_option maxRecDepth 100000 in
theorem cd176 : Cond.code (mY 176) (mC 176) (mL 176) (mR 176) ∈ lw_tbl := lwt5 (List.mem_of_getElem? (i := 205) rfl)
set_option maxRecDepth 100000 in
theorem cd177 : Cond.code (mY 177) (mC 177) (mL 177) (mR 177) ∈ lw_tbl := lwt5 (List.mem_of_getElem? (i := 221) rfl)
set_option maxRecDepth 100000 in
theorem cd178 : Cond.code (mY 178) (mC 178) (mL 178) (mR 178) ∈ lw_tbl := lwt5 (List.mem_of_getElem? (i := 192) rfl)
set_option maxRecDepth 100000 in
theorem cd179 : Cond.code (mY 179) (mC 179) (mL 179) (mR 179) ∈ lw_tbl := lwt5 (List.mem_of_getElem? (i := 197) rfl)
set_option maxRecDepth 100000 in
theorem cd180 : Cond.code (mY 180) (mC 180) (mL 180) (mR 180) ∈ lw_tbl := lwt5 (List.mem_of_getElem? (i := 213) rfl)
set_option maxRecDepth 100000 in
theorem cd181 : Cond.code (mY 181) (mC 181) (mL 181) (mR 181) ∈ lw_tbl := lwt5 (List.mem_of_getElem? (i := 225) rfl)
set_option maxRecDepth 100000 in
theorem cd182 : Cond.code (mY 182) (mC 182) (mL 182) (mR 182) ∈ lw_tbl := lwt5 (List.mem_of_getElem? (i := 125) rfl)
set_option maxRecDepth 100000 in
theorem cd183 : Cond.code (mY 183) (mC 183) (mL 183) (mR 183) ∈ lw_tbl := lwt5 (List.mem_of_getElem? (i := 129) rfl)
set_option maxRecDepth 100000 in
theorem cd184 : Cond.code (mY 184) (mC 184) (mL 184) (mR 184) ∈ lw_tbl := lwt5 (List.mem_of_getElem? (i := 134) rfl)
set_option maxRecDepth 100000 in
theorem cd185 : Cond.code (mY 185) (mC 185) (mL 185) (mR 185) ∈ lw_tbl := lwt5 (List.mem_of_getElem? (i := 147) rfl)
set_option maxRecDepth 100000 in
theorem cd186 : Cond.code (mY 186) (mC 186) (mL 186) (mR 186) ∈ lw_tbl := lwt5 (List.mem_of_getElem? (i := 151) rfl)
set_option maxRecDepth 100000 in
theorem cd187 : Cond.code (mY 187) (mC 187) (mL 187) (mR 187) ∈ lw_tbl := lwt5 (List.mem_of_getElem? (i := 118) rfl)
set_option maxRecDepth 100000 in
theorem cd188 : Cond.code (mY 188) (mC 188) (mL 188) (mR 188) ∈ lw_tbl := lwt5 (List.mem_of_getElem? (i := 138) rfl)
set_option maxRecDepth 100000 in
theorem cd189 : Cond.code (mY 189) (mC 189) (mL 189) (mR 189) ∈ lw_tbl := lwt5 (List.mem_of_getElem? (i := 167) rfl)
set_option maxRecDepth 100000 in
theorem cd190 : Cond.code (mY 190) (mC 190) (mL 190) (mR 190) ∈ lw_tbl := lwt5 (List.mem_of_getElem? (i := 184) rfl)
set_option maxRecDepth 100000 in
theorem cd191 : Cond.code (mY 191) (mC 191) (mL 191) (mR 191) ∈ lw_tbl := lwt5 (List.mem_of_getElem? (i := 175) rfl)
set_option maxRecDepth 100000 in
theorem cd192 : Cond.code (mY 192) (mC 192) (mL 192) (mR 192) ∈ lw_tbl := lwt5 (List.mem_of_getElem? (i := 188) rfl)
set_option maxRecDepth 100000 in
theorem cd193 : Cond.code (mY 193) (mC 193) (mL 193) (mR 193) ∈ lw_tbl := lwt5 (List.mem_of_getElem? (i := 201) rfl)
set_option maxRecDepth 100000 in
theorem cd194 : Cond.code (mY 194) (mC 194) (mL 194) (mR 194) ∈ lw_tbl := lwt5 (List.mem_of_getElem? (i := 209) rfl)
set_option maxRecDepth 100000 in
theorem cd195 : Cond.code (mY 195) (mC 195) (mL 195) (mR 195) ∈ lw_tbl := lwt5 (List.mem_of_getElem? (i := 217) rfl)
set_option maxRecDepth 100000 in
theorem cd196 : Cond.code (mY 196) (mC 196) (mL 196) (mR 196) ∈ lw_tbl := lwt5 (List.mem_of_getElem? (i := 229) rfl)
set_option maxRecDepth 100000 in
theorem cd197 : Cond.code (mY 197) (mC 197) (mL 197) (mR 197) ∈ lw_tbl := lwt5 (List.mem_of_getElem? (i := 233) rfl)
set_option maxRecDepth 100000 in
theorem cd198 : Cond.code (mY 198) (mC 198) (mL 198) (mR 198) ∈ lw_tbl := lwt6 (List.mem_of_getElem? (i := 9) rfl)
set_option maxRecDepth 100000 in
theorem cd199 : Cond.code (mY 199) (mC 199) (mL 199) (mR 199) ∈ lw_tbl := lwt6 (List.mem_of_getElem? (i := 5) rfl)
set_option maxRecDepth 100000 in
theorem cd200 : Cond.code (mY 200) (mC 200) (mL 200) (mR 200) ∈ lw_tbl := lwt6 (List.mem_of_getElem? (i := 1) rfl)
set_option maxRecDepth 100000 in
theorem cd201 : Cond.code (mY 201) (mC 201) (mL 201) (mR 201) ∈ lw_tbl := lwt6 (List.mem_of_getElem? (i := 13) rfl)
set_option maxRecDepth 100000 in
theorem cd202 : Cond.code (mY 202) (mC 202) (mL 202) (mR 202) ∈ lw_tbl := lwt6 (List.mem_of_getElem? (i := 17) rfl)
set_option maxRecDepth 100000 in
theorem cd203 : Cond.code (mY 203) (mC 203) (mL 203) (mR 203) ∈ lw_tbl := lwt6 (List.mem_of_getElem? (i := 21) rfl)
set_option maxRecDepth 100000 in
theorem cd204 : Cond.code (mY 204) (mC 204) (mL 204) (mR 204) ∈ lw_tbl := lwt6 (List.mem_of_getElem? (i := 41) rfl)
set_option maxRecDepth 100000 in
theorem cd205 : Cond.code (mY 205) (mC 205) (mL 205) (mR 205) ∈ lw_tbl := lwt6 (List.mem_of_getElem? (i := 37) rfl)
set_option maxRecDepth 100000 in
theorem cd206 : Cond.code (mY 206) (mC 206) (mL 206) (mR 206) ∈ lw_tbl := lwt6 (List.mem_of_getElem? (i := 33) rfl)
set_option maxRecDepth 100000 in
theorem cd207 : Cond.code (mY 207) (mC 207) (mL 207) (mR 207) ∈ lw_tbl := lwt6 (List.mem_of_getElem? (i := 29) rfl)
set_option maxRecDepth 100000 in
theorem cd208 : Cond.code (mY 208) (mC 208) (mL 208) (mR 208) ∈ lw_tbl := lwt6 (List.mem_of_getElem? (i := 25) rfl)
set_option maxRecDepth 100000 in
theorem cd209 : Cond.code (mY 209) (mC 209) (mL 209) (mR 209) ∈ lw_tbl := lwt6 (List.mem_of_getElem? (i := 63) rfl)
set_option maxRecDepth 100000 in
theorem cd210 : Cond.code (mY 210) (mC 210) (mL 210) (mR 210) ∈ lw_tbl := lwt6 (List.mem_of_getElem? (i := 67) rfl)
set_option maxRecDepth 100000 in
theorem cd211 : Cond.code (mY 211) (mC 211) (mL 211) (mR 211) ∈ lw_tbl := lwt6 (List.mem_of_getElem? (i := 59) rfl)
set_option maxRecDepth 100000 in
theorem cd212 : Cond.code (mY 212) (mC 212) (mL 212) (mR 212) ∈ lw_tbl := lwt6 (List.mem_of_getElem? (i := 56) rfl)
set_option maxRecDepth 100000 in
theorem cd213 : Cond.code (mY 213) (mC 213) (mL 213) (mR 213) ∈ lw_tbl := lwt6 (List.mem_of_getElem? (i := 51) rfl)
set_option maxRecDepth 100000 in
theorem cd214 : Cond.code (mY 214) (mC 214) (mL 214) (mR 214) ∈ lw_tbl := lwt6 (List.mem_of_getElem? (i := 45) rfl)
set_option maxRecDepth 100000 in
theorem cd215 : Cond.code (mY 215) (mC 215) (mL 215) (mR 215) ∈ lw_tbl := lwt6 (List.mem_of_getElem? (i := 82) rfl)
set_option maxRecDepth 100000 in
theorem cd216 : Cond.code (mY 216) (mC 216) (mL 216) (mR 216) ∈ lw_tbl := lwt6 (List.mem_of_getElem? (i := 79) rfl)
set_option maxRecDepth 100000 in
theorem cd217 : Cond.code (mY 217) (mC 217) (mL 217) (mR 217) ∈ lw_tbl := lwt6 (List.mem_of_getElem? (i := 75) rfl)
set_option maxRecDepth 100000 in
theorem cd218 : Cond.code (mY 218) (mC 218) (mL 218) (mR 218) ∈ lw_tbl := lwt6 (List.mem_of_getElem? (i := 71) rfl)
set_option maxRecDepth 100000 in
theorem cd219 : Cond.code (mY 219) (mC 219) (mL 219) (mR 219) ∈ lw_tbl := lwt6 (List.mem_of_getElem? (i := 86) rfl)
set_option maxRecDepth 100000 in
theorem cd220 : Cond.code (mY 220) (mC 220) (mL 220) (mR 220) ∈ lw_tbl := lwt6 (List.mem_of_getElem? (i := 94) rfl)
set_option maxRecDepth 100000 in
theorem cd221 : Cond.code (mY 221) (mC 221) (mL 221) (mR 221) ∈ lw_tbl := lwt6 (List.mem_of_getElem? (i := 90) rfl)
set_option maxRecDepth 100000 in
theorem cd222 : Cond.code (mY 222) (mC 222) (mL 222) (mR 222) ∈ lw_tbl := lwt6 (List.mem_of_getElem? (i := 106) rfl)
set_option maxRecDepth 100000 in
theorem cd223 : Cond.code (mY 223) (mC 223) (mL 223) (mR 223) ∈ lw_tbl := lwt6 (List.mem_of_getElem? (i := 102) rfl)
set_option maxRecDepth 100000 in
theorem cd224 : Cond.code (mY 224) (mC 224) (mL 224) (mR 224) ∈ lw_tbl := lwt6 (List.mem_of_getElem? (i := 98) rfl)
set_option maxRecDepth 100000 in
theorem cd225 : Cond.code (mY 225) (mC 225) (mL 225) (mR 225) ∈ lw_tbl := lwt6 (List.mem_of_getElem? (i := 110) rfl)
set_option maxRecDepth 100000 in
theorem cd226 : Cond.code (mY 226) (mC 226) (mL 226) (mR 226) ∈ lw_tbl := lwt6 (List.mem_of_getElem? (i := 121) rfl)
set_option maxRecDepth 100000 in
theorem cd227 : Cond.code (mY 227) (mC 227) (mL 227) (mR 227) ∈ lw_tbl := lwt6 (List.mem_of_getElem? (i := 125) rfl)
set_option maxRecDepth 100000 in
theorem cd228 : Cond.code (mY 228) (mC 228) (mL 228) (mR 228) ∈ lw_tbl := lwt6 (List.mem_of_getElem? (i := 133) rfl)
set_option maxRecDepth 100000 in
theorem cd229 : Cond.code (mY 229) (mC 229) (mL 229) (mR 229) ∈ lw_tbl := lwt6 (List.mem_of_getElem? (i := 129) rfl)
set_option maxRecDepth 100000 in
theorem cd230 : Cond.code (mY 230) (mC 230) (mL 230) (mR 230) ∈ lw_tbl := lwt6 (List.mem_of_getElem? (i := 118) rfl)
set_option maxRecDepth 100000 in
theorem cd231 : Cond.code (mY 231) (mC 231) (mL 231) (mR 231) ∈ lw_tbl := lwt6 (List.mem_of_getElem? (i := 114) rfl)
set_option maxRecDepth 100000 in
theorem cd232 : Cond.code (mY 232) (mC 232) (mL 232) (mR 232) ∈ lw_tbl := lwt6 (List.mem_of_getElem? (i := 137) rfl)
set_option maxRecDepth 100000 in
theorem cd233 : Cond.code (mY 233) (mC 233) (mL 233) (mR 233) ∈ lw_tbl := lwt6 (List.mem_of_getElem? (i := 164) rfl)
set_option maxRecDepth 100000 in
theorem cd234 : Cond.code (mY 234) (mC 234) (mL 234) (mR 234) ∈ lw_tbl := lwt5 (List.mem_of_getElem? (i := 237) rfl)
set_option maxRecDepth 100000 in
theorem cd235 : Cond.code (mY 235) (mC 235) (mL 235) (mR 235) ∈ lw_tbl := lwt6 (List.mem_of_getElem? (i := 157) rfl)
set_option maxRecDepth 100000 in
theorem cd236 : Cond.code (mY 236) (mC 236) (mL 236) (mR 236) ∈ lw_tbl := lwt6 (List.mem_of_getElem? (i := 161) rfl)
set_option maxRecDepth 100000 in
theorem cd237 : Cond.code (mY 237) (mC 237) (mL 237) (mR 237) ∈ lw_tbl := lwt6 (List.mem_of_getElem? (i := 168) rfl)
set_option maxRecDepth 100000 in
theorem cd238 : Cond.code (mY 238) (mC 238) (mL 238) (mR 238) ∈ lw_tbl := lwt6 (List.mem_of_getElem? (i := 153) rfl)
set_option maxRecDepth 100000 in
theorem cd239 : Cond.code (mY 239) (mC 239) (mL 239) (mR 239) ∈ lw_tbl := lwt6 (List.mem_of_getElem? (i := 149) rfl)
set_option maxRecDepth 100000 in
theorem cd240 : Cond.code (mY 240) (mC 240) (mL 240) (mR 240) ∈ lw_tbl := lwt6 (List.mem_of_getElem? (i := 172) rfl)
set_option maxRecDepth 100000 in
theorem cd241 : Cond.code (mY 241) (mC 241) (mL 241) (mR 241) ∈ lw_tbl := lwt6 (List.mem_of_getElem? (i := 176) rfl)
set_option maxRecDepth 100000 in
theorem cd242 : Cond.code (mY 242) (mC 242) (mL 242) (mR 242) ∈ lw_tbl := lwt6 (List.mem_of_getElem? (i := 145) rfl)
set_option maxRecDepth 100000 in
theorem cd243 : Cond.code (mY 243) (mC 243) (mL 243) (mR 243) ∈ lw_tbl := lwt6 (List.mem_of_getElem? (i := 141) rfl)
set_option maxRecDepth 100000 in
theorem cd244 : Cond.code (mY 244) (mC 244) (mL 244) (mR 244) ∈ lw_tbl := lwt6 (List.mem_of_getElem? (i := 180) rfl)
set_option maxRecDepth 100000 in
theorem cd245 : Cond.code (mY 245) (mC 245) (mL 245) (mR 245) ∈ lw_tbl := lwt6 (List.mem_of_getElem? (i := 188) rfl)
set_option maxRecDepth 100000 in
theorem cd246 : Cond.code (mY 246) (mC 246) (mL 246) (mR 246) ∈ lw_tbl := lwt6 (List.mem_of_getElem? (i := 192) rfl)
set_option maxRecDepth 100000 in
theorem cd247 : Cond.code (mY 247) (mC 247) (mL 247) (mR 247) ∈ lw_tbl := lwt6 (List.mem_of_getElem? (i := 196) rfl)
set_option maxRecDepth 100000 in
theorem cd248 : Cond.code (mY 248) (mC 248) (mL 248) (mR 248) ∈ lw_tbl := lwt6 (List.mem_of_getElem? (i := 184) rfl)
set_option maxRecDepth 100000 in
theorem cd249 : Cond.code (mY 249) (mC 249) (mL 249) (mR 249) ∈ lw_tbl := lwt6 (List.mem_of_getElem? (i := 200) rfl)
set_option maxRecDepth 100000 in
theorem cd250 : Cond.code (mY 250) (mC 250) (mL 250) (mR 250) ∈ lw_tbl := lwt6 (List.mem_of_getElem? (i := 204) rfl)
set_option maxRecDepth 100000 in
theorem cd251 : Cond.code (mY 251) (mC 251) (mL 251) (mR 251) ∈ lw_tbl := lwt6 (List.mem_of_getElem? (i := 220) rfl)
set_option maxRecDepth 100000 in
theorem cd252 : Cond.code (mY 252) (mC 252) (mL 252) (mR 252) ∈ lw_tbl := lwt6 (List.mem_of_getElem? (i := 208) rfl)
set_option maxRecDepth 100000 in
theorem cd253 : Cond.code (mY 253) (mC 253) (mL 253) (mR 253) ∈ lw_tbl := lwt6 (List.mem_of_getElem? (i := 216) rfl)
set_option maxRecDepth 100000 in
theorem cd254 : Cond.code (mY 254) (mC 254) (mL 254) (mR 254) ∈ lw_tbl := lwt6 (List.mem_of_getElem? (i := 212) rfl)
set_option maxRecDepth 100000 in
theorem cd255 : Cond.code (mY 255) (mC 255) (mL 255) (mR 255) ∈ lw_tbl := lwt6 (List.mem_of_getElem? (i := 228) rfl)
set_option maxRecDepth 100000 in
theorem cd256 : Cond.code (mY 256) (mC 256) (mL 256) (mR 256) ∈ lw_tbl := lwt6 (List.mem_of_getElem? (i := 232) rfl)
set_option maxRecDepth 100000 in
theorem cd257 : Cond.code (mY 257) (mC 257) (mL 257) (mR 257) ∈ lw_tbl := lwt6 (List.mem_of_getElem? (i := 224) rfl)
set_option maxRecDepth 100000 in
theorem cd258 : Cond.code (mY 258) (mC 258) (mL 258) (mR 258) ∈ lw_tbl := lwt6 (List.mem_of_getElem? (i := 236) rfl)
set_option maxRecDepth 100000 in
theorem cd259 : Cond.code (mY 259) (mC 259) (mL 259) (mR 259) ∈ lw_tbl := lwt7 (List.mem_of_getElem? (i := 4) rfl)
set_option maxRecDepth 100000 in
theorem cd260 : Cond.code (mY 260) (mC 260) (mL 260) (mR 260) ∈ lw_tbl := lwt7 (List.mem_of_getElem? (i := 0) rfl)
set_option maxRecDepth 100000 in
theorem cd261 : Cond.code (mY 261) (mC 261) (mL 261) (mR 261) ∈ lw_tbl := lwt7 (List.mem_of_getElem? (i := 8) rfl)
set_option maxRecDepth 100000 in
theorem cd262 : Cond.code (mY 262) (mC 262) (mL 262) (mR 262) ∈ lw_tbl := lwt7 (List.mem_of_getElem? (i := 12) rfl)
set_option maxRecDepth 100000 in
theorem cd263 : Cond.code (mY 263) (mC 263) (mL 263) (mR 263) ∈ lw_tbl := lwt7 (List.mem_of_getElem? (i := 19) rfl)
set_option maxRecDepth 100000 in
theorem cd264 : Cond.code (mY 264) (mC 264) (mL 264) (mR 264) ∈ lw_tbl := lwt7 (List.mem_of_getElem? (i := 16) rfl)
set_option maxRecDepth 100000 in
theorem cd265 : Cond.code (mY 265) (mC 265) (mL 265) (mR 265) ∈ lw_tbl := lwt7 (List.mem_of_getElem? (i := 27) rfl)
set_option maxRecDepth 100000 in
theorem cd266 : Cond.code (mY 266) (mC 266) (mL 266) (mR 266) ∈ lw_tbl := lwt7 (List.mem_of_getElem? (i := 23) rfl)
set_option maxRecDepth 100000 in
theorem cd267 : Cond.code (mY 267) (mC 267) (mL 267) (mR 267) ∈ lw_tbl := lwt7 (List.mem_of_getElem? (i := 31) rfl)
set_option maxRecDepth 100000 in
theorem cd268 : Cond.code (mY 268) (mC 268) (mL 268) (mR 268) ∈ lw_tbl := lwt7 (List.mem_of_getElem? (i := 43) rfl)
set_option maxRecDepth 100000 in
theorem cd269 : Cond.code (mY 269) (mC 269) (mL 269) (mR 269) ∈ lw_tbl := lwt7 (List.mem_of_getElem? (i := 39) rfl)
set_option maxRecDepth 100000 in
theorem cd270 : Cond.code (mY 270) (mC 270) (mL 270) (mR 270) ∈ lw_tbl := lwt7 (List.mem_of_getElem? (i := 35) rfl)
set_option maxRecDepth 100000 in
theorem cd271 : Cond.code (mY 271) (mC 271) (mL 271) (mR 271) ∈ lw_tbl := lwt7 (List.mem_of_getElem? (i := 47) rfl)
set_option maxRecDepth 100000 in
theorem cd272 : Cond.code (mY 272) (mC 272) (mL 272) (mR 272) ∈ lw_tbl := lwt1 (List.mem_of_getElem? (i := 151) rfl)
theorem ce0 : ∀ j, j < 16 → 0 + j ≠ 0 → Cond.code (mY (0 + j)) (mC (0 + j)) (mL (0 + j)) (mR (0 + j)) ∈ lw_tbl
  | 0, _, h => absurd rfl h
  | 1, _, h => cd1
  | 2, _, h => cd2
  | 3, _, h => cd3
  | 4, _, h => cd4
  | 5, _, h => cd5
  | 6, _, h => cd6
  | 7, _, h => cd7
  | 8, _, h => cd8
  | 9, _, h => cd9
  | 10, _, h => cd10
  | 11, _, h => cd11
  | 12, _, h => cd12
  | 13, _, h => cd13
  | 14, _, h => cd14
  | 15, _, h => cd15
  | n + 16, h, _ => absurd h (by omega)
theorem ce1 : ∀ j, j < 16 → 16 + j ≠ 0 → Cond.code (mY (16 + j)) (mC (16 + j)) (mL (16 + j)) (mR (16 + j)) ∈ lw_tbl
  | 0, _, h => cd16
  | 1, _, h => cd17
  | 2, _, h => cd18
  | 3, _, h => cd19
  | 4, _, h => cd20
  | 5, _, h => cd21
  | 6, _, h => cd22
  | 7, _, h => cd23
  | 8, _, h => cd24
  | 9, _, h => cd25
  | 10, _, h => cd26
  | 11, _, h => cd27
  | 12, _, h => cd28
  | 13, _, h => cd29
  | 14, _, h => cd30
  | 15, _, h => cd31
  | n + 16, h, _ => absurd h (by omega)
theorem ce2 : ∀ j, j < 16 → 32 + j ≠ 0 → Cond.code (mY (32 + j)) (mC (32 + j)) (mL (32 + j)) (mR (32 + j)) ∈ lw_tbl
  | 0, _, h => cd32
  | 1, _, h => cd33
  | 2, _, h => cd34
  | 3, _, h => cd35
  | 4, _, h => cd36
  | 5, _, h => cd37
  | 6, _, h => cd38
  | 7, _, h => cd39
  | 8, _, h => cd40
  | 9, _, h => cd41
  | 10, _, h => cd42
  | 11, _, h => cd43
  | 12, _, h => cd44
  | 13, _, h => cd45
  | 14, _, h => cd46
  | 15, _, h => cd47
  | n + 16, h, _ => absurd h (by omega)
theorem ce3 : ∀ j, j < 16 → 48 + j ≠ 0 → Cond.code (mY (48 + j)) (mC (48 + j)) (mL (48 + j)) (mR (48 + j)) ∈ lw_tbl
  | 0, _, h => cd48
  | 1, _, h => cd49
  | 2, _, h => cd50
  | 3, _, h => cd51
  | 4, _, h => cd52
  | 5, _, h => cd53
  | 6, _, h => cd54
  | 7, _, h => cd55
  | 8, _, h => cd56
  | 9, _, h => cd57
  | 10, _, h => cd58
  | 11, _, h => cd59
  | 12, _, h => cd60
  | 13, _, h => cd61
  | 14, _, h => cd62
  | 15, _, h => cd63
  | n + 16, h, _ => absurd h (by omega)
theorem ce4 : ∀ j, j < 16 → 64 + j ≠ 0 → Cond.code (mY (64 + j)) (mC (64 + j)) (mL (64 + j)) (mR (64 + j)) ∈ lw_tbl
  | 0, _, h => cd64
  | 1, _, h => cd65
  | 2, _, h => cd66
  | 3, _, h => cd67
  | 4, _, h => cd68
  | 5, _, h => cd69
  | 6, _, h => cd70
  | 7, _, h => cd71
  | 8, _, h => cd72
  | 9, _, h => cd73
  | 10, _, h => cd74
  | 11, _, h => cd75
  | 12, _, h => cd76
  | 13, _, h => cd77
  | 14, _, h => cd78
  | 15, _, h => cd79
  | n + 16, h, _ => absurd h (by omega)
theorem ce5 : ∀ j, j < 16 → 80 + j ≠ 0 → Cond.code (mY (80 + j)) (mC (80 + j)) (mL (80 + j)) (mR (80 + j)) ∈ lw_tbl
  | 0, _, h => cd80
  | 1, _, h => cd81
  | 2, _, h => cd82
  | 3, _, h => cd83
  | 4, _, h => cd84
  | 5, _, h => cd85
  | 6, _, h => cd86
  | 7, _, h => cd87
  | 8, _, h => cd88
  | 9, _, h => cd89
  | 10, _, h => cd90
  | 11, _, h => cd91
  | 12, _, h => cd92
  | 13, _, h => cd93
  | 14, _, h => cd94
  | 15, _, h => cd95
  | n + 16, h, _ => absurd h (by omega)
theorem ce6 : ∀ j, j < 16 → 96 + j ≠ 0 → Cond.code (mY (96 + j)) (mC (96 + j)) (mL (96 + j)) (mR (96 + j)) ∈ lw_tbl
  | 0, _, h => cd96
  | 1, _, h => cd97
  | 2, _, h => cd98
  | 3, _, h => cd99
  | 4, _, h => cd100
  | 5, _, h => cd101
  | 6, _, h => cd102
  | 7, _, h => cd103
  | 8, _, h => cd104
  | 9, _, h => cd105
  | 10, _, h => cd106
  | 11, _, h => cd107
  | 12, _, h => cd108
  | 13, _, h => cd109
  | 14, _, h => cd110
  | 15, _, h => cd111
  | n + 16, h, _ => absurd h (by omega)
theorem ce7 : ∀ j, j < 16 → 112 + j ≠ 0 → Cond.code (mY (112 + j)) (mC (112 + j)) (mL (112 + j)) (mR (112 + j)) ∈ lw_tbl
  | 0, _, h => cd112
  | 1, _, h => cd113
  | 2, _, h => cd114
  | 3, _, h => cd115
  | 4, _, h => cd116
  | 5, _, h => cd117
  | 6, _, h => cd118
  | 7, _, h => cd119
  | 8, _, h => cd120
  | 9, _, h => cd121
  | 10, _, h => cd122
  | 11, _, h => cd123
  | 12, _, h => cd124
  | 13, _, h => cd125
  | 14, _, h => cd126
  | 15, _, h => cd127
  | n + 16, h, _ => absurd h (by omega)
theorem ce8 : ∀ j, j < 16 → 128 + j ≠ 0 → Cond.code (mY (128 + j)) (mC (128 + j)) (mL (128 + j)) (mR (128 + j)) ∈ lw_tbl
  | 0, _, h => cd128
  | 1, _, h => cd129
  | 2, _, h => cd130
  | 3, _, h => cd131
  | 4, _, h => cd132
  | 5, _, h => cd133
  | 6, _, h => cd134
  | 7, _, h => cd135
  | 8, _, h => cd136
  | 9, _, h => cd137
  | 10, _, h => cd138
  | 11, _, h => cd139
  | 12, _, h => cd140
  | 13, _, h => cd141
  | 14, _, h => cd142
  | 15, _, h => cd143
  | n + 16, h, _ => absurd h (by omega)
theorem ce9 : ∀ j, j < 16 → 144 + j ≠ 0 → Cond.code (mY (144 + j)) (mC (144 + j)) (mL (144 + j)) (mR (144 + j)) ∈ lw_tbl
  | 0, _, h => cd144
  | 1, _, h => cd145
  | 2, _, h => cd146
  | 3, _, h => cd147
  | 4, _, h => cd148
  | 5, _, h => cd149
  | 6, _, h => cd150
  | 7, _, h => cd151
  | 8, _, h => cd152
  | 9, _, h => cd153
  | 10, _, h => cd154
  | 11, _, h => cd155
  | 12, _, h => cd156
  | 13, _, h => cd157
  | 14, _, h => cd158
  | 15, _, h => cd159
  | n + 16, h, _ => absurd h (by omega)
theorem ce10 : ∀ j, j < 16 → 160 + j ≠ 0 → Cond.code (mY (160 + j)) (mC (160 + j)) (mL (160 + j)) (mR (160 + j)) ∈ lw_tbl
  | 0, _, h => cd160
  | 1, _, h => cd161
  | 2, _, h => cd162
  | 3, _, h => cd163
  | 4, _, h => cd164
  | 5, _, h => cd165
  | 6, _, h => cd166
  | 7, _, h => cd167
  | 8, _, h => cd168
  | 9, _, h => cd169
  | 10, _, h => cd170
  | 11, _, h => cd171
  | 12, _, h => cd172
  | 13, _, h => cd173
  | 14, _, h => cd174
  | 15, _, h => cd175
  | n + 16, h, _ => absurd h (by omega)
theorem ce11 : ∀ j, j < 16 → 176 + j ≠ 0 → Cond.code (mY (176 + j)) (mC (176 + j)) (mL (176 + j)) (mR (176 + j)) ∈ lw_tbl
  | 0, _, h => cd176
  | 1, _, h => cd177
  | 2, _, h => cd178
  | 3, _, h => cd179
  | 4, _, h => cd180
  | 5, _, h => cd181
  | 6, _, h => cd182
  | 7, _, h => cd183
  | 8, _, h => cd184
  | 9, _, h => cd185
  | 10, _, h => cd186
  | 11, _, h => cd187
  | 12, _, h => cd188
  | 13, _, h => cd189
  | 14, _, h => cd190
  | 15, _, h => cd191
  | n + 16, h, _ => absurd h (by omega)
theorem ce12 : ∀ j, j < 16 → 192 + j ≠ 0 → Cond.code (mY (192 + j)) (mC (192 + j)) (mL (192 + j)) (mR (192 + j)) ∈ lw_tbl
  | 0, _, h => cd192
  | 1, _, h => cd193
  | 2, _, h => cd194
  | 3, _, h => cd195
  | 4, _, h => cd196
  | 5, _, h => cd197
  | 6, _, h => cd198
  | 7, _, h => cd199
  | 8, _, h => cd200
  | 9, _, h => cd201
  | 10, _, h => cd202
  | 11, _, h => cd203
  | 12, _, h => cd204
  | 13, _, h => cd205
  | 14, _, h => cd206
  | 15, _, h => cd207
  | n + 16, h, _ => absurd h (by omega)
theorem ce13 : ∀ j, j < 16 → 208 + j ≠ 0 → Cond.code (mY (208 + j)) (mC (208 + j)) (mL (208 + j)) (mR (208 + j)) ∈ lw_tbl
  | 0, _, h => cd208
  | 1, _, h => cd209
  | 2, _, h => cd210
  | 3, _, h => cd211
  | 4, _, h => cd212
  | 5, _, h => cd213
  | 6, _, h => cd214
  | 7, _, h => cd215
  | 8, _, h => cd216
  | 9, _, h => cd217
  | 10, _, h => cd218
  | 11, _, h => cd219
  | 12, _, h => cd220
  | 13, _, h => cd221
  | 14, _, h => cd222
  | 15, _, h => cd223
  | n + 16, h, _ => absurd h (by omega)
theorem ce14 : ∀ j, j < 16 → 224 + j ≠ 0 → Cond.code (mY (224 + j)) (mC (224 + j)) (mL (224 + j)) (mR (224 + j)) ∈ lw_tbl
  | 0, _, h => cd224
  | 1, _, h => cd225
  | 2, _, h => cd226
  | 3, _, h => cd227
  | 4, _, h => cd228
  | 5, _, h => cd229
  | 6, _, h => cd230
  | 7, _, h => cd231
  | 8, _, h => cd232
  | 9, _, h => cd233
  | 10, _, h => cd234
  | 11, _, h => cd235
  | 12, _, h => cd236
  | 13, _, h => cd237
  | 14, _, h => cd238
  | 15, _, h => cd239
  | n + 16, h, _ => absurd h (by omega)
theorem ce15 : ∀ j, j < 16 → 240 + j ≠ 0 → Cond.code (mY (240 + j)) (mC (240 + j)) (mL (240 + j)) (mR (240 + j)) ∈ lw_tbl
  | 0, _, h => cd240
  | 1, _, h => cd241
  | 2, _, h => cd242
  | 3, _, h => cd243
  | 4, _, h => cd244
  | 5, _, h => cd245
  | 6, _, h => cd246
  | 7, _, h => cd247
  | 8, _, h => cd248
  | 9, _, h => cd249
  | 10, _, h => cd250
  | 11, _, h => cd251
  | 12, _, h => cd252
  | 13, _, h => cd253
  | 14, _, h => cd254
  | 15, _, h => cd255
  | n + 16, h, _ => absurd h (by omega)
theorem ce16 : ∀ j, j < 16 → 256 + j ≠ 0 → Cond.code (mY (256 + j)) (mC (256 + j)) (mL (256 + j)) (mR (256 + j)) ∈ lw_tbl
  | 0, _, h => cd256
  | 1, _, h => cd257
  | 2, _, h => cd258
  | 3, _, h => cd259
  | 4, _, h => cd260
  | 5, _, h => cd261
  | 6, _, h => cd262
  | 7, _, h => cd263
  | 8, _, h => cd264
  | 9, _, h => cd265
  | 10, _, h => cd266
  | 11, _, h => cd267
  | 12, _, h => cd268
  | 13, _, h => cd269
  | 14, _, h => cd270
  | 15, _, h => cd271
  | n + 16, h, _ => absurd h (by omega)
theorem ce17 : ∀ j, j < 1 → 272 + j ≠ 0 → Cond.code (mY (272 + j)) (mC (272 + j)) (mL (272 + j)) (mR (272 + j)) ∈ lw_tbl
  | 0, _, h => cd272
  | n + 1, h, _ => absurd h (by omega)
theorem cd_ok {k : Nat} (h0 : k ≠ 0) (h : k < 273) : Cond.code (mY k) (mC k) (mL k) (mR k) ∈ lw_tbl := by
  by_cases h0 : k < 16
  · have := ce0 (k - 0) (by omega) (by omega)
    rwa [show 0 + (k - 0) = k by omega] at this
  by_cases h1 : k < 32
  · have := ce1 (k - 16) (by omega) (by omega)
    rwa [show 16 + (k - 16) = k by omega] at this
  by_cases h2 : k < 48
  · have := ce2 (k - 32) (by omega) (by omega)
    rwa [show 32 + (k - 32) = k by omega] at this
  by_cases h3 : k < 64
  · have := ce3 (k - 48) (by omega) (by omega)
    rwa [show 48 + (k - 48) = k by omega] at this
  by_cases h4 : k < 80
  · have := ce4 (k - 64) (by omega) (by omega)
    rwa [show 64 + (k - 64) = k by omega] at this
  by_cases h5 : k < 96
  · have := ce5 (k - 80) (by omega) (by omega)
    rwa [show 80 + (k - 80) = k by omega] at this
  by_cases h6 : k < 112
  · have := ce6 (k - 96) (by omega) (by omega)
    rwa [show 96 + (k - 96) = k by omega] at this
  by_cases h7 : k < 128
  · have := ce7 (k - 112) (by omega) (by omega)
    rwa [show 112 + (k - 112) = k by omega] at this
  by_cases h8 : k < 144
  · have := ce8 (k - 128) (by omega) (by omega)
    rwa [show 128 + (k - 128) = k by omega] at this
  by_cases h9 : k < 160
  · have := ce9 (k - 144) (by omega) (by omega)
    rwa [show 144 + (k - 144) = k by omega] at this
  by_cases h10 : k < 176
  · have := ce10 (k - 160) (by omega) (by omega)
    rwa [show 160 + (k - 160) = k by omega] at this
  by_cases h11 : k < 192
  · have := ce11 (k - 176) (by omega) (by omega)
    rwa [show 176 + (k - 176) = k by omega] at this
  by_cases h12 : k < 208
  · have := ce12 (k - 192) (by omega) (by omega)
    rwa [show 192 + (k - 192) = k by omega] at this
  by_cases h13 : k < 224
  · have := ce13 (k - 208) (by omega) (by omega)
    rwa [show 208 + (k - 208) = k by omega] at this
  by_cases h14 : k < 240
  · have := ce14 (k - 224) (by omega) (by omega)
    rwa [show 224 + (k - 224) = k by omega] at this
  by_cases h15 : k < 256
  · have := ce15 (k - 240) (by omega) (by omega)
    rwa [show 240 + (k - 240) = k by omega] at this
  by_cases h16 : k < 272
  · have := ce16 (k - 256) (by omega) (by omega)
    rwa [show 256 + (k - 256) = k by omega] at this
  have := ce17 (k - 272) (by omega) (by omega)
  rwa [show 272 + (k - 272) = k by omega] at this
end
section
set_option maxRecDepth 1000000 in
theorem ct1 : chT 1 = true := by decide +kernel
set_option maxRecDepth 1000000 in
theorem ct2 : chT 2 = true := by decide +kernel
set_option maxRecDepth 1000000 in
theorem ct3 : chT 3 = true := by decide +kernel
set_option maxRecDepth 1000000 in
theorem ct4 : chT 4 = true := by decide +kernel
set_option maxRecDepth 1000000 in
theorem ct5 : chT 5 = true := by decide +kernel
set_option maxRecDepth 1000000 in
theorem ct6 : chT 6 = true := by decide +kernel
set_option maxRecDepth 1000000 in
theorem ct7 : chT 7 = true := by decide +kernel
set_option maxRecDepth 1000000 in
theorem ct8 : chT 8 = true := by decide +kernel
set_option maxRecDepth 1000000 in
theorem ct9 : chT 9 = true := by decide +kernel
set_option maxRecDepth 1000000 in
theorem ct10 : chT 10 = true := by decide +kernel
set_option maxRecDepth 1000000 in
theorem ct11 : chT 11 = true := by decide +kernel
set_option maxRecDepth 1000000 in
theorem ct12 : chT 12 = true := by decide +kernel
set_option maxRecDepth 1000000 in
theorem ct13 : chT 13 = true := by decide +kernel
set_option maxRecDepth 1000000 in
theorem ct14 : chT 14 = true := by decide +kernel
set_option maxRecDepth 1000000 in
theorem ct15 : chT 15 = true := by decide +kernel
set_option maxRecDepth 1000000 in
theorem ct16 : chT 16 = true := by decide +kernel
set_option maxRecDepth 1000000 in
theorem ct17 : chT 17 = true := by decide +kernel
set_option maxRecDepth 1000000 in
theorem ct18 : chT 18 = true := by decide +kernel
set_option maxRecDepth 1000000 in
theorem ct19 : chT 19 = true := by decide +kernel
set_option maxRecDepth 1000000 in
theorem ct20 : chT 20 = true := by decide +kernel
set_option maxRecDepth 1000000 in
theorem ct21 : chT 21 = true := by decide +kernel
set_option maxRecDepth 1000000 in
theorem ct22 : chT 22 = true := by decide +kernel
set_option maxRecDepth 1000000 in
theorem ct23 : chT 23 = true := by decide +kernel
set_option maxRecDepth 1000000 in
theorem ct24 : chT 24 = true := by decide +kernel
set_option maxRecDepth 1000000 in
theorem ct25 : chT 25 = true := by decide +kernel
set_option maxRecDepth 1000000 in
theorem ct26 : chT 26 = true := by decide +kernel
set_option maxRecDepth 1000000 in
theorem ct27 : chT 27 = true := by decide +kernel
set_option maxRecDepth 1000000 in
theorem ct28 : chT 28 = true := by decide +kernel
set_option maxRecDepth 1000000 in
theorem ct29 : chT 29 = true := by decide +kernel
set_option maxRecDepth 1000000 in
theorem ct30 : chT 30 = true := by decide +kernel
set_option maxRecDepth 1000000 in
theorem ct31 : chT 31 = true := by decide +kernel
set_option maxRecDepth 1000000 in
theorem ct32 : chT 32 = true := by decide +kernel
set_option maxRecDepth 1000000 in
theorem ct33 : chT 33 = true := by decide +kernel
set_option maxRecDepth 1000000 in
theorem ct34 : chT 34 = true := by decide +kernel
set_option maxRecDepth 1000000 in
theorem ct35 : chT 35 = true := by decide +kernel
set_option maxRecDepth 1000000 in
theorem ct36 : chT 36 = true := by decide +kernel
set_option maxRecDepth 1000000 in
theorem ct37 : chT 37 = true := by decide +kernel
set_option maxRecDepth 1000000 in
theorem ct38 : chT 38 = true := by decide +kernel
set_option maxRecDepth 1000000 in
theorem ct39 : chT 39 = true := by decide +kernel
set_option maxRecDepth 1000000 in
theorem ct40 : chT 40 = true := by decide +kernel
set_option maxRecDepth 1000000 in
theorem ct41 : chT 41 = true := by decide +kernel
set_option maxRecDepth 1000000 in
theorem ct42 : chT 42 = true := by decide +kernel
set_option maxRecDepth 1000000 in
theorem ct43 : chT 43 = true := by decide +kernel
set_option maxRecDepth 1000000 in
theorem ct44 : chT 44 = true := by decide +kernel
set_option maxRecDepth 1000000 in
theorem ct45 : chT 45 = true := by decide +kernel
set_option maxRecDepth 1000000 in
theorem ct46 : chT 46 = true := by decide +kernel
set_option maxRecDepth 1000000 in
theorem ct47 : chT 47 = true := by decide +kernel
set_option maxRecDepth 1000000 in
theorem ct48 : chT 48 = true := by decide +kernel
set_option maxRecDepth 1000000 in
theorem ct49 : chT 49 = true := by decide +kernel
set_option maxRecDepth 1000000 in
theorem ct50 : chT 50 = true := by decide +kernel
set_option maxRecDepth 1000000 in
theorem ct51 : chT 51 = true := by decide +kernel
set_option maxRecDepth 1000000 in
theorem ct52 : chT 52 = true := by decide +kernel
set_option maxRecDepth 1000000 in
theorem ct53 : chT 53 = true := by decide +kernel
set_option maxRecDepth 1000000 in
theorem ct54 : chT 54 = true := by decide +kernel
set_option maxRecDepth 1000000 in
theorem ct55 : chT 55 = true := by decide +kernel
set_option maxRecDepth 1000000 in
theorem ct56 : chT 56 = true := by decide +kernel
set_option maxRecDepth 1000000 in
theorem ct57 : chT 57 = true := by decide +kernel
set_option maxRecDepth 1000000 in
theorem ct58 : chT 58 = true := by decide +kernel
set_option maxRecDepth 1000000 in
theorem ct59 : chT 59 = true := by decide +kernel
set_option maxRecDepth 1000000 in
theorem ct60 : chT 60 = true := by decide +kernel
set_option maxRecDepth 1000000 in
theorem ct61 : chT 61 = true := by decide +kernel
set_option maxRecDepth 1000000 in
theorem ct62 : chT 62 = true := by decide +kernel
set_option maxRecDepth 1000000 in
theorem ct63 : chT 63 = true := by decide +kernel
set_option maxRecDepth 1000000 in
theorem ct64 : chT 64 = true := by decide +kernel
set_option maxRecDepth 1000000 in
theorem ct65 : chT 65 = true := by decide +kernel
set_option maxRecDepth 1000000 in
theorem ct66 : chT 66 = true := by decide +kernel
set_option maxRecDepth 1000000 in
theorem ct67 : chT 67 = true := by decide +kernel
set_option maxRecDepth 1000000 in
theorem ct68 : chT 68 = true := by decide +kernel
set_option maxRecDepth 1000000 in
theorem ct69 : chT 69 = true := by decide +kernel
set_option maxRecDepth 1000000 in
theorem ct70 : chT 70 = true := by decide +kernel
set_option maxRecDepth 1000000 in
theorem ct71 : chT 71 = true := by decide +kernel
set_option maxRecDepth 1000000 in
theorem ct72 : chT 72 = true := by decide +kernel
end
section
set_option maxRecDepth 1000000 in
theorem ct73 : chT 73 = true := by decide +kernel
set_option maxRecDepth 1000000 in
theorem ct74 : chT 74 = true := by decide +kernel
set_option maxRecDepth 1000000 in
theorem ct75 : chT 75 = true := by decide +kernel
set_option maxRecDepth 1000000 in
theorem ct76 : chT 76 = true := by decide +kernel
set_option maxRecDepth 1000000 in
theorem ct77 : chT 77 = true := by decide +kernel
set_option maxRecDepth 1000000 in
theorem ct78 : chT 78 = true := by decide +kernel
set_option maxRecDepth 1000000 in
theorem ct79 : chT 79 = true := by decide +kernel
set_option maxRecDepth 1000000 in
theorem ct80 : chT 80 = true := by decide +kernel
set_option maxRecDepth 1000000 in
theorem ct81 : chT 81 = true := by decide +kernel
set_option maxRecDepth 1000000 in
theorem ct82 : chT 82 = true := by decide +kernel
set_option maxRecDepth 1000000 in
theorem ct83 : chT 83 = true := by decide +kernel
set_option maxRecDepth 1000000 in
theorem ct84 : chT 84 = true := by decide +kernel
set_option maxRecDepth 1000000 in
theorem ct85 : chT 85 = true := by decide +kernel
set_option maxRecDepth 1000000 in
theorem ct86 : chT 86 = true := by decide +kernel
set_option maxRecDepth 1000000 in
theorem ct87 : chT 87 = true := by decide +kernel
set_option maxRecDepth 1000000 in
theorem ct88 : chT 88 = true := by decide +kernel
set_option maxRecDepth 1000000 in
theorem ct89 : chT 89 = true := by decide +kernel
set_option maxRecDepth 1000000 in
theorem ct90 : chT 90 = true := by decide +kernel
set_option maxRecDepth 1000000 in
theorem ct91 : chT 91 = true := by decide +kernel
set_option maxRecDepth 1000000 in
theorem ct92 : chT 92 = true := by decide +kernel
set_option maxRecDepth 1000000 in
theorem ct93 : chT 93 = true := by decide +kernel
set_option maxRecDepth 1000000 in
theorem ct94 : chT 94 = true := by decide +kernel
set_option maxRecDepth 1000000 in
theorem ct95 : chT 95 = true := by decide +kernel
set_option maxRecDepth 1000000 in
theorem ct96 : chT 96 = true := by decide +kernel
set_option maxRecDepth 1000000 in
theorem ct97 : chT 97 = true := by decide +kernel
set_option maxRecDepth 1000000 in
theorem ct98 : chT 98 = true := by decide +kernel
set_option maxRecDepth 1000000 in
theorem ct99 : chT 99 = true := by decide +kernel
set_option maxRecDepth 1000000 in
theorem ct100 : chT 100 = true := by decide +kernel
set_option maxRecDepth 1000000 in
theorem ct101 : chT 101 = true := by decide +kernel
set_option maxRecDepth 1000000 in
theorem ct102 : chT 102 = true := by decide +kernel
set_option maxRecDepth 1000000 in
theorem ct103 : chT 103 = true := by decide +kernel
set_option maxRecDepth 1000000 in
theorem ct104 : chT 104 = true := by decide +kernel
set_option maxRecDepth 1000000 in
theorem ct105 : chT 105 = true := by decide +kernel
set_option maxRecDepth 1000000 in
theorem ct106 : chT 106 = true := by decide +kernel
set_option maxRecDepth 1000000 in
theorem ct107 : chT 107 = true := by decide +kernel
set_option maxRecDepth 1000000 in
theorem ct108 : chT 108 = true := by decide +kernel
set_option maxRecDepth 1000000 in
theorem ct109 : chT 109 = true := by decide +kernel
set_option maxRecDepth 1000000 in
theorem ct110 : chT 110 = true := by decide +kernel
set_option maxRecDepth 1000000 in
theorem ct111 : chT 111 = true := by decide +kernel
set_option maxRecDepth 1000000 in
theorem ct112 : chT 112 = true := by decide +kernel
set_option maxRecDepth 1000000 in
theorem ct113 : chT 113 = true := by decide +kernel
set_option maxRecDepth 1000000 in
theorem ct114 : chT 114 = true := by decide +kernel
set_option maxRecDepth 1000000 in
theorem ct115 : chT 115 = true := by decide +kernel
set_option maxRecDepth 1000000 in
theorem ct116 : chT 116 = true := by decide +kernel
set_option maxRecDepth 1000000 in
theorem ct117 : chT 117 = true := by decide +kernel
set_option maxRecDepth 1000000 in
theorem ct118 : chT 118 = true := by decide +kernel
set_option maxRecDepth 1000000 in
theorem ct119 : chT 119 = true := by decide +kernel
set_option maxRecDepth 1000000 in
theorem ct120 : chT 120 = true := by decide +kernel
end
section
set_option maxRecDepth 1000000 in
theorem ct121 : chT 121 = true := by decide +kernel
set_option maxRecDepth 1000000 in
theorem ct122 : chT 122 = true := by decide +kernel
set_option maxRecDepth 1000000 in
theorem ct123 : chT 123 = true := by decide +kernel
set_option maxRecDepth 1000000 in
theorem ct124 : chT 124 = true := by decide +kernel
set_option maxRecDepth 1000000 in
theorem ct125 : chT 125 = true := by decide +kernel
set_option maxRecDepth 1000000 in
theorem ct126 : chT 126 = true := by decide +kernel
set_option maxRecDepth 1000000 in
theorem ct127 : chT 127 = true := by decide +kernel
set_option maxRecDepth 1000000 in
theorem ct128 : chT 128 = true := by decide +kernel
set_option maxRecDepth 1000000 in
theorem ct129 : chT 129 = true := by decide +kernel
set_option maxRecDepth 1000000 in
theorem ct130 : chT 130 = true := by decide +kernel
set_option maxRecDepth 1000000 in
theorem ct131 : chT 131 = true := by decide +kernel
set_option maxRecDepth 1000000 in
theorem ct132 : chT 132 = true := by decide +kernel
set_option maxRecDepth 1000000 in
theorem ct133 : chT 133 = true := by decide +kernel
set_option maxRecDepth 1000000 in
theorem ct134 : chT 134 = true := by decide +kernel
set_option maxRecDepth 1000000 in
theorem ct135 : chT 135 = true := by decide +kernel
set_option maxRecDepth 1000000 in
theorem ct136 : chT 136 = true := by decide +kernel
set_option maxRecDepth 1000000 in
theorem ct137 : chT 137 = true := by decide +kernel
set_option maxRecDepth 1000000 in
theorem ct138 : chT 138 = true := by decide +kernel
set_option maxRecDepth 1000000 in
theorem ct139 : chT 139 = true := by decide +kernel
set_option maxRecDepth 1000000 in
theorem ct140 : chT 140 = true := by decide +kernel
set_option maxRecDepth 1000000 in
theorem ct141 : chT 141 = true := by decide +kernel
set_option maxRecDepth 1000000 in
theorem ct142 : chT 142 = true := by decide +kernel
set_option maxRecDepth 1000000 in
theorem ct143 : chT 143 = true := by decide +kernel
set_option maxRecDepth 1000000 in
theorem ct144 : chT 144 = true := by decide +kernel
set_option maxRecDepth 1000000 in
theorem ct145 : chT 145 = true := by decide +kernel
set_option maxRecDepth 1000000 in
theorem ct146 : chT 146 = true := by decide +kernel
set_option maxRecDepth 1000000 in
theorem ct147 : chT 147 = true := by decide +kernel
set_option maxRecDepth 1000000 in
theorem ct148 : chT 148 = true := by decide +kernel
set_option maxRecDepth 1000000 in
theorem ct149 : chT 149 = true := by decide +kernel
set_option maxRecDepth 1000000 in
theorem ct150 : chT 150 = true := by decide +kernel
set_option maxRecDepth 1000000 in
theorem ct151 : chT 151 = true := by decide +kernel
set_option maxRecDepth 1000000 in
theorem ct152 : chT 152 = true := by decide +kernel
set_option maxRecDepth 1000000 in
theorem ct153 : chT 153 = true := by decide +kernel
set_option maxRecDepth 1000000 in
theorem ct154 : chT 154 = true := by decide +kernel
set_option maxRecDepth 1000000 in
theorem ct155 : chT 155 = true := by decide +kernel
set_option maxRecDepth 1000000 in
theorem ct156 : chT 156 = true := by decide +kernel
set_option maxRecDepth 1000000 in
theorem ct157 : chT 157 = true := by decide +kernel
set_option maxRecDepth 1000000 in
theorem ct158 : chT 158 = true := by decide +kernel
set_option maxRecDepth 1000000 in
theorem ct159 : chT 159 = true := by decide +kernel
set_option maxRecDepth 1000000 in
theorem ct160 : chT 160 = true := by decide +kernel
set_option maxRecDepth 1000000 in
theorem ct161 : chT 161 = true := by decide +kernel
set_option maxRecDepth 1000000 in
theorem ct162 : chT 162 = true := by decide +kernel
set_option maxRecDepth 1000000 in
theorem ct163 : chT 163 = true := by decide +kernel
set_option maxRecDepth 1000000 in
theorem ct164 : chT 164 = true := by decide +kernel
set_option maxRecDepth 1000000 in
theorem ct165 : chT 165 = true := by decide +kernel
set_option maxRecDepth 1000000 in
theorem ct166 : chT 166 = true := by decide +kernel
set_option maxRecDepth 1000000 in
theorem ct167 : chT 167 = true := by decide +kernel
set_option maxRecDepth 1000000 in
theorem ct168 : chT 168 = true := by decide +kernel
set_option maxRecDepth 1000000 in
theorem ct169 : chT 169 = true := by decide +kernel
set_option maxRecDepth 1000000 in
theorem ct170 : chT 170 = true := by decide +kernel
set_option maxRecDepth 1000000 in
theorem ct171 : chT 171 = true := by decide +kernel
set_option maxRecDepth 1000000 in
theorem ct172 : chT 172 = true := by decide +kernel
set_option maxRecDepth 1000000 in
theorem ct173 : chT 173 = true := by decide +kernel
set_option maxRecDepth 1000000 in
theorem ct174 : chT 174 = true := by decide +kernel
set_option maxRecDepth 1000000 in
theorem ct175 : chT 175 = true := by decide +kernel
set_option maxRecDepth 1000000 in
theorem ct176 : chT 176 = true := by decide +kernel
set_option maxRecDepth 1000000 in
theorem ct177 : chT 177 = true := by decide +kernel
set_option maxRecDepth 1000000 in
theorem ct178 : chT 178 = true := by decide +kernel
set_option maxRecDepth 1000000 in
theorem ct179 : chT 179 = true := by decide +kernel
set_option maxRecDepth 1000000 in
theorem ct180 : chT 180 = true := by decide +kernel
set_option maxRecDepth 1000000 in
theorem ct181 : chT 181 = true := by decide +kernel
set_option maxRecDepth 1000000 in
theorem ct182 : chT 182 = true := by decide +kernel
set_option maxRecDepth 1000000 in
theorem ct183 : chT 183 = true := by decide +kernel
set_option maxRecDepth 1000000 in
theorem ct184 : chT 184 = true := by decide +kernel
set_option maxRecDepth 1000000 in
theorem ct185 : chT 185 = true := by decide +kernel
set_option maxRecDepth 1000000 in
theorem ct186 : chT 186 = true := by decide +kernel
end
section
set_option maxRecDepth 1000000 in
theorem ct187 : chT 187 = true := by decide +kernel
set_option maxRecDepth 1000000 in
theorem ct188 : chT 188 = true := by decide +kernel
set_option maxRecDepth 1000000 in
theorem ct189 : chT 189 = true := by decide +kernel
set_option maxRecDepth 1000000 in
theorem ct190 : chT 190 = true := by decide +kernel
set_option maxRecDepth 1000000 in
theorem ct191 : chT 191 = true := by decide +kernel
set_option maxRecDepth 1000000 in
theorem ct192 : chT 192 = true := by decide +kernel
set_option maxRecDepth 1000000 in
theorem ct193 : chT 193 = true := by decide +kernel
set_option maxRecDepth 1000000 in
theorem ct194 : chT 194 = true := by decide +kernel
set_option maxRecDepth 1000000 in
theorem ct195 : chT 195 = true := by decide +kernel
set_option maxRecDepth 1000000 in
theorem ct196 : chT 196 = true := by decide +kernel
set_option maxRecDepth 1000000 in
theorem ct197 : chT 197 = true := by decide +kernel
set_option maxRecDepth 1000000 in
theorem ct198 : chT 198 = true := by decide +kernel
set_option maxRecDepth 1000000 in
theorem ct199 : chT 199 = true := by decide +kernel
set_option maxRecDepth 1000000 in
theorem ct200 : chT 200 = true := by decide +kernel
set_option maxRecDepth 1000000 in
theorem ct201 : chT 201 = true := by decide +kernel
set_option maxRecDepth 1000000 in
theorem ct202 : chT 202 = true := by decide +kernel
set_option maxRecDepth 1000000 in
theorem ct203 : chT 203 = true := by decide +kernel
set_option maxRecDepth 1000000 in
theorem ct204 : chT 204 = true := by decide +kernel
set_option maxRecDepth 1000000 in
theorem ct205 : chT 205 = true := by decide +kernel
set_option maxRecDepth 1000000 in
theorem ct206 : chT 206 = true := by decide +kernel
set_option maxRecDepth 1000000 in
theorem ct207 : chT 207 = true := by decide +kernel
set_option maxRecDepth 1000000 in
theorem ct208 : chT 208 = true := by decide +kernel
set_option maxRecDepth 1000000 in
theorem ct209 : chT 209 = true := by decide +kernel
set_option maxRecDepth 1000000 in
theorem ct210 : chT 210 = true := by decide +kernel
set_option maxRecDepth 1000000 in
theorem ct211 : chT 211 = true := by decide +kernel
set_option maxRecDepth 1000000 in
theorem ct212 : chT 212 = true := by decide +kernel
set_option maxRecDepth 1000000 in
theorem ct213 : chT 213 = true := by decide +kernel
set_option maxRecDepth 1000000 in
theorem ct214 : chT 214 = true := by decide +kernel
set_option maxRecDepth 1000000 in
theorem ct215 : chT 215 = true := by decide +kernel
set_option maxRecDepth 1000000 in
theorem ct216 : chT 216 = true := by decide +kernel
set_option maxRecDepth 1000000 in
theorem ct217 : chT 217 = true := by decide +kernel
set_option maxRecDepth 1000000 in
theorem ct218 : chT 218 = true := by decide +kernel
set_option maxRecDepth 1000000 in
theorem ct219 : chT 219 = true := by decide +kernel
set_option maxRecDepth 1000000 in
theorem ct220 : chT 220 = true := by decide +kernel
set_option maxRecDepth 1000000 in
theorem ct221 : chT 221 = true := by decide +kernel
set_option maxRecDepth 1000000 in
theorem ct222 : chT 222 = true := by decide +kernel
set_option maxRecDepth 1000000 in
theorem ct223 : chT 223 = true := by decide +kernel
set_option maxRecDepth 1000000 in
theorem ct224 : chT 224 = true := by decide +kernel
set_option maxRecDepth 1000000 in
theorem ct225 : chT 225 = true := by decide +kernel
end
section
set_option maxRecDepth 1000000 in
theorem ct226 : chT 226 = true := by decide +kernel
set_option maxRecDepth 1000000 in
theorem ct227 : chT 227 = true := by decide +kernel
set_option maxRecDepth 1000000 in
theorem ct228 : chT 228 = true := by decide +kernel
set_option maxRecDepth 1000000 in
theorem ct229 : chT 229 = true := by decide +kernel
set_option maxRecDepth 1000000 in
theorem ct230 : chT 230 = true := by decide +kernel
set_option maxRecDepth 1000000 in
theorem ct231 : chT 231 = true := by decide +kernel
set_option maxRecDepth 1000000 in
theorem ct232 : chT 232 = true := by decide +kernel
set_option maxRecDepth 1000000 in
theorem ct233 : chT 233 = true := by decide +kernel
set_option maxRecDepth 1000000 in
theorem ct234 : chT 234 = true := by decide +kernel
set_option maxRecDepth 1000000 in
theorem ct235 : chT 235 = true := by decide +kernel
set_option maxRecDepth 1000000 in
theorem ct236 : chT 236 = true := by decide +kernel
set_option maxRecDepth 1000000 in
theorem ct237 : chT 237 = true := by decide +kernel
set_option maxRecDepth 1000000 in
theorem ct238 : chT 238 = true := by decide +kernel
set_option maxRecDepth 1000000 in
theorem ct239 : chT 239 = true := by decide +kernel
set_option maxRecDepth 1000000 in
theorem ct240 : chT 240 = true := by decide +kernel
set_option maxRecDepth 1000000 in
theorem ct241 : chT 241 = true := by decide +kernel
set_option maxRecDepth 1000000 in
theorem ct242 : chT 242 = true := by decide +kernel
set_option maxRecDepth 1000000 in
theorem ct243 : chT 243 = true := by decide +kernel
set_option maxRecDepth 1000000 in
theorem ct244 : chT 244 = true := by decide +kernel
set_option maxRecDepth 1000000 in
theorem ct245 : chT 245 = true := by decide +kernel
set_option maxRecDepth 1000000 in
theorem ct246 : chT 246 = true := by decide +kernel
set_option maxRecDepth 1000000 in
theorem ct247 : chT 247 = true := by decide +kernel
set_option maxRecDepth 1000000 in
theorem ct248 : chT 248 = true := by decide +kernel
set_option maxRecDepth 1000000 in
theorem ct249 : chT 249 = true := by decide +kernel
set_option maxRecDepth 1000000 in
theorem ct250 : chT 250 = true := by decide +kernel
set_option maxRecDepth 1000000 in
theorem ct251 : chT 251 = true := by decide +kernel
set_option maxRecDepth 1000000 in
theorem ct252 : chT 252 = true := by decide +kernel
set_option maxRecDepth 1000000 in
theorem ct253 : chT 253 = true := by decide +kernel
set_option maxRecDepth 1000000 in
theorem ct254 : chT 254 = true := by decide +kernel
set_option maxRecDepth 1000000 in
theorem ct255 : chT 255 = true := by decide +kernel
set_option maxRecDepth 1000000 in
theorem ct256 : chT 256 = true := by decide +kernel
set_option maxRecDepth 1000000 in
theorem ct257 : chT 257 = true := by decide +kernel
set_option maxRecDepth 1000000 in
theorem ct258 : chT 258 = true := by decide +kernel
set_option maxRecDepth 1000000 in
theorem ct259 : chT 259 = true := by decide +kernel
set_option maxRecDepth 1000000 in
theorem ct260 : chT 260 = true := by decide +kernel
set_option maxRecDepth 1000000 in
theorem ct261 : chT 261 = true := by decide +kernel
set_option maxRecDepth 1000000 in
theorem ct262 : chT 262 = true := by decide +kernel
set_option maxRecDepth 1000000 in
theorem ct263 : chT 263 = true := by decide +kernel
set_option maxRecDepth 1000000 in
theorem ct264 : chT 264 = true := by decide +kernel
set_option maxRecDepth 1000000 in
theorem ct265 : chT 265 = true := by decide +kernel
set_option maxRecDepth 1000000 in
theorem ct266 : chT 266 = true := by decide +kernel
set_option maxRecDepth 1000000 in
theorem ct267 : chT 267 = true := by decide +kernel
set_option maxRecDepth 1000000 in
theorem ct268 : chT 268 = true := by decide +kernel
set_option maxRecDepth 1000000 in
theorem ct269 : chT 269 = true := by decide +kernel
set_option maxRecDepth 1000000 in
theorem ct270 : chT 270 = true := by decide +kernel
set_option maxRecDepth 1000000 in
theorem ct271 : chT 271 = true := by decide +kernel
set_option maxRecDepth 1000000 in
theorem ct272 : chT 272 = true := by decide +kernel
end
section
set_option maxRecDepth 1000000 in
theorem cl0 : tl0.all (chI 0) = true := by decide +kernel
set_option maxRecDepth 1000000 in
theorem cl1 : tl1.all (chI 0) = true := by decide +kernel
set_option maxRecDepth 1000000 in
theorem cl2 : tl2.all (chI 0) = true := by decide +kernel
set_option maxRecDepth 1000000 in
theorem cl3 : tl3.all (chI 0) = true := by decide +kernel
set_option maxRecDepth 1000000 in
theorem cl4 : tl4.all (chI 0) = true := by decide +kernel
set_option maxRecDepth 1000000 in
theorem cl5 : tl5.all (chI 0) = true := by decide +kernel
set_option maxRecDepth 1000000 in
theorem cl6 : tl6.all (chI 0) = true := by decide +kernel
set_option maxRecDepth 1000000 in
theorem cl7 : tl7.all (chI 0) = true := by decide +kernel
set_option maxRecDepth 1000000 in
theorem cl8 : tl8.all (chI 0) = true := by decide +kernel
set_option maxRecDepth 1000000 in
theorem cl9 : tl9.all (chI 0) = true := by decide +kernel
set_option maxRecDepth 1000000 in
theorem cl10 : tl10.all (chI 0) = true := by decide +kernel
set_option maxRecDepth 1000000 in
theorem cl11 : tl11.all (chI 0) = true := by decide +kernel
set_option maxRecDepth 1000000 in
theorem cl12 : tl12.all (chI 0) = true := by decide +kernel
set_option maxRecDepth 1000000 in
theorem cl13 : tl13.all (chI 0) = true := by decide +kernel
set_option maxRecDepth 1000000 in
theorem cl14 : tl14.all (chI 0) = true := by decide +kernel
set_option maxRecDepth 1000000 in
theorem cl15 : tl15.all (chI 0) = true := by decide +kernel
set_option maxRecDepth 1000000 in
theorem cl16 : tl16.all (chI 0) = true := by decide +kernel
set_option maxRecDepth 1000000 in
theorem cl17 : tl17.all (chI 0) = true := by decide +kernel
set_option maxRecDepth 1000000 in
theorem cl18 : tl18.all (chI 0) = true := by decide +kernel
end
section
set_option maxRecDepth 1000000 in
theorem cl19 : tl19.all (chI 0) = true := by decide +kernel
set_option maxRecDepth 1000000 in
theorem cl20 : tl20.all (chI 0) = true := by decide +kernel
set_option maxRecDepth 1000000 in
theorem cl21 : tl21.all (chI 0) = true := by decide +kernel
set_option maxRecDepth 1000000 in
theorem cl22 : tl22.all (chI 0) = true := by decide +kernel
set_option maxRecDepth 1000000 in
theorem cl23 : tl23.all (chI 0) = true := by decide +kernel
set_option maxRecDepth 1000000 in
theorem cl24 : tl24.all (chI 0) = true := by decide +kernel
set_option maxRecDepth 1000000 in
theorem cl25 : tl25.all (chI 0) = true := by decide +kernel
set_option maxRecDepth 1000000 in
theorem cl26 : tl26.all (chI 0) = true := by decide +kernel
set_option maxRecDepth 1000000 in
theorem cl27 : tl27.all (chI 0) = true := by decide +kernel
set_option maxRecDepth 1000000 in
theorem cl28 : tl28.all (chI 0) = true := by decide +kernel
set_option maxRecDepth 1000000 in
theorem cl29 : tl29.all (chI 0) = true := by decide +kernel
set_option maxRecDepth 1000000 in
theorem cl30 : tl30.all (chI 0) = true := by decide +kernel
set_option maxRecDepth 1000000 in
theorem cl31 : tl31.all (chI 0) = true := by decide +kernel
set_option maxRecDepth 1000000 in
theorem cl32 : tl32.all (chI 0) = true := by decide +kernel
set_option maxRecDepth 1000000 in
theorem cl33 : tl33.all (chI 0) = true := by decide +kernel
set_option maxRecDepth 1000000 in
theorem cl34 : tl34.all (chI 0) = true := by decide +kernel
set_option maxRecDepth 1000000 in
theorem cl35 : tl35.all (chI 0) = true := by decide +kernel
set_option maxRecDepth 1000000 in
theorem cl36 : tl36.all (chI 0) = true := by decide +kernel
set_option maxRecDepth 1000000 in
theorem cl37 : tl37.all (chI 0) = true := by decide +kernel
end
section
set_option maxRecDepth 1000000 in
theorem cl38 : tl38.all (chI 0) = true := by decide +kernel
set_option maxRecDepth 1000000 in
theorem cl39 : tl39.all (chI 0) = true := by decide +kernel
set_option maxRecDepth 1000000 in
theorem cl40 : tl40.all (chI 0) = true := by decide +kernel
set_option maxRecDepth 1000000 in
theorem cl41 : tl41.all (chI 0) = true := by decide +kernel
set_option maxRecDepth 1000000 in
theorem cl42 : tl42.all (chI 0) = true := by decide +kernel
set_option maxRecDepth 1000000 in
theorem cl43 : tl43.all (chI 0) = true := by decide +kernel
set_option maxRecDepth 1000000 in
theorem cl44 : tl44.all (chI 0) = true := by decide +kernel
set_option maxRecDepth 1000000 in
theorem cl45 : tl45.all (chI 0) = true := by decide +kernel
set_option maxRecDepth 1000000 in
theorem cl46 : tl46.all (chI 0) = true := by decide +kernel
set_option maxRecDepth 1000000 in
theorem cl47 : tl47.all (chI 0) = true := by decide +kernel
set_option maxRecDepth 1000000 in
theorem cl48 : tl48.all (chI 0) = true := by decide +kernel
set_option maxRecDepth 1000000 in
theorem cl49 : tl49.all (chI 0) = true := by decide +kernel
set_option maxRecDepth 1000000 in
theorem cl50 : tl50.all (chI 0) = true := by decide +kernel
set_option maxRecDepth 1000000 in
theorem cl51 : tl51.all (chI 0) = true := by decide +kernel
set_option maxRecDepth 1000000 in
theorem cl52 : tl52.all (chI 0) = true := by decide +kernel
set_option maxRecDepth 1000000 in
theorem cl53 : tl53.all (chI 0) = true := by decide +kernel
set_option maxRecDepth 1000000 in
theorem cl54 : tl54.all (chI 0) = true := by decide +kernel
set_option maxRecDepth 1000000 in
theorem cl55 : tl55.all (chI 0) = true := by decide +kernel
set_option maxRecDepth 1000000 in
theorem cl56 : tl56.all (chI 0) = true := by decide +kernel
end
section
set_option maxRecDepth 100000 in
theorem ct0 : chT 0 = true := by
  show ([tl0, tl1, tl2, tl3, tl4, tl5, tl6, tl7, tl8, tl9, tl10, tl11, tl12, tl13, tl14, tl15, tl16, tl17, tl18, tl19, tl20, tl21, tl22, tl23, tl24, tl25, tl26, tl27, tl28, tl29, tl30, tl31, tl32, tl33, tl34, tl35, tl36, tl37, tl38, tl39, tl40, tl41, tl42, tl43, tl44, tl45, tl46, tl47, tl48, tl49, tl50, tl51, tl52, tl53, tl54, tl55, tl56] : List (List (Nat × II))).all (fun l => l.all (chI 0)) = true
  simp only [List.all_cons, List.all_nil, cl0, cl1, cl2, cl3, cl4, cl5, cl6, cl7, cl8, cl9, cl10, cl11, cl12, cl13, cl14, cl15, cl16, cl17, cl18, cl19, cl20, cl21, cl22, cl23, cl24, cl25, cl26, cl27, cl28, cl29, cl30, cl31, cl32, cl33, cl34, cl35, cl36, cl37, cl38, cl39, cl40, cl41, cl42, cl43, cl44, cl45, cl46, cl47, cl48, cl49, cl50, cl51, cl52, cl53, cl54, cl55, cl56, Bool.and_self]
theorem cb0 : ∀ j, j < 16 → chT (0 + j) = true
  | 0, _ => ct0
  | 1, _ => ct1
  | 2, _ => ct2
  | 3, _ => ct3
  | 4, _ => ct4
  | 5, _ => ct5
  | 6, _ => ct6
  | 7, _ => ct7
  | 8, _ => ct8
  | 9, _ => ct9
  | 10, _ => ct10
  | 11, _ => ct11
  | 12, _ => ct12
  | 13, _ => ct13
  | 14, _ => ct14
  | 15, _ => ct15
  | n + 16, h => absurd h (by omega)
theorem cb1 : ∀ j, j < 16 → chT (16 + j) = true
  | 0, _ => ct16
  | 1, _ => ct17
  | 2, _ => ct18
  | 3, _ => ct19
  | 4, _ => ct20
  | 5, _ => ct21
  | 6, _ => ct22
  | 7, _ => ct23
  | 8, _ => ct24
  | 9, _ => ct25
  | 10, _ => ct26
  | 11, _ => ct27
  | 12, _ => ct28
  | 13, _ => ct29
  | 14, _ => ct30
  | 15, _ => ct31
  | n + 16, h => absurd h (by omega)
theorem cb2 : ∀ j, j < 16 → chT (32 + j) = true
  | 0, _ => ct32
  | 1, _ => ct33
  | 2, _ => ct34
  | 3, _ => ct35
  | 4, _ => ct36
  | 5, _ => ct37
  | 6, _ => ct38
  | 7, _ => ct39
  | 8, _ => ct40
  | 9, _ => ct41
  | 10, _ => ct42
  | 11, _ => ct43
  | 12, _ => ct44
  | 13, _ => ct45
  | 14, _ => ct46
  | 15, _ => ct47
  | n + 16, h => absurd h (by omega)
theorem cb3 : ∀ j, j < 16 → chT (48 + j) = true
  | 0, _ => ct48
  | 1, _ => ct49
  | 2, _ => ct50
  | 3, _ => ct51
  | 4, _ => ct52
  | 5, _ => ct53
  | 6, _ => ct54
  | 7, _ => ct55
  | 8, _ => ct56
  | 9, _ => ct57
  | 10, _ => ct58
  | 11, _ => ct59
  | 12, _ => ct60
  | 13, _ => ct61
  | 14, _ => ct62
  | 15, _ => ct63
  | n + 16, h => absurd h (by omega)
theorem cb4 : ∀ j, j < 16 → chT (64 + j) = true
  | 0, _ => ct64
  | 1, _ => ct65
  | 2, _ => ct66
  | 3, _ => ct67
  | 4, _ => ct68
  | 5, _ => ct69
  | 6, _ => ct70
  | 7, _ => ct71
  | 8, _ => ct72
  | 9, _ => ct73
  | 10, _ => ct74
  | 11, _ => ct75
  | 12, _ => ct76
  | 13, _ => ct77
  | 14, _ => ct78
  | 15, _ => ct79
  | n + 16, h => absurd h (by omega)
theorem cb5 : ∀ j, j < 16 → chT (80 + j) = true
  | 0, _ => ct80
  | 1, _ => ct81
  | 2, _ => ct82
  | 3, _ => ct83
  | 4, _ => ct84
  | 5, _ => ct85
  | 6, _ => ct86
  | 7, _ => ct87
  | 8, _ => ct88
  | 9, _ => ct89
  | 10, _ => ct90
  | 11, _ => ct91
  | 12, _ => ct92
  | 13, _ => ct93
  | 14, _ => ct94
  | 15, _ => ct95
  | n + 16, h => absurd h (by omega)
theorem cb6 : ∀ j, j < 16 → chT (96 + j) = true
  | 0, _ => ct96
  | 1, _ => ct97
  | 2, _ => ct98
  | 3, _ => ct99
  | 4, _ => ct100
  | 5, _ => ct101
  | 6, _ => ct102
  | 7, _ => ct103
  | 8, _ => ct104
  | 9, _ => ct105
  | 10, _ => ct106
  | 11, _ => ct107
  | 12, _ => ct108
  | 13, _ => ct109
  | 14, _ => ct110
  | 15, _ => ct111
  | n + 16, h => absurd h (by omega)
theorem cb7 : ∀ j, j < 16 → chT (112 + j) = true
  | 0, _ => ct112
  | 1, _ => ct113
  | 2, _ => ct114
  | 3, _ => ct115
  | 4, _ => ct116
  | 5, _ => ct117
  | 6, _ => ct118
  | 7, _ => ct119
  | 8, _ => ct120
  | 9, _ => ct121
  | 10, _ => ct122
  | 11, _ => ct123
  | 12, _ => ct124
  | 13, _ => ct125
  | 14, _ => ct126
  | 15, _ => ct127
  | n + 16, h => absurd h (by omega)
theorem cb8 : ∀ j, j < 16 → chT (128 + j) = true
  | 0, _ => ct128
  | 1, _ => ct129
  | 2, _ => ct130
  | 3, _ => ct131
  | 4, _ => ct132
  | 5, _ => ct133
  | 6, _ => ct134
  | 7, _ => ct135
  | 8, _ => ct136
  | 9, _ => ct137
  | 10, _ => ct138
  | 11, _ => ct139
  | 12, _ => ct140
  | 13, _ => ct141
  | 14, _ => ct142
  | 15, _ => ct143
  | n + 16, h => absurd h (by omega)
theorem cb9 : ∀ j, j < 16 → chT (144 + j) = true
  | 0, _ => ct144
  | 1, _ => ct145
  | 2, _ => ct146
  | 3, _ => ct147
  | 4, _ => ct148
  | 5, _ => ct149
  | 6, _ => ct150
  | 7, _ => ct151
  | 8, _ => ct152
  | 9, _ => ct153
  | 10, _ => ct154
  | 11, _ => ct155
  | 12, _ => ct156
  | 13, _ => ct157
  | 14, _ => ct158
  | 15, _ => ct159
  | n + 16, h => absurd h (by omega)
theorem cb10 : ∀ j, j < 16 → chT (160 + j) = true
  | 0, _ => ct160
  | 1, _ => ct161
  | 2, _ => ct162
  | 3, _ => ct163
  | 4, _ => ct164
  | 5, _ => ct165
  | 6, _ => ct166
  | 7, _ => ct167
  | 8, _ => ct168
  | 9, _ => ct169
  | 10, _ => ct170
  | 11, _ => ct171
  | 12, _ => ct172
  | 13, _ => ct173
  | 14, _ => ct174
  | 15, _ => ct175
  | n + 16, h => absurd h (by omega)
theorem cb11 : ∀ j, j < 16 → chT (176 + j) = true
  | 0, _ => ct176
  | 1, _ => ct177
  | 2, _ => ct178
  | 3, _ => ct179
  | 4, _ => ct180
  | 5, _ => ct181
  | 6, _ => ct182
  | 7, _ => ct183
  | 8, _ => ct184
  | 9, _ => ct185
  | 10, _ => ct186
  | 11, _ => ct187
  | 12, _ => ct188
  | 13, _ => ct189
  | 14, _ => ct190
  | 15, _ => ct191
  | n + 16, h => absurd h (by omega)
theorem cb12 : ∀ j, j < 16 → chT (192 + j) = true
  | 0, _ => ct192
  | 1, _ => ct193
  | 2, _ => ct194
  | 3, _ => ct195
  | 4, _ => ct196
  | 5, _ => ct197
  | 6, _ => ct198
  | 7, _ => ct199
  | 8, _ => ct200
  | 9, _ => ct201
  | 10, _ => ct202
  | 11, _ => ct203
  | 12, _ => ct204
  | 13, _ => ct205
  | 14, _ => ct206
  | 15, _ => ct207
  | n + 16, h => absurd h (by omega)
theorem cb13 : ∀ j, j < 16 → chT (208 + j) = true
  | 0, _ => ct208
  | 1, _ => ct209
  | 2, _ => ct210
  | 3, _ => ct211
  | 4, _ => ct212
  | 5, _ => ct213
  | 6, _ => ct214
  | 7, _ => ct215
  | 8, _ => ct216
  | 9, _ => ct217
  | 10, _ => ct218
  | 11, _ => ct219
  | 12, _ => ct220
  | 13, _ => ct221
  | 14, _ => ct222
  | 15, _ => ct223
  | n + 16, h => absurd h (by omega)
theorem cb14 : ∀ j, j < 16 → chT (224 + j) = true
  | 0, _ => ct224
  | 1, _ => ct225
  | 2, _ => ct226
  | 3, _ => ct227
  | 4, _ => ct228
  | 5, _ => ct229
  | 6, _ => ct230
  | 7, _ => ct231
  | 8, _ => ct232
  | 9, _ => ct233
  | 10, _ => ct234
  | 11, _ => ct235
  | 12, _ => ct236
  | 13, _ => ct237
  | 14, _ => ct238
  | 15, _ => ct239
  | n + 16, h => absurd h (by omega)
theorem cb15 : ∀ j, j < 16 → chT (240 + j) = true
  | 0, _ => ct240
  | 1, _ => ct241
  | 2, _ => ct242
  | 3, _ => ct243
  | 4, _ => ct244
  | 5, _ => ct245
  | 6, _ => ct246
  | 7, _ => ct247
  | 8, _ => ct248
  | 9, _ => ct249
  | 10, _ => ct250
  | 11, _ => ct251
  | 12, _ => ct252
  | 13, _ => ct253
  | 14, _ => ct254
  | 15, _ => ct255
  | n + 16, h => absurd h (by omega)
theorem cb16 : ∀ j, j < 16 → chT (256 + j) = true
  | 0, _ => ct256
  | 1, _ => ct257
  | 2, _ => ct258
  | 3, _ => ct259
  | 4, _ => ct260
  | 5, _ => ct261
  | 6, _ => ct262
  | 7, _ => ct263
  | 8, _ => ct264
  | 9, _ => ct265
  | 10, _ => ct266
  | 11, _ => ct267
  | 12, _ => ct268
  | 13, _ => ct269
  | 14, _ => ct270
  | 15, _ => ct271
  | n + 16, h => absurd h (by omega)
theorem cb17 : ∀ j, j < 1 → chT (272 + j) = true
  | 0, _ => ct272
  | n + 1, h => absurd h (by omega)
theorem ctall {k : Nat} (h : k < 273) : chT k = true := by
  by_cases h0 : k < 16
  · have := cb0 (k - 0) (by omega)
    rwa [show 0 + (k - 0) = k by omega] at this
  by_cases h1 : k < 32
  · have := cb1 (k - 16) (by omega)
    rwa [show 16 + (k - 16) = k by omega] at this
  by_cases h2 : k < 48
  · have := cb2 (k - 32) (by omega)
    rwa [show 32 + (k - 32) = k by omega] at this
  by_cases h3 : k < 64
  · have := cb3 (k - 48) (by omega)
    rwa [show 48 + (k - 48) = k by omega] at this
  by_cases h4 : k < 80
  · have := cb4 (k - 64) (by omega)
    rwa [show 64 + (k - 64) = k by omega] at this
  by_cases h5 : k < 96
  · have := cb5 (k - 80) (by omega)
    rwa [show 80 + (k - 80) = k by omega] at this
  by_cases h6 : k < 112
  · have := cb6 (k - 96) (by omega)
    rwa [show 96 + (k - 96) = k by omega] at this
  by_cases h7 : k < 128
  · have := cb7 (k - 112) (by omega)
    rwa [show 112 + (k - 112) = k by omega] at this
  by_cases h8 : k < 144
  · have := cb8 (k - 128) (by omega)
    rwa [show 128 + (k - 128) = k by omega] at this
  by_cases h9 : k < 160
  · have := cb9 (k - 144) (by omega)
    rwa [show 144 + (k - 144) = k by omega] at this
  by_cases h10 : k < 176
  · have := cb10 (k - 160) (by omega)
    rwa [show 160 + (k - 160) = k by omega] at this
  by_cases h11 : k < 192
  · have := cb11 (k - 176) (by omega)
    rwa [show 176 + (k - 176) = k by omega] at this
  by_cases h12 : k < 208
  · have := cb12 (k - 192) (by omega)
    rwa [show 192 + (k - 192) = k by omega] at this
  by_cases h13 : k < 224
  · have := cb13 (k - 208) (by omega)
    rwa [show 208 + (k - 208) = k by omega] at this
  by_cases h14 : k < 240
  · have := cb14 (k - 224) (by omega)
    rwa [show 224 + (k - 224) = k by omega] at this
  by_cases h15 : k < 256
  · have := cb15 (k - 240) (by omega)
    rwa [show 240 + (k - 240) = k by omega] at this
  by_cases h16 : k < 272
  · have := cb16 (k - 256) (by omega)
    rwa [show 256 + (k - 256) = k by omega] at this
  have := cb17 (k - 272) (by omega)
  rwa [show 272 + (k - 272) = k by omega] at this
theorem cod_lt {k pc : Nat} {i : II} (h : cod k pc = some i) : k < 273 := by
  refine Nat.not_le.mp fun hk => ?_
  have ht : tabOf k = [] := by
    unfold tabOf
    by_cases h1 : k / 16 < 18
    · have e : k / 16 = 17 := by omega
      rw [e]
      show tbs17.getD (k % 16) [] = []
      rw [List.getD_eq_getElem?_getD, List.getElem?_eq_none (show tbs17.length ≤ k % 16 from Nat.le_trans (show tbs17.length ≤ 1 from Nat.le_refl 1) (by omega))]
      rfl
    · have e : tball.getD (k / 16) [] = [] := by
        rw [List.getD_eq_getElem?_getD, List.getElem?_eq_none (show tball.length ≤ k / 16 from Nat.le_trans (show tball.length ≤ 18 from Nat.le_refl 18) (by omega))]
        rfl
      rw [e]
      rfl
  unfold cod at h
  rw [ht, List.getD_eq_getElem?_getD] at h
  cases h
end
section
/-! ===== the program over whole numbers: values are (tag, number), a store is a function of cell and place ===== -/
abbrev VV : Type := Nat × Int
abbrev MM : Type := Int → Int → Int
abbrev RR : Type := Option (Int × MM)
abbrev XX : Type := Nat → Nat → List VV → List VV → MM → RR
def w32 (x : Int) : Int := (x + 2147483648) % 4294967296 - 2147483648
def w64 (x : Int) : Int := (x + 9223372036854775808) % 18446744073709551616 - 9223372036854775808
def up (μ : MM) (x i v : Int) : MM := fun y j => if y = x ∧ j = i then v else μ y j
def bnd (o : RR) (K : Int → MM → RR) : RR := match o with
  | none => none
  | some q => K q.1 q.2
def cty (x : Int) : Nat := (CT.getD x.toNat (99, 0)).1
def cln (x : Int) : Int := ((CT.getD x.toNat (99, 0)).2 : Nat)
def etg (y : Nat) : Nat := if y = 22 then 11 else if y = 23 then 10 else if y = 24 then 30 else 0
def stg (y : Nat) : Nat := if y = 21 then 3 else etg y
/-- the receiver of a field -/
def rcv (t : Nat) (x : Int) (b : Nat) (K : RR) : RR := if t = 40 + b then K else if t = 10 + b then (if x = 0 then none else K) else none
/-- an array, with the number of its kind -/
def rca (t : Nat) (x : Int) (K : Nat → RR) : RR := if 60 ≤ t ∧ t ≤ 64 then K (t - 40) else if 30 ≤ t ∧ t ≤ 34 then (if x = 0 then none else K (t - 10)) else none
/-- a value goes where tag p is asked -/
def cpt (t : Nat) (x : Int) (p : Nat) (K : RR) : RR :=
  if t = p then K
  else if p = 3 then (if t = 0 then (if x = 0 ∨ x = 1 then K else none) else none)
  else if 10 ≤ p ∧ p < 40 then (if t = p + 30 ∨ t = 8 then K else none)
  else if 40 ≤ p ∧ p < 70 then (if t + 30 = p then (if x = 0 then none else K) else none)
  else none
def cpa : List VV → List Nat → RR → RR
  | [], [], K => K
  | v :: vs, p :: ps, K => cpt v.1 v.2 p (cpa vs ps K)
  | _, _, _ => none
def ent : List VV → List Nat → List VV
  | v :: vs, p :: ps => if p = 1 then (1, v.2) :: (9, 0) :: ent vs ps else (p, v.2) :: ent vs ps
  | _, _ => []
def pad (n : Nat) (l : List VV) : List VV := l ++ List.replicate (n - l.length) (9, 0)
def cats : List VV → Nat
  | [] => 0
  | v :: r => (if v.1 = 1 then 2 else 1) + cats r
def lod (b t : Nat) : Bool := (b == 0 && t == 0) || (b == 1 && t == 1) || (b == 2 && (t == 8 || (decide (10 ≤ t) && decide (t < 70)) || t == 99))
def ast (a y t : Nat) : Bool := (a == 0 && y == 20) || (a == 1 && y == 21) || (a == 2 && ((y == 22 && t == 41) || (y == 23 && t == 40)))
def akd (a y : Nat) : Bool := (a == 0 && y == 20) || (a == 1 && y == 21) || (a == 2 && (y == 22 || y == 23 || y == 24))
def cmp (a : Nat) (x y : Int) (A B : RR) : RR := match a with
  | 0 => if x = y then A else B
  | 1 => if x = y then B else A
  | 2 => if x < y then A else B
  | 3 => if x < y then B else A
  | 4 => if y < x then A else B
  | 5 => if y < x then B else A
  | _ => none
def bin (a : Nat) (x y : Int) : Int := match a with
  | 0 => w32 (x + y)
  | 1 => w32 (x - y)
  | 2 => w32 (x * y)
  | 3 => (Int32.ofInt x &&& Int32.ofInt y).toInt
  | 4 => (Int32.ofInt x ||| Int32.ofInt y).toInt
  | 5 => (Int32.ofInt x <<< (Int32.ofInt y &&& 31)).toInt
  | _ => (Int32.ofInt x >>> (Int32.ofInt y &&& 31)).toInt
def swi (sw : List (Int × Nat)) (d : Nat) (x : Int) (J : Nat → RR) : RR := match sw with
  | [] => J d
  | q :: r => if x = q.1 then J q.2 else swi r d x J
def o0 (X : XX) (k nx a : Nat) (z : Int) (ls st : List VV) (μ : MM) : RR := X k nx ls ((a, z) :: st) μ
def o1 (X : XX) (k nx a b : Nat) (ls st : List VV) (μ : MM) : RR := match ls[a]? with
  | some v => if lod b v.1 = true then X k nx ls (v :: st) μ else none
  | none => none
def o2 (X : XX) (k nx a b : Nat) (ls st : List VV) (μ : MM) : RR := match st with
  | v :: r => if lod b v.1 = true ∧ v.1 ≠ 99 ∧ a + (if b = 1 then 1 else 0) < ls.length ∧ (a = 0 ∨ (ls.getD (a - 1) (9, 0)).1 ≠ 1) then X k nx (if b = 1 then (ls.set a v).set (a + 1) (9, 0) else ls.set a v) r μ else none
  | _ => none
def o3 (X : XX) (k nx a : Nat) (z : Int) (ls st : List VV) (μ : MM) : RR := match ls[a]? with
  | some v => if v.1 = 0 ∧ (a = 0 ∨ (ls.getD (a - 1) (9, 0)).1 ≠ 1) then X k nx (ls.set a (0, w32 (v.2 + z))) st μ else none
  | none => none
def o4 (X : XX) (k nx a : Nat) (ls st : List VV) (μ : MM) : RR := match st with
  | y :: x :: r => if x.1 = 0 ∧ y.1 = 0 then X k nx ls ((0, bin a x.2 y.2) :: r) μ else none
  | _ => none
def o5 (X : XX) (k nx a : Nat) (ls st : List VV) (μ : MM) : RR := match st with
  | y :: x :: r => if x.1 = 0 ∧ y.1 = 0 then (if y.2 = 0 then none else X k nx ls ((0, if a = 0 then w32 (Int.tdiv x.2 y.2) else Int.tmod x.2 y.2) :: r) μ) else none
  | _ => none
def o6 (X : XX) (k nx a : Nat) (ls st : List VV) (μ : MM) : RR := match st with
  | y :: x :: r => if x.1 = 1 ∧ y.1 = 1 then X k nx ls ((1, if a = 0 then w64 (x.2 + y.2) else w64 (x.2 * y.2)) :: r) μ else none
  | _ => none
def o7 (X : XX) (k nx a : Nat) (ls st : List VV) (μ : MM) : RR := match st with
  | y :: x :: r => if x.1 = 1 ∧ y.1 = 1 then (if y.2 = 0 then none else X k nx ls ((1, if a = 0 then w64 (Int.tdiv x.2 y.2) else Int.tmod x.2 y.2) :: r) μ) else none
  | _ => none
def o8 (X : XX) (k nx : Nat) (ls st : List VV) (μ : MM) : RR := match st with
  | y :: x :: r => if x.1 = 1 ∧ y.1 = 1 then X k nx ls ((0, if x.2 < y.2 then -1 else if x.2 = y.2 then 0 else 1) :: r) μ else none
  | _ => none
def o9 (X : XX) (k nx a : Nat) (ls st : List VV) (μ : MM) : RR := match st with
  | x :: r => if x.1 = 0 then X k nx ls ((if a = 0 then (0, w32 (- x.2)) else (1, x.2)) :: r) μ else none
  | _ => none
def o10 (X : XX) (k nx a b : Nat) (ls st : List VV) (μ : MM) : RR := match st with
  | x :: r => if x.1 = 0 then cmp a x.2 0 (X k b ls r μ) (X k nx ls r μ) else none
  | _ => none
def o11 (X : XX) (k nx a b : Nat) (ls st : List VV) (μ : MM) : RR := match st with
  | y :: x :: r => if x.1 = 0 ∧ y.1 = 0 then cmp a x.2 y.2 (X k b ls r μ) (X k nx ls r μ) else none
  | _ => none
def o12 (X : XX) (k nx a b : Nat) (ls st : List VV) (μ : MM) : RR := match st with
  | x :: r => if x.1 = 8 ∨ (10 ≤ x.1 ∧ x.1 < 70) then cmp a x.2 0 (X k b ls r μ) (X k nx ls r μ) else none
  | _ => none
def o14 (X : XX) (k b : Nat) (sw : List (Int × Nat)) (ls st : List VV) (μ : MM) : RR := match st with
  | x :: r => if x.1 = 0 then swi sw b x.2 (fun g => X k g ls r μ) else none
  | _ => none
def o15 (X : XX) (k nx a b c : Nat) (ls st : List VV) (μ : MM) : RR := match st with
  | x :: r => rcv x.1 x.2 b (X k nx ls ((if c = 3 then 0 else c, μ x.2 a) :: r) μ)
  | _ => none
def o16 (X : XX) (k nx a b c : Nat) (ls st : List VV) (μ : MM) : RR := match st with
  | v :: x :: r => rcv x.1 x.2 b (cpt v.1 v.2 c (X k nx ls r (up μ x.2 a v.2)))
  | _ => none
def o17 (X : XX) (k nx a : Nat) (ls st : List VV) (μ : MM) : RR := match st with
  | i :: x :: r => if i.1 = 0 then rca x.1 x.2 (fun y => if akd a y = true then (if 0 ≤ i.2 ∧ i.2 < cln x.2 then X k nx ls ((etg y, μ x.2 i.2) :: r) μ else none) else none) else none
  | _ => none
def o18 (X : XX) (k nx a : Nat) (ls st : List VV) (μ : MM) : RR := match st with
  | v :: i :: x :: r => if i.1 = 0 then rca x.1 x.2 (fun y => if ast a y v.1 = true then (if 0 ≤ i.2 ∧ i.2 < cln x.2 then cpt v.1 v.2 (stg y) (X k nx ls r (up μ x.2 i.2 v.2)) else none) else none) else none
  | _ => none
def o19 (X : XX) (k nx : Nat) (ls st : List VV) (μ : MM) : RR := match st with
  | x :: r => rca x.1 x.2 (fun _ => X k nx ls ((0, cln x.2) :: r) μ)
  | _ => none
def cal (X : XX) (k nx a c ml : Nat) (ps : List Nat) (vs : List VV) (ls rest : List VV) (μ : MM) : RR :=
  cpa vs ps (if cats rest ≤ 8 then bnd (X a 0 (pad ml (ent vs ps)) [] μ) (fun v μ' => X k nx ls (if c = 9 then rest else (c, v) :: rest) μ') else none)
def o20 (X : XX) (k nx a c : Nat) (sw : List (Int × Nat)) (ls st : List VV) (μ : MM) : RR := match sw with
  | q :: r => if q.2 ≤ st.length then cal X k nx a c q.1.toNat (r.map Prod.snd) ((st.take q.2).reverse) ls (st.drop q.2) μ else none
  | _ => none
def o21 (a c : Nat) (st : List VV) (μ : MM) : RR := match a, st with
  | 0, [] => some (0, μ)
  | 0, _ => none
  | _, [v] => cpt v.1 v.2 c (some (v.2, μ))
  | _, _ => none
def o22 (X : XX) (k nx : Nat) (ls st : List VV) (μ : MM) : RR := match st with
  | v :: r => if v.1 = 1 then none else X k nx ls (v :: v :: r) μ
  | _ => none
def o23 (X : XX) (k nx : Nat) (ls st : List VV) (μ : MM) : RR := match st with
  | v :: u :: r => if v.1 = 1 ∨ u.1 = 1 then none else X k nx ls (v :: u :: v :: u :: r) μ
  | _ => none
def o24 (X : XX) (k nx : Nat) (ls st : List VV) (μ : MM) : RR := match st with
  | v :: r => if v.1 = 1 then none else X k nx ls r μ
  | _ => none
/-- a new cell of a kind and length: the next one, as the table of cells says; all its places are 0 -/
def mak (μ : MM) (n : Int) : MM := fun y j => if y = n then 0 else if y = 0 ∧ j = 0 then n + 1 else μ y j
def o25 (X : XX) (k nx a : Nat) (ls st : List VV) (μ : MM) : RR :=
  if cty (μ 0 0) = a ∧ cln (μ 0 0) = (fnum a : Nat) then X k nx ls ((40 + a, μ 0 0) :: st) (mak μ (μ 0 0)) else none
def o26 (X : XX) (k nx a : Nat) (ls st : List VV) (μ : MM) : RR := match st with
  | v :: r => if v.1 = 0 ∧ 0 ≤ v.2 ∧ v.2 ≤ 100000 ∧ cty (μ 0 0) = a ∧ cln (μ 0 0) = v.2 then X k nx ls ((40 + a, μ 0 0) :: r) (mak μ (μ 0 0)) else none
  | _ => none
def mk2 (μ : MM) (n m o : Int) : MM := fun y j => if y = o then (if 0 ≤ j ∧ j < n then o + 1 + j else 0) else if o < y ∧ y ≤ o + n then 0 else if y = 0 ∧ j = 0 then o + 1 + n else μ y j
def o28 (X : XX) (k nx : Nat) (ls st : List VV) (μ : MM) : RR := match st with
  | v :: u :: r => if v.1 = 0 ∧ u.1 = 0 ∧ v.2 = 11 ∧ u.2 = 11 ∧ μ 0 0 = 27 then X k nx ls ((64, μ 0 0) :: r) (mk2 μ u.2 v.2 (μ 0 0)) else none
  | _ => none
def o29 (X : XX) (k nx : Nat) (ls st : List VV) (μ : MM) : RR := match st with
  | v :: r => if 40 ≤ v.1 ∧ v.1 < 50 ∧ cats r ≤ 8 then X k nx ls r μ else none
  | _ => none
def o30 (X : XX) (k nx : Nat) (ls st : List VV) (μ : MM) : RR := match st with
  | i :: x :: r => if i.1 = 0 ∧ x.1 = 99 ∧ 0 ≤ i.2 ∧ i.2 < μ 0 1 then X k nx ls ((0, μ (-1) i.2) :: r) μ else none
  | _ => none
def o31 (X : XX) (k nx : Nat) (ls st : List VV) (μ : MM) : RR := match st with
  | x :: r => if x.1 = 99 then X k nx ls ((0, μ 0 1) :: r) μ else none
  | _ => none
def o32 (X : XX) (k nx a : Nat) (ls st : List VV) (μ : MM) : RR := match a, st with
  | 0, y :: x :: r => if x.1 = 0 ∧ y.1 = 0 ∧ cats r ≤ 8 then X k nx ls ((0, if x.2 < y.2 then y.2 else x.2) :: r) μ else none
  | 1, y :: x :: r => if x.1 = 0 ∧ y.1 = 0 ∧ cats r ≤ 8 then X k nx ls ((0, if y.2 < x.2 then y.2 else x.2) :: r) μ else none
  | 2, x :: r => if x.1 = 0 ∧ cats r ≤ 8 then X k nx ls ((0, if 0 ≤ x.2 then x.2 else w32 (0 - x.2)) :: r) μ else none
  | _, _ => none
def stp (X : XX) (k : Nat) (i : II) (ls st : List VV) (μ : MM) : RR := match i with
  | (op, nx, a, b, c, _, z, sw) => match op with
    | 0 => o0 X k nx a z ls st μ
    | 1 => o1 X k nx a b ls st μ
    | 2 => o2 X k nx a b ls st μ
    | 3 => o3 X k nx a z ls st μ
    | 4 => o4 X k nx a ls st μ
    | 5 => o5 X k nx a ls st μ
    | 6 => o6 X k nx a ls st μ
    | 7 => o7 X k nx a ls st μ
    | 8 => o8 X k nx ls st μ
    | 9 => o9 X k nx a ls st μ
    | 10 => o10 X k nx a b ls st μ
    | 11 => o11 X k nx a b ls st μ
    | 12 => o12 X k nx a b ls st μ
    | 13 => X k b ls st μ
    | 14 => o14 X k b sw ls st μ
    | 15 => o15 X k nx a b c ls st μ
    | 16 => o16 X k nx a b c ls st μ
    | 17 => o17 X k nx a ls st μ
    | 18 => o18 X k nx a ls st μ
    | 19 => o19 X k nx ls st μ
    | 20 => o20 X k nx a c sw ls st μ
    | 21 => o21 a c st μ
    | 22 => o22 X k nx ls st μ
    | 23 => o23 X k nx ls st μ
    | 24 => o24 X k nx ls st μ
    | 25 => o25 X k nx a ls st μ
    | 26 => o26 X k nx a ls st μ
    | 27 => o26 X k nx a ls st μ
    | 28 => o28 X k nx ls st μ
    | 29 => o29 X k nx ls st μ
    | 30 => o30 X k nx ls st μ
    | 31 => o31 X k nx ls st μ
    | 32 => o32 X k nx a ls st μ
    | _ => none
def kil : List Nat → List VV → List VV
  | [], ls => ls
  | a :: r, ls => kil r (ls.set a (9, 0))
def kl0 : List (List (Nat × List Nat)) := [[], [], [(5, [1, 6]), (10, [1, 6]), (15, [1, 6]), (21, [1, 4, 6]), (27, [1, 4, 5, 6]), (30, [1, 4, 5]), (54, [1, 4, 5])], [(35, [1, 2]), (60, [2]), (65, [2]), (110, [0, 1, 2])], [], [], [], [(15, [1]), (20, [1, 2]), (25, [1, 2])], [], [(20, [1]), (30, [1, 2]), (40, [1, 2]), (50, [1, 2]), (90, [1, 2]), (91, [1, 2]), (92, [1, 2])], [], [], [], [], [], []]
def kl1 : List (List (Nat × List Nat)) := [[], [], [], [], [], [(5, [1])], [], [], [], [], [], [], [], [], [], []]
def kl2 : List (List (Nat × List Nat)) := [[], [], [], [(20, [4])], [], [], [], [], [], [], [], [], [], [], [], []]
def kl3 : List (List (Nat × List Nat)) := [[], [(2, [1])], [(2, [1])], [], [(4, [4])], [(6, [4])], [], [], [], [], [], [(2, [1])], [], [], [], []]
def kl4 : List (List (Nat × List Nat)) := [[], [], [], [], [(39, [3])], [(9, [0, 1, 2, 3, 9, 10])], [], [], [], [(15, [3])], [], [(8, [6, 7]), (20, [7]), (76, [3, 4]), (89, [7])], [], [], [(5, [4])], []]
def kl5 : List (List (Nat × List Nat)) := [[], [(10, [5])], [(3, [3])], [], [], [(15, [1])], [(9, [4, 5])], [(11, [6])], [(8, [1, 5]), (25, [1])], [(9, [3, 4])], [], [(11, [6])], [], [], [], [(31, [5])]]
def kl6 : List (List (Nat × List Nat)) := [[(3, [3, 6]), (13, [3])], [(14, [4])], [(3, [1])], [], [], [(9, [1])], [], [], [], [], [], [], [], [], [], []]
def kl7 : List (List (Nat × List Nat)) := [[], [], [], [], [], [], [], [], [], [], [], [], [], [], [], []]
def kl8 : List (List (Nat × List Nat)) := [[], [], [], [], [], [], [(37, [1])], [], [], [], [], [], [(4, [3, 4])], [], [], []]
def kl9 : List (List (Nat × List Nat)) := [[], [], [], [], [], [], [], [], [], [], [], [], [], [], [], []]
def kl10 : List (List (Nat × List Nat)) := [[(28, [4, 5]), (53, [4, 5]), (57, [4, 5]), (58, [4, 5]), (93, [4, 5]), (122, [0, 1, 2, 3, 4])], [(2, [3, 4]), (25, [4])], [(10, [5, 6, 7]), (84, [1, 2, 3, 5, 6, 7]), (95, [1, 2, 3, 7])], [], [], [(2, [2, 3, 4, 5]), (10, [3, 4, 5]), (34, [5])], [(6, [4])], [(17, [1, 2, 5, 6, 7]), (28, [1, 2, 7])], [], [], [], [], [], [], [], []]
def kl11 : List (List (Nat × List Nat)) := [[], [], [], [], [], [], [], [], [], [], [], [(67, [2, 5]), (74, [2, 3, 5]), (81, [2, 3, 5]), (91, [2, 3, 5]), (102, [2, 3, 4, 5]), (105, [2, 3, 4]), (127, [2, 3, 4]), (136, [2, 3, 4]), (159, [2, 3, 4]), (180, [2, 3, 4]), (191, [0, 1, 2, 3, 4, 5])], [(93, [2]), (106, [2, 3]), (132, [0, 1, 2, 3])], [(71, [2]), (81, [0, 1, 2])], [], []]
def kl12 : List (List (Nat × List Nat)) := [[], [], [], [], [], [(12, [2, 3]), (64, [3]), (130, [1, 3])], [], [(6, [2])], [], [], [], [], [], [(39, [5])], [], []]
def kl13 : List (List (Nat × List Nat)) := [[], [(4, [2])], [(4, [2])], [(6, [0, 1, 2, 3, 8, 9])], [], [(26, [4, 5, 6, 7, 8, 9]), (53, [5, 6, 7, 8, 9]), (61, [6, 7, 8, 9]), (72, [8, 9]), (112, [4]), (141, [4, 5, 6, 7, 8, 9])], [], [], [(9, [7, 8]), (23, [8])], [(5, [5])], [], [], [], [], [], []]
def kl14 : List (List (Nat × List Nat)) := [[(45, [2, 5]), (59, [2])], [(14, [3, 4]), (29, [3, 4]), (44, [3, 4]), (48, [3, 4]), (49, [3, 4]), (84, [3, 4]), (116, [0, 1, 2, 3])], [], [(6, [8])], [], [], [(39, [7, 8]), (63, [8]), (142, [4, 5, 8]), (163, [4, 5])], [], [], [], [(19, [0, 1, 2, 3, 4, 5, 6]), (50, [2, 6]), (55, [2, 6]), (95, [0, 1, 2, 3, 4, 5, 6]), (97, [2, 6]), (147, [0, 1, 2, 3, 4, 5, 6]), (168, [0, 1, 2, 3, 4, 5, 6]), (231, [0, 1, 2, 3, 4, 5, 6])], [], [], [], [], []]
def kl15 : List (List (Nat × List Nat)) := [[], [(22, [2, 3])], [], [], [], [], [], [], [], [(44, [5])], [], [], [], [(4, [3])], [], []]
def kl16 : List (List (Nat × List Nat)) := [[(2, [4])], [], [], [], [], [], [], [], [], [(9, [6])], [], [], [], [(7, [4, 5]), (19, [5]), (110, [5])], [(80, [8])], [(42, [1]), (73, [1]), (101, [1])]]
def kl17 : List (List (Nat × List Nat)) := [[]]
def klall : List (List (List (Nat × List Nat))) := [kl0, kl1, kl2, kl3, kl4, kl5, kl6, kl7, kl8, kl9, kl10, kl11, kl12, kl13, kl14, kl15, kl16, kl17]
def fnk : List (Nat × List Nat) → Nat → List Nat
  | [], _ => []
  | q :: r, pc => if q.1 = pc then q.2 else fnk r pc
/-- locals that are no more read from here on: their places are emptied -/
def kls (k pc : Nat) : List Nat := fnk ((klall.getD (k / 16) []).getD (k % 16) []) pc
noncomputable def ev : Nat → XX
  | 0 => fun _ _ _ _ _ => none
  | n + 1 => fun k pc ls st μ => match cod k pc with
    | none => none
    | some i => stp (ev n) k i (kil (kls k pc) ls) st μ
/-! ===== more fuel gives no other answer ===== -/
def Les (X Y : XX) : Prop := ∀ k pc ls st μ q, X k pc ls st μ = some q → Y k pc ls st μ = some q
theorem bnd_mono {o o' : RR} {K K' : Int → MM → RR} {q : Int × MM} (ho : ∀ q, o = some q → o' = some q) (hK : ∀ v μ q, K v μ = some q → K' v μ = some q) (h : bnd o K = some q) : bnd o' K' = some q := by
  cases o with
  | none => cases h
  | some p =>
    rw [ho p rfl]
    exact hK _ _ _ h
theorem ite_mono {c : Prop} [Decidable c] {A B A' B' : RR} {q : Int × MM} (hA : A = some q → A' = some q) (hB : B = some q → B' = some q) (h : (if c then A else B) = some q) : (if c then A' else B') = some q := by
  by_cases e : c
  · rw [if_pos e] at h ⊢; exact hA h
  · rw [if_neg e] at h ⊢; exact hB h
theorem rcv_mono {t : Nat} {x : Int} {b : Nat} {K K' : RR} {q : Int × MM} (hK : K = some q → K' = some q) (h : rcv t x b K = some q) : rcv t x b K' = some q :=
  ite_mono hK (ite_mono (ite_mono id hK) id) h
theorem cpt_mono {t : Nat} {x : Int} {b : Nat} {K K' : RR} {q : Int × MM} (hK : K = some q → K' = some q) (h : cpt t x b K = some q) : cpt t x b K' = some q :=
  ite_mono hK (ite_mono (ite_mono (ite_mono hK id) id) (ite_mono (ite_mono hK id) (ite_mono (ite_mono (ite_mono id hK) id) id))) h
theorem rca_mono {t : Nat} {x : Int} {K K' : Nat → RR} {q : Int × MM} (hK : ∀ y, K y = some q → K' y = some q) (h : rca t x K = some q) : rca t x K' = some q :=
  ite_mono (hK _) (ite_mono (ite_mono id (hK _)) id) h
theorem cmp_mono {a : Nat} {x y : Int} {A B A' B' : RR} {q : Int × MM} (hA : A = some q → A' = some q) (hB : B = some q → B' = some q) (h : cmp a x y A B = some q) : cmp a x y A' B' = some q := by
  unfold cmp at h ⊢
  split at h
  · exact ite_mono hA hB h
  · exact ite_mono hB hA h
  · exact ite_mono hA hB h
  · exact ite_mono hB hA h
  · exact ite_mono hA hB h
  · exact ite_mono hB hA h
  · cases h
theorem swi_mono {sw : List (Int × Nat)} {d : Nat} {x : Int} {J J' : Nat → RR} {q : Int × MM} (hJ : ∀ g, J g = some q → J' g = some q) (h : swi sw d x J = some q) : swi sw d x J' = some q := by
  induction sw with
  | nil => exact hJ _ h
  | cons p r ih =>
    unfold swi at h ⊢
    split at h
    · rename_i e; rw [if_pos e]; exact hJ _ h
    · rename_i e; rw [if_neg e]; exact ih h
theorem cpa_mono {K K' : RR} {q : Int × MM} (hK : K = some q → K' = some q) : ∀ (vs : List VV) (ps : List Nat), cpa vs ps K = some q → cpa vs ps K' = some q
  | [], [], h => hK h
  | v :: vs, p :: ps, h => cpt_mono (cpa_mono hK vs ps) h
  | [], _ :: _, h => by cases h
  | _ :: _, [], h => by cases h
theorem cal_mono {X Y : XX} (hX : Les X Y) {k nx a c ml : Nat} {ps : List Nat} {vs ls rest : List VV} {μ : MM} {q : Int × MM} (h : cal X k nx a c ml ps vs ls rest μ = some q) : cal Y k nx a c ml ps vs ls rest μ = some q :=
  cpa_mono (ite_mono (bnd_mono (hX _ _ _ _ _) (fun _ _ q h => hX _ _ _ _ _ q h)) id) vs ps h
theorem stp_mono {X Y : XX} (hX : Les X Y) {k : Nat} {i : II} {ls st : List VV} {μ : MM} {q : Int × MM} (h : stp X k i ls st μ = some q) : stp Y k i ls st μ = some q := by
  obtain ⟨op, nx, a, b, c, w, z, sw⟩ := i
  have hx : ∀ k pc ls st μ, X k pc ls st μ = some q → Y k pc ls st μ = some q := fun k pc ls st μ => hX k pc ls st μ q
  unfold stp at h ⊢
  dsimp only at h ⊢
  split at h
  · exact hx _ _ _ _ _ h
  · unfold o1 at h ⊢; split at h
    · exact ite_mono (hx _ _ _ _ _) id h
    · cases h
  · unfold o2 at h ⊢; split at h
    · exact ite_mono (hx _ _ _ _ _) id h
    · cases h
  · unfold o3 at h ⊢; split at h
    · exact ite_mono (hx _ _ _ _ _) id h
    · cases h
  · unfold o4 at h ⊢; split at h
    · exact ite_mono (hx _ _ _ _ _) id h
    · cases h
  · unfold o5 at h ⊢; split at h
    · exact ite_mono (ite_mono id (hx _ _ _ _ _)) id h
    · cases h
  · unfold o6 at h ⊢; split at h
    · exact ite_mono (hx _ _ _ _ _) id h
    · cases h
  · unfold o7 at h ⊢; split at h
    · exact ite_mono (ite_mono id (hx _ _ _ _ _)) id h
    · cases h
  · unfold o8 at h ⊢; split at h
    · exact ite_mono (hx _ _ _ _ _) id h
    · cases h
  · unfold o9 at h ⊢; split at h
    · exact ite_mono (hx _ _ _ _ _) id h
    · cases h
  · unfold o10 at h ⊢; split at h
    · exact ite_mono (cmp_mono (hx _ _ _ _ _) (hx _ _ _ _ _)) id h
    · cases h
  · unfold o11 at h ⊢; split at h
    · exact ite_mono (cmp_mono (hx _ _ _ _ _) (hx _ _ _ _ _)) id h
    · cases h
  · unfold o12 at h ⊢; split at h
    · exact ite_mono (cmp_mono (hx _ _ _ _ _) (hx _ _ _ _ _)) id h
    · cases h
  · exact hx _ _ _ _ _ h
  · unfold o14 at h ⊢; split at h
    · exact ite_mono (swi_mono (fun _ => hx _ _ _ _ _)) id h
    · cases h
  · unfold o15 at h ⊢; split at h
    · exact rcv_mono (hx _ _ _ _ _) h
    · cases h
  · unfold o16 at h ⊢; split at h
    · exact rcv_mono (cpt_mono (hx _ _ _ _ _)) h
    · cases h
  · unfold o17 at h ⊢; split at h
    · exact ite_mono (rca_mono (fun _ => ite_mono (ite_mono (hx _ _ _ _ _) id) id)) id h
    · cases h
  · unfold o18 at h ⊢; split at h
    · exact ite_mono (rca_mono (fun _ => ite_mono (ite_mono (cpt_mono (hx _ _ _ _ _)) id) id)) id h
    · cases h
  · unfold o19 at h ⊢; split at h
    · exact rca_mono (fun _ => hx _ _ _ _ _) h
    · cases h
  · unfold o20 at h ⊢; split at h
    · exact ite_mono (cal_mono hX) id h
    · cases h
  · exact h
  · unfold o22 at h ⊢; split at h
    · exact ite_mono id (hx _ _ _ _ _) h
    · cases h
  · unfold o23 at h ⊢; split at h
    · exact ite_mono id (hx _ _ _ _ _) h
    · cases h
  · unfold o24 at h ⊢; split at h
    · exact ite_mono id (hx _ _ _ _ _) h
    · cases h
  · exact ite_mono (hx _ _ _ _ _) id h
  · unfold o26 at h ⊢; split at h
    · exact ite_mono (hx _ _ _ _ _) id h
    · cases h
  · unfold o26 at h ⊢; split at h
    · exact ite_mono (hx _ _ _ _ _) id h
    · cases h
  · unfold o28 at h ⊢; split at h
    · exact ite_mono (hx _ _ _ _ _) id h
    · cases h
  · unfold o29 at h ⊢; split at h
    · exact ite_mono (hx _ _ _ _ _) id h
    · cases h
  · unfold o30 at h ⊢; split at h
    · exact ite_mono (hx _ _ _ _ _) id h
    · cases h
  · unfold o31 at h ⊢; split at h
    · exact ite_mono (hx _ _ _ _ _) id h
    · cases h
  · unfold o32 at h ⊢; split at h
    · exact ite_mono (hx _ _ _ _ _) id h
    · exact ite_mono (hx _ _ _ _ _) id h
    · exact ite_mono (hx _ _ _ _ _) id h
    · cases h
  · cases h
theorem ev_step : ∀ n, Les (ev n) (ev (n + 1))
  | 0 => fun _ _ _ _ _ _ h => by cases h
  | n + 1 => fun k pc ls st μ q h => by
    show (match cod k pc with | none => none | some i => stp (ev (n + 1)) k i (kil (kls k pc) ls) st μ) = some q
    have h' : (match cod k pc with | none => none | some i => stp (ev n) k i (kil (kls k pc) ls) st μ) = some q := h
    revert h'
    cases cod k pc with
    | none => exact fun h => by cases h
    | some i => exact fun h => stp_mono (ev_step n) h
theorem ev_le {n m : Nat} (h : n ≤ m) : Les (ev n) (ev m) := by
  induction h with
  | refl => exact fun _ _ _ _ _ _ h => h
  | step _ ih => exact fun k pc ls st μ q h => ev_step _ k pc ls st μ q (ih k pc ls st μ q h)
/-- the answer, with fuel enough -/
noncomputable def EE : XX := fun k pc ls st μ => @dite RR (∃ n q, ev n k pc ls st μ = some q) (Classical.propDecidable _) (fun h => some h.choose_spec.choose) (fun _ => none)
theorem EE_of {n k pc : Nat} {ls st : List VV} {μ : MM} {q : Int × MM} (h : ev n k pc ls st μ = some q) : EE k pc ls st μ = some q := by
  have he : ∃ n q, ev n k pc ls st μ = some q := ⟨n, q, h⟩
  unfold EE
  rw [dif_pos he]
  have h2 := he.choose_spec.choose_spec
  have h3 := ev_le (Nat.le_max_left n he.choose) _ _ _ _ _ _ h
  have h4 := ev_le (Nat.le_max_right n he.choose) _ _ _ _ _ _ h2
  exact h4.symm.trans h3
theorem EE_to {k pc : Nat} {ls st : List VV} {μ : MM} {q : Int × MM} (h : EE k pc ls st μ = some q) : ∃ n, ev n k pc ls st μ = some q := by
  unfold EE at h
  by_cases he : ∃ n q, ev n k pc ls st μ = some q
  · rw [dif_pos he] at h
    have h2 := he.choose_spec.choose_spec
    rw [h] at h2
    exact ⟨_, h2⟩
  · rw [dif_neg he] at h
    cases h
/-! ===== the answer meets the program's own equation ===== -/
theorem ite_ct {c : Prop} [Decidable c] {A B : RR} {A' B' : Nat → RR} {q : Int × MM} (hA : A = some q → ∃ n, A' n = some q) (hB : B = some q → ∃ n, B' n = some q) (h : (if c then A else B) = some q) : ∃ n, (if c then A' n else B' n) = some q := by
  by_cases e : c
  · rw [if_pos e] at h
    obtain ⟨n, hn⟩ := hA h
    exact ⟨n, by rw [if_pos e]; exact hn⟩
  · rw [if_neg e] at h
    obtain ⟨n, hn⟩ := hB h
    exact ⟨n, by rw [if_neg e]; exact hn⟩
theorem non_ct {q : Int × MM} {B' : Nat → RR} (h : (none : RR) = some q) : ∃ n, B' n = some q := by cases h
theorem rcv_ct {t : Nat} {x : Int} {b : Nat} {K : RR} {K' : Nat → RR} {q : Int × MM} (hK : K = some q → ∃ n, K' n = some q) (h : rcv t x b K = some q) : ∃ n, rcv t x b (K' n) = some q :=
  ite_ct hK (ite_ct (ite_ct non_ct hK) non_ct) h
theorem cpt_ct {t : Nat} {x : Int} {b : Nat} {K : RR} {K' : Nat → RR} {q : Int × MM} (hK : K = some q → ∃ n, K' n = some q) (h : cpt t x b K = some q) : ∃ n, cpt t x b (K' n) = some q :=
  ite_ct hK (ite_ct (ite_ct (ite_ct hK non_ct) non_ct) (ite_ct (ite_ct hK non_ct) (ite_ct (ite_ct (ite_ct non_ct hK) non_ct) non_ct))) h
theorem rca_ct {t : Nat} {x : Int} {K : Nat → RR} {K' : Nat → Nat → RR} {q : Int × MM} (hK : ∀ y, K y = some q → ∃ n, K' n y = some q) (h : rca t x K = some q) : ∃ n, rca t x (K' n) = some q :=
  ite_ct (hK _) (ite_ct (ite_ct non_ct (hK _)) non_ct) h
theorem cmp_ct {a : Nat} {x y : Int} {A B : RR} {A' B' : Nat → RR} {q : Int × MM} (hA : A = some q → ∃ n, A' n = some q) (hB : B = some q → ∃ n, B' n = some q) (h : cmp a x y A B = some q) : ∃ n, cmp a x y (A' n) (B' n) = some q := by
  unfold cmp at h ⊢
  split at h
  · exact ite_ct hA hB h
  · exact ite_ct hB hA h
  · exact ite_ct hA hB h
  · exact ite_ct hB hA h
  · exact ite_ct hA hB h
  · exact ite_ct hB hA h
  · cases h
theorem swi_ct {d : Nat} {x : Int} {J : Nat → RR} {J' : Nat → Nat → RR} {q : Int × MM} (hJ : ∀ g, J g = some q → ∃ n, J' n g = some q) : ∀ (sw : List (Int × Nat)), swi sw d x J = some q → ∃ n, swi sw d x (J' n) = some q
  | [], h => hJ _ h
  | p :: r, h => ite_ct (A := J p.2) (B := swi r d x J) (A' := fun n => J' n p.2) (B' := fun n => swi r d x (J' n)) (hJ _) (swi_ct hJ r) h
theorem cpa_ct {K : RR} {K' : Nat → RR} {q : Int × MM} (hK : K = some q → ∃ n, K' n = some q) : ∀ (vs : List VV) (ps : List Nat), cpa vs ps K = some q → ∃ n, cpa vs ps (K' n) = some q
  | [], [], h => hK h
  | v :: vs, p :: ps, h => cpt_ct (K := cpa vs ps K) (K' := fun n => cpa vs ps (K' n)) (cpa_ct hK vs ps) h
  | [], _ :: _, h => by cases h
  | _ :: _, [], h => by cases h
theorem cal_ct {k nx a c ml : Nat} {ps : List Nat} {vs ls rest : List VV} {μ : MM} {q : Int × MM} (h : cal EE k nx a c ml ps vs ls rest μ = some q) : ∃ n, cal (ev n) k nx a c ml ps vs ls rest μ = some q := by
  refine cpa_ct (K' := fun n => if cats rest ≤ 8 then bnd (ev n a 0 (pad ml (ent vs ps)) [] μ) (fun v μ' => ev n k nx ls (if c = 9 then rest else (c, v) :: rest) μ') else none) (ite_ct (A' := fun n => bnd (ev n a 0 (pad ml (ent vs ps)) [] μ) (fun v μ' => ev n k nx ls (if c = 9 then rest else (c, v) :: rest) μ')) (B' := fun _ => none) ?_ non_ct) vs ps h
  intro h
  cases ho : EE a 0 (pad ml (ent vs ps)) [] μ with
  | none => rw [ho] at h; cases h
  | some p =>
    rw [ho] at h
    obtain ⟨n1, h1⟩ := EE_to ho
    obtain ⟨n2, h2⟩ := EE_to (show EE k nx ls (if c = 9 then rest else (c, p.1) :: rest) p.2 = some q from h)
    refine ⟨max n1 n2, ?_⟩
    show bnd (ev (max n1 n2) a 0 (pad ml (ent vs ps)) [] μ) _ = some q
    rw [ev_le (Nat.le_max_left n1 n2) _ _ _ _ _ _ h1]
    exact ev_le (Nat.le_max_right n1 n2) _ _ _ _ _ _ h2
theorem stp_ct {k : Nat} {i : II} {ls st : List VV} {μ : MM} {q : Int × MM} (h : stp EE k i ls st μ = some q) : ∃ n, stp (ev n) k i ls st μ = some q := by
  obtain ⟨op, nx, a, b, c, w, z, sw⟩ := i
  have hx : ∀ {k pc ls st μ}, EE k pc ls st μ = some q → ∃ n, ev n k pc ls st μ = some q := fun h => EE_to h
  unfold stp at h ⊢
  dsimp only at h ⊢
  split at h
  · exact hx h
  · unfold o1 at h ⊢; split at h
    · exact ite_ct hx non_ct h
    · cases h
  · unfold o2 at h ⊢; split at h
    · exact ite_ct hx non_ct h
    · cases h
  · unfold o3 at h ⊢; split at h
    · exact ite_ct hx non_ct h
    · cases h
  · unfold o4 at h ⊢; split at h
    · exact ite_ct hx non_ct h
    · cases h
  · unfold o5 at h ⊢; split at h
    · exact ite_ct (ite_ct non_ct hx) non_ct h
    · cases h
  · unfold o6 at h ⊢; split at h
    · exact ite_ct hx non_ct h
    · cases h
  · unfold o7 at h ⊢; split at h
    · exact ite_ct (ite_ct non_ct hx) non_ct h
    · cases h
  · unfold o8 at h ⊢; split at h
    · exact ite_ct hx non_ct h
    · cases h
  · unfold o9 at h ⊢; split at h
    · exact ite_ct hx non_ct h
    · cases h
  · unfold o10 at h ⊢; split at h
    · exact ite_ct (cmp_ct hx hx) non_ct h
    · cases h
  · unfold o11 at h ⊢; split at h
    · exact ite_ct (cmp_ct hx hx) non_ct h
    · cases h
  · unfold o12 at h ⊢; split at h
    · exact ite_ct (cmp_ct hx hx) non_ct h
    · cases h
  · exact hx h
  · unfold o14 at h ⊢; split at h
    · exact ite_ct (swi_ct (fun _ => hx) _) non_ct h
    · cases h
  · unfold o15 at h ⊢; split at h
    · exact rcv_ct hx h
    · cases h
  · unfold o16 at h ⊢; split at h
    · exact rcv_ct (cpt_ct hx) h
    · cases h
  · unfold o17 at h ⊢; split at h
    · exact ite_ct (rca_ct (fun _ => ite_ct (ite_ct hx non_ct) non_ct)) non_ct h
    · cases h
  · unfold o18 at h ⊢; split at h
    · exact ite_ct (rca_ct (fun _ => ite_ct (ite_ct (cpt_ct hx) non_ct) non_ct)) non_ct h
    · cases h
  · unfold o19 at h ⊢; split at h
    · exact rca_ct (fun _ => hx) h
    · cases h
  · unfold o20 at h ⊢; split at h
    · exact ite_ct cal_ct non_ct h
    · cases h
  · exact ⟨0, h⟩
  · unfold o22 at h ⊢; split at h
    · exact ite_ct non_ct hx h
    · cases h
  · unfold o23 at h ⊢; split at h
    · exact ite_ct non_ct hx h
    · cases h
  · unfold o24 at h ⊢; split at h
    · exact ite_ct non_ct hx h
    · cases h
  · exact ite_ct hx non_ct h
  · unfold o26 at h ⊢; split at h
    · exact ite_ct hx non_ct h
    · cases h
  · unfold o26 at h ⊢; split at h
    · exact ite_ct hx non_ct h
    · cases h
  · unfold o28 at h ⊢; split at h
    · exact ite_ct hx non_ct h
    · cases h
  · unfold o29 at h ⊢; split at h
    · exact ite_ct hx non_ct h
    · cases h
  · unfold o30 at h ⊢; split at h
    · exact ite_ct hx non_ct h
    · cases h
  · unfold o31 at h ⊢; split at h
    · exact ite_ct hx non_ct h
    · cases h
  · unfold o32 at h ⊢; split at h
    · exact ite_ct hx non_ct h
    · exact ite_ct hx non_ct h
    · exact ite_ct hx non_ct h
    · cases h
  · cases h
theorem EE_eq (k pc : Nat) (ls st : List VV) (μ : MM) : EE k pc ls st μ = (match cod k pc with | none => none | some i => stp EE k i (kil (kls k pc) ls) st μ) := by
  have h1 : ∀ q, EE k pc ls st μ = some q → (match cod k pc with | none => none | some i => stp EE k i (kil (kls k pc) ls) st μ) = some q := by
    intro q h
    obtain ⟨n, hn⟩ := EE_to h
    cases n with
    | zero => cases hn
    | succ n =>
      have h' : (match cod k pc with | none => none | some i => stp (ev n) k i (kil (kls k pc) ls) st μ) = some q := hn
      revert h'
      cases cod k pc with
      | none => exact fun h => by cases h
      | some i => exact fun h => stp_mono (fun _ _ _ _ _ _ h => EE_of h) h
  have h2 : ∀ q, (match cod k pc with | none => none | some i => stp EE k i (kil (kls k pc) ls) st μ) = some q → EE k pc ls st μ = some q := by
    intro q h
    have : ∃ n, (match cod k pc with | none => none | some i => stp (ev n) k i (kil (kls k pc) ls) st μ) = some q := by
      revert h
      cases cod k pc with
      | none => exact fun h => by cases h
      | some i => exact fun h => stp_ct h
    obtain ⟨n, hn⟩ := this
    exact EE_of (n := n + 1) hn
  cases h : EE k pc ls st μ with
  | some q => exact (h1 q h).symm
  | none =>
    cases h' : (match cod k pc with | none => none | some i => stp EE k i (kil (kls k pc) ls) st μ) with
    | none => rfl
    | some q => rw [h2 q h'] at h; cases h
/-- the program's text laid out from pc on: to the places cut, to calls and answers -/
noncomputable def unr (cut : List Nat) (k0 : Nat) : Nat → Nat → List VV → List VV → MM → RR
  | 0 => fun pc ls st μ => EE k0 pc ls st μ
  | c + 1 => fun pc ls st μ => match cod k0 pc with
    | none => none
    | some i => stp (fun k pc' ls' st' μ' => if k = k0 then (if cut.contains pc' = true then EE k pc' ls' st' μ' else unr cut k0 c pc' ls' st' μ') else EE k pc' ls' st' μ') k0 i (kil (kls k0 pc) ls) st μ
theorem unr_eq (cut : List Nat) (k0 : Nat) : ∀ (c pc : Nat) (ls st : List VV) (μ : MM), EE k0 pc ls st μ = unr cut k0 c pc ls st μ
  | 0, _, _, _, _ => rfl
  | c + 1, pc, ls, st, μ => by
    rw [EE_eq]
    unfold unr
    cases cod k0 pc with
    | none => rfl
    | some i =>
      have hX : (fun k pc' ls' st' μ' => if k = k0 then (if cut.contains pc' = true then EE k pc' ls' st' μ' else unr cut k0 c pc' ls' st' μ') else EE k pc' ls' st' μ') = EE := by
        funext k pc' ls' st' μ'
        by_cases e : k = k0
        · subst e
          rw [if_pos rfl, ← unr_eq cut k c]
          split <;> rfl
        · rw [if_neg e]
      show stp EE k0 i (kil (kls k0 pc) ls) st μ = stp (fun k pc' ls' st' μ' => if k = k0 then (if cut.contains pc' = true then EE k pc' ls' st' μ' else unr cut k0 c pc' ls' st' μ') else EE k pc' ls' st' μ') k0 i (kil (kls k0 pc) ls) st μ
      rw [hX]
end
section
/-! ===== numbers of the machine as whole numbers ===== -/
def R32 (x : Int) : Prop := -2147483648 ≤ x ∧ x < 2147483648
def R64 (x : Int) : Prop := -9223372036854775808 ≤ x ∧ x < 9223372036854775808
theorem w32_R (x : Int) : R32 (w32 x) := by unfold R32 w32; omega
theorem w64_R (x : Int) : R64 (w64 x) := by unfold R64 w64; omega
theorem w32_id {x : Int} (h : R32 x) : w32 x = x := by unfold R32 at h; unfold w32; omega
theorem w64_id {x : Int} (h : R64 x) : w64 x = x := by unfold R64 at h; unfold w64; omega
theorem w32_bm (x : Int) : w32 x = x.bmod (2 ^ 32) := by
  have h := w32_R x
  unfold R32 at h
  have h1 : w32 x = (w32 x).bmod (2 ^ 32) := (Int.bmod_eq_of_le (by omega) (by omega)).symm
  rw [h1]
  unfold w32
  have e : (x + 2147483648) % 4294967296 - 2147483648 = x + ((2 ^ 32 : Nat) : Int) * (- ((x + 2147483648) / 4294967296)) := by omega
  rw [e, Int.add_mul_bmod_self_left]
theorem w64_bm (x : Int) : w64 x = x.bmod (2 ^ 64) := by
  have h := w64_R x
  unfold R64 at h
  have h1 : w64 x = (w64 x).bmod (2 ^ 64) := (Int.bmod_eq_of_le (by omega) (by omega)).symm
  rw [h1]
  unfold w64
  have e : (x + 9223372036854775808) % 18446744073709551616 - 9223372036854775808 = x + ((2 ^ 64 : Nat) : Int) * (- ((x + 9223372036854775808) / 18446744073709551616)) := by omega
  rw [e, Int.add_mul_bmod_self_left]
theorem i32_toInt {x : Int} (h : R32 x) : (Int32.ofInt x).toInt = x := Int32.toInt_ofInt_of_le (by unfold R32 at h; omega) (by unfold R32 at h; omega)
theorem i64_toInt {x : Int} (h : R64 x) : (Int64.ofInt x).toInt = x := Int64.toInt_ofInt_of_le (by unfold R64 at h; omega) (by unfold R64 at h; omega)
theorem i32_w (x : Int) : Int32.ofInt (w32 x) = Int32.ofInt x := by
  apply Int32.toInt.inj
  rw [i32_toInt (w32_R x), Int32.toInt_ofInt, w32_bm]
theorem i64_w (x : Int) : Int64.ofInt (w64 x) = Int64.ofInt x := by
  apply Int64.toInt.inj
  rw [i64_toInt (w64_R x), Int64.toInt_ofInt, w64_bm]
theorem i32_R (x : Int32) : R32 x.toInt := ⟨by have := x.le_toInt; omega, by have := x.toInt_lt; omega⟩
theorem i64_R (x : Int64) : R64 x.toInt := ⟨by have := x.le_toInt; omega, by have := x.toInt_lt; omega⟩
theorem i32_lt {x y : Int} (hx : R32 x) (hy : R32 y) : Int32.ofInt x < Int32.ofInt y ↔ x < y := by rw [Int32.lt_iff_toInt_lt, i32_toInt hx, i32_toInt hy]
theorem i32_le {x y : Int} (hx : R32 x) (hy : R32 y) : Int32.ofInt x ≤ Int32.ofInt y ↔ x ≤ y := by rw [Int32.le_iff_toInt_le, i32_toInt hx, i32_toInt hy]
theorem i32_eq {x y : Int} (hx : R32 x) (hy : R32 y) : Int32.ofInt x = Int32.ofInt y ↔ x = y := by rw [← Int32.toInt_inj, i32_toInt hx, i32_toInt hy]
theorem i64_lt {x y : Int} (hx : R64 x) (hy : R64 y) : Int64.ofInt x < Int64.ofInt y ↔ x < y := by rw [Int64.lt_iff_toInt_lt, i64_toInt hx, i64_toInt hy]
theorem i64_eq {x y : Int} (hx : R64 x) (hy : R64 y) : Int64.ofInt x = Int64.ofInt y ↔ x = y := by rw [← Int64.toInt_inj, i64_toInt hx, i64_toInt hy]
theorem z32 : R32 0 := ⟨by omega, by omega⟩
theorem i32_eq0 {x : Int} (hx : R32 x) : Int32.ofInt x = 0 ↔ x = 0 := i32_eq hx z32
theorem i32_div {x y : Int} (hx : R32 x) (hy : R32 y) : Int32.ofInt x / Int32.ofInt y = Int32.ofInt (w32 (Int.tdiv x y)) := by
  apply Int32.toInt.inj
  rw [Int32.toInt_div, i32_toInt hx, i32_toInt hy, i32_toInt (w32_R _), w32_bm]
theorem i64_div {x y : Int} (hx : R64 x) (hy : R64 y) : Int64.ofInt x / Int64.ofInt y = Int64.ofInt (w64 (Int.tdiv x y)) := by
  apply Int64.toInt.inj
  rw [Int64.toInt_div, i64_toInt hx, i64_toInt hy, i64_toInt (w64_R _), w64_bm]
theorem i32_rem {x y : Int} (hx : R32 x) (hy : R32 y) : Int32.ofInt x - Int32.ofInt x / Int32.ofInt y * Int32.ofInt y = Int32.ofInt (Int.tmod x y) := by
  rw [i32_div hx hy, i32_w, ← Int32.ofInt_mul, ← Int32.ofInt_sub, Int.tmod_def, Int.mul_comm]
theorem i64_rem {x y : Int} (hx : R64 x) (hy : R64 y) : Int64.ofInt x - Int64.ofInt x / Int64.ofInt y * Int64.ofInt y = Int64.ofInt (Int.tmod x y) := by
  rw [i64_div hx hy, i64_w, ← Int64.ofInt_mul, ← Int64.ofInt_sub, Int.tmod_def, Int.mul_comm]
theorem tmod_R {x y : Int} (hx : R32 x) : R32 (Int.tmod x y) := by
  unfold R32 at hx ⊢
  have h := Int.natAbs_tmod x y
  have h2 : x.natAbs % y.natAbs ≤ x.natAbs := Nat.mod_le _ _
  have h3 : 0 ≤ x → 0 ≤ Int.tmod x y := fun q => Int.tmod_nonneg y q
  have h4 : x ≤ 0 → Int.tmod x y ≤ 0 := fun q => by
    have := Int.tmod_nonneg y (show 0 ≤ -x by omega)
    rw [Int.neg_tmod] at this
    omega
  omega
theorem tmod_R64 {x y : Int} (hx : R64 x) : R64 (Int.tmod x y) := by
  unfold R64 at hx ⊢
  have h := Int.natAbs_tmod x y
  have h2 : x.natAbs % y.natAbs ≤ x.natAbs := Nat.mod_le _ _
  have h3 : 0 ≤ x → 0 ≤ Int.tmod x y := fun q => Int.tmod_nonneg y q
  have h4 : x ≤ 0 → Int.tmod x y ≤ 0 := fun q => by
    have := Int.tmod_nonneg y (show 0 ≤ -x by omega)
    rw [Int.neg_tmod] at this
    omega
  omega
theorem bin_R (a : Nat) (x y : Int) : R32 (bin a x y) := by
  unfold bin
  split <;> first | exact w32_R _ | exact i32_R _
/-! ===== a value, a cell, a store ===== -/
abbrev GG : Type := va_G × (Nat → ClassId) × Nat × Nat × Nat × (Nat → Int32)
abbrev gD (G : GG) : va_G := G.1
abbrev gA (G : GG) : Nat → ClassId := G.2.1
abbrev gB (G : GG) : Nat := G.2.2.1
abbrev gS (G : GG) : Nat := G.2.2.2.1
abbrev gL (G : GG) : Nat := G.2.2.2.2.1
abbrev gX (G : GG) : Nat → Int32 := G.2.2.2.2.2
def adr (G : GG) (x : Int) : Nat := gB G + (x - 1).toNat
def toV (G : GG) (t : Nat) (x : Int) : Value := if t = 1 then .long (Int64.ofInt x) else if t < 8 then .int (Int32.ofInt x) else if t = 99 then .ref (gS G) else if x = 0 then .null else .ref (adr G x)
def tvs (G : GG) (st : List VV) : List Value := st.map (fun v => toV G v.1 v.2)
def okv (nc : Int) (t : Nat) (x : Int) : Prop :=
  if t = 0 then R32 x else if t = 1 then R64 x else if t = 3 then (x = 0 ∨ x = 1) else if t = 8 then x = 0 else if t = 99 then True
  else if 10 ≤ t ∧ t < 40 then (x = 0 ∨ (1 ≤ x ∧ x < nc ∧ cty x + 10 = t)) else (40 ≤ t ∧ t < 70 ∧ 1 ≤ x ∧ x < nc ∧ cty x + 40 = t)
def okl (nc : Int) (v : VV) : Prop := v.1 = 9 ∨ okv nc v.1 v.2
theorem okv.mono {nc nc' : Int} {t : Nat} {x : Int} (h : nc ≤ nc') (hv : okv nc t x) : okv nc' t x := by
  unfold okv at hv ⊢
  repeat' split
  all_goals (simp_all; try omega)
theorem okv.no9 {nc : Int} {t : Nat} {x : Int} (hv : okv nc t x) : t ≠ 9 := by
  intro e
  subst e
  simp [okv] at hv
theorem okv_ref {nc : Int} {t : Nat} {x : Int} (h1 : 40 ≤ t) (h2 : t < 70) : okv nc t x ↔ (1 ≤ x ∧ x < nc ∧ cty x + 40 = t) := by
  unfold okv
  rw [if_neg (by omega), if_neg (by omega), if_neg (by omega), if_neg (by omega), if_neg (by omega), if_neg (by omega)]
  constructor
  · exact fun h => h.2.2
  · exact fun h => ⟨h1, h2, h⟩
theorem okv_nul {nc : Int} {t : Nat} {x : Int} (h1 : 10 ≤ t) (h2 : t < 40) : okv nc t x ↔ (x = 0 ∨ (1 ≤ x ∧ x < nc ∧ cty x + 10 = t)) := by
  unfold okv
  rw [if_neg (by omega), if_neg (by omega), if_neg (by omega), if_neg (by omega), if_neg (by omega), if_pos ⟨h1, h2⟩]
theorem okv_0 {nc : Int} {x : Int} : okv nc 0 x ↔ R32 x := Iff.rfl
theorem okv_1 {nc : Int} {x : Int} : okv nc 1 x ↔ R64 x := Iff.rfl
theorem okv_3 {nc : Int} {x : Int} : okv nc 3 x ↔ (x = 0 ∨ x = 1) := Iff.rfl
theorem toV_0 (G : GG) (x : Int) : toV G 0 x = .int (Int32.ofInt x) := rfl
theorem toV_3 (G : GG) (x : Int) : toV G 3 x = .int (Int32.ofInt x) := rfl
theorem toV_1 (G : GG) (x : Int) : toV G 1 x = .long (Int64.ofInt x) := rfl
theorem toV_99 (G : GG) (x : Int) : toV G 99 x = .ref (gS G) := rfl
theorem toV_r (G : GG) {t : Nat} {x : Int} (h : 8 ≤ t) (h9 : t ≠ 99) : toV G t x = if x = 0 then .null else .ref (adr G x) := by
  unfold toV
  rw [if_neg (by omega), if_neg (by omega), if_neg h9]
theorem toV_ref (G : GG) {t : Nat} {x : Int} (h : 8 ≤ t) (h9 : t ≠ 99) (hx : x ≠ 0) : toV G t x = .ref (adr G x) := by rw [toV_r G h h9, if_neg hx]
theorem toV_cat (G : GG) (t : Nat) (x : Int) : (toV G t x).category = if t = 1 then 2 else 1 := by
  unfold toV
  repeat' split
  all_goals first | rfl | (exfalso; omega)
theorem tvs_cats (G : GG) (st : List VV) : ((tvs G st).map fun v => v.category).sum = cats st := by
  induction st with
  | nil => rfl
  | cons v r ih =>
    show (toV G v.1 v.2).category + ((tvs G r).map fun v => v.category).sum = _
    rw [ih, toV_cat]
    rfl
def slt (n : Int) : Nat := ((CT.take n.toNat).map Prod.snd).sum
def Cel (G : GG) (μ : MM) (x : Int) (H : Heap) : Prop :=
  if cty x < 10 then ∃ r, vwCl[cty x]? = some r ∧ t_OB (adr G x) ((gD G).1 (cty x)) r.2.2 ((gD G).2 (cty x)) H (fun j => toV G (ftg (cty x) j) (μ x j))
  else H[adr G x]? = some (arrV (gA G (cty x)) (cln x).toNat (fun j => toV G (stg (cty x)) (μ x j)))
def stag (x : Int) (j : Nat) : Nat := if cty x < 10 then ftg (cty x) j else stg (cty x)
def Mok (G : GG) (μ : MM) : Prop :=
  1 ≤ μ 0 0 ∧ μ 0 0 ≤ 90 ∧ (∀ (x : Int) (j : Nat), 1 ≤ x → x < μ 0 0 → (j : Int) < cln x → okv (μ 0 0) (stag x j) (μ x j)) ∧ μ 0 1 = gL G ∧ gL G < 2 ^ 31 ∧ ∀ j : Nat, j < gL G → μ (-1) j = (gX G j).toInt
def Rl (G : GG) (μ : MM) (H : Heap) : Prop := H.size = gB G + (μ 0 0 - 1).toNat ∧ ∀ x : Int, 1 ≤ x → x < μ 0 0 → Cel G μ x H
def tyl (G : GG) : List (ClassId × FieldType) := [(gA G 20, .int), (gA G 21, .boolean), (gA G 22, .object RX1), (gA G 23, .object RX0), (gA G 24, .array .int)]
def AA (G : GG) : Nat → Prop := fun q => gB G ≤ q
def LR (G : GG) (n : Nat) (ls : List VV) (lm : Array Slot) : Prop := ls.length = n ∧ lm.size = n ∧ lv_wf lm ∧ ∀ (i : Nat) (v : VV), ls[i]? = some v → v.1 ≠ 9 → lm[i]? = some (.val (toV G v.1 v.2))
def lvl (G : GG) (ls : List VV) : List (Nat × Value) := (List.range ls.length).filterMap (fun i => match ls[i]? with
  | some v => if v.1 = 9 then none else some (i, toV G v.1 v.2)
  | none => none)
theorem mem_lvl {G : GG} {ls : List VV} {i : Nat} {w : Value} : (i, w) ∈ lvl G ls ↔ ∃ v, ls[i]? = some v ∧ v.1 ≠ 9 ∧ w = toV G v.1 v.2 := by
  unfold lvl
  rw [List.mem_filterMap]
  constructor
  · rintro ⟨j, hj, h⟩
    cases hv : ls[j]? with
    | none => rw [hv] at h; cases h
    | some v =>
      rw [hv] at h
      by_cases e : v.1 = 9
      · simp [e] at h
      · simp only [e, if_false] at h
        cases h
        exact ⟨v, hv, e, rfl⟩
  · rintro ⟨v, hv, e, rfl⟩
    refine ⟨i, List.mem_range.mpr (List.getElem?_eq_some_iff.mp hv).1, ?_⟩
    rw [hv]
    simp [e]
theorem LR.has {G : GG} {n : Nat} {ls : List VV} {lm : Array Slot} (h : LR G n ls lm) : lv_has lm n (lvl G ls) := by
  refine ⟨h.2.1, h.2.2.1, fun q hq => ?_⟩
  obtain ⟨i, w⟩ := q
  obtain ⟨v, h1, h2, rfl⟩ := mem_lvl.mp hq
  exact h.2.2.2 i v h1 h2
theorem LR.set1 {G : GG} {n a : Nat} {ls : List VV} {lm lm' : Array Slot} {v : VV} (h : LR G n ls lm) (ha : a < n) (hp : a = 0 ∨ (ls.getD (a - 1) (9, 0)).1 ≠ 1)
    (h' : lv_has lm' n ((a, toV G v.1 v.2) :: (lvl G ls).filter (fun q => !(q.1 == a) && !(q.1 + 1 == a && q.2.category == 2)))) : LR G n (ls.set a v) lm' := by
  refine ⟨by rw [List.length_set]; exact h.1, h'.1, h'.2.1, fun i w hi hw => ?_⟩
  rw [List.getElem?_set] at hi
  by_cases e : a = i
  · subst e
    rw [if_pos rfl, if_pos (by rw [h.1]; exact ha)] at hi
    cases hi
    exact h'.2.2 (a, toV G v.1 v.2) List.mem_cons_self
  · rw [if_neg e] at hi
    refine h'.2.2 (i, toV G w.1 w.2) (List.mem_cons_of_mem _ (List.mem_filter.mpr ⟨mem_lvl.mpr ⟨w, hi, hw, rfl⟩, ?_⟩))
    have e1 : (i == a) = false := by simp; exact fun q => e q.symm
    simp only [e1, Bool.not_false, Bool.true_and]
    by_cases e2 : i + 1 = a
    · have hc : w.1 ≠ 1 := by
        rcases hp with hp | hp
        · omega
        · rw [show a - 1 = i by omega, List.getD_eq_getElem?_getD, hi] at hp
          exact hp
      rw [toV_cat, if_neg hc]
      simp
    · simp [e2]
theorem LR.set2 {G : GG} {n a : Nat} {ls : List VV} {lm lm' : Array Slot} {v : VV} (h : LR G n ls lm) (ha : a + 1 < n) (hp : a = 0 ∨ (ls.getD (a - 1) (9, 0)).1 ≠ 1)
    (h' : lv_has lm' n ((a, toV G v.1 v.2) :: (lvl G ls).filter (fun q => !(q.1 == a) && (!(q.1 == a + 1) && !(q.1 + 1 == a && q.2.category == 2))))) : LR G n ((ls.set a v).set (a + 1) (9, 0)) lm' := by
  refine ⟨by rw [List.length_set, List.length_set]; exact h.1, h'.1, h'.2.1, fun i w hi hw => ?_⟩
  rw [List.getElem?_set] at hi
  by_cases e0 : a + 1 = i
  · subst e0
    rw [if_pos rfl, if_pos (by rw [List.length_set, h.1]; exact ha)] at hi
    cases hi
    exact absurd rfl hw
  rw [if_neg e0, List.getElem?_set] at hi
  by_cases e : a = i
  · subst e
    rw [if_pos rfl, if_pos (by rw [h.1]; omega)] at hi
    cases hi
    exact h'.2.2 (a, toV G v.1 v.2) List.mem_cons_self
  · rw [if_neg e] at hi
    refine h'.2.2 (i, toV G w.1 w.2) (List.mem_cons_of_mem _ (List.mem_filter.mpr ⟨mem_lvl.mpr ⟨w, hi, hw, rfl⟩, ?_⟩))
    have e1 : (i == a) = false := by simp; exact fun q => e q.symm
    have e3 : (i == a + 1) = false := by simp; exact fun q => e0 q.symm
    simp only [e1, e3, Bool.not_false, Bool.true_and]
    by_cases e2 : i + 1 = a
    · have hc : w.1 ≠ 1 := by
        rcases hp with hp | hp
        · omega
        · rw [show a - 1 = i by omega, List.getD_eq_getElem?_getD, hi] at hp
          exact hp
      rw [toV_cat, if_neg hc]
      simp
    · simp [e2]
end
section
/-! ===== where a method stands, and what one instruction does ===== -/
def nst (w : Jvm.Cond) : Bool := match w with
  | .methodLinkNest .. => true
  | _ => false
/-- words that are carried along beside the others -/
def NW (s : State) : Prop := (∀ w ∈ lw_tbl, nst w = true → va_Nw w s) ∧ va_AO RX1 s ∧ va_AO RX0 s ∧ (Jvm.Cond.arrayOver (.array .int)).before #[] s = true
def Cx (G : GG) (k : Nat) (p : Program) (s : State) (m : MethodId) (args : Array Value) (meth : Method) (c : Code) : Prop :=
  p.tables.exec = Jvm.exec ∧ c.code = mC k ∧ c.maxLocals = mL k ∧ meth.sig.returnType = mR k ∧ meth.locks = false ∧ s.vm.findClass (mY k).cls = some m.cls ∧ (∀ w ∈ gws, w.before args s = true) ∧ va_K (gD G) vwCl (tyl G) s ∧ ((mY k).name = "<init>" → meth.name = "<init>") ∧ gB G ≤ s.heap.size ∧ NW s ∧ (k = 0 → gS G < gB G ∧ va_X (gS G) (gL G) (gX G) s s.heap)
def dc (μ μ1 : MM) : Nat := (μ1 0 0).toNat - (μ 0 0).toNat
def ds (μ μ1 : MM) : Nat := slt (μ1 0 0) - slt (μ 0 0)
def Row (l : Launch) (G : GG) (k pc : Nat) (ls st : List VV) (μ : MM) (nx : Nat) (ls' st' : List VV) (μ1 : MM) : Prop :=
  ∀ (p : Program) (e : Env) (R : Room) (s : State) (m : MethodId) (args : Array Value) (below : List Frame) (meth : Method) (c : Code) (Q : State → Prop) (H : Heap) (locs : List Loc) (cells slots : Nat) (lm : Array Slot),
    Cx G k p s m args meth c → mD k ≤ R.frames → mW k ≤ R.locals → Rl G μ H → va_S (AA G) s.heap H locs → LR G (mL k) ls lm → cells + dc μ μ1 ≤ R.cells → slots + ds μ μ1 ≤ R.slots →
    (∀ (H' : Heap) (locs' : List Loc) (lm' : Array Slot), Rl G μ1 H' → va_S (AA G) s.heap H' locs' → LR G (mL k) ls' lm' → W p l e R s m args below meth c H' locs' (cells + dc μ μ1) (slots + ds μ μ1) Q (F0 m nx lm' (tvs G st'))) →
    W p l e R s m args below meth c H locs cells slots Q (F0 m pc lm (tvs G st))
theorem dc_same {μ μ1 : MM} (h : μ1 0 0 = μ 0 0) : dc μ μ1 = 0 := by unfold dc; rw [h]; omega
theorem ds_same {μ μ1 : MM} (h : μ1 0 0 = μ 0 0) : ds μ μ1 = 0 := by unfold ds; rw [h]; omega
/-- an instruction that leaves the store as it is -/
theorem Row.same {l : Launch} {G : GG} {k pc : Nat} {ls st : List VV} {μ : MM} {nx : Nat} {ls' st' : List VV}
    (h : ∀ (p : Program) (e : Env) (R : Room) (s : State) (m : MethodId) (args : Array Value) (below : List Frame) (meth : Method) (c : Code) (Q : State → Prop) (H : Heap) (locs : List Loc) (cells slots : Nat) (lm : Array Slot),
      Cx G k p s m args meth c → mD k ≤ R.frames → mW k ≤ R.locals → Rl G μ H → va_S (AA G) s.heap H locs → LR G (mL k) ls lm →
      (∀ lm' : Array Slot, LR G (mL k) ls' lm' → W p l e R s m args below meth c H locs cells slots Q (F0 m nx lm' (tvs G st'))) →
      W p l e R s m args below meth c H locs cells slots Q (F0 m pc lm (tvs G st))) : Row l G k pc ls st μ nx ls' st' μ := by
  intro p e R s m args below meth c Q H locs cells slots lm C hf hw hR hS hL _ _ kk
  rw [dc_same rfl, ds_same rfl] at kk
  exact h p e R s m args below meth c Q H locs cells slots lm C hf hw hR hS hL (fun lm' hl => kk H locs lm' hR hS hl)
theorem cod_in {k pc : Nat} {i : II} (h : cod k pc = some i) : ∃ r ∈ tabOf k, (pc, i) ∈ r := by
  have hf : ∀ (r : List (Nat × II)), fnd r pc = some i → (pc, i) ∈ r := by
    intro r
    induction r with
    | nil => exact fun h => by cases h
    | cons q r ih =>
      intro h
      unfold fnd at h
      split at h
      · rename_i e
        obtain ⟨q1, q2⟩ := q
        cases h
        have e : q1 = pc := e
        subst e
        exact List.mem_cons_self
      · exact List.mem_cons_of_mem _ (ih h)
  unfold cod at h
  rw [List.getD_eq_getElem?_getD] at h
  cases hr : (tabOf k)[pc / 32]? with
  | none => rw [hr] at h; cases h
  | some r => rw [hr] at h; exact ⟨r, List.mem_of_getElem? hr, hf r h⟩
theorem cod_chk {k pc : Nat} {i : II} (hk : chT k = true) (h : cod k pc = some i) : ∃ (ins : Instr) (len : Nat), decode (mC k) pc = .ok (ins, len) ∧ chO k pc ins len i = true := by
  obtain ⟨r, h1, h2⟩ := cod_in h
  have h3 := List.all_eq_true.mp (List.all_eq_true.mp hk r h1) _ h2
  unfold chI at h3
  cases hd : decode (mC k) pc with
  | error x => rw [hd] at h3; cases h3
  | ok q =>
    rw [hd] at h3
    exact ⟨q.1, q.2, rfl, h3⟩
theorem rg32_R {z : Int} (h : rg32 z = true) : R32 z := by
  unfold rg32 at h
  simp only [Bool.and_eq_true, decide_eq_true_eq] at h
  exact h
theorem rg64_R {z : Int} (h : rg64 z = true) : R64 z := by
  unfold rg64 at h
  simp only [Bool.and_eq_true, decide_eq_true_eq] at h
  exact h
theorem wd_ok {w : Nat} {x : Jvm.Cond} {args : Array Value} {s : State} (hts : ∀ w ∈ gws, w.before args s = true) (h : wd w = some x) (hg : goodWord x = true := by rfl) : x.before args s = true := hts x (gws_in (List.mem_of_getElem? h) hg)
section Rows
variable {l : Launch} {G : GG} {k pc : Nat} {ls st : List VV} {μ : MM} {ins : Instr} {len : Nat}
theorem row0 {a w : Nat} {z : Int} (hd : decode (mC k) pc = .ok (ins, len)) (hc : ch0 k ins len a w z = true) (nc : Int) : Row l G k pc ls st μ (pc + len) ls ((a, z) :: st) μ ∧ okv nc a z := by
  unfold ch0 at hc
  split at hc
  · simp only [Bool.and_eq_true, beq_iff_eq, decide_eq_true_eq] at hc
    obtain ⟨⟨⟨rfl, rfl⟩, rfl⟩, hr⟩ := hc
    refine ⟨Row.same fun p e R s m args below meth c Q H locs cells slots lm C hf hw hR hS hL kk => ?_, rg32_R hr⟩
    exact lv_iconst C.1 C.2.1 hd rfl (kk lm hL)
  · simp only [Bool.and_eq_true, beq_iff_eq, decide_eq_true_eq] at hc
    obtain ⟨⟨⟨rfl, rfl⟩, hv⟩, hr⟩ := hc
    refine ⟨Row.same fun p e R s m args below meth c Q H locs cells slots lm C hf hw hR hS hL kk => ?_, rg32_R hr⟩
    exact lv_bipush C.1 C.2.1 hd hv (kk lm hL)
  · simp only [Bool.and_eq_true, beq_iff_eq, decide_eq_true_eq] at hc
    obtain ⟨⟨⟨rfl, rfl⟩, hv⟩, hr⟩ := hc
    refine ⟨Row.same fun p e R s m args below meth c Q H locs cells slots lm C hf hw hR hS hL kk => ?_, rg32_R hr⟩
    exact lv_sipush C.1 C.2.1 hd hv (kk lm hL)
  · simp only [Bool.and_eq_true, beq_iff_eq, decide_eq_true_eq] at hc
    obtain ⟨⟨⟨rfl, rfl⟩, hr⟩, hv⟩ := hc
    refine ⟨Row.same fun p e R s m args below meth c Q H locs cells slots lm C hf hw hR hS hL kk => ?_, rg32_R hr⟩
    obtain ⟨hx, hb, hml, hrt, hlk, hown, hts, hK, hn, hB, hN, hX⟩ := C
    exact lv_ldc hx hb hown (wd_ok hts hv) hd (kk lm hL)
  · simp only [Bool.and_eq_true, beq_iff_eq, decide_eq_true_eq] at hc
    obtain ⟨⟨⟨rfl, rfl⟩, hr⟩, hv⟩ := hc
    refine ⟨Row.same fun p e R s m args below meth c Q H locs cells slots lm C hf hw hR hS hL kk => ?_, rg32_R hr⟩
    obtain ⟨hx, hb, hml, hrt, hlk, hown, hts, hK, hn, hB, hN, hX⟩ := C
    exact lv_ldcw hx hb hown (wd_ok hts hv) hd (kk lm hL)
  · simp only [Bool.and_eq_true, beq_iff_eq, decide_eq_true_eq] at hc
    obtain ⟨⟨⟨rfl, rfl⟩, hv⟩, hr⟩ := hc
    refine ⟨Row.same fun p e R s m args below meth c Q H locs cells slots lm C hf hw hR hS hL kk => ?_, rg64_R hr⟩
    exact lv_lconst C.1 C.2.1 hd hv (kk lm hL)
  · simp only [Bool.and_eq_true, beq_iff_eq, decide_eq_true_eq] at hc
    obtain ⟨⟨⟨rfl, rfl⟩, hr⟩, hv⟩ := hc
    refine ⟨Row.same fun p e R s m args below meth c Q H locs cells slots lm C hf hw hR hS hL kk => ?_, rg64_R hr⟩
    obtain ⟨hx, hb, hml, hrt, hlk, hown, hts, hK, hn, hB, hN, hX⟩ := C
    exact lv_ldc2 hx hb hown (wd_ok hts hv) hd (kk lm hL)
  · simp only [Bool.and_eq_true, beq_iff_eq, decide_eq_true_eq] at hc
    obtain ⟨⟨rfl, rfl⟩, rfl⟩ := hc
    refine ⟨Row.same fun p e R s m args below meth c Q H locs cells slots lm C hf hw hR hS hL kk => ?_, rfl⟩
    exact lv_null C.1 C.2.1 hd (kk lm hL)
  · cases hc
theorem row1 {a b : Nat} {v : VV} (hd : decode (mC k) pc = .ok (ins, len)) (hc : ch1 ins len a b = true) (hv : ls[a]? = some v) (hb : lod b v.1 = true) : Row l G k pc ls st μ (pc + len) ls (v :: st) μ := by
  obtain ⟨t, x⟩ := v
  have h9 : t ≠ 9 := by
    intro e
    have e : t = 9 := e
    subst e
    simp [lod] at hb
  refine Row.same fun p e R s m args below meth c Q H locs cells slots lm C hf hw hR hS hL kk => ?_
  have hat := hL.2.2.2 a (t, x) hv h9
  have hk := kk lm hL
  unfold ch1 at hc
  split at hc
  · simp only [Bool.and_eq_true, beq_iff_eq] at hc
    obtain ⟨⟨rfl, hn⟩, rfl⟩ := hc
    have e : t = 0 := by simpa [lod] using hb
    subst e
    exact lv_iload_n C.1 C.2.1 hd hn hat hk
  · simp only [Bool.and_eq_true, beq_iff_eq] at hc
    obtain ⟨⟨rfl, rfl⟩, rfl⟩ := hc
    have e : t = 0 := by simpa [lod] using hb
    subst e
    exact lv_iload C.1 C.2.1 hd hat hk
  · simp only [Bool.and_eq_true, beq_iff_eq] at hc
    obtain ⟨⟨rfl, hn⟩, rfl⟩ := hc
    have e : t = 1 := by simpa [lod] using hb
    subst e
    exact lv_lload_n C.1 C.2.1 hd hn hat hk
  · simp only [Bool.and_eq_true, beq_iff_eq] at hc
    obtain ⟨⟨rfl, rfl⟩, rfl⟩ := hc
    have e : t = 1 := by simpa [lod] using hb
    subst e
    exact lv_lload C.1 C.2.1 hd hat hk
  · simp only [Bool.and_eq_true, beq_iff_eq] at hc
    obtain ⟨⟨rfl, hn⟩, rfl⟩ := hc
    have hb' : 8 ≤ t := by
      simp [lod] at hb
      omega
    have hr : toV G t x = .null ∨ ∃ q, toV G t x = .ref q := by
      by_cases e : t = 99
      · subst e; exact Or.inr ⟨_, rfl⟩
      · rw [toV_r G hb' e]
        by_cases e : x = 0
        · exact Or.inl (if_pos e)
        · exact Or.inr ⟨_, if_neg e⟩
    have hk : W p l e R s m args below meth c H locs cells slots Q (F0 m (pc + 1) lm (toV G t x :: tvs G st)) := hk
    dsimp only at hat
    rcases hr with hr | ⟨q, hr⟩
    · rw [hr] at hat hk
      exact lv_aload_nN C.1 C.2.1 hd hn hat hk
    · rw [hr] at hat hk
      exact lv_aload_n C.1 C.2.1 hd hn hat hk
  · simp only [Bool.and_eq_true, beq_iff_eq] at hc
    obtain ⟨⟨rfl, rfl⟩, rfl⟩ := hc
    have hb' : 8 ≤ t := by
      simp [lod] at hb
      omega
    have hr : toV G t x = .null ∨ ∃ q, toV G t x = .ref q := by
      by_cases e : t = 99
      · subst e; exact Or.inr ⟨_, rfl⟩
      · rw [toV_r G hb' e]
        by_cases e : x = 0
        · exact Or.inl (if_pos e)
        · exact Or.inr ⟨_, if_neg e⟩
    have hk : W p l e R s m args below meth c H locs cells slots Q (F0 m (pc + 2) lm (toV G t x :: tvs G st)) := hk
    dsimp only at hat
    rcases hr with hr | ⟨q, hr⟩
    · rw [hr] at hat hk
      exact lv_aloadN C.1 C.2.1 hd hat hk
    · rw [hr] at hat hk
      exact lv_aload C.1 C.2.1 hd hat hk
  · cases hc
theorem ref_cases {t : Nat} {x : Int} (h : 8 ≤ t) : toV G t x = .null ∨ ∃ q, toV G t x = .ref q := by
  by_cases e : t = 99
  · subst e; exact Or.inr ⟨_, rfl⟩
  · rw [toV_r G h e]
    by_cases e : x = 0
    · exact Or.inl (if_pos e)
    · exact Or.inr ⟨_, if_neg e⟩
theorem row2 {a b : Nat} {v : VV} {r : List VV} (hd : decode (mC k) pc = .ok (ins, len)) (hc : ch2 ins len a b = true) (hb : lod b v.1 = true) (hlt : a + (if b = 1 then 1 else 0) < ls.length) (hp : a = 0 ∨ (ls.getD (a - 1) (9, 0)).1 ≠ 1) :
    Row l G k pc ls (v :: r) μ (pc + len) (if b = 1 then (ls.set a v).set (a + 1) (9, 0) else ls.set a v) r μ := by
  obtain ⟨t, x⟩ := v
  refine Row.same fun p e R s m args below meth c Q H locs cells slots lm C hf hw hR hS hL kk => ?_
  have hlt : a + (if b = 1 then 1 else 0) < mL k := by rw [← hL.1]; exact hlt
  unfold ch2 at hc
  split at hc
  · simp only [Bool.and_eq_true, beq_iff_eq] at hc
    obtain ⟨⟨rfl, hn⟩, rfl⟩ := hc
    have e : t = 0 := by simpa [lod] using hb
    subst e
    exact lv_istore_n C.1 C.2.1 hd hn hL.has (by simpa using hlt) rfl (fun lm' h' => kk lm' (hL.set1 (v := (0, x)) (by simpa using hlt) hp h'))
  · simp only [Bool.and_eq_true, beq_iff_eq] at hc
    obtain ⟨⟨rfl, rfl⟩, rfl⟩ := hc
    have e : t = 0 := by simpa [lod] using hb
    subst e
    exact lv_istore C.1 C.2.1 hd hL.has (by simpa using hlt) rfl (fun lm' h' => kk lm' (hL.set1 (v := (0, x)) (by simpa using hlt) hp h'))
  · simp only [Bool.and_eq_true, beq_iff_eq] at hc
    obtain ⟨⟨rfl, hn⟩, rfl⟩ := hc
    have e : t = 1 := by simpa [lod] using hb
    subst e
    exact lv_lstore_n C.1 C.2.1 hd hn hL.has (by simpa using hlt) rfl (fun lm' h' => kk lm' (hL.set2 (v := (1, x)) (by simpa using hlt) hp h'))
  · simp only [Bool.and_eq_true, beq_iff_eq] at hc
    obtain ⟨⟨rfl, rfl⟩, rfl⟩ := hc
    have e : t = 1 := by simpa [lod] using hb
    subst e
    exact lv_lstore C.1 C.2.1 hd hL.has (by simpa using hlt) rfl (fun lm' h' => kk lm' (hL.set2 (v := (1, x)) (by simpa using hlt) hp h'))
  · simp only [Bool.and_eq_true, beq_iff_eq] at hc
    obtain ⟨⟨rfl, hn⟩, rfl⟩ := hc
    have hb' : 8 ≤ t := by
      simp [lod] at hb
      omega
    show W p l e R s m args below meth c H locs cells slots Q (F0 m pc lm (toV G t x :: tvs G r))
    rcases ref_cases (G := G) (x := x) hb' with hr | ⟨q, hr⟩
    · rw [hr]
      refine lv_astore_nN C.1 C.2.1 hd hn hL.has (by simpa using hlt) rfl (fun lm' h' => kk lm' (hL.set1 (v := (t, x)) (by simpa using hlt) hp (by rw [hr]; exact h')))
    · rw [hr]
      refine lv_astore_n C.1 C.2.1 hd hn hL.has (by simpa using hlt) rfl (fun lm' h' => kk lm' (hL.set1 (v := (t, x)) (by simpa using hlt) hp (by rw [hr]; exact h')))
  · simp only [Bool.and_eq_true, beq_iff_eq] at hc
    obtain ⟨⟨rfl, rfl⟩, rfl⟩ := hc
    have hb' : 8 ≤ t := by
      simp [lod] at hb
      omega
    show W p l e R s m args below meth c H locs cells slots Q (F0 m pc lm (toV G t x :: tvs G r))
    rcases ref_cases (G := G) (x := x) hb' with hr | ⟨q, hr⟩
    · rw [hr]
      refine lv_astoreN C.1 C.2.1 hd hL.has (by simpa using hlt) rfl (fun lm' h' => kk lm' (hL.set1 (v := (t, x)) (by simpa using hlt) hp (by rw [hr]; exact h')))
    · rw [hr]
      refine lv_astore C.1 C.2.1 hd hL.has (by simpa using hlt) rfl (fun lm' h' => kk lm' (hL.set1 (v := (t, x)) (by simpa using hlt) hp (by rw [hr]; exact h')))
  · cases hc
theorem row3 {a : Nat} {z x : Int} (hd : decode (mC k) pc = .ok (ins, len)) (hc : ch3 ins len a z = true) (hv : ls[a]? = some (0, x)) (hp : a = 0 ∨ (ls.getD (a - 1) (9, 0)).1 ≠ 1) :
    Row l G k pc ls st μ (pc + len) (ls.set a (0, w32 (x + z))) st μ := by
  refine Row.same fun p e R s m args below meth c Q H locs cells slots lm C hf hw hR hS hL kk => ?_
  unfold ch3 at hc
  split at hc
  · rename_i n9 i9
    simp only [Bool.and_eq_true, beq_iff_eq] at hc
    obtain ⟨⟨rfl, rfl⟩, rfl⟩ := hc
    have hlt : n9 < mL k := by
      have := (List.getElem?_eq_some_iff.mp hv).1
      rw [hL.1] at this
      exact this
    obtain ⟨j, hj⟩ := List.getElem?_of_mem (mem_lvl (G := G).mpr ⟨_, hv, (show (0 : Nat) ≠ 9 by decide), rfl⟩)
    refine lv_iinc (v := Int32.ofInt (w32 (x + z))) C.1 C.2.1 hd hL.has (k := j) hj ?_ hlt rfl (fun lm' h' => kk lm' (hL.set1 (v := (0, w32 (x + z))) hlt hp h'))
    rw [i32_w, Int32.ofInt_add]
  · cases hc
theorem row4 {a : Nat} {x y : Int} {r : List VV} (hd : decode (mC k) pc = .ok (ins, len)) (hc : ch4 ins len a = true) : Row l G k pc ls ((0, y) :: (0, x) :: r) μ (pc + len) ls ((0, bin a x y) :: r) μ := by
  refine Row.same fun p e R s m args below meth c Q H locs cells slots lm C hf hw hR hS hL kk => ?_
  have hk := kk lm hL
  unfold ch4 at hc
  split at hc
  · simp only [Bool.and_eq_true, beq_iff_eq] at hc
    obtain ⟨rfl, rfl⟩ := hc
    refine lv_iadd C.1 C.2.1 hd ?_
    rw [← Int32.ofInt_add, ← i32_w]; exact hk
  · simp only [Bool.and_eq_true, beq_iff_eq] at hc
    obtain ⟨rfl, rfl⟩ := hc
    refine lv_isub C.1 C.2.1 hd ?_
    rw [← Int32.ofInt_sub, ← i32_w]; exact hk
  · simp only [Bool.and_eq_true, beq_iff_eq] at hc
    obtain ⟨rfl, rfl⟩ := hc
    refine lv_imul C.1 C.2.1 hd ?_
    rw [← Int32.ofInt_mul, ← i32_w]; exact hk
  · simp only [Bool.and_eq_true, beq_iff_eq] at hc
    obtain ⟨rfl, rfl⟩ := hc
    refine lv_iand C.1 C.2.1 hd ?_
    rw [← Int32.ofInt_toInt (Int32.ofInt x &&& Int32.ofInt y)]; exact hk
  · simp only [Bool.and_eq_true, beq_iff_eq] at hc
    obtain ⟨rfl, rfl⟩ := hc
    refine lv_ior C.1 C.2.1 hd ?_
    rw [← Int32.ofInt_toInt (Int32.ofInt x ||| Int32.ofInt y)]; exact hk
  · simp only [Bool.and_eq_true, beq_iff_eq] at hc
    obtain ⟨rfl, rfl⟩ := hc
    refine lv_ishl C.1 C.2.1 hd ?_
    rw [← Int32.ofInt_toInt (Int32.ofInt x <<< (Int32.ofInt y &&& 31))]; exact hk
  · simp only [Bool.and_eq_true, beq_iff_eq] at hc
    obtain ⟨rfl, rfl⟩ := hc
    refine lv_ishr C.1 C.2.1 hd ?_
    rw [← Int32.ofInt_toInt (Int32.ofInt x >>> (Int32.ofInt y &&& 31))]; exact hk
  · cases hc
theorem row5 {a : Nat} {x y : Int} {r : List VV} (hd : decode (mC k) pc = .ok (ins, len)) (hc : ch5 ins len a = true) (hx : R32 x) (hy : R32 y) (h0 : y ≠ 0) : Row l G k pc ls ((0, y) :: (0, x) :: r) μ (pc + len) ls ((0, if a = 0 then w32 (Int.tdiv x y) else Int.tmod x y) :: r) μ := by
  refine Row.same fun p e R s m args below meth c Q H locs cells slots lm C hf hw hR hS hL kk => ?_
  have hk := kk lm hL
  unfold ch5 at hc
  split at hc
  · simp only [Bool.and_eq_true, beq_iff_eq] at hc
    obtain ⟨rfl, rfl⟩ := hc
    refine lv_idiv C.1 C.2.1 hd (fun q => h0 ((i32_eq0 hy).mp q)) ?_
    rw [i32_div hx hy]; exact hk
  · simp only [Bool.and_eq_true, beq_iff_eq] at hc
    obtain ⟨rfl, rfl⟩ := hc
    refine lv_irem C.1 C.2.1 hd (fun q => h0 ((i32_eq0 hy).mp q)) ?_
    rw [i32_rem hx hy]; exact hk
  · cases hc
theorem row6 {a : Nat} {x y : Int} {r : List VV} (hd : decode (mC k) pc = .ok (ins, len)) (hc : ch6 ins len a = true) : Row l G k pc ls ((1, y) :: (1, x) :: r) μ (pc + len) ls ((1, if a = 0 then w64 (x + y) else w64 (x * y)) :: r) μ := by
  refine Row.same fun p e R s m args below meth c Q H locs cells slots lm C hf hw hR hS hL kk => ?_
  have hk := kk lm hL
  unfold ch6 at hc
  split at hc
  · simp only [Bool.and_eq_true, beq_iff_eq] at hc
    obtain ⟨rfl, rfl⟩ := hc
    refine lv_ladd C.1 C.2.1 hd ?_
    rw [← Int64.ofInt_add, ← i64_w]; exact hk
  · simp only [Bool.and_eq_true, beq_iff_eq] at hc
    obtain ⟨rfl, rfl⟩ := hc
    refine lv_lmul C.1 C.2.1 hd ?_
    rw [← Int64.ofInt_mul, ← i64_w]; exact hk
  · cases hc
theorem row7 {a : Nat} {x y : Int} {r : List VV} (hd : decode (mC k) pc = .ok (ins, len)) (hc : ch7 ins len a = true) (hx : R64 x) (hy : R64 y) (h0 : y ≠ 0) : Row l G k pc ls ((1, y) :: (1, x) :: r) μ (pc + len) ls ((1, if a = 0 then w64 (Int.tdiv x y) else Int.tmod x y) :: r) μ := by
  refine Row.same fun p e R s m args below meth c Q H locs cells slots lm C hf hw hR hS hL kk => ?_
  have hk := kk lm hL
  have hz : ¬ Int64.ofInt y = 0 := fun q => h0 ((i64_eq hy ⟨by omega, by omega⟩).mp (show Int64.ofInt y = Int64.ofInt 0 from q))
  unfold ch7 at hc
  split at hc
  · simp only [Bool.and_eq_true, beq_iff_eq] at hc
    obtain ⟨rfl, rfl⟩ := hc
    refine lv_ldiv C.1 C.2.1 hd hz ?_
    rw [i64_div hx hy]; exact hk
  · simp only [Bool.and_eq_true, beq_iff_eq] at hc
    obtain ⟨rfl, rfl⟩ := hc
    refine lv_lrem C.1 C.2.1 hd hz ?_
    rw [i64_rem hx hy]; exact hk
  · cases hc
theorem row8 {x y : Int} {r : List VV} (hd : decode (mC k) pc = .ok (ins, len)) (hc : ch8 ins len = true) (hx : R64 x) (hy : R64 y) : Row l G k pc ls ((1, y) :: (1, x) :: r) μ (pc + len) ls ((0, if x < y then -1 else if x = y then 0 else 1) :: r) μ := by
  refine Row.same fun p e R s m args below meth c Q H locs cells slots lm C hf hw hR hS hL kk => ?_
  have hk := kk lm hL
  unfold ch8 at hc
  split at hc
  · simp only [beq_iff_eq] at hc
    subst hc
    refine W.lcmp C.1 C.2.1 hd ?_
    have e : lg_cmp (Int64.ofInt x) (Int64.ofInt y) = Int32.ofInt (if x < y then -1 else if x = y then 0 else 1) := by
      unfold lg_cmp
      by_cases h1 : x < y
      · have h2 : ¬ y < x := by omega
        have h3 : ¬ x = y := by omega
        simp [i64_lt hx hy, i64_lt hy hx, i64_eq hx hy, h1, h2, h3]
        try rfl
      · by_cases h3 : x = y
        · subst h3
          simp
          try rfl
        · have h2 : y < x := by omega
          simp [i64_lt hx hy, i64_lt hy hx, i64_eq hx hy, h1, h2, h3]
          try rfl
    rw [e]; exact hk
  · cases hc
theorem row9 {a : Nat} {x : Int} {r : List VV} (hd : decode (mC k) pc = .ok (ins, len)) (hc : ch9 ins len a = true) (hx : R32 x) : Row l G k pc ls ((0, x) :: r) μ (pc + len) ls ((if a = 0 then (0, w32 (- x)) else (1, x)) :: r) μ := by
  refine Row.same fun p e R s m args below meth c Q H locs cells slots lm C hf hw hR hS hL kk => ?_
  have hk := kk lm hL
  unfold ch9 at hc
  split at hc
  · simp only [Bool.and_eq_true, beq_iff_eq] at hc
    obtain ⟨rfl, rfl⟩ := hc
    refine lv_ineg C.1 C.2.1 hd ?_
    rw [← Int32.ofInt_neg, ← i32_w]; exact hk
  · simp only [Bool.and_eq_true, beq_iff_eq] at hc
    obtain ⟨rfl, rfl⟩ := hc
    refine lv_i2l (v := Int64.ofInt x) C.1 C.2.1 hd ?_ hk
    apply Int64.toInt.inj
    rw [Int32.toInt_toInt64, i32_toInt hx, i64_toInt ⟨by unfold R32 at hx; omega, by unfold R32 at hx; omega⟩]
  · cases hc
def cnd (a : Nat) (x y : Int) : Prop := match a with
  | 0 => x = y
  | 1 => ¬ x = y
  | 2 => x < y
  | 3 => ¬ x < y
  | 4 => y < x
  | 5 => ¬ y < x
  | _ => False
theorem cmp_sel {a : Nat} {x y : Int} {A B : RR} {q : Int × MM} (h : cmp a x y A B = some q) : (cnd a x y ∧ A = some q) ∨ (¬ cnd a x y ∧ B = some q) := by
  unfold cmp at h
  split at h
  · by_cases e : x = y
    · rw [if_pos e] at h; exact Or.inl ⟨e, h⟩
    · rw [if_neg e] at h; exact Or.inr ⟨e, h⟩
  · by_cases e : x = y
    · rw [if_pos e] at h; exact Or.inr ⟨fun q => q e, h⟩
    · rw [if_neg e] at h; exact Or.inl ⟨e, h⟩
  · by_cases e : x < y
    · rw [if_pos e] at h; exact Or.inl ⟨e, h⟩
    · rw [if_neg e] at h; exact Or.inr ⟨e, h⟩
  · by_cases e : x < y
    · rw [if_pos e] at h; exact Or.inr ⟨fun q => q e, h⟩
    · rw [if_neg e] at h; exact Or.inl ⟨e, h⟩
  · by_cases e : y < x
    · rw [if_pos e] at h; exact Or.inl ⟨e, h⟩
    · rw [if_neg e] at h; exact Or.inr ⟨e, h⟩
  · by_cases e : y < x
    · rw [if_pos e] at h; exact Or.inr ⟨fun q => q e, h⟩
    · rw [if_neg e] at h; exact Or.inl ⟨e, h⟩
  · cases h
theorem row10 {a b : Nat} {x : Int} {r : List VV} (hd : decode (mC k) pc = .ok (ins, len)) (hc : ch10 ins pc len a b = true) (hx : R32 x) : (cnd a x 0 → Row l G k pc ls ((0, x) :: r) μ b ls r μ) ∧ (¬ cnd a x 0 → Row l G k pc ls ((0, x) :: r) μ (pc + len) ls r μ) := by
  unfold ch10 at hc
  split at hc
  · rename_i cd off
    simp only [Bool.and_eq_true, beq_iff_eq, decide_eq_true_eq] at hc
    obtain ⟨⟨rfl, rfl⟩, ht⟩ := hc
    have hy := z32
    cases cd with
    | eq =>
      refine ⟨fun q => Row.same fun p e R s m args below meth c Q H locs cells slots lm C hf hw hR hS hL kk => ?_, fun q => Row.same fun p e R s m args below meth c Q H locs cells slots lm C hf hw hR hS hL kk => ?_⟩
      · exact lv_if_eq C.1 C.2.1 hd ht (fun _ => kk lm hL) (fun z => absurd ((i32_eq hx hy).mpr q) z)
      · exact lv_if_eq C.1 C.2.1 hd ht (fun z => absurd ((i32_eq hx hy).mp z) q) (fun _ => kk lm hL)
    | ne =>
      refine ⟨fun q => Row.same fun p e R s m args below meth c Q H locs cells slots lm C hf hw hR hS hL kk => ?_, fun q => Row.same fun p e R s m args below meth c Q H locs cells slots lm C hf hw hR hS hL kk => ?_⟩
      · exact lv_if_ne C.1 C.2.1 hd ht (fun _ => kk lm hL) (fun z => absurd ((i32_eq hx hy).mp z) q)
      · exact lv_if_ne C.1 C.2.1 hd ht (fun z => absurd (fun w => z ((i32_eq hx hy).mpr w)) q) (fun _ => kk lm hL)
    | lt =>
      refine ⟨fun q => Row.same fun p e R s m args below meth c Q H locs cells slots lm C hf hw hR hS hL kk => ?_, fun q => Row.same fun p e R s m args below meth c Q H locs cells slots lm C hf hw hR hS hL kk => ?_⟩
      · exact lv_if_lt C.1 C.2.1 hd ht (fun _ => kk lm hL) (fun z => absurd ((i32_lt hx hy).mpr q) z)
      · exact lv_if_lt C.1 C.2.1 hd ht (fun z => absurd ((i32_lt hx hy).mp z) q) (fun _ => kk lm hL)
    | ge =>
      refine ⟨fun q => Row.same fun p e R s m args below meth c Q H locs cells slots lm C hf hw hR hS hL kk => ?_, fun q => Row.same fun p e R s m args below meth c Q H locs cells slots lm C hf hw hR hS hL kk => ?_⟩
      · exact lv_if_ge C.1 C.2.1 hd ht (fun _ => kk lm hL) (fun z => absurd ((i32_le hy hx).mpr (Int.not_lt.mp q)) z)
      · exact lv_if_ge C.1 C.2.1 hd ht (fun z => absurd (Int.not_lt.mpr ((i32_le hy hx).mp z)) q) (fun _ => kk lm hL)
    | gt =>
      refine ⟨fun q => Row.same fun p e R s m args below meth c Q H locs cells slots lm C hf hw hR hS hL kk => ?_, fun q => Row.same fun p e R s m args below meth c Q H locs cells slots lm C hf hw hR hS hL kk => ?_⟩
      · exact lv_if_gt C.1 C.2.1 hd ht (fun _ => kk lm hL) (fun z => absurd ((i32_lt hy hx).mpr q) z)
      · exact lv_if_gt C.1 C.2.1 hd ht (fun z => absurd ((i32_lt hy hx).mp z) q) (fun _ => kk lm hL)
    | le =>
      refine ⟨fun q => Row.same fun p e R s m args below meth c Q H locs cells slots lm C hf hw hR hS hL kk => ?_, fun q => Row.same fun p e R s m args below meth c Q H locs cells slots lm C hf hw hR hS hL kk => ?_⟩
      · exact lv_if_le C.1 C.2.1 hd ht (fun _ => kk lm hL) (fun z => absurd ((i32_le hx hy).mpr (Int.not_lt.mp q)) z)
      · exact lv_if_le C.1 C.2.1 hd ht (fun z => absurd (Int.not_lt.mpr ((i32_le hx hy).mp z)) q) (fun _ => kk lm hL)
  · cases hc
theorem row11 {a b : Nat} {x y : Int} {r : List VV} (hd : decode (mC k) pc = .ok (ins, len)) (hc : ch11 ins pc len a b = true) (hx : R32 x) (hy : R32 y) : (cnd a x y → Row l G k pc ls ((0, y) :: (0, x) :: r) μ b ls r μ) ∧ (¬ cnd a x y → Row l G k pc ls ((0, y) :: (0, x) :: r) μ (pc + len) ls r μ) := by
  unfold ch11 at hc
  split at hc
  · rename_i cd off
    simp only [Bool.and_eq_true, beq_iff_eq, decide_eq_true_eq] at hc
    obtain ⟨⟨rfl, rfl⟩, ht⟩ := hc
    cases cd with
    | eq =>
      refine ⟨fun q => Row.same fun p e R s m args below meth c Q H locs cells slots lm C hf hw hR hS hL kk => ?_, fun q => Row.same fun p e R s m args below meth c Q H locs cells slots lm C hf hw hR hS hL kk => ?_⟩
      · exact lv_icmp_eq C.1 C.2.1 hd ht (fun _ => kk lm hL) (fun z => absurd ((i32_eq hx hy).mpr q) z)
      · exact lv_icmp_eq C.1 C.2.1 hd ht (fun z => absurd ((i32_eq hx hy).mp z) q) (fun _ => kk lm hL)
    | ne =>
      refine ⟨fun q => Row.same fun p e R s m args below meth c Q H locs cells slots lm C hf hw hR hS hL kk => ?_, fun q => Row.same fun p e R s m args below meth c Q H locs cells slots lm C hf hw hR hS hL kk => ?_⟩
      · exact lv_icmp_ne C.1 C.2.1 hd ht (fun _ => kk lm hL) (fun z => absurd ((i32_eq hx hy).mp z) q)
      · exact lv_icmp_ne C.1 C.2.1 hd ht (fun z => absurd (fun w => z ((i32_eq hx hy).mpr w)) q) (fun _ => kk lm hL)
    | lt =>
      refine ⟨fun q => Row.same fun p e R s m args below meth c Q H locs cells slots lm C hf hw hR hS hL kk => ?_, fun q => Row.same fun p e R s m args below meth c Q H locs cells slots lm C hf hw hR hS hL kk => ?_⟩
      · exact lv_icmp_lt C.1 C.2.1 hd ht (fun _ => kk lm hL) (fun z => absurd ((i32_lt hx hy).mpr q) z)
      · exact lv_icmp_lt C.1 C.2.1 hd ht (fun z => absurd ((i32_lt hx hy).mp z) q) (fun _ => kk lm hL)
    | ge =>
      refine ⟨fun q => Row.same fun p e R s m args below meth c Q H locs cells slots lm C hf hw hR hS hL kk => ?_, fun q => Row.same fun p e R s m args below meth c Q H locs cells slots lm C hf hw hR hS hL kk => ?_⟩
      · exact lv_icmp_ge C.1 C.2.1 hd ht (fun _ => kk lm hL) (fun z => absurd ((i32_le hy hx).mpr (Int.not_lt.mp q)) z)
      · exact lv_icmp_ge C.1 C.2.1 hd ht (fun z => absurd (Int.not_lt.mpr ((i32_le hy hx).mp z)) q) (fun _ => kk lm hL)
    | gt =>
      refine ⟨fun q => Row.same fun p e R s m args below meth c Q H locs cells slots lm C hf hw hR hS hL kk => ?_, fun q => Row.same fun p e R s m args below meth c Q H locs cells slots lm C hf hw hR hS hL kk => ?_⟩
      · exact lv_icmp_gt C.1 C.2.1 hd ht (fun _ => kk lm hL) (fun z => absurd ((i32_lt hy hx).mpr q) z)
      · exact lv_icmp_gt C.1 C.2.1 hd ht (fun z => absurd ((i32_lt hy hx).mp z) q) (fun _ => kk lm hL)
    | le =>
      refine ⟨fun q => Row.same fun p e R s m args below meth c Q H locs cells slots lm C hf hw hR hS hL kk => ?_, fun q => Row.same fun p e R s m args below meth c Q H locs cells slots lm C hf hw hR hS hL kk => ?_⟩
      · exact lv_icmp_le C.1 C.2.1 hd ht (fun _ => kk lm hL) (fun z => absurd ((i32_le hx hy).mpr (Int.not_lt.mp q)) z)
      · exact lv_icmp_le C.1 C.2.1 hd ht (fun z => absurd (Int.not_lt.mpr ((i32_le hx hy).mp z)) q) (fun _ => kk lm hL)
  · cases hc
theorem row12 {a b t : Nat} {x : Int} {r : List VV} (hd : decode (mC k) pc = .ok (ins, len)) (hc : ch12 ins pc len a b = true) (ht : t = 8 ∨ (10 ≤ t ∧ t < 70)) : (cnd a x 0 → Row l G k pc ls ((t, x) :: r) μ b ls r μ) ∧ (¬ cnd a x 0 → Row l G k pc ls ((t, x) :: r) μ (pc + len) ls r μ) := by
  have hn : x = 0 → toV G t x = .null := fun h => by rw [toV_r G (by omega) (by omega), if_pos h]
  have hr : ¬ x = 0 → toV G t x = .ref (adr G x) := fun h => by rw [toV_r G (by omega) (by omega), if_neg h]
  unfold ch12 at hc
  split at hc
  · simp only [Bool.and_eq_true, beq_iff_eq, decide_eq_true_eq] at hc
    obtain ⟨⟨rfl, rfl⟩, hg⟩ := hc
    refine ⟨fun q => Row.same fun p e R s m args below meth c Q H locs cells slots lm C hf hw hR hS hL kk => ?_, fun q => Row.same fun p e R s m args below meth c Q H locs cells slots lm C hf hw hR hS hL kk => ?_⟩
    · show W p l e R s m args below meth c H locs cells slots Q (F0 m pc lm (toV G t x :: tvs G r))
      rw [hn q]
      exact lv_ifnullN C.1 C.2.1 hd hg (kk lm hL)
    · show W p l e R s m args below meth c H locs cells slots Q (F0 m pc lm (toV G t x :: tvs G r))
      rw [hr q]
      exact lv_ifnull C.1 C.2.1 hd (kk lm hL)
  · simp only [Bool.and_eq_true, beq_iff_eq, decide_eq_true_eq] at hc
    obtain ⟨⟨rfl, rfl⟩, hg⟩ := hc
    refine ⟨fun q => Row.same fun p e R s m args below meth c Q H locs cells slots lm C hf hw hR hS hL kk => ?_, fun q => Row.same fun p e R s m args below meth c Q H locs cells slots lm C hf hw hR hS hL kk => ?_⟩
    · show W p l e R s m args below meth c H locs cells slots Q (F0 m pc lm (toV G t x :: tvs G r))
      rw [hr q]
      exact lv_ifnonnull C.1 C.2.1 hd hg (kk lm hL)
    · show W p l e R s m args below meth c H locs cells slots Q (F0 m pc lm (toV G t x :: tvs G r))
      rw [hn (Classical.not_not.mp q)]
      exact lv_ifnonnullN C.1 C.2.1 hd (kk lm hL)
  · cases hc
theorem row13 {b : Nat} (hd : decode (mC k) pc = .ok (ins, len)) (hc : ch13 ins pc len b = true) : Row l G k pc ls st μ b ls st μ := by
  refine Row.same fun p e R s m args below meth c Q H locs cells slots lm C hf hw hR hS hL kk => ?_
  unfold ch13 at hc
  split at hc
  · simp only [Bool.and_eq_true, beq_iff_eq, decide_eq_true_eq] at hc
    obtain ⟨rfl, ht⟩ := hc
    exact lv_goto C.1 C.2.1 hd ht (kk lm hL)
  · cases hc
def sel (sw : List (Int × Nat)) (d : Nat) (x : Int) : Nat := match sw with
  | [] => d
  | q :: r => if x = q.1 then q.2 else sel r d x
theorem swi_sel {d : Nat} {x : Int} {J : Nat → RR} : ∀ (sw : List (Int × Nat)), swi sw d x J = J (sel sw d x)
  | [] => rfl
  | q :: r => by
    unfold swi sel
    by_cases e : x = q.1
    · rw [if_pos e, if_pos e]
    · rw [if_neg e, if_neg e]; exact swi_sel r
theorem swT_out {pc d : Nat} {x : Int} : ∀ (os : List Int) (sw : List (Int × Nat)) (lo : Int), swT pc lo os sw = true → x < lo ∨ lo + (os.length : Int) ≤ x → sel sw d x = d
  | [], [], _, _, _ => rfl
  | o :: os, q :: qs, lo, h, hx => by
    unfold swT at h
    simp only [Bool.and_eq_true, decide_eq_true_eq] at h
    unfold sel
    simp only [List.length_cons] at hx
    rw [if_neg (by rw [h.1.1]; omega)]
    exact swT_out os qs (lo + 1) h.2 (by omega)
  | [], _ :: _, _, h, _ => by cases h
  | _ :: _, [], _, h, _ => by cases h
theorem swT_in {pc d : Nat} {x : Int} : ∀ (os : List Int) (sw : List (Int × Nat)) (lo : Int), swT pc lo os sw = true → lo ≤ x → x < lo + (os.length : Int) → ∃ off, os[(x - lo).toNat]? = some off ∧ (pc : Int) + off = (sel sw d x : Nat)
  | [], _, lo, _, h1, h2 => by
    simp at h2
    omega
  | o :: os, q :: qs, lo, h, h1, h2 => by
    unfold swT at h
    simp only [Bool.and_eq_true, decide_eq_true_eq] at h
    unfold sel
    simp only [List.length_cons] at h2
    by_cases e : x = lo
    · refine ⟨o, by rw [show (x - lo).toNat = 0 by omega]; rfl, ?_⟩
      rw [if_pos (by rw [h.1.1]; exact e)]
      exact h.1.2
    · obtain ⟨off, a1, a2⟩ := swT_in (d := d) (x := x) os qs (lo + 1) h.2 (by omega) (by omega)
      refine ⟨off, by rw [show (x - lo).toNat = (x - (lo + 1)).toNat + 1 by omega]; exact a1, ?_⟩
      rw [if_neg (by rw [h.1.1]; exact e)]
      exact a2
  | _ :: _, [], _, h, _, _ => by cases h
theorem swL_ok {pc b : Nat} {x d : Int} (hb : (pc : Int) + d = (b : Int)) : ∀ (ps : List (Int × Int)) (sw : List (Int × Nat)), swL pc ps sw = true → (pc : Int) + Op.lookupswitch.offset ps d x = (sel sw b x : Nat)
  | [], [], _ => hb
  | o :: os, q :: qs, h => by
    unfold swL at h
    simp only [Bool.and_eq_true, decide_eq_true_eq] at h
    unfold sel
    obtain ⟨o1, o2⟩ := o
    by_cases e : x = o1
    · rw [if_pos (by rw [h.1.1]; exact e)]
      have : Op.lookupswitch.offset ((o1, o2) :: os) d x = o2 := by simp [Op.lookupswitch.offset, e]
      rw [this]
      exact h.1.2
    · rw [if_neg (by rw [h.1.1]; exact e)]
      have : Op.lookupswitch.offset ((o1, o2) :: os) d x = Op.lookupswitch.offset os d x := by
        simp [Op.lookupswitch.offset]
        intro q
        exact absurd q.symm e
      rw [this]
      exact swL_ok hb os qs h.2
  | [], _ :: _, h => by cases h
  | _ :: _, [], h => by cases h
theorem row14 {b : Nat} {sw : List (Int × Nat)} {x : Int} {r : List VV} (hd : decode (mC k) pc = .ok (ins, len)) (hc : ch14 ins pc b sw = true) (hx : R32 x) : Row l G k pc ls ((0, x) :: r) μ (sel sw b x) ls r μ := by
  refine Row.same fun p e R s m args below meth c Q H locs cells slots lm C hf hw hR hS hL kk => ?_
  have hk := kk lm hL
  unfold ch14 at hc
  split at hc
  · rename_i d lo hi os
    simp only [Bool.and_eq_true, decide_eq_true_eq] at hc
    obtain ⟨⟨hb, hh⟩, hs⟩ := hc
    by_cases h1 : x < lo
    · rw [swT_out os.toList sw lo hs (Or.inl h1)] at hk
      exact lv_tableOut C.1 C.2.1 hd (by rw [i32_toInt hx]; exact Or.inl h1) hb hk
    · by_cases h2 : hi < x
      · rw [swT_out os.toList sw lo hs (Or.inr (by omega))] at hk
        exact lv_tableOut C.1 C.2.1 hd (by rw [i32_toInt hx]; exact Or.inr h2) hb hk
      · obtain ⟨off, a1, a2⟩ := swT_in (d := b) (x := x) os.toList sw lo hs (Int.not_lt.mp h1) (by omega)
        exact lv_tableIn C.1 C.2.1 hd (by rw [i32_toInt hx]; exact h1) (by rw [i32_toInt hx]; exact h2) (by rw [i32_toInt hx, ← Array.getElem?_toList]; exact a1) a2 hk
  · rename_i d ps
    simp only [Bool.and_eq_true, decide_eq_true_eq] at hc
    obtain ⟨⟨hb, hp⟩, hs⟩ := hc
    exact lv_lookup C.1 C.2.1 hd hp (by rw [i32_toInt hx]) (swL_ok hb ps.toList sw hs) hk
  · cases hc
theorem row22 {v : VV} {r : List VV} (hd : decode (mC k) pc = .ok (ins, len)) (hc : ch22 ins len = true) (hv : ¬ v.1 = 1) : Row l G k pc ls (v :: r) μ (pc + len) ls (v :: v :: r) μ := by
  refine Row.same fun p e R s m args below meth c Q H locs cells slots lm C hf hw hR hS hL kk => ?_
  unfold ch22 at hc
  split at hc
  · simp only [beq_iff_eq] at hc
    subst hc
    exact lv_dup C.1 C.2.1 hd (by rw [toV_cat, if_neg hv]) (kk lm hL)
  · cases hc
theorem row23 {v u : VV} {r : List VV} (hd : decode (mC k) pc = .ok (ins, len)) (hc : ch23 ins len = true) (hv : ¬ v.1 = 1) (hu : ¬ u.1 = 1) : Row l G k pc ls (v :: u :: r) μ (pc + len) ls (v :: u :: v :: u :: r) μ := by
  refine Row.same fun p e R s m args below meth c Q H locs cells slots lm C hf hw hR hS hL kk => ?_
  unfold ch23 at hc
  split at hc
  · simp only [beq_iff_eq] at hc
    subst hc
    exact lv_dup2_11 C.1 C.2.1 hd (by rw [toV_cat, if_neg hv]) (by rw [toV_cat, if_neg hu]) (kk lm hL)
  · cases hc
theorem row24 {v : VV} {r : List VV} (hd : decode (mC k) pc = .ok (ins, len)) (hc : ch24 ins len = true) (hv : ¬ v.1 = 1) : Row l G k pc ls (v :: r) μ (pc + len) ls r μ := by
  refine Row.same fun p e R s m args below meth c Q H locs cells slots lm C hf hw hR hS hL kk => ?_
  unfold ch24 at hc
  split at hc
  · simp only [beq_iff_eq] at hc
    subst hc
    exact lv_pop C.1 C.2.1 hd (by rw [toV_cat, if_neg hv]) (kk lm hL)
  · cases hc
end Rows
end
section
/-! ===== reading and writing the store ===== -/
theorem Cel.congr {G : GG} {μ μ' : MM} {x : Int} {H : Heap} (h : Cel G μ x H) (e : ∀ j : Nat, μ' x j = μ x j) : Cel G μ' x H := by
  unfold Cel at h ⊢
  simp only [e]
  exact h
theorem Cel.kept {G : GG} {μ : MM} {x : Int} {H H' : Heap} (h : Cel G μ x H) (e : H'[adr G x]? = H[adr G x]?) : Cel G μ x H' := by
  unfold Cel at h ⊢
  by_cases hc : cty x < 10
  · rw [if_pos hc] at h ⊢
    obtain ⟨r, h1, h2⟩ := h
    exact ⟨r, h1, h2.kept e⟩
  · rw [if_neg hc] at h ⊢
    exact e.trans h
theorem adr_inj {G : GG} {x y : Int} (hx : 1 ≤ x) (hy : 1 ≤ y) (h : adr G x = adr G y) : x = y := by unfold adr at h; omega
theorem up_0 {μ : MM} {x i v : Int} (h : 1 ≤ x) : (up μ x i v) 0 = μ 0 := by
  funext j
  unfold up
  rw [if_neg (by omega)]
theorem up_m {μ : MM} {x i v : Int} (h : 1 ≤ x) : (up μ x i v) (-1) = μ (-1) := by
  funext j
  unfold up
  rw [if_neg (by omega)]
theorem up_ne {μ : MM} {x y i v : Int} (h : y ≠ x) (j : Int) : (up μ x i v) y j = μ y j := by
  unfold up
  rw [if_neg (fun q => h q.1)]
theorem up_at {μ : MM} {x i v : Int} (j : Int) : (up μ x i v) x j = if j = i then v else μ x j := by
  unfold up
  by_cases e : j = i
  · rw [if_pos ⟨rfl, e⟩, if_pos e]
  · rw [if_neg (fun q => e q.2), if_neg e]
theorem Rl_up {G : GG} {μ : MM} {H H' : Heap} {x i v : Int} (hR : Rl G μ H) (h1 : 1 ≤ x) (hz : H'.size = H.size) (ho : ∀ q, q ≠ adr G x → H'[q]? = H[q]?) (hc : Cel G (up μ x i v) x H') : Rl G (up μ x i v) H' := by
  refine ⟨by rw [up_0 h1, hz]; exact hR.1, fun y hy1 hy2 => ?_⟩
  rw [up_0 h1] at hy2
  by_cases e : y = x
  · subst e; exact hc
  · exact ((hR.2 y hy1 hy2).congr (fun j => up_ne e j)).kept (ho _ (fun q => e (adr_inj hy1 h1 q)))
theorem CT_ok : ∀ q ∈ CT, q.1 < 10 → q.2 = fnum q.1 := by decide +kernel
theorem cln_obj {x : Int} (h : cty x < 10) : cln x = (fnum (cty x) : Nat) := by
  unfold cln
  unfold cty at h ⊢
  rw [List.getD_eq_getElem?_getD] at h ⊢
  cases hq : CT[x.toNat]? with
  | none => rw [hq] at h; exact absurd h (by decide)
  | some q =>
    rw [hq] at h
    exact congrArg _ (CT_ok q (List.mem_of_getElem? hq) h)
theorem cty_in {x : Int} (h : cty x ≠ 99) : x.toNat < 90 := by
  refine Nat.not_le.mp fun q => h ?_
  unfold cty
  rw [List.getD_eq_getElem?_getD, List.getElem?_eq_none (show CT.length ≤ x.toNat from q)]
  rfl
theorem fit_ok {G : GG} {nc : Int} {ty : FieldType} {t : Nat} {x : Int} (h : tagTy ty t = true) (hv : okv nc t x) : narrow ty (toV G t x) = toV G t x ∧ fits ty (toV G t x) = true := by
  unfold tagTy at h
  split at h
  · simp only [beq_iff_eq] at h; subst h; exact ⟨rfl, rfl⟩
  · simp only [beq_iff_eq] at h; subst h
    rcases hv with hv | hv <;> subst hv <;> exact ⟨rfl, rfl⟩
  · simp only [beq_iff_eq] at h; subst h; exact ⟨rfl, rfl⟩
  · simp only [Bool.and_eq_true, decide_eq_true_eq] at h
    rcases ref_cases (G := G) (t := t) (x := x) (by omega) with e | ⟨q, e⟩ <;> rw [e] <;> exact ⟨rfl, rfl⟩
  · simp only [Bool.and_eq_true, decide_eq_true_eq] at h
    rcases ref_cases (G := G) (t := t) (x := x) (by omega) with e | ⟨q, e⟩ <;> rw [e] <;> exact ⟨rfl, rfl⟩
  · cases h
theorem def_ok {G : GG} {ty : FieldType} {t : Nat} (h : tagTy ty t = true) : defaultValue ty = toV G t 0 := by
  unfold tagTy at h
  split at h
  · simp only [beq_iff_eq] at h; subst h; rfl
  · simp only [beq_iff_eq] at h; subst h; rfl
  · simp only [beq_iff_eq] at h; subst h; rfl
  · simp only [Bool.and_eq_true, decide_eq_true_eq] at h
    rw [toV_r G (by omega) (by omega), if_pos rfl]; rfl
  · simp only [Bool.and_eq_true, decide_eq_true_eq] at h
    rw [toV_r G (by omega) (by omega), if_pos rfl]; rfl
  · cases h
section Mem
variable {l : Launch} {G : GG} {k pc : Nat} {ls st : List VV} {μ : MM} {ins : Instr} {len : Nat}
theorem row15 {a b c w t : Nat} {x : Int} {r : List VV} (hd : decode (mC k) pc = .ok (ins, len)) (hc : ch15 k ins len a b c w = true) (h1 : 1 ≤ x) (h2 : x < μ 0 0) (hty : cty x = b) (ht : 8 ≤ t) (h9 : t ≠ 99) :
    Row l G k pc ls ((t, x) :: r) μ (pc + len) ls ((if c = 3 then 0 else c, μ x a) :: r) μ ∧ c = ftg b a ∧ b < 10 ∧ a < fnum b := by
  subst hty
  unfold ch15 at hc
  split at hc
  · rename_i i
    simp only [Bool.and_eq_true, beq_iff_eq] at hc
    obtain ⟨rfl, hF⟩ := hc
    unfold chF at hF
    split at hF
    · rename_i r9 hr9
      simp only [Bool.and_eq_true, decide_eq_true_eq] at hF
      obtain ⟨⟨ha, hcc⟩, hlk⟩ := hF
      obtain ⟨hw1, -, -, -, -, -, hfn⟩ := cls_ok _ _ hr9
      have hb : cty x < 10 := Nat.lt_of_lt_of_le (List.getElem?_eq_some_iff.mp hr9).1 (show vwCl.length ≤ 10 by decide)
      refine ⟨Row.same fun p e R s m args below meth c0 Q H locs cells slots lm C hf hw hR hS hL kk => ?_, hcc, hb, by rw [hfn]; exact ha⟩
      obtain ⟨hx, hbb, hml, hrt, hlk2, hown, hts, hK, hn, hB, hN, hX⟩ := C
      have hcel := hR.2 x h1 h2
      unfold Cel at hcel
      rw [if_pos hb] at hcel
      obtain ⟨r8, hr8, cell, q1, q2, q3, q4⟩ := hcel
      have e8 : r8 = r9 := Option.some.inj (hr8.symm.trans hr9)
      subst e8
      obtain ⟨hSl, hfc, kC, hkC, hkind⟩ := hK.1 _ _ hr9
      obtain ⟨cf, kf, fi, f, hi, hsl⟩ := hSl a ha
      show W p l e R s m args below meth c0 H locs cells slots Q (F0 m pc lm (toV G t x :: tvs G r))
      rw [toV_ref G ht h9 (by omega)]
      refine W.getf hx hbb hown (wd_ok hts hlk) hi (u_facts hfc hkC (u_lays hts hw1 ha) hi).1 q1 (by rw [q3]; exact fun h => by cases h) (v := toV G (ftg (cty x) a) (μ x a)) (by rw [hsl, q4 a ha]) rfl rfl hd ?_
      have hk := kk lm hL
      have e3 : toV G (if c = 3 then 0 else c) (μ x a) = toV G (ftg (cty x) a) (μ x a) := by
        rw [← hcc]
        by_cases e : c = 3
        · rw [if_pos e, e]; rfl
        · rw [if_neg e]
      rw [← e3]
      exact hk
    · cases hF
  · cases hc
theorem row16 {a b c w t tv : Nat} {x v : Int} {r : List VV} (hd : decode (mC k) pc = .ok (ins, len)) (hc : ch16 k ins len a b c w = true) (h1 : 1 ≤ x) (h2 : x < μ 0 0) (hty : cty x = b) (ht : 8 ≤ t) (h9 : t ≠ 99) (hv : okv (μ 0 0) c v) (hvv : toV G tv v = toV G c v) :
    Row l G k pc ls ((tv, v) :: (t, x) :: r) μ (pc + len) ls r (up μ x a v) ∧ c = ftg b a ∧ b < 10 ∧ a < fnum b := by
  subst hty
  unfold ch16 at hc
  split at hc
  · rename_i i
    simp only [Bool.and_eq_true, beq_iff_eq] at hc
    obtain ⟨⟨rfl, hF⟩, hfin⟩ := hc
    unfold chF at hF
    split at hF
    · rename_i r9 hr9
      simp only [Bool.and_eq_true, decide_eq_true_eq] at hF
      obtain ⟨⟨ha, hcc⟩, hlk⟩ := hF
      obtain ⟨hw1, -, -, hty0, hnm, htg, hfn⟩ := cls_ok _ _ hr9
      have hb : cty x < 10 := Nat.lt_of_lt_of_le (List.getElem?_eq_some_iff.mp hr9).1 (show vwCl.length ≤ 10 by decide)
      refine ⟨?_, hcc, hb, by rw [hfn]; exact ha⟩
      intro p e R s m args below meth c0 Q H locs cells slots lm C hf hw hR hS hL hce hsl0 kk
      rw [dc_same (by rw [up_0 h1]), ds_same (by rw [up_0 h1])] at kk
      obtain ⟨hx, hbb, hml, hrt, hlk2, hown, hts, hK, hn, hB, hN, hX⟩ := C
      have hcel := hR.2 x h1 h2
      unfold Cel at hcel
      rw [if_pos hb] at hcel
      obtain ⟨r8, hr8, cell, q1, q2, q3, q4⟩ := hcel
      have e8 : r8 = r9 := Option.some.inj (hr8.symm.trans hr9)
      subst e8
      have hap := va_apart (own := (mY k).cls) hts hw1 (tyOf (cty x)) hty0 hnm hK hr9
      obtain ⟨hSl, hfc, kC, hkC, hkind⟩ := hK.1 _ _ hr9
      obtain ⟨cf, kf, fi, f, hi, hsl⟩ := hSl a ha
      have hst := (u_facts hfc hkC (u_lays hts hw1 ha) hi).1
      have hfo := fit_ok (G := G) (htg a ha) (by rw [← hcc]; exact hv)
      rw [← hcc] at hfo
      show W p l e R s m args below meth c0 H locs cells slots Q (F0 m pc lm (toV G tv v :: toV G t x :: tvs G r))
      rw [toV_ref G ht h9 (by omega), hvv]
      have hend : ∀ (H' : Heap), H'[adr G x]? = some (cell.setSlot f.slot (toV G c v)) → H'.size = H.size → (∀ q, q ≠ adr G x → H'[q]? = H[q]?) → W p l e R s m args below meth c0 H' (locs ++ [⟨adr G x, f.slot⟩]) cells slots Q (F0 m (pc + 3) lm (tvs G r)) := by
        intro H' g1 g2 g3
        refine kk H' _ lm (Rl_up hR h1 g2 g3 ?_) (hS.put g2 g3 (show gB G ≤ adr G x from Nat.le_add_right _ _)) hL
        unfold Cel
        rw [if_pos hb]
        rw [hsl] at g1
        refine ⟨_, hr9, t_OB.to (V := updV (fun j => toV G (ftg (cty x) j) (μ x j)) a (toV G c v)) ⟨_, g1, q2, q3, t_set q4 hap ha _⟩ (fun j _ => ?_)⟩
        unfold updV
        rw [up_at]
        by_cases e : j = a
        · subst e
          rw [if_pos rfl, if_pos rfl, hcc]
        · rw [if_neg e, if_neg (by omega)]
      by_cases hF2 : (r8.2.1 a).2.2.2 = true
      · have hlay := hts _ (hw1 _ (u_in_lay ha))
        unfold u_lay at hlay
        rw [if_pos hF2] at hlay
        rw [hr9] at hfin
        simp only [hF2, Bool.not_true, Bool.false_or, Bool.and_eq_true, decide_eq_true_eq] at hfin
        have hcf : m.cls = cf := by
          obtain ⟨_, _, c', _, _, _, -, -, hf', -, -, -, hown2, -⟩ := Cond.laysFinal_spec hlay
          have e1 : c' = cf := by have := hi.symm.trans hf'; simp at this; exact this.1.symm
          rw [hfin.2] at hown2
          rw [← e1]; exact Option.some.inj (hown.symm.trans hown2)
        have h6 := u_fits hfc hkC hkind (Or.inr hlay) hi (hty0 a ha) hfo.1 hfo.2
        exact W.putFinK hx hbb hown (wd_ok hts hlk) hi hst hcf (hn hfin.1) (by rw [q2]; exact h6) q1 q3 (by rw [hsl]; exact k2_hasslot (q4 a ha)) rfl rfl hd hend
      · have hF3 : (r8.2.1 a).2.2.2 = false := by simpa using hF2
        have hlay := hts _ (hw1 _ (u_in_lay ha))
        unfold u_lay at hlay
        rw [if_neg hF2] at hlay
        have h6 := u_store hfc hkC hkind hlay hi (hty0 a ha) hfo.1 hfo.2
        exact W.putK hx hbb (f := f) ⟨hown, wd_ok hts hlk, ⟨_, _, _, hi⟩, hst⟩ (by rw [q2]; exact h6) q1 q3 (by rw [hsl]; exact k2_hasslot (q4 a ha)) rfl rfl hd hend
    · cases hF
  · cases hc
theorem arr_at {H : Heap} {x : Int} (hR : Rl G μ H) (h1 : 1 ≤ x) (h2 : x < μ 0 0) (hy : ¬ cty x < 10) : H[adr G x]? = some (arrV (gA G (cty x)) (cln x).toNat (fun j => toV G (stg (cty x)) (μ x j))) := by
  have h := hR.2 x h1 h2
  unfold Cel at h
  rw [if_neg hy] at h
  exact h
theorem ix_nat {i : Int} (hr : R32 i) (h : 0 ≤ i) : (Int32.ofInt i).toNatClampNeg = i.toNat := by
  show ((Int32.ofInt i).toInt).toNat = i.toNat
  rw [i32_toInt hr]
theorem ix_in {i : Int} {N : Nat} (hr : R32 i) (h : 0 ≤ i) (h2 : i.toNat < N) : ¬ (Int32.ofInt i < 0 ∨ N ≤ (Int32.ofInt i).toNatClampNeg) := by
  rw [ix_nat hr h]
  rintro (q | q)
  · have := (i32_lt hr z32).mp q
    omega
  · omega
theorem tyl_at {G : GG} {s : State} (hK : va_K (gD G) vwCl (tyl G) s) (n : Nat) {q : ClassId × FieldType} (h : (tyl G)[n]? = some q) : ArrOfT s q.1 q.2 ∧ va_RA s q.1 q.2 := hK.2 n q h
theorem row17 {a t y : Nat} {x i : Int} {r : List VV} (hd : decode (mC k) pc = .ok (ins, len)) (hc : ch17 ins len a = true) (h1 : 1 ≤ x) (h2 : x < μ 0 0) (hty : cty x = y) (ht : 8 ≤ t) (h9 : t ≠ 99) (hak : akd a y = true) (hr : R32 i) (hi : 0 ≤ i) (hl : i < cln x) :
    Row l G k pc ls ((0, i) :: (t, x) :: r) μ (pc + len) ls ((etg y, μ x i) :: r) μ := by
  subst hty
  have hy : ¬ cty x < 10 := by
    simp [akd] at hak
    omega
  refine Row.same fun p e R s m args below meth c Q H locs cells slots lm C hf hw hR hS hL kk => ?_
  obtain ⟨hx, hbb, hml, hrt, hlk2, hown, hts, hK, hn, hB, hN, hX⟩ := C
  have hcell := arr_at hR h1 h2 hy
  have hk := kk lm hL
  have hnn : i.toNat < (cln x).toNat := by omega
  have hii : ((i.toNat : Nat) : Int) = i := by omega
  show W p l e R s m args below meth c H locs cells slots Q (F0 m pc lm (.int (Int32.ofInt i) :: toV G t x :: tvs G r))
  rw [toV_ref G ht h9 (by omega)]
  have hsz : ∀ (cA : ClassId) (f : Nat → Value), ¬ (Int32.ofInt i < 0 ∨ (arrV cA (cln x).toNat f).slots.size ≤ (Int32.ofInt i).toNatClampNeg) := fun cA f => by
    rw [arrV_size]; exact ix_in hr hi hnn
  have hrd : ∀ (cA : ClassId) (f : Nat → Value), (arrV cA (cln x).toNat f).slots[(Int32.ofInt i).toNatClampNeg]? = some (f i.toNat) := fun cA f => by
    rw [ix_nat hr hi, arrV_read _ _ hnn]
  have hkn : ∀ (cA : ClassId) (f : Nat → Value), (arrV cA (cln x).toNat f).vm ≠ .unknown := fun _ _ q => by cases q
  unfold ch17 at hc
  split at hc
  · simp only [Bool.and_eq_true, beq_iff_eq] at hc
    obtain ⟨rfl, rfl⟩ := hc
    have e : cty x = 20 := by simpa [akd] using hak
    rw [e] at hcell hk
    refine W.iald hx hbb hcell ((tyl_at hK 0 rfl).1 _ _) (hkn _ _) (hsz _ _) (hrd _ _) rfl rfl hd ?_
    rw [hii]
    exact hk
  · simp only [Bool.and_eq_true, beq_iff_eq] at hc
    obtain ⟨rfl, rfl⟩ := hc
    have e : cty x = 21 := by simpa [akd] using hak
    rw [e] at hcell hk
    refine W.zald hx hbb hcell ((tyl_at hK 1 rfl).1 _ _) (hkn _ _) (hsz _ _) (hrd _ _) rfl rfl hd ?_
    rw [hii]
    exact hk
  · simp only [Bool.and_eq_true, beq_iff_eq] at hc
    obtain ⟨rfl, rfl⟩ := hc
    have e : cty x = 22 ∨ cty x = 23 ∨ cty x = 24 := by
      simp [akd] at hak
      omega
    rcases e with e | e | e
    · rw [e] at hcell hk
      refine W.aald (ty := .object RX1) hx hbb hcell ((tyl_at hK 2 rfl).1 _ _) rfl (hkn _ _) (hsz _ _) (hrd _ _) rfl rfl hd ?_
      rw [hii]
      exact hk
    · rw [e] at hcell hk
      refine W.aald (ty := .object RX0) hx hbb hcell ((tyl_at hK 3 rfl).1 _ _) rfl (hkn _ _) (hsz _ _) (hrd _ _) rfl rfl hd ?_
      rw [hii]
      exact hk
    · rw [e] at hcell hk
      refine W.aald (ty := .array .int) hx hbb hcell ((tyl_at hK 4 rfl).1 _ _) rfl (hkn _ _) (hsz _ _) (hrd _ _) rfl rfl hd ?_
      rw [hii]
      exact hk
  · cases hc
theorem Cel_arr {H H' : Heap} {x i v : Int} {w : Value} (hy : ¬ cty x < 10) (hi : 0 ≤ i) (hcell : H[adr G x]? = some (arrV (gA G (cty x)) (cln x).toNat (fun j => toV G (stg (cty x)) (μ x j)))) (hw : w = toV G (stg (cty x)) v)
    (h' : H'[adr G x]? = some ((arrV (gA G (cty x)) (cln x).toNat (fun j => toV G (stg (cty x)) (μ x j))).setSlot i.toNat w)) : Cel G (up μ x i v) x H' := by
  unfold Cel
  rw [if_neg hy, h', arrV_store]
  refine congrArg (fun f => some (arrV _ _ f)) (funext fun j => ?_)
  unfold updV
  rw [up_at]
  by_cases e : j = i.toNat
  · rw [if_pos e, if_pos (by omega), hw]
  · rw [if_neg e, if_neg (by omega)]
theorem row18 {a t y tv : Nat} {x i v : Int} {r : List VV} (hd : decode (mC k) pc = .ok (ins, len)) (hc : ch18 ins len a = true) (h1 : 1 ≤ x) (h2 : x < μ 0 0) (hty : cty x = y) (ht : 8 ≤ t) (h9 : t ≠ 99) (hak : ast a y tv = true) (hr : R32 i) (hi : 0 ≤ i) (hl : i < cln x)
    (hv0 : okv (μ 0 0) tv v) (hv : okv (μ 0 0) (stg y) v) (hvv : toV G tv v = toV G (stg y) v) :
    Row l G k pc ls ((tv, v) :: (0, i) :: (t, x) :: r) μ (pc + len) ls r (up μ x i v) := by
  subst hty
  have hy : ¬ cty x < 10 := by
    simp [ast] at hak
    omega
  intro p e R s m args below meth c0 Q H locs cells slots lm C hf hw hR hS hL hce hsl0 kk
  rw [dc_same (by rw [up_0 h1]), ds_same (by rw [up_0 h1])] at kk
  obtain ⟨hx, hbb, hml, hrt, hlk2, hown, hts, hK, hn, hB, hN, hX⟩ := C
  have hcell := arr_at hR h1 h2 hy
  have hnn : i.toNat < (cln x).toNat := by omega
  show W p l e R s m args below meth c0 H locs cells slots Q (F0 m pc lm (toV G tv v :: .int (Int32.ofInt i) :: toV G t x :: tvs G r))
  rw [toV_ref G ht h9 (by omega)]
  have hsz : ∀ (cA : ClassId) (f : Nat → Value), ¬ (Int32.ofInt i < 0 ∨ (arrV cA (cln x).toNat f).slots.size ≤ (Int32.ofInt i).toNatClampNeg) := fun cA f => by
    rw [arrV_size]; exact ix_in hr hi hnn
  have hkn : ∀ (cA : ClassId) (f : Nat → Value), (arrV cA (cln x).toNat f).vm ≠ .unknown := fun _ _ q => by cases q
  have hAx : AA G (adr G x) := Nat.le_add_right _ _
  have hend : ∀ (w : Value), w = toV G (stg (cty x)) v → ∀ (H' : Heap), H'[adr G x]? = some ((arrV (gA G (cty x)) (cln x).toNat (fun j => toV G (stg (cty x)) (μ x j))).setSlot (Int32.ofInt i).toNatClampNeg w) → H'.size = H.size → (∀ q, q ≠ adr G x → H'[q]? = H[q]?) → ∀ kq, W p l e R s m args below meth c0 H' (locs ++ [⟨adr G x, kq⟩]) cells slots Q (F0 m (pc + len) lm (tvs G r)) := by
    intro w hw H' g1 g2 g3 kq
    rw [ix_nat hr hi] at g1
    exact kk H' _ lm (Rl_up hR h1 g2 g3 (Cel_arr hy hi hcell hw g1)) (hS.put g2 g3 hAx) hL
  unfold ch18 at hc
  split at hc
  · simp only [Bool.and_eq_true, beq_iff_eq] at hc
    obtain ⟨rfl, rfl⟩ := hc
    have e : cty x = 20 := by simpa [ast] using hak
    have hA : ArrOfT s (gA G (cty x)) .int := by rw [e]; exact (tyl_at hK 0 rfl).1
    have es : stg (cty x) = 0 := by rw [e]; rfl
    rw [hvv, es]
    exact W.iast hx hbb hcell (hA _ _) (hkn _ _) (hsz _ _) rfl rfl hd (fun H' g1 g2 g3 => hend _ (by rw [es]; rfl) H' g1 g2 g3 _)
  · simp only [Bool.and_eq_true, beq_iff_eq] at hc
    obtain ⟨rfl, rfl⟩ := hc
    have e : cty x = 21 := by simpa [ast] using hak
    have hA : ArrOfT s (gA G (cty x)) .boolean := by rw [e]; exact (tyl_at hK 1 rfl).1
    have es : stg (cty x) = 3 := by rw [e]; rfl
    rw [es] at hv
    have hfo := fit_ok (G := G) (ty := .boolean) (t := 3) rfl hv
    rw [hvv, es]
    exact W.zast hx hbb hcell (hA _ _) (hkn _ _) (hsz _ _) rfl rfl hd (fun H' g1 g2 g3 => hend _ (by rw [es]; exact hfo.1) H' g1 g2 g3 _)
  · simp only [Bool.and_eq_true, beq_iff_eq] at hc
    obtain ⟨rfl, rfl⟩ := hc
    have ee : (cty x = 22 ∧ tv = 41) ∨ (cty x = 23 ∧ tv = 40) := by
      simp [ast] at hak
      omega
    have hgo : ∀ (ci : Nat) (C : String) (r9 : vw_C), vwCl[ci]? = some r9 → r9.1 = C → tv = 40 + ci → ci < 10 → va_RA s (gA G (cty x)) (.object C) → W p l e R s m args below meth c0 H locs cells slots Q (F0 m pc lm (toV G tv v :: .int (Int32.ofInt i) :: .ref (adr G x) :: tvs G r)) := by
      intro ci C r9 hr9 hC htv hci hRA
      have hv1 := (okv_ref (by omega) (by omega)).mp hv0
      have hcv : cty v = ci := by omega
      have hcel := hR.2 v hv1.1 hv1.2.1
      unfold Cel at hcel
      rw [if_pos (by omega), hcv] at hcel
      obtain ⟨r8, hr8, cellV, g1, g2, g3, -⟩ := hcel
      have hcls := (hK.1 ci r9 hr9).2
      rw [hC] at hcls
      obtain ⟨kA, comp, k1, k2, k3, -⟩ := hRA
      have hcomp : comp = (gD G).1 ci := Option.some.inj (k3.symm.trans hcls.1)
      subst hcomp
      obtain ⟨kC, hkC, -⟩ := hcls.2
      have hrefv : toV G tv v = .ref (adr G v) := toV_ref G (by omega) (by omega) (by omega)
      have hrefs : Value.ref (adr G v) = toV G (stg (cty x)) v := by rw [← hrefv]; exact hvv
      rw [hrefv]
      exact W.aast hx hbb hcell (fun q h => by cases h) (fun h => by cases h) k1 k2 rfl hkC ⟨fun q => (ix_in hr hi hnn) (Or.inl q), by show _ < (arrV _ _ _).slots.size; rw [arrV_size, ix_nat hr hi]; exact hnn⟩ g1 (fun q h => by rw [g3] at h; cases h) (by rw [g2]; exact hkC) (by rw [g2]; exact va_assign hcls) rfl rfl hd (fun H' g1 g2 g3 => hend _ hrefs H' g1 g2 g3 _)
    rcases ee with ⟨e, e2⟩ | ⟨e, e2⟩
    · exact hgo 1 RX1 _ rfl rfl e2 (by omega) (by rw [e]; exact (tyl_at hK 2 rfl).2)
    · exact hgo 0 RX0 _ rfl rfl e2 (by omega) (by rw [e]; exact (tyl_at hK 3 rfl).2)
  · cases hc
theorem CT_small : ∀ q ∈ CT, q.2 ≤ 100000 := by decide +kernel
theorem cln_R (x : Int) : R32 (cln x) ∧ 0 ≤ cln x := by
  unfold cln R32
  rw [List.getD_eq_getElem?_getD]
  cases hq : CT[x.toNat]? with
  | none => exact ⟨⟨by decide, by decide⟩, by decide⟩
  | some q =>
    have := CT_small q (List.mem_of_getElem? hq)
    show (-2147483648 ≤ ((q.2 : Nat) : Int) ∧ ((q.2 : Nat) : Int) < 2147483648) ∧ 0 ≤ ((q.2 : Nat) : Int)
    omega
theorem row19 {t : Nat} {x : Int} {r : List VV} (hd : decode (mC k) pc = .ok (ins, len)) (hc : ch19 ins len = true) (h1 : 1 ≤ x) (h2 : x < μ 0 0) (hy : 20 ≤ cty x ∧ cty x ≤ 24) (ht : 8 ≤ t) (h9 : t ≠ 99) :
    Row l G k pc ls ((t, x) :: r) μ (pc + len) ls ((0, cln x) :: r) μ := by
  refine Row.same fun p e R s m args below meth c Q H locs cells slots lm C hf hw hR hS hL kk => ?_
  obtain ⟨hx, hbb, hml, hrt, hlk2, hown, hts, hK, hn, hB, hN, hX⟩ := C
  have hcell := arr_at hR h1 h2 (by omega)
  show W p l e R s m args below meth c H locs cells slots Q (F0 m pc lm (toV G t x :: tvs G r))
  rw [toV_ref G ht h9 (by omega)]
  have hA : ∃ ty, ArrOfT s (gA G (cty x)) ty := by
    have : cty x = 20 ∨ cty x = 21 ∨ cty x = 22 ∨ cty x = 23 ∨ cty x = 24 := by omega
    rcases this with e | e | e | e | e <;> rw [e]
    · exact ⟨_, (tyl_at hK 0 rfl).1⟩
    · exact ⟨_, (tyl_at hK 1 rfl).1⟩
    · exact ⟨_, (tyl_at hK 2 rfl).1⟩
    · exact ⟨_, (tyl_at hK 3 rfl).1⟩
    · exact ⟨_, (tyl_at hK 4 rfl).1⟩
  obtain ⟨ty, hA⟩ := hA
  unfold ch19 at hc
  split at hc
  · simp only [beq_iff_eq] at hc
    subst hc
    refine W.alen (n := Int32.ofInt (cln x)) hx hbb hcell (hA _ _) ?_ rfl rfl hd (kk lm hL)
    rw [arrV_size]
    have h0 := (cln_R x).2
    rw [show Int32.ofInt (cln x) = Int32.ofInt (((cln x).toNat : Nat) : Int) by rw [Int.toNat_of_nonneg h0], Int32.ofInt_eq_ofNat]
  · cases hc
end Mem
end
section
/-! ===== making cells; the law's script; Math ===== -/
theorem mak_00 {μ : MM} {n : Int} (h : 1 ≤ n) : mak μ n 0 0 = n + 1 := by
  unfold mak
  rw [if_neg (by omega), if_pos ⟨rfl, rfl⟩]
theorem mak_ne {μ : MM} {n y : Int} (h : y ≠ n) (h0 : y ≠ 0) (j : Int) : mak μ n y j = μ y j := by
  unfold mak
  rw [if_neg h, if_neg (fun q => h0 q.1)]
theorem mak_new {μ : MM} {n : Int} (j : Int) : mak μ n n j = 0 := by
  unfold mak
  rw [if_pos rfl]
theorem mak_01 {μ : MM} {n : Int} (h : 1 ≤ n) : mak μ n 0 1 = μ 0 1 := by
  unfold mak
  rw [if_neg (by omega), if_neg (by omega)]
theorem CT_len : CT.length = 90 := by decide
theorem slt_succ {n : Int} (h : 0 ≤ n) (hn : n.toNat < 90) : slt (n + 1) = slt n + (cln n).toNat := by
  unfold slt cln
  have e : (n + 1).toNat = n.toNat + 1 := by omega
  have hq : CT[n.toNat]? = some CT[n.toNat] := List.getElem?_eq_getElem (by rw [CT_len]; exact hn)
  rw [e, List.take_add_one, List.map_append, List.sum_append_nat, List.getD_eq_getElem?_getD, hq]
  simp
theorem slt_mono {a b : Int} (h : a ≤ b) : slt a ≤ slt b := by
  have key : ∀ (l : List (Nat × Nat)) (i j : Nat), i ≤ j → ((l.take i).map Prod.snd).sum ≤ ((l.take j).map Prod.snd).sum := by
    intro l
    induction l with
    | nil => intro i j _; simp
    | cons q r ih =>
      intro i j hij
      cases i with
      | zero => simp
      | succ i =>
        cases j with
        | zero => omega
        | succ j =>
          simp only [List.take_succ_cons, List.map_cons, List.sum_cons]
          have := ih i j (by omega)
          omega
  exact key CT _ _ (by omega)
theorem S_grow {A : Nat → Prop} {H0 H H' : Heap} {locs : List Loc} (hS : va_S A H0 H locs) (hz : H.size ≤ H'.size) (ho : ∀ q, q < H.size → H'[q]? = H[q]?) : va_S A H0 H' locs :=
  ⟨Nat.le_trans hS.1 hz, fun x h1 h2 => (ho x (Nat.lt_of_lt_of_le h1 hS.1)).trans (hS.2.1 x h1 h2), hS.2.2⟩
theorem Rl_mak {G : GG} {μ : MM} {H H' : Heap} (hR : Rl G μ H) (h1 : 1 ≤ μ 0 0) (hz : H'.size = H.size + 1) (ho : ∀ q, q < H.size → H'[q]? = H[q]?) (hc : Cel G (mak μ (μ 0 0)) (μ 0 0) H') : Rl G (mak μ (μ 0 0)) H' := by
  refine ⟨by rw [mak_00 h1, hz, hR.1]; omega, fun y hy1 hy2 => ?_⟩
  rw [mak_00 h1] at hy2
  by_cases e : y = μ 0 0
  · rw [e]; exact hc
  · refine ((hR.2 y hy1 (by omega)).congr (fun j => mak_ne e (by omega) j)).kept (ho _ ?_)
    rw [hR.1]
    unfold adr
    omega
theorem Rl_size {G : GG} {μ : MM} {H : Heap} (hR : Rl G μ H) : H.size = adr G (μ 0 0) := hR.1
theorem cnt_mak {μ : MM} (h1 : 1 ≤ μ 0 0) (hn : (μ 0 0).toNat < 90) : dc μ (mak μ (μ 0 0)) = 1 ∧ ds μ (mak μ (μ 0 0)) = (cln (μ 0 0)).toNat := by
  unfold dc ds
  rw [mak_00 h1, slt_succ (by omega) hn]
  omega
theorem arrI : Jvm.Cond.arrayClass .int ∈ gws := gws_in (by decide +kernel)
theorem arrZ : Jvm.Cond.arrayClass .boolean ∈ gws := gws_in (by decide +kernel)
theorem objI : Jvm.Cond.instanceMethod objectInit ∈ gws := gws_in (by decide +kernel)
set_option maxRecDepth 100000 in
theorem objC : Jvm.Cond.code objectInit ⟨#[0xb1]⟩ 1 none ∈ gws := gws_in (lwt1 (List.mem_of_getElem? (i := 19) rfl))
theorem mtI : Jvm.Cond.initialized "java/lang/Math" ∈ gws := gws_in (by decide +kernel)
theorem mxS : Jvm.Cond.static Lib.Math.max.name ∈ gws := gws_in (by decide +kernel)
theorem mnS : Jvm.Cond.static Lib.Math.min.name ∈ gws := gws_in (by decide +kernel)
theorem mbS : Jvm.Cond.static Lib.Math.abs.name ∈ gws := gws_in (by decide +kernel)
set_option maxRecDepth 100000 in
theorem mxC : Jvm.Cond.code Lib.Math.max.name Lib.Math.max.code 2 (some .int) ∈ gws := gws_in (lwt3 (List.mem_of_getElem? (i := 35) rfl))
set_option maxRecDepth 100000 in
theorem mnC : Jvm.Cond.code Lib.Math.min.name Lib.Math.min.code 2 (some .int) ∈ gws := gws_in (lwt2 (List.mem_of_getElem? (i := 44) rfl))
set_option maxRecDepth 100000 in
theorem mbC : Jvm.Cond.code Lib.Math.abs.name Lib.Math.abs.code 1 (some .int) ∈ gws := gws_in (lwt3 (List.mem_of_getElem? (i := 139) rfl))
section New
variable {l : Launch} {G : GG} {k pc : Nat} {ls st : List VV} {μ : MM} {ins : Instr} {len : Nat}
theorem row25 {a w : Nat} (hd : decode (mC k) pc = .ok (ins, len)) (hc : ch25 k ins len a w = true) (h1 : 1 ≤ μ 0 0) (hty : cty (μ 0 0) = a) :
    Row l G k pc ls st μ (pc + len) ls ((40 + a, μ 0 0) :: st) (mak μ (μ 0 0)) ∧ a < 10 := by
  subst hty
  unfold ch25 at hc
  split at hc
  · rename_i i
    simp only [Bool.and_eq_true, beq_iff_eq] at hc
    obtain ⟨rfl, hF⟩ := hc
    split at hF
    · rename_i r9 hr9
      simp only [decide_eq_true_eq] at hF
      obtain ⟨hw1, hw2, hw3, hty0, hnm, htg, hfn⟩ := cls_ok _ _ hr9
      have hb : cty (μ 0 0) < 10 := Nat.lt_of_lt_of_le (List.getElem?_eq_some_iff.mp hr9).1 (show vwCl.length ≤ 10 by decide)
      have hn90 : (μ 0 0).toNat < 90 := cty_in (by omega)
      refine ⟨?_, hb⟩
      intro p e R s m args below meth c0 Q H locs cells slots lm C hf hw hR hS hL hce hsl0 kk
      obtain ⟨e1, e2⟩ := cnt_mak h1 hn90
      rw [e1, e2] at kk
      rw [e1] at hce
      rw [e2] at hsl0
      rw [cln_obj hb, hfn] at kk hsl0
      simp only [Int.toNat_natCast] at kk hsl0
      obtain ⟨hx, hbb, hml, hrt, hlk2, hown, hts, hK, hn, hB, hN, hX⟩ := C
      have hKn := hK.1 _ _ hr9
      refine W.newcK hx hbb hown (wd_ok hts hF) (hts _ hw2) (hts _ hw3) rfl hd hce hsl0 hKn.2.1 (Rl_size hR) fun H1 kC hkC g1 z1 o1 => ?_
      have o1 : ∀ q, q < H.size → H1[q]? = H[q]? := fun q hq => o1 q (by rw [← Rl_size hR]; exact hq)
      have z1 : H1.size = H.size + 1 := by rw [z1, Rl_size hR]
      have hk := kk H1 locs lm (Rl_mak hR h1 z1 o1 ?_) (S_grow hS (by omega) o1) hL
      · show W p l e R s m args below meth c0 H1 locs (cells + 1) (slots + r9.2.2) Q (F0 m (pc + 3) lm (.ref (adr G (μ 0 0)) :: tvs G st))
        rw [← toV_ref G (t := 40 + cty (μ 0 0)) (x := μ 0 0) (by omega) (by omega) (by omega)]
        exact hk
      · unfold Cel
        rw [if_pos hb]
        refine ⟨r9, hr9, (u_born (tyOf (cty (μ 0 0))) hts hw1 hKn hkC g1 hty0).to (fun j hj => ?_)⟩
        rw [mak_new]
        exact def_ok (htg j hj)
    · cases hF
  · cases hc
theorem row26 {a : Nat} {v : Int} {r : List VV} (hd : decode (mC k) pc = .ok (ins, len)) (hc : ch26 ins len a = true) (h1 : 1 ≤ μ 0 0) (hty : cty (μ 0 0) = a) (hln : cln (μ 0 0) = v) (h0 : 0 ≤ v) (hv : v ≤ 100000) :
    Row l G k pc ls ((0, v) :: r) μ (pc + len) ls ((40 + a, μ 0 0) :: r) (mak μ (μ 0 0)) := by
  subst hty
  have hrv : R32 v := ⟨by omega, by omega⟩
  unfold ch26 at hc
  split at hc
  · rename_i at9
    simp only [Bool.and_eq_true, beq_iff_eq] at hc
    obtain ⟨rfl, hA⟩ := hc
    have hcase : (at9 = .int ∧ cty (μ 0 0) = 20) ∨ (at9 = .boolean ∧ cty (μ 0 0) = 21) := by
      cases at9 <;> simp at hA <;> simp [hA]
    have hn90 : (μ 0 0).toNat < 90 := cty_in (by omega)
    intro p e R s m args below meth c0 Q H locs cells slots lm C hf hw hR hS hL hce hsl0 kk
    obtain ⟨e1, e2⟩ := cnt_mak h1 hn90
    rw [e1, e2, hln] at kk
    rw [e1] at hce
    rw [e2, hln] at hsl0
    obtain ⟨hx, hbb, hml, hrt, hlk2, hown, hts, hK, hn, hB, hN, hX⟩ := C
    have hgo : ∀ (ty : FieldType) (n : Nat), newarray.typeOf at9 = ty → (Jvm.Cond.arrayClass ty) ∈ gws → v.toNat * componentBytes ty ≤ 536870912 → s.vm.findClass ("[" ++ ty.toString) = some (gA G (cty (μ 0 0))) → defaultValue ty = toV G (stg (cty (μ 0 0))) 0 → ¬ cty (μ 0 0) < 10 →
        W p l e R s m args below meth c0 H locs cells slots Q (F0 m pc lm (tvs G ((0, v) :: r))) := by
      intro ty n hty hwd hby hfc hdf hb
      refine va_newaK (N := v.toNat) hx hbb (by rw [hty]; exact hts _ hwd) rfl hd rfl (fun q => ?_) (ix_nat hrv h0) (by rw [hty]; exact hby) hce hsl0 (Rl_size hR) fun H1 cA g1 z1 o1 hAr hfc2 => ?_
      · have := (i32_lt hrv z32).mp q
        omega
      · have o1 : ∀ q, q < H.size → H1[q]? = H[q]? := fun q hq => o1 q (by rw [← Rl_size hR]; exact hq)
        have z1 : H1.size = H.size + 1 := by rw [z1, Rl_size hR]
        rw [hty] at hfc2 g1
        have hcA : cA = gA G (cty (μ 0 0)) := Option.some.inj (hfc2.symm.trans hfc)
        subst hcA
        have hk := kk H1 locs lm (Rl_mak hR h1 z1 o1 ?_) (S_grow hS (by omega) o1) hL
        · show W p l e R s m args below meth c0 H1 locs (cells + 1) (slots + v.toNat) Q (F0 m (pc + 2) lm (.ref (adr G (μ 0 0)) :: tvs G r))
          rw [← toV_ref G (t := 40 + cty (μ 0 0)) (x := μ 0 0) (by omega) (by omega) (by omega)]
          exact hk
        · unfold Cel
          rw [if_neg hb, hln, g1]
          refine congrArg (fun f => some (arrV _ _ f)) (funext fun j => ?_)
          rw [mak_new]
          exact hdf
    rcases hcase with ⟨ea, e9⟩ | ⟨ea, e9⟩
    · subst ea
      exact hgo .int 0 rfl arrI (by show v.toNat * 4 ≤ _; omega) (by rw [e9]; exact (tyl_at hK 0 rfl).2) (by rw [e9]; rfl) (by omega)
    · subst ea
      exact hgo .boolean 1 rfl arrZ (by show v.toNat * 1 ≤ _; omega) (by rw [e9]; exact (tyl_at hK 1 rfl).2) (by rw [e9]; rfl) (by omega)
  · cases hc
theorem row27 {a w : Nat} {v : Int} {r : List VV} (hd : decode (mC k) pc = .ok (ins, len)) (hc : ch27 k ins len a w = true) (h1 : 1 ≤ μ 0 0) (hty : cty (μ 0 0) = a) (hln : cln (μ 0 0) = v) (h0 : 0 ≤ v) (hv : v ≤ 100000) :
    Row l G k pc ls ((0, v) :: r) μ (pc + len) ls ((40 + a, μ 0 0) :: r) (mak μ (μ 0 0)) := by
  subst hty
  have hrv : R32 v := ⟨by omega, by omega⟩
  unfold ch27 at hc
  split at hc
  · rename_i i
    simp only [Bool.and_eq_true, Bool.or_eq_true, beq_iff_eq, decide_eq_true_eq] at hc
    obtain ⟨rfl, hA⟩ := hc
    have hn90 : (μ 0 0).toNat < 90 := cty_in (by omega)
    intro p e R s m args below meth c0 Q H locs cells slots lm C hf hw hR hS hL hce hsl0 kk
    obtain ⟨e1, e2⟩ := cnt_mak h1 hn90
    rw [e1, e2, hln] at kk
    rw [e1] at hce
    rw [e2, hln] at hsl0
    obtain ⟨hx, hbb, hml, hrt, hlk2, hown, hts, hK, hn, hB, hN, hX⟩ := C
    have hgo : ∀ (C : String), wd w = some (.classLink (mY k).cls i C) → va_AO C s → va_RA s (gA G (cty (μ 0 0))) (.object C) → 10 ≤ stg (cty (μ 0 0)) ∧ stg (cty (μ 0 0)) < 40 → ¬ cty (μ 0 0) < 10 → cty (μ 0 0) < 30 →
        W p l e R s m args below meth c0 H locs cells slots Q (F0 m pc lm (tvs G ((0, v) :: r))) := by
      intro C hlk hAO hRA hsg hb hb2
      refine W.anew hx hbb hown (wd_ok hts hlk) (va_AO.use hAO) rfl hd rfl (fun q => ?_) (by rw [ix_nat hrv h0]; omega) hce (by rw [ix_nat hrv h0]; exact hsl0) fun cA kA comp f1 f2 f3 f4 => ?_
      · have := (i32_lt hrv z32).mp q
        omega
      · generalize hH1 : H.push ({ cls := cA, slots := Array.replicate (Int32.ofInt v).toNatClampNeg .null, vm := .none } : Cell) = H1
        have z1 : H1.size = H.size + 1 := by rw [← hH1, Array.size_push]
        have o1 : ∀ q, q < H.size → H1[q]? = H[q]? := fun q hq => by rw [← hH1, Array.getElem?_push, if_neg (Nat.ne_of_lt hq)]
        have g1 : H1[adr G (μ 0 0)]? = some (arrV cA v.toNat (fun _ => .null)) := by rw [← Rl_size hR, ← hH1, Array.getElem?_push_size, ix_nat hrv h0, ← arrV_new]
        have hcA : cA = gA G (cty (μ 0 0)) := by
          obtain ⟨_, _, _, _, _, k4⟩ := hRA
          exact Option.some.inj (f1.symm.trans k4)
        subst hcA
        have hk := kk H1 locs lm (Rl_mak hR h1 z1 o1 ?_) (S_grow hS (by omega) o1) hL
        · rw [ix_nat hrv h0]
          show W p l e R s m args below meth c0 H1 locs (cells + 1) (slots + v.toNat) Q (F0 m (pc + 3) lm (.ref H.size :: tvs G r))
          rw [Rl_size hR, ← toV_ref G (t := 40 + cty (μ 0 0)) (x := μ 0 0) (by omega) (by omega) (by omega)]
          exact hk
        · unfold Cel
          rw [if_neg hb, hln, g1]
          refine congrArg (fun f => some (arrV _ _ f)) (funext fun j => ?_)
          rw [mak_new, toV_r G (by omega) (by omega), if_pos rfl]
    rcases hA with ⟨e9, hlk⟩ | ⟨e9, hlk⟩
    · exact hgo RX1 hlk hN.2.1 (by rw [e9]; exact (tyl_at hK 2 rfl).2) (by rw [e9]; decide) (by omega) (by omega)
    · exact hgo RX0 hlk hN.2.2.1 (by rw [e9]; exact (tyl_at hK 3 rfl).2) (by rw [e9]; decide) (by omega) (by omega)
  · cases hc
theorem row29 {w t : Nat} {x : Int} {r : List VV} (hd : decode (mC k) pc = .ok (ins, len)) (hc : ch29 k ins len w = true) (ht : 40 ≤ t ∧ t < 50) (hx1 : 1 ≤ x) (hct : cats r ≤ 8) : Row l G k pc ls ((t, x) :: r) μ (pc + len) ls r μ := by
  refine Row.same fun p e R s m args below meth c Q H locs cells slots lm C hf hw hR hS hL kk => ?_
  obtain ⟨hx, hbb, hml, hrt, hlk2, hown, hts, hK, hn, hB, hN, hX⟩ := C
  unfold ch29 at hc
  split at hc
  · rename_i i
    simp only [Bool.and_eq_true, beq_iff_eq, decide_eq_true_eq] at hc
    obtain ⟨⟨⟨rfl, h1⟩, h2⟩, hlk⟩ := hc
    show W p l e R s m args below meth c H locs cells slots Q (F0 m pc lm (toV G t x :: tvs G r))
    rw [toV_ref G (by omega) (by omega) (by omega)]
    refine W.objInit hx hbb hown (wd_ok hts hlk) (hts _ objI) (hts _ objC) rfl (by rw [hml]; exact hL.2.1) rfl hd (Nat.le_trans h1 hf) ?_ (kk lm hL)
    have := tvs_cats G r
    show 2 * 0 + ((tvs G r).map fun v => v.category).sum + 12 ≤ R.locals
    omega
  · cases hc
theorem row30 {x i : Int} {r : List VV} (hd : decode (mC k) pc = .ok (ins, len)) (hc : ch30 k ins len = true) (hM : Mok G μ) (hr : R32 i) (hi : 0 ≤ i) (hl : i < μ 0 1) : Row l G k pc ls ((0, i) :: (99, x) :: r) μ (pc + len) ls ((0, μ (-1) i) :: r) μ := by
  refine Row.same fun p e R s m args below meth c Q H locs cells slots lm C hf hw hR hS hL kk => ?_
  obtain ⟨hx, hbb, hml, hrt, hlk2, hown, hts, hK, hn, hB, hN, hX⟩ := C
  unfold ch30 at hc
  split at hc
  · simp only [Bool.and_eq_true, beq_iff_eq] at hc
    obtain ⟨rfl, hk0⟩ := hc
    obtain ⟨h1, h2⟩ := hX hk0
    rw [hM.2.2.2.1] at hl
    refine va_sld hx hbb h2 (Nat.lt_of_lt_of_le h1 hB) (show ¬ AA G (gS G) from Nat.not_le.mpr h1) hS (ix_in hr hi (by omega)) hd ?_
    have hk := kk lm hL
    have e2 := hM.2.2.2.2.2 i.toNat (by omega)
    rw [show ((i.toNat : Nat) : Int) = i by omega] at e2
    rw [e2] at hk
    rw [ix_nat hr hi, ← Int32.ofInt_toInt (gX G i.toNat)]
    exact hk
  · cases hc
theorem row31 {x : Int} {r : List VV} (hd : decode (mC k) pc = .ok (ins, len)) (hc : ch31 k ins len = true) (hM : Mok G μ) : Row l G k pc ls ((99, x) :: r) μ (pc + len) ls ((0, μ 0 1) :: r) μ := by
  refine Row.same fun p e R s m args below meth c Q H locs cells slots lm C hf hw hR hS hL kk => ?_
  obtain ⟨hx, hbb, hml, hrt, hlk2, hown, hts, hK, hn, hB, hN, hX⟩ := C
  unfold ch31 at hc
  split at hc
  · simp only [Bool.and_eq_true, beq_iff_eq] at hc
    obtain ⟨rfl, hk0⟩ := hc
    obtain ⟨h1, h2⟩ := hX hk0
    refine va_slen hx hbb h2 (Nat.lt_of_lt_of_le h1 hB) (show ¬ AA G (gS G) from Nat.not_le.mpr h1) hS hd ?_
    have hk := kk lm hL
    rw [hM.2.2.2.1] at hk
    rw [← Int32.ofInt_eq_ofNat]
    exact hk
  · cases hc
theorem row32 {a w : Nat} {st' : List VV} {v : Int} {r : List VV} (hd : decode (mC k) pc = .ok (ins, len)) (hc : ch32 k ins len a w = true) (hct : cats r ≤ 8)
    (hst : (∃ x y : Int, R32 x ∧ R32 y ∧ st' = (0, y) :: (0, x) :: r ∧ ((a = 0 ∧ v = if x < y then y else x) ∨ (a = 1 ∧ v = if y < x then y else x))) ∨ (∃ x : Int, R32 x ∧ st' = (0, x) :: r ∧ a = 2 ∧ v = if 0 ≤ x then x else w32 (0 - x))) :
    Row l G k pc ls st' μ (pc + len) ls ((0, v) :: r) μ := by
  intro p e R s m args below meth c Q H locs cells slots lm C hf hw hR hS hL hce hsl0 kk
  rw [dc_same rfl, ds_same rfl] at kk
  rw [dc_same rfl] at hce
  rw [ds_same rfl] at hsl0
  have hk := kk H locs lm hR hS hL
  obtain ⟨hx, hbb, hml, hrt, hlk2, hown, hts, hK, hn, hB, hN, hX⟩ := C
  have hcs := tvs_cats G r
  unfold ch32 at hc
  split at hc
  · rename_i i
    simp only [Bool.and_eq_true, beq_iff_eq, decide_eq_true_eq] at hc
    obtain ⟨⟨⟨rfl, h1⟩, h2⟩, hlk⟩ := hc
    rcases hst with ⟨x, y, rx, ry, rfl, ⟨rfl, rfl⟩ | ⟨rfl, rfl⟩⟩ | ⟨x, rx, rfl, rfl, rfl⟩
    · simp only [decide_eq_true_eq] at hlk
      refine va_mmax hx hbb (by rw [hml]; exact hL.2.1.symm) hown (wd_ok hts hlk) (hts _ mxS) (hts _ mtI) (hts _ mxC) (Nat.le_trans h1 hf) (show ((tvs G r).map fun v => v.category).sum + 13 ≤ R.locals by omega) hce hsl0 hd ?_
      have e9 : (if Int32.ofInt x < Int32.ofInt y then Int32.ofInt y else Int32.ofInt x) = Int32.ofInt (if x < y then y else x) := by
        simp only [i32_lt rx ry]
        split <;> rfl
      rw [e9]; exact hk
    · simp only [decide_eq_true_eq] at hlk
      refine va_mmin hx hbb (by rw [hml]; exact hL.2.1.symm) hown (wd_ok hts hlk) (hts _ mnS) (hts _ mtI) (hts _ mnC) (Nat.le_trans h1 hf) (show ((tvs G r).map fun v => v.category).sum + 13 ≤ R.locals by omega) hce hsl0 hd ?_
      have e9 : (if Int32.ofInt y < Int32.ofInt x then Int32.ofInt y else Int32.ofInt x) = Int32.ofInt (if y < x then y else x) := by
        simp only [i32_lt ry rx]
        split <;> rfl
      rw [e9]; exact hk
    · simp only [decide_eq_true_eq] at hlk
      refine va_mabs hx hbb (by rw [hml]; exact hL.2.1.symm) hown (wd_ok hts hlk) (hts _ mbS) (hts _ mtI) (hts _ mbC) (Nat.le_trans h1 hf) (show ((tvs G r).map fun v => v.category).sum + 13 ≤ R.locals by omega) hce hsl0 hd ?_
      have e9 : (if 0 ≤ Int32.ofInt x then Int32.ofInt x else 0 - Int32.ofInt x) = Int32.ofInt (if 0 ≤ x then x else w32 (0 - x)) := by
        have hz : (0 ≤ Int32.ofInt x) ↔ 0 ≤ x := i32_le z32 rx
        by_cases q : 0 ≤ x
        · rw [if_pos (hz.mpr q), if_pos q]
        · rw [if_neg (fun z => q (hz.mp z)), if_neg q, i32_w, Int32.ofInt_sub]
          rfl
      rw [e9]; exact hk
  · cases hc
end New
end
section
/-! ===== calls and answers ===== -/
noncomputable def rst (G : GG) (k : Nat) (r : Int) : List Value := if mT k = 9 then [] else [toV G (mT k) r]
noncomputable def rvl (G : GG) (k : Nat) (r : Int) : Option Value := if mT k = 9 then none else some (toV G (mT k) r)
def rin (t : Nat) : Instr := if t = 9 then .return_ else if t = 1 then .lreturn else if t < 8 then .ireturn else .areturn
def okr (nc : Int) (t : Nat) (r : Int) : Prop := t = 9 ∨ okv nc t r
/-- from here the method ends with r, the store is μ' then; and the machine does so -/
def Pkg (l : Launch) (G : GG) (k pc : Nat) (ls st : List VV) (μ : MM) (r : Int) (μ' : MM) : Prop :=
  μ 0 0 ≤ μ' 0 0 ∧ Mok G μ' ∧ okr (μ' 0 0) (mT k) r ∧
  ∀ (p : Program) (e : Env) (R : Room) (s : State) (m : MethodId) (args : Array Value) (below : List Frame) (meth : Method) (c : Code) (Q : State → Prop) (H : Heap) (locs : List Loc) (cells slots : Nat) (lm : Array Slot),
    Cx G k p s m args meth c → mD k ≤ R.frames → mW k ≤ R.locals → Rl G μ H → va_S (AA G) s.heap H locs → LR G (mL k) ls lm → cells + dc μ μ' ≤ R.cells → slots + ds μ μ' ≤ R.slots →
    (∀ (pcR : Nat) (lmR : Array Slot) (H' : Heap) (locs' : List Loc), decode (mC k) pcR = .ok (rin (mT k), 1) → Rl G μ' H' → va_S (AA G) s.heap H' locs' → W p l e R s m args below meth c H' locs' (cells + dc μ μ') (slots + ds μ μ') Q (F0 m pcR lmR (rst G k r))) →
    W p l e R s m args below meth c H locs cells slots Q (F0 m pc lm (tvs G st))
theorem dc_add {μ μ1 μ' : MM} (h1 : μ 0 0 ≤ μ1 0 0) (h2 : μ1 0 0 ≤ μ' 0 0) : dc μ μ1 + dc μ1 μ' = dc μ μ' := by unfold dc; omega
theorem ds_add {μ μ1 μ' : MM} (h1 : μ 0 0 ≤ μ1 0 0) (h2 : μ1 0 0 ≤ μ' 0 0) : ds μ μ1 + ds μ1 μ' = ds μ μ' := by
  have a1 := slt_mono h1
  have a2 := slt_mono h2
  unfold ds
  omega
theorem Pkg.tail {l : Launch} {G : GG} {k pc nx : Nat} {ls st ls' st' : List VV} {μ μ1 μ' : MM} {r : Int} (hrow : Row l G k pc ls st μ nx ls' st' μ1) (hle : μ 0 0 ≤ μ1 0 0) (hP : Pkg l G k nx ls' st' μ1 r μ') : Pkg l G k pc ls st μ r μ' := by
  obtain ⟨h1, h2, h3, h4⟩ := hP
  have ea := dc_add hle h1
  have eb := ds_add hle h1
  refine ⟨Int.le_trans hle h1, h2, h3, ?_⟩
  intro p e R s m args below meth c Q H locs cells slots lm C hf hw hR hS hL hce hsl kk
  refine hrow p e R s m args below meth c Q H locs cells slots lm C hf hw hR hS hL (by omega) (by omega) (fun H' locs' lm' hR' hS' hL' => ?_)
  refine h4 p e R s m args below meth c Q H' locs' _ _ lm' C hf hw hR' hS' hL' (by omega) (by omega) (fun pcR lmR H'' locs'' hd hR'' hS'' => ?_)
  rw [Nat.add_assoc, ea, Nat.add_assoc, eb]
  exact kk pcR lmR H'' locs'' hd hR'' hS''
noncomputable def wsK (k : Nat) : List Jvm.Cond := .code (mY k) (mC k) (mL k) (mR k) :: gws
noncomputable def rmK (k : Nat) (μ μ' : MM) : Room := { frames := mD k, cells := dc μ μ', slots := ds μ μ', locals := mW k }
def PcK (G : GG) (vals : List Value) (μ : MM) : Array Value → State → Prop := fun a U => a = vals.toArray ∧ Rl G μ U.heap ∧ va_K (gD G) vwCl (tyl G) U ∧ NW U
def QcK (G : GG) (v : Option Value) (μ' : MM) : Array Value → State → Outcome → State → Prop := fun _ st o t => o = .returned v ∧ Rl G μ' t.heap ∧ va_F (AA G) st t
def argv (G : GG) : List VV → List Nat → List Value
  | v :: vs, p :: ps => toV G p v.2 :: argv G vs ps
  | _, _ => []
theorem AOI_moved {u U : State} (hvm : u.vm.Alike U.vm) (h : (Jvm.Cond.arrayOver (.array .int)).before #[] u = true) : (Jvm.Cond.arrayOver (.array .int)).before #[] U = true := by
  obtain ⟨comp, c, k, h1, h2, h3, h4, h5⟩ := arrayOverA_spec h
  obtain ⟨k', hk', he⟩ := hvm.2.2 _ _ h3
  have hi : (U.vm.classes.findIdx? fun (x : Class) => match x.kind with | .array component _ => component == comp | _ => false) = some c := by
    have e1 := va_idx_bare U.vm comp
    have e2 := va_idx_bare u.vm comp
    have e3 : U.vm.bare = u.vm.bare := by first | exact hvm.bare_eq | exact hvm.bare_eq.symm
    rw [e3] at e1
    exact (e1.symm.trans e2).trans h2
  have hkind : k'.kind = .array comp (.array .int) := by rw [he]; exact h4
  have f1 : U.vm.findClass (FieldType.array .int).toString = some comp := by rw [hvm.findClass]; exact h1
  have f2 : U.vm.findClass ("[" ++ (FieldType.array .int).toString) = some c := by rw [hvm.findClass]; exact h5
  unfold Jvm.Cond.before Jvm.Cond.holds
  simp only [Jvm.Cond.value]
  rw [f1, Option.bind_some]
  refine (congrArg (fun o : Option Nat => (o.bind (fun c => (U.vm.classes[c]?).map fun (k : Class) => match k.kind with | .array _ ty => decide (ty = FieldType.array .int) && decide (U.vm.findClass ("[" ++ (FieldType.array .int).toString) = some c) | _ => false) == some true)) hi).trans ?_
  simp [hk', hkind, f2]
theorem NW.same {s U : State} (h : s.vm = U.vm) (hN : NW s) : NW U := by
  obtain ⟨h1, h2, h3, h4⟩ := hN
  refine ⟨fun w hw hn => ?_, va_AO.moved (by rw [h]; exact Vm.Alike.refl _) h2, va_AO.moved (by rw [h]; exact Vm.Alike.refl _) h3, ?_⟩
  · have hz := h1 w hw hn
    unfold nst at hn
    split at hn
    · exact va_Nw.same rfl h hz
    · cases hn
  · exact AOI_moved (by rw [h]; exact Vm.Alike.refl _) h4
theorem NW.warm {s U : State} (h : s.WarmedH U.vm) (hN : NW s) : NW U := by
  obtain ⟨h1, h2, h3, h4⟩ := hN
  refine ⟨fun w hw hn => ?_, va_AO.moved h.alike h2, va_AO.moved h.alike h3, ?_⟩
  · have hz := h1 w hw hn
    unfold nst at hn
    split at hn
    · exact va_Nw.warmM h hz
    · cases hn
  · exact AOI_moved h.alike h4
theorem PcK_blind {G : GG} {vals : List Value} {μ : MM} : FrameBlind (PcK G vals μ) := fun a U g mk h => ⟨h.1, h.2.1, va_K.moved (u := U) (U := U.calling g mk a) (Vm.Alike.refl U.vm) h.2.2.1, NW.same (s := U) (U := U.calling g mk a) rfl h.2.2.2⟩
/-- the locals at a method's entry -/
theorem ent_args {G : GG} : ∀ (vs : List VV) (ps : List Nat) (o i : Nat) (v : VV), vs.length = ps.length → (ent vs ps)[i]? = some v → v.1 ≠ 9 → (o + i, toV G v.1 v.2) ∈ lv_args o (argv G vs ps)
  | [], [], _, _, _, _, h, _ => by cases h
  | u :: vs, p :: ps, o, i, v, hl, h, h9 => by
    unfold ent at h
    unfold argv
    have hl' : vs.length = ps.length := by simpa using hl
    have hcat := toV_cat G p u.2
    by_cases e : p = 1
    · rw [if_pos e] at h
      subst e
      rw [if_pos rfl] at hcat
      show _ ∈ lv_args o (toV G 1 u.2 :: argv G vs ps)
      unfold lv_args
      match i with
      | 0 => cases h; exact List.mem_cons_self
      | 1 => cases h; exact absurd rfl h9
      | i + 2 =>
        have := ent_args (G := G) vs ps (o + 2) i v hl' h h9
        rw [hcat, if_pos rfl]
        refine List.mem_cons_of_mem _ ?_
        rw [show o + (i + 2) = o + 2 + i by omega]
        exact this
    · rw [if_neg e] at h
      rw [if_neg e] at hcat
      show _ ∈ lv_args o (toV G p u.2 :: argv G vs ps)
      unfold lv_args
      match i with
      | 0 => cases h; exact List.mem_cons_self
      | i + 1 =>
        have := ent_args (G := G) vs ps (o + 1) i v hl' h h9
        rw [hcat, if_neg (by decide)]
        refine List.mem_cons_of_mem _ ?_
        rw [show o + (i + 1) = o + 1 + i by omega]
        exact this
  | [], _ :: _, _, _, _, hl, _, _ => by cases hl
  | _ :: _, [], _, _, _, hl, _, _ => by cases hl
theorem ent_len : ∀ (vs : List VV) (ps : List Nat), vs.length = ps.length → (ent vs ps).length = tcat ps
  | [], [], _ => rfl
  | u :: vs, p :: ps, hl => by
    have := ent_len vs ps (by simpa using hl)
    unfold ent tcat
    by_cases e : p = 1
    · rw [if_pos e, if_pos e]; simp [this]; omega
    · rw [if_neg e, if_neg e]; simp [this]; omega
  | [], _ :: _, hl => by cases hl
  | _ :: _, [], hl => by cases hl
theorem argv_sl {G : GG} : ∀ (vs : List VV) (ps : List Nat), vs.length = ps.length → (lg_sl (argv G vs ps)).length = tcat ps
  | [], [], _ => rfl
  | u :: vs, p :: ps, hl => by
    have := argv_sl (G := G) vs ps (by simpa using hl)
    have hcat := toV_cat G p u.2
    unfold argv tcat
    have e : lg_sl (toV G p u.2 :: argv G vs ps) = (if (toV G p u.2).category = 2 then [Slot.val (toV G p u.2), Slot.second] else [Slot.val (toV G p u.2)]) ++ lg_sl (argv G vs ps) := by
      simp [lg_sl]
    rw [e, List.length_append, this, hcat]
    by_cases e : p = 1
    · simp [e]
    · simp [e]
  | [], _ :: _, hl => by cases hl
  | _ :: _, [], hl => by cases hl
theorem LR_entry {G : GG} {n : Nat} {vs : List VV} {ps : List Nat} {lm : Array Slot} (hl : vs.length = ps.length) (hn : tcat ps ≤ n) (h : lv_has lm n (lv_args 0 (argv G vs ps))) : LR G n (pad n (ent vs ps)) lm := by
  have he := ent_len vs ps hl
  refine ⟨?_, h.1, h.2.1, fun i v hi h9 => ?_⟩
  · unfold pad
    rw [List.length_append, List.length_replicate, he]
    omega
  · unfold pad at hi
    by_cases hlt : i < (ent vs ps).length
    · rw [List.getElem?_append_left hlt] at hi
      have := h.2.2 _ (ent_args vs ps 0 i v hl hi h9)
      rw [Nat.zero_add] at this
      exact this
    · rw [List.getElem?_append_right (by omega)] at hi
      have := List.mem_replicate.mp (List.mem_of_getElem? hi)
      rw [this.2] at h9
      exact absurd rfl h9
theorem chM_use {k : Nat} (h0 : k ≠ 0) (h : k < 273) : plainName (mY k).cls = true ∧ (mY k).cls ≠ "java/lang/invoke/MethodHandle" ∧ (mY k).cls ≠ "java/lang/invoke/VarHandle" ∧ (parseMethodDescriptor (mY k).desc).map (fun d => d.parameters.length) = some ((mP k).length - (if mK k = 0 then 0 else 1)) ∧ wd (mwi k) = some (.initialized (mY k).cls) ∧
    (match mK k with
    | 0 => decide (wd (mws k) = some (.static (mY k)))
    | 1 => decide (wd (mws k) = some (.instanceMethod (mY k))) && decide (wd (mwl k) = some (.selects (mY k).cls (mY k) (mY k)))
    | 2 => decide (wd (mws k) = some (.instanceMethod (mY k))) && decide ((mY k).name = "<init>") && mT k == 9
    | _ => false) = true ∧ rtk (mR k) (mT k) = true ∧ (mP k).all tagk = true ∧ tcat (mP k) ≤ mL k ∧
    (mK k == 0 || (match vwCl[(mP k).headD 0 - 40]? with
    | some r => decide (r.1 = (mY k).cls) && decide (40 ≤ (mP k).headD 0) && decide ((mP k).headD 0 < 50) && decide ((mP k) ≠ [])
    | none => false)) = true := by
  have hc := chM_ok h0 h
  unfold chM at hc
  simp only [Bool.and_eq_true, decide_eq_true_eq] at hc
  obtain ⟨a1, a2, a3, a4, a5, a6, a7, a8, a9, a10⟩ := hc
  exact ⟨a1, a2, a3, a4, a5, a6, a7, a8, a9, a10⟩
theorem met_of {l : Launch} {G : GG} {a : Nat} {vs : List VV} {μ μ1 : MM} {v : Int} (h0 : a ≠ 0) (ha : a < 273) (hl : vs.length = (mP a).length) (hP : Pkg l G a 0 (pad (mL a) (ent vs (mP a))) [] μ v μ1) :
    Met l (mY a) (wsK a) (rmK a μ μ1) (PcK G (argv G vs (mP a)) μ) (QcK G (rvl G a v) μ1) (dc μ μ1) (ds μ μ1) (AA G) := by
  obtain ⟨b1, b2, b3, b4, b5, b6, b7, b8, b9, b10⟩ := chM_use h0 ha
  obtain ⟨p1, p2, p3, p4⟩ := hP
  refine Met.ofW (cc := mC a) (maxL := mL a) (ret := mR a) b1 rfl ?_
  intro p e s m args below meth c s₁ B hml hv
  obtain ⟨rfl, hR, hK, hN⟩ := hv
  have hts0 := atoms_spec (ws := wsK a) B.pre
  have hlocks := B.notSynchronized
  have hr := B.returns
  have C : Cx G a p s m (argv G vs (mP a)).toArray meth c := ⟨B.exec, B.bytes, hml, hr, hlocks, findClass_of_methodNamed B.named, fun w hw => hts0 w (List.mem_cons_of_mem _ hw), hK, fun q => (name_of_methodNamed B.named B.method).1.trans q, by rw [hR.1]; exact Nat.le_add_right _ _, hN, fun q => absurd q h0⟩
  have hle := lv_entry (argv G vs (mP a)) (n := mL a) (by rw [argv_sl vs (mP a) hl]; exact b9)
  rw [lg_entry_eq]
  have hLR := LR_entry hl b9 hle
  refine p4 p e _ s m _ below meth c _ s.heap [] 0 0 _ C (Nat.le_refl _) (Nat.le_refl _) hR va_S.rf hLR (by show 0 + dc μ μ1 ≤ dc μ μ1; omega) (by show 0 + ds μ μ1 ≤ ds μ μ1; omega) (fun pcR lmR H' locs' hd hR' hS' => ?_)
  rw [Nat.zero_add, Nat.zero_add]
  have hQ : ∀ t : State, t.heap = H' → s.WarmedH t.vm → QcK G (rvl G a v) μ1 (argv G vs (mP a)).toArray s (.returned (rvl G a v)) t := fun t ht _ => ⟨rfl, by rw [ht]; exact hR', hS'.F ht⟩
  unfold rtk at b7
  unfold rst
  unfold rvl at hQ ⊢
  split at b7
  · rename_i t9 hr9
    simp only [beq_iff_eq] at b7
    rw [b7] at hd hQ ⊢
    rw [if_pos rfl] at hQ ⊢
    exact W.vret B.exec B.bytes (hr.trans hr9) hQ hS'.2.2 hd hlocks
  · rename_i hr9
    simp only [beq_iff_eq] at b7
    rw [b7] at hd hQ ⊢
    rw [if_neg (by decide)] at hQ ⊢
    exact W.iret B.exec B.bytes (hr.trans hr9) hQ hS'.2.2 hd hlocks
  · rename_i hr9
    simp only [beq_iff_eq] at b7
    have hv3 : v = 0 ∨ v = 1 := by
      rcases p3 with q | q
      · rw [b7] at q; cases q
      · rw [b7] at q; exact q
    rw [b7] at hd hQ ⊢
    rw [if_neg (by decide)] at hQ ⊢
    exact W.zret B.exec B.bytes (hr.trans hr9) (by rcases hv3 with q | q <;> subst q <;> rfl) hQ hS'.2.2 hd hlocks
  · rename_i hr9
    simp only [beq_iff_eq] at b7
    rw [b7] at hd hQ ⊢
    rw [if_neg (by decide)] at hQ ⊢
    exact W.lret B.exec B.bytes (hr.trans hr9) hQ hS'.2.2 hd hlocks
  · rename_i n9 hr9
    simp only [Bool.and_eq_true, decide_eq_true_eq] at b7
    rw [if_neg (by omega)] at hQ ⊢
    rw [if_neg (by omega)]
    have hd : decode (mC a) pcR = .ok (.areturn, 1) := by
      unfold rin at hd
      rw [if_neg (by omega), if_neg (by omega), if_neg (by omega)] at hd
      exact hd
    exact W.aret B.exec B.bytes (hr.trans hr9) (Or.inl ⟨_, rfl⟩) (ref_cases (by omega)) hQ hS'.2.2 hd hlocks
  · rename_i n9 hr9
    simp only [Bool.and_eq_true, decide_eq_true_eq] at b7
    rw [if_neg (by omega)] at hQ ⊢
    rw [if_neg (by omega)]
    have hd : decode (mC a) pcR = .ok (.areturn, 1) := by
      unfold rin at hd
      rw [if_neg (by omega), if_neg (by omega), if_neg (by omega)] at hd
      exact hd
    exact W.aret B.exec B.bytes (hr.trans hr9) (Or.inr ⟨_, rfl⟩) (ref_cases (by omega)) hQ hS'.2.2 hd hlocks
  · cases b7
theorem go_call {p : Program} {l : Launch} {e : Env} {R : Room} {s : State} {m : MethodId} {args : Array Value} {below : List Frame} {meth : Method} {c : Code} {H : Heap} {locs : List Loc} {cells slots mc ms : Nat} {Q : State → Prop} {pc : Nat} {lm : Array Slot} {st0 rest : List Value} {G : GG} {v0 : Option Value} {μ1 : MM} {a : Array Value}
    (hr : va_Run p l e R s m args below meth c H locs cells slots mc ms (F0 m pc lm st0) rest (QcK G v0 μ1 a) (AA G)) (hS : va_S (AA G) s.heap H locs)
    (kk : ∀ (H' : Heap) (locs' : List Loc), Rl G μ1 H' → va_S (AA G) s.heap H' locs' → W p l e R s m args below meth c H' locs' (cells + mc) (slots + ms) Q (F0 m (pc + 3) lm (v0.toList ++ rest))) : W p l e R s m args below meth c H locs cells slots Q (F0 m pc lm st0) := by
  intro T hT X
  obtain ⟨v, st₀, t, T', L, h0, X', hL, e1, e2, ⟨hv, hR', hz, hk⟩, st⟩ := hr T hT X
  cases hv
  rw [h0] at hz hk
  obtain ⟨t2, a1, b1⟩ := kk T'.heap (locs ++ L) (by rw [e1]; exact hR')
    ⟨Nat.le_trans hS.1 (by rw [e1]; exact hz), fun q h1 h2 => by rw [e1, hk q (Nat.lt_of_lt_of_le h1 hS.1) h2]; exact hS.2.1 q h1 h2, fun q hq => by
      rcases List.mem_append.mp hq with h | h
      · exact hS.2.2 q h
      · exact hL q h⟩ T' rfl X'
  exact ⟨t2, st t2 a1, b1⟩
end
section
/-! ===== every instruction, and so the whole program ===== -/
theorem cpt_ok {G : GG} {nc : Int} {t : Nat} {x : Int} {p : Nat} {K : RR} {q : Int × MM} (h : cpt t x p K = some q) (hv : okv nc t x) : K = some q ∧ okv nc p x ∧ toV G t x = toV G p x := by
  unfold cpt at h
  by_cases e1 : t = p
  · rw [if_pos e1] at h; subst e1; exact ⟨h, hv, rfl⟩
  rw [if_neg e1] at h
  by_cases e2 : p = 3
  · rw [if_pos e2] at h
    subst e2
    by_cases e3 : t = 0
    · rw [if_pos e3] at h
      subst e3
      by_cases e4 : x = 0 ∨ x = 1
      · rw [if_pos e4] at h; exact ⟨h, e4, rfl⟩
      · rw [if_neg e4] at h; cases h
    · rw [if_neg e3] at h; cases h
  rw [if_neg e2] at h
  by_cases e5 : 10 ≤ p ∧ p < 40
  · rw [if_pos e5] at h
    by_cases e6 : t = p + 30 ∨ t = 8
    · rw [if_pos e6] at h
      rcases e6 with e6 | e6
      · have hr := (okv_ref (by omega) (by omega)).mp hv
        exact ⟨h, (okv_nul e5.1 e5.2).mpr (Or.inr ⟨hr.1, hr.2.1, by omega⟩), by rw [toV_ref G (by omega) (by omega) (by omega), toV_ref G (by omega) (by omega) (by omega)]⟩
      · subst e6
        have hx : x = 0 := hv
        exact ⟨h, (okv_nul e5.1 e5.2).mpr (Or.inl hx), by rw [toV_r G (by omega) (by omega), toV_r G (by omega) (by omega)]⟩
    · rw [if_neg e6] at h; cases h
  rw [if_neg e5] at h
  by_cases e7 : 40 ≤ p ∧ p < 70
  · rw [if_pos e7] at h
    by_cases e8 : t + 30 = p
    · rw [if_pos e8] at h
      by_cases e9 : x = 0
      · rw [if_pos e9] at h; cases h
      · rw [if_neg e9] at h
        have hr := (okv_nul (by omega) (by omega)).mp hv
        rcases hr with hr | hr
        · exact absurd hr e9
        · exact ⟨h, (okv_ref e7.1 e7.2).mpr ⟨hr.1, hr.2.1, by omega⟩, by rw [toV_ref G (by omega) (by omega) e9, toV_ref G (by omega) (by omega) e9]⟩
    · rw [if_neg e8] at h; cases h
  rw [if_neg e7] at h
  cases h
theorem cpa_ok {G : GG} {nc : Int} {K : RR} {q : Int × MM} : ∀ (vs : List VV) (ps : List Nat), cpa vs ps K = some q → (∀ v ∈ vs, okv nc v.1 v.2) → K = some q ∧ vs.length = ps.length ∧ (∀ v ∈ ent vs ps, okl nc v) ∧ tvs G vs = argv G vs ps ∧ (∀ v p, vs.head? = some v → ps.head? = some p → okv nc p v.2)
  | [], [], h, _ => ⟨h, rfl, (fun _ h => by cases h), rfl, (fun _ _ h => by cases h)⟩
  | v :: vs, p :: ps, h, hv => by
    obtain ⟨h1, h2, h3⟩ := cpt_ok (G := G) (K := cpa vs ps K) h (hv v List.mem_cons_self)
    obtain ⟨a1, a2, a3, a4, -⟩ := cpa_ok (G := G) vs ps h1 (fun u hu => hv u (List.mem_cons_of_mem _ hu))
    refine ⟨a1, by simp [a2], ?_, ?_, ?_⟩
    · unfold ent
      by_cases e : p = 1
      · rw [if_pos e]
        subst e
        intro u hu
        rcases List.mem_cons.mp hu with e | hu
        · subst e; exact Or.inr h2
        · rcases List.mem_cons.mp hu with e | hu
          · subst e; exact Or.inl rfl
          · exact a3 u hu
      · rw [if_neg e]
        intro u hu
        rcases List.mem_cons.mp hu with e | hu
        · subst e; exact Or.inr h2
        · exact a3 u hu
    · show toV G v.1 v.2 :: tvs G vs = toV G p v.2 :: argv G vs ps
      rw [h3, a4]
    · intro u p' hu hp
      cases hu
      cases hp
      exact h2
  | [], _ :: _, h, _ => by cases h
  | _ :: _, [], h, _ => by cases h
theorem rcv_ok {nc : Int} {t : Nat} {x : Int} {b : Nat} {K : RR} {q : Int × MM} (h : rcv t x b K = some q) (hb : b < 10) (hv : okv nc t x) : K = some q ∧ 1 ≤ x ∧ x < nc ∧ cty x = b ∧ 8 ≤ t ∧ t ≠ 99 := by
  unfold rcv at h
  by_cases e1 : t = 40 + b
  · rw [if_pos e1] at h
    have hr := (okv_ref (by omega) (by omega)).mp hv
    exact ⟨h, hr.1, hr.2.1, by omega, by omega, by omega⟩
  rw [if_neg e1] at h
  by_cases e2 : t = 10 + b
  · rw [if_pos e2] at h
    by_cases e3 : x = 0
    · rw [if_pos e3] at h; cases h
    · rw [if_neg e3] at h
      rcases (okv_nul (by omega) (by omega)).mp hv with hr | hr
      · exact absurd hr e3
      · exact ⟨h, hr.1, hr.2.1, by omega, by omega, by omega⟩
  rw [if_neg e2] at h
  cases h
theorem rca_ok {nc : Int} {t : Nat} {x : Int} {K : Nat → RR} {q : Int × MM} (h : rca t x K = some q) (hv : okv nc t x) : K (cty x) = some q ∧ 1 ≤ x ∧ x < nc ∧ (20 ≤ cty x ∧ cty x ≤ 24) ∧ 8 ≤ t ∧ t ≠ 99 := by
  unfold rca at h
  by_cases e1 : 60 ≤ t ∧ t ≤ 64
  · rw [if_pos e1] at h
    have hr := (okv_ref (by omega) (by omega)).mp hv
    have e : t - 40 = cty x := by omega
    rw [e] at h
    exact ⟨h, hr.1, hr.2.1, by omega, by omega, by omega⟩
  rw [if_neg e1] at h
  by_cases e2 : 30 ≤ t ∧ t ≤ 34
  · rw [if_pos e2] at h
    by_cases e3 : x = 0
    · rw [if_pos e3] at h; cases h
    · rw [if_neg e3] at h
      rcases (okv_nul (by omega) (by omega)).mp hv with hr | hr
      · exact absurd hr e3
      · have e : t - 10 = cty x := by omega
        rw [e] at h
        exact ⟨h, hr.1, hr.2.1, by omega, by omega, by omega⟩
  rw [if_neg e2] at h
  cases h
theorem ok_set {nc : Int} {ls : List VV} {a : Nat} {v : VV} (h : ∀ w ∈ ls, okl nc w) (hv : okl nc v) : ∀ w ∈ ls.set a v, okl nc w := fun w hw => by
  rcases List.mem_or_eq_of_mem_set hw with q | q
  · exact h w q
  · rw [q]; exact hv
theorem Mok_up {G : GG} {μ : MM} {x v : Int} {i : Int} (hM : Mok G μ) (h1 : 1 ≤ x) (h2 : x < μ 0 0) (hi : 0 ≤ i) (hl : i < cln x) (hv : okv (μ 0 0) (stag x i.toNat) v) : Mok G (up μ x i v) := by
  obtain ⟨a1, a2, a3, a4, a5, a6⟩ := hM
  refine ⟨by rw [up_0 h1]; exact a1, by rw [up_0 h1]; exact a2, ?_, by rw [up_0 h1]; exact a4, a5, fun j hj => by rw [up_m h1]; exact a6 j hj⟩
  intro y j hy1 hy2 hj
  rw [up_0 h1] at hy2 ⊢
  by_cases e : y = x
  · subst e
    rw [up_at]
    by_cases e2 : (j : Int) = i
    · rw [if_pos e2]
      have e3 : i.toNat = j := by omega
      rw [e3] at hv
      exact hv
    · rw [if_neg e2]; exact a3 y j hy1 hy2 hj
  · rw [up_ne e]; exact a3 y j hy1 hy2 hj
theorem FT_ok : ∀ f ∈ FT, ∀ t ∈ f, t = 0 ∨ t = 1 ∨ t = 3 ∨ (10 ≤ t ∧ t < 40) := by decide +kernel
theorem stag_ok {x : Int} {j : Nat} (hc : cty x < 10 ∨ (20 ≤ cty x ∧ cty x ≤ 24)) (hj : (j : Int) < cln x) : stag x j = 0 ∨ stag x j = 1 ∨ stag x j = 3 ∨ (10 ≤ stag x j ∧ stag x j < 40) := by
  unfold stag
  by_cases e : cty x < 10
  · rw [if_pos e]
    rw [cln_obj e] at hj
    have hj : j < fnum (cty x) := by omega
    unfold fnum at hj
    unfold ftg
    cases hq : FT[cty x]? with
    | none =>
      rw [List.getD_eq_getElem?_getD, hq] at hj
      exact absurd hj (Nat.not_lt_zero _)
    | some f =>
      have hfd : FT.getD (cty x) [] = f := by rw [List.getD_eq_getElem?_getD, hq]; rfl
      rw [hfd] at hj ⊢
      have hf := List.mem_of_getElem? hq
      rw [List.getD_eq_getElem?_getD, List.getElem?_eq_getElem hj]
      exact FT_ok f hf f[j] (List.getElem_mem hj)
  · rw [if_neg e]
    have : cty x = 20 ∨ cty x = 21 ∨ cty x = 22 ∨ cty x = 23 ∨ cty x = 24 := by omega
    rcases this with e | e | e | e | e <;> rw [e] <;> decide
theorem okv_zero {nc : Int} {t : Nat} (h : t = 0 ∨ t = 1 ∨ t = 3 ∨ (10 ≤ t ∧ t < 40)) : okv nc t 0 := by
  rcases h with h | h | h | h
  · subst h; exact z32
  · subst h; exact ⟨by decide, by decide⟩
  · subst h; exact Or.inl rfl
  · exact (okv_nul h.1 h.2).mpr (Or.inl rfl)
theorem Mok_mak {G : GG} {μ : MM} (hM : Mok G μ) (hn : (μ 0 0).toNat < 90) (hc : cty (μ 0 0) < 10 ∨ (20 ≤ cty (μ 0 0) ∧ cty (μ 0 0) ≤ 24)) : Mok G (mak μ (μ 0 0)) := by
  obtain ⟨a1, a2, a3, a4, a5, a6⟩ := hM
  refine ⟨by rw [mak_00 a1]; omega, by rw [mak_00 a1]; omega, ?_, by rw [mak_01 a1]; exact a4, a5, fun j hj => by rw [mak_ne (by omega) (by omega)]; exact a6 j hj⟩
  intro y j hy1 hy2 hj
  rw [mak_00 a1] at hy2 ⊢
  by_cases e : y = μ 0 0
  · subst e
    rw [mak_new]
    exact okv_zero (stag_ok hc hj)
  · rw [mak_ne e (by omega)]
    exact (a3 y j hy1 (by omega) hj).mono (by omega)
def RunX (l : Launch) (G : GG) (X : XX) : Prop := ∀ (k pc : Nat) (ls st : List VV) (μ : MM) (r : Int) (μ' : MM), X k pc ls st μ = some (r, μ') → k < 273 → Mok G μ → (∀ v ∈ ls, okl (μ 0 0) v) → (∀ v ∈ st, okv (μ 0 0) v.1 v.2) → ls.length = mL k → Pkg l G k pc ls st μ r μ'
theorem tvs_app (G : GG) (a b : List VV) : tvs G (a ++ b) = tvs G a ++ tvs G b := List.map_append
theorem tvs_rev (G : GG) (a : List VV) : tvs G a.reverse = (tvs G a).reverse := List.map_reverse
theorem GoodK {a : Nat} (h0 : a ≠ 0) (ha : a < 273) : GoodIn gws (wsK a) := fun w hw => by
  rcases List.mem_cons.mp hw with e | h
  · subst e
    exact ⟨gws_in (cd_ok h0 ha), good_of_word rfl⟩
  · exact ⟨h, good_of_word (List.mem_filter.mp h).2⟩
theorem row20 {l : Launch} {G : GG} {k pc len a b c w : Nat} {z : Int} {sw : List (Int × Nat)} {ls vs rest : List VV} {μ μ1 : MM} {v : Int} {ins : Instr} (hd : decode (mC k) pc = .ok (ins, len)) (hc : ch20 k ins len a b c w z sw = true)
    (hlen : vs.length = (mP a).length) (hargs : tvs G vs = argv G vs (mP a)) (hhd : ∀ u p, vs.head? = some u → (mP a).head? = some p → okv (μ 0 0) p u.2) (hct : cats rest ≤ 8) (hP : Pkg l G a 0 (pad (mL a) (ent vs (mP a))) [] μ v μ1) :
    Row l G k pc ls (vs.reverse ++ rest) μ (pc + len) ls (if c = 9 then rest else (c, v) :: rest) μ1 ∧ (c = if mT a = 3 then 0 else mT a) ∧ a ≠ 0 ∧ a < 273 ∧ sw = ((mL a : Int), (mP a).length) :: (mP a).map (fun t => ((0 : Int), t)) := by
  have hC : ∃ i, chC k i a c w z sw = true ∧ len = 3 ∧ ((ins = .invokestatic i ∧ mK a = 0) ∨ (ins = .invokevirtual i ∧ mK a = 1) ∨ (ins = .invokespecial i ∧ mK a = 2)) := by
    unfold ch20 at hc
    split at hc
    · simp only [Bool.and_eq_true, beq_iff_eq] at hc
      exact ⟨_, hc.2, hc.1.1.1, Or.inl ⟨rfl, hc.1.2⟩⟩
    · simp only [Bool.and_eq_true, beq_iff_eq] at hc
      exact ⟨_, hc.2, hc.1.1.1, Or.inr (Or.inl ⟨rfl, hc.1.2⟩)⟩
    · simp only [Bool.and_eq_true, beq_iff_eq] at hc
      exact ⟨_, hc.2, hc.1.1.1, Or.inr (Or.inr ⟨rfl, hc.1.2⟩)⟩
    · cases hc
  clear hc
  obtain ⟨i, hC, rfl, hk⟩ := hC
  unfold chC at hC
  simp only [Bool.and_eq_true, decide_eq_true_eq] at hC
  obtain ⟨⟨⟨⟨⟨⟨ha, h0⟩, hsw⟩, hcc⟩, hfr⟩, hlo⟩, hlk⟩ := hC
  refine ⟨?_, hcc, h0, ha, hsw⟩
  obtain ⟨b1, b2, b3, b4, b5, b6, b7, b8, b9, b10⟩ := chM_use h0 ha
  have hM := met_of h0 ha hlen hP
  intro p e R s m args below meth c0 Q H locs cells slots lm C hf hw hR hS hL hce hsl kk
  obtain ⟨hx, hbb, hml, hrt, hlk2, hown, hts, hK, hn, hB, hN, hX⟩ := C
  have hgood := GoodK h0 ha
  have hini : (Cond.initialized (mY a).cls).before args s = true := wd_ok hts b5
  have hroom : (rmK a μ μ1).frames + 1 ≤ R.frames ∧ 8 + (mL a + 11) + (rmK a μ μ1).locals ≤ R.locals := ⟨Nat.le_trans hfr hf, Nat.le_trans hlo hw⟩
  have hpush : (rvl G a v).toList ++ tvs G rest = tvs G (if c = 9 then rest else (c, v) :: rest) := by
    unfold rvl
    by_cases e9 : mT a = 9
    · rw [if_pos e9, if_pos (by rw [hcc, e9]; rfl)]; rfl
    · rw [if_neg e9]
      have hc9 : ¬ c = 9 := by
        rw [hcc]
        by_cases e3 : mT a = 3
        · rw [if_pos e3]; decide
        · rw [if_neg e3]; exact e9
      rw [if_neg hc9]
      have : toV G c v = toV G (mT a) v := by
        rw [hcc]
        by_cases e3 : mT a = 3
        · rw [if_pos e3, e3]; rfl
        · rw [if_neg e3]
      show toV G (mT a) v :: tvs G rest = toV G c v :: tvs G rest
      rw [this]
  have hkk : ∀ (H' : Heap) (locs' : List Loc), Rl G μ1 H' → va_S (AA G) s.heap H' locs' → W p l e R s m args below meth c0 H' locs' (cells + dc μ μ1) (slots + ds μ μ1) Q (F0 m (pc + 3) lm ((rvl G a v).toList ++ tvs G rest)) := fun H' locs' h1 h2 => by
    rw [hpush]
    exact kk H' locs' lm h1 h2 hL
  have hcat : 2 * (F0 m pc lm (tvs G (vs.reverse ++ rest))).monitorRoom + ((tvs G rest).map fun v => v.category).sum ≤ 8 := lv_room (by rw [tvs_cats]; exact hct)
  have hPc : ∀ U : State, U.heap = H → s.WarmedH U.vm → PcK G (argv G vs (mP a)) μ (argv G vs (mP a)).toArray U := fun U hU hW => ⟨rfl, by rw [hU]; exact hR, va_K.moved hW.alike hK, NW.warm hW hN⟩
  have hfix : CallFix p m c0 (mC k) (mL k) s args gws (mY k).cls := ⟨hx, hbb, hml, hown, hts⟩
  have hnl : ∀ (q : Nat), (mP a).length = q + 1 → vs = vs.head?.toList ++ vs.tail := fun q hq => by
    cases vs with
    | nil => simp at hlen; omega
    | cons u us => rfl
  have hnest : z ≠ 0 → va_Nw (.methodLinkNest (mY k).cls i (mY a) "ScaffoldYard") s := fun hz => by
    rw [if_neg hz] at hlk
    simp only [decide_eq_true_eq] at hlk
    exact hN.1 _ (List.mem_of_getElem? hlk) rfl
  have hplain : z = 0 → (Cond.methodLink (mY k).cls i (mY a)).before args s = true := fun hz => by
    rw [if_pos hz] at hlk
    simp only [decide_eq_true_eq] at hlk
    exact wd_ok hts hlk
  rcases hk with ⟨rfl, hk⟩ | ⟨rfl, hk⟩ | ⟨rfl, hk⟩
  · rw [hk] at b4 b6
    simp only [decide_eq_true_eq] at b6
    have hst := wd_ok hts b6
    have hdd : (mY a).cls ≠ "java/lang/invoke/MethodHandle" ∧ (mY a).cls ≠ "java/lang/invoke/VarHandle" ∧ (parseMethodDescriptor (mY a).desc).map (fun d => d.parameters.length) = some (mP a).length := ⟨b2, b3, b4⟩
    have hstk : (F0 m pc lm (tvs G (vs.reverse ++ rest))).stack = (argv G vs (mP a)).reverse ++ tvs G rest := by
      show tvs G (vs.reverse ++ rest) = _
      rw [tvs_app, tvs_rev, hargs]
    have hal : (argv G vs (mP a)).length = (mP a).length := by rw [← hargs]; unfold tvs; rw [List.length_map]; exact hlen
    by_cases hz : z = 0
    · exact go_call (va_runS hfix hM ⟨callB_of (mP a).length hts hgood rfl rfl rfl hini (hplain hz) hdd hroom, hst⟩ ⟨PcK_blind, hPc⟩ rfl hal hL.2.1 hstk hcat hd ⟨hce, hsl⟩) hS hkk
    · exact go_call (va_runSN hfix hM ⟨va_cnB (mP a).length hts hgood rfl rfl rfl (hnest hz) hini hdd hroom, hst, trivial⟩ ⟨PcK_blind, hPc⟩ rfl hal hL.2.1 hstk hcat hd ⟨hce, hsl⟩) hS hkk
  · rw [hk] at b4 b6 b10
    simp only [Bool.and_eq_true, decide_eq_true_eq] at b6
    obtain ⟨t, ps, hp⟩ : ∃ t ps, mP a = t :: ps := by
      cases hq : mP a with
      | nil => rw [hq] at b10; simp at b10
      | cons t ps => exact ⟨t, ps, rfl⟩
    obtain ⟨r9, hr9, hr1, ht1, ht2⟩ : ∃ r9 : vw_C, vwCl[t - 40]? = some r9 ∧ r9.1 = (mY a).cls ∧ 40 ≤ t ∧ t < 50 := by
      rw [hp] at b10
      simp only [List.headD_cons, Bool.or_eq_true, beq_iff_eq] at b10
      rcases b10 with q | q
      · omega
      · split at q
        · rename_i r8 hr8
          simp only [Bool.and_eq_true, decide_eq_true_eq] at q
          exact ⟨r8, hr8, q.1.1.1, of_decide_eq_true q.1.1.2, of_decide_eq_true q.1.2⟩
        · cases q
    rw [hp] at hM hPc hargs hlen hhd b4
    obtain ⟨u, us, hvs⟩ : ∃ u us, vs = u :: us := by
      cases hq : vs with
      | nil => rw [hq] at hlen; simp at hlen
      | cons u us => exact ⟨u, us, rfl⟩
    subst hvs
    have hu := (okv_ref (by omega) (by omega)).mp (hhd u t rfl rfl)
    have huc : cty u.2 = t - 40 := by omega
    have hur : toV G t u.2 = .ref (adr G u.2) := toV_ref G (by omega) (by omega) (by omega)
    have hav : argv G (u :: us) (t :: ps) = .ref (adr G u.2) :: argv G us ps := by
      show toV G t u.2 :: argv G us ps = _
      rw [hur]
    have hav2 : toV G u.1 u.2 = .ref (adr G u.2) ∧ tvs G us = argv G us ps := by
      have h9 : toV G u.1 u.2 :: tvs G us = .ref (adr G u.2) :: argv G us ps := hargs.trans hav
      exact ⟨(List.cons.inj h9).1, (List.cons.inj h9).2⟩
    rw [hav] at hM hPc
    have hl2 : us.length = ps.length := by simpa using hlen
    have hal : (argv G us ps).length = ps.length := by rw [← hav2.2]; unfold tvs; rw [List.length_map]; exact hl2
    have hdd : (mY a).cls ≠ "java/lang/invoke/MethodHandle" ∧ (mY a).cls ≠ "java/lang/invoke/VarHandle" ∧ (parseMethodDescriptor (mY a).desc).map (fun d => d.parameters.length) = some ps.length := ⟨b2, b3, by rw [b4]; rfl⟩
    have hstk : (F0 m pc lm (tvs G ((u :: us).reverse ++ rest))).stack = (argv G us ps).reverse ++ .ref (adr G u.2) :: tvs G rest := by
      show tvs G ((u :: us).reverse ++ rest) = _
      rw [tvs_app, tvs_rev]
      show (toV G u.1 u.2 :: tvs G us).reverse ++ tvs G rest = _
      rw [hav2.1, hav2.2, List.reverse_cons, List.append_assoc]
      rfl
    have hcel := hR.2 u.2 hu.1 hu.2.1
    unfold Cel at hcel
    rw [if_pos (by omega), huc] at hcel
    obtain ⟨r8, hr8, cell, q1, q2, q3, -⟩ := hcel
    have hpv : PreV s H (mY a).cls (adr G u.2) (PcK G (.ref (adr G u.2) :: argv G us ps) μ) (argv G us ps) := ⟨PcK_blind, ⟨cell, q1, by rw [q3]; rfl, by rw [q2, ← hr1]; exact (hK.1 _ _ hr9).2.1⟩, hPc⟩
    have hin := wd_ok hts b6.1
    have hse := wd_ok hts b6.2
    by_cases hz : z = 0
    · exact go_call (va_runV hfix hM ⟨callB_of ps.length hts hgood rfl rfl rfl hini (hplain hz) hdd hroom, hin, hse⟩ hpv rfl hal hL.2.1 hstk hcat hd ⟨hce, hsl⟩) hS hkk
    · exact go_call (va_runVN hfix hM ⟨va_cnB ps.length hts hgood rfl rfl rfl (hnest hz) hini hdd hroom, hin, hse⟩ hpv rfl hal hL.2.1 hstk hcat hd ⟨hce, hsl⟩) hS hkk
  · rw [hk] at b4 b6 b10
    simp only [Bool.and_eq_true, decide_eq_true_eq, beq_iff_eq] at b6
    obtain ⟨t, ps, hp⟩ : ∃ t ps, mP a = t :: ps := by
      cases hq : mP a with
      | nil => rw [hq] at b10; simp at b10
      | cons t ps => exact ⟨t, ps, rfl⟩
    obtain ⟨r9, hr9, hr1, ht1, ht2⟩ : ∃ r9 : vw_C, vwCl[t - 40]? = some r9 ∧ r9.1 = (mY a).cls ∧ 40 ≤ t ∧ t < 50 := by
      rw [hp] at b10
      simp only [List.headD_cons, Bool.or_eq_true, beq_iff_eq] at b10
      rcases b10 with q | q
      · omega
      · split at q
        · rename_i r8 hr8
          simp only [Bool.and_eq_true, decide_eq_true_eq] at q
          exact ⟨r8, hr8, q.1.1.1, of_decide_eq_true q.1.1.2, of_decide_eq_true q.1.2⟩
        · cases q
    rw [hp] at hM hPc hargs hlen hhd b4
    obtain ⟨u, us, hvs⟩ : ∃ u us, vs = u :: us := by
      cases hq : vs with
      | nil => rw [hq] at hlen; simp at hlen
      | cons u us => exact ⟨u, us, rfl⟩
    subst hvs
    have hu := (okv_ref (by omega) (by omega)).mp (hhd u t rfl rfl)
    have huc : cty u.2 = t - 40 := by omega
    have hur : toV G t u.2 = .ref (adr G u.2) := toV_ref G (by omega) (by omega) (by omega)
    have hav : argv G (u :: us) (t :: ps) = .ref (adr G u.2) :: argv G us ps := by
      show toV G t u.2 :: argv G us ps = _
      rw [hur]
    have hav2 : toV G u.1 u.2 = .ref (adr G u.2) ∧ tvs G us = argv G us ps := by
      have h9 : toV G u.1 u.2 :: tvs G us = .ref (adr G u.2) :: argv G us ps := hargs.trans hav
      exact ⟨(List.cons.inj h9).1, (List.cons.inj h9).2⟩
    rw [hav] at hM hPc
    have hl2 : us.length = ps.length := by simpa using hlen
    have hal : (argv G us ps).length = ps.length := by rw [← hav2.2]; unfold tvs; rw [List.length_map]; exact hl2
    have hdd : (mY a).cls ≠ "java/lang/invoke/MethodHandle" ∧ (mY a).cls ≠ "java/lang/invoke/VarHandle" ∧ (parseMethodDescriptor (mY a).desc).map (fun d => d.parameters.length) = some ps.length := ⟨b2, b3, by rw [b4]; rfl⟩
    have hstk : (F0 m pc lm (tvs G ((u :: us).reverse ++ rest))).stack = (argv G us ps).reverse ++ .ref (adr G u.2) :: tvs G rest := by
      show tvs G ((u :: us).reverse ++ rest) = _
      rw [tvs_app, tvs_rev]
      show (toV G u.1 u.2 :: tvs G us).reverse ++ tvs G rest = _
      rw [hav2.1, hav2.2, List.reverse_cons, List.append_assoc]
      rfl
    have hin := wd_ok hts b6.1.1
    have hrn : mR a = none := by
      rw [b6.2] at b7
      unfold rtk at b7
      split at b7
      · rename_i e9; exact e9
      all_goals first | (cases b7; done) | (simp at b7)
    have hgood2 : GoodIn gws (wsK a) := hgood
    have hws : wsK a = .code (mY a) (mC a) (mL a) none :: gws := by unfold wsK; rw [hrn]
    by_cases hz : z = 0
    · exact go_call (va_runI hfix hM ⟨callB_of ps.length hts hgood2 hws rfl rfl hini (hplain hz) hdd hroom, b6.1.2, hin⟩ ⟨PcK_blind, hPc⟩ rfl hal hL.2.1 hstk hcat hd ⟨hce, hsl⟩) hS hkk
    · exact go_call (va_runIN hfix hM ⟨va_cnB ps.length hts hgood2 hws rfl rfl (hnest hz) hini hdd hroom, b6.1.2, hin⟩ ⟨PcK_blind, hPc⟩ rfl hal hL.2.1 hstk hcat hd ⟨hce, hsl⟩) hS hkk
end
section
/-! ===== new int[n][k], over the machine: my own row (no kit row serves) ===== -/
def gO (cA : ClassId) (N h0 i : Nat) : Cell := arrV cA N (fun j => if j < i then .ref (h0 + 1 + j) else .null)
def gI (cI : ClassId) (M : Nat) : Cell := arrV cI M (fun _ => .int 0)
def gz (T : State) (cA cI : ClassId) (N M : Nat) : Nat → State
  | 0 => T.pushCell (gO cA N T.heap.size 0)
  | i + 1 => ((gz T cA cI N M i).pushCell (gI cI M)).setCell T.heap.size (gO cA N T.heap.size (i + 1))
theorem gO_set (cA : ClassId) (N h0 i : Nat) : (gO cA N h0 i).setSlot i (.ref (h0 + 1 + i)) = gO cA N h0 (i + 1) := by
  unfold gO
  rw [arrV_store]
  refine congrArg (arrV cA N) (funext fun j => ?_)
  unfold updV
  by_cases e : j = i
  · subst e
    rw [if_pos rfl, if_pos (by omega)]
  · rw [if_neg e]
    dsimp only
    by_cases h : j < i
    · rw [if_pos h, if_pos (by omega)]
    · rw [if_neg h, if_neg (by omega)]
theorem gO_size (cA : ClassId) (N h0 i : Nat) : (gO cA N h0 i).slots.size = N := arrV_size _ _ _
theorem gI_size (cI : ClassId) (M : Nat) : (gI cI M).slots.size = M := arrV_size _ _ _
theorem gz_ok (T : State) (cA cI : ClassId) (N M : Nat) : ∀ i, (gz T cA cI N M i).heap.size = T.heap.size + 1 + i ∧ (gz T cA cI N M i).heap[T.heap.size]? = some (gO cA N T.heap.size i) ∧ (gz T cA cI N M i).vm = T.vm ∧ (gz T cA cI N M i).slotsUsed = T.slotsUsed + N + i * M ∧
    (∀ a, a < T.heap.size → (gz T cA cI N M i).heap[a]? = T.heap[a]?) ∧ ∀ j, j < i → (gz T cA cI N M i).heap[T.heap.size + 1 + j]? = some (gI cI M)
  | 0 => ⟨by simp [gz], by simp [gz], rfl, by simp [gz, gO_size], fun a ha => State.heap_pushCell_of_lt _ _ ha, fun j h => absurd h (Nat.not_lt_zero j)⟩
  | i + 1 => by
    obtain ⟨a1, a2, a3, a4, a5, a6⟩ := gz_ok T cA cI N M i
    have hlt : T.heap.size < (gz T cA cI N M i).heap.size := by omega
    have hc : ((gz T cA cI N M i).pushCell (gI cI M)).heap[T.heap.size]? = some (gO cA N T.heap.size i) := by rw [State.heap_pushCell_of_lt (h := hlt)]; exact a2
    refine ⟨?_, State.heap_setCell_self hc, by simp [gz, a3], ?_, fun a ha => ?_, fun j hj => ?_⟩
    · simp [gz, State.setCell, a1]; omega
    · simp [gz, a4, gI_size, Nat.succ_mul]; omega
    · show (((gz T cA cI N M i).pushCell (gI cI M)).setCell T.heap.size _).heap[a]? = _
      have hla : a < (gz T cA cI N M i).heap.size := by rw [a1]; omega
      rw [State.heap_setCell_other (Nat.ne_of_gt ha), State.heap_pushCell_of_lt (h := hla)]
      exact a5 a ha
    · show (((gz T cA cI N M i).pushCell (gI cI M)).setCell T.heap.size _).heap[T.heap.size + 1 + j]? = _
      rw [State.heap_setCell_other (show T.heap.size ≠ T.heap.size + 1 + j by omega)]
      by_cases e : j = i
      · subst e
        rw [← a1]
        exact State.heap_pushCell_size _ _
      · have hla : T.heap.size + 1 + j < (gz T cA cI N M i).heap.size := by rw [a1]; omega
        rw [State.heap_pushCell_of_lt (h := hla)]
        exact a6 j (by omega)
theorem gz_top (T : State) (f : JFrame) (cA cI : ClassId) (N M : Nat) : ∀ i, gz (T.setTop f) cA cI N M i = (gz T cA cI N M i).setTop f
  | 0 => rfl
  | i + 1 => by simp only [gz, gz_top T f cA cI N M i, State.heap_setTop, State.pushCell_setTop, State.setCell_setTop]
section GridWp
variable {E : CtlPost} {e : Env} {d : Bool} {acts : List Action} {s : State}
theorem grid_row {cI cc : ClassId} {kI : Class} {m : Int32} (hk : s.vm.classes[cI]? = some kI) (hkind : kI.kind = .array cc .int) (hm : ¬ m < 0) (hl : ¬ m.toNatClampNeg > e.platform.arrayLengthLimit) (hh : ¬ m.toNatClampNeg * componentBytes .int > e.platform.maxHeapBytes)
    (h1 : s.heap.size < e.platform.maxCells) (h2 : s.slotsUsed + m.toNatClampNeg ≤ e.platform.maxSlots) {Q : Addr → Pre} (hq : ∀ acts', Q s.heap.size d acts' (s.pushCell (gI cI m.toNatClampNeg))) : wp (multianewarray.make cI [m]) Q E e d acts s := by
  rw [multianewarray.make]
  simp only [wp_bind', W.ite, hm, if_false, wp_pure', W.theClass, hk, hkind, Option.some.injEq, exists_eq_left']
  refine W.newArray_of hk hkind hl hh h1 h2 rfl (fun acts' => ?_)
  have := hq acts'
  unfold gI at this
  rw [← arrV_new] at this
  exact this
theorem grid_make {cA cI cc : ClassId} {kA kI : Class} {n m : Int32} (hkA : s.vm.classes[cA]? = some kA) (hkindA : kA.kind = .array cI (.array .int)) (hk : s.vm.classes[cI]? = some kI) (hkind : kI.kind = .array cc .int) (hn : ¬ n < 0) (hm : ¬ m < 0)
    (hl1 : ¬ n.toNatClampNeg > e.platform.arrayLengthLimit) (hh1 : ¬ n.toNatClampNeg * componentBytes (.array .int) > e.platform.maxHeapBytes) (hl : ¬ m.toNatClampNeg > e.platform.arrayLengthLimit) (hh : ¬ m.toNatClampNeg * componentBytes .int > e.platform.maxHeapBytes)
    (hc : s.heap.size + 1 + n.toNatClampNeg ≤ e.platform.maxCells) (hs : s.slotsUsed + n.toNatClampNeg + n.toNatClampNeg * m.toNatClampNeg ≤ e.platform.maxSlots) {Q : Addr → Pre}
    (hq : ∀ d' acts', Q s.heap.size d' acts' (gz s cA cI n.toNatClampNeg m.toNatClampNeg n.toNatClampNeg)) : wp (multianewarray.make cA [n, m]) Q E e d acts s := by
  have hfind : ([m].find? (· < 0)) = none := by simp [hm]
  have h0 : s.pushCell { cls := cA, slots := Array.replicate n.toNatClampNeg .null } = gz s cA cI n.toNatClampNeg m.toNatClampNeg 0 := by
    show s.pushCell _ = s.pushCell _
    refine congrArg _ ?_
    unfold gO
    rw [show (fun j => if j < 0 then Value.ref (s.heap.size + 1 + j) else .null) = (fun _ => Value.null) from funext fun j => if_neg (Nat.not_lt_zero j), ← arrV_new]
  rw [multianewarray.make]
  simp only [wp_bind', W.ite, hn, if_false, wp_pure', W.theClass, hkA, hkindA, Option.some.injEq, exists_eq_left']
  refine W.newArray_of hkA hkindA hl1 hh1 (by omega) (by have := Nat.zero_le (n.toNatClampNeg * m.toNatClampNeg); omega) rfl (fun acts' => ?_)
  rw [h0]
  simp only [hfind]
  rw [ite_self, wp_bind', Std.Legacy.Range.forIn_eq_forIn_range']
  have hsz : ([:n.toNatClampNeg] : Std.Legacy.Range).size = n.toNatClampNeg := by simp [Std.Legacy.Range.size]
  rw [hsz]
  show wp (forIn (List.range' 0 n.toNatClampNeg 1) PUnit.unit _) _ E e d acts' _
  refine wp_forIn_inv (fun rest s' => ∃ i, i ≤ n.toNatClampNeg ∧ rest = List.range' i (n.toNatClampNeg - i) ∧ s' = gz s cA cI n.toNatClampNeg m.toNatClampNeg i) _ _ ⟨0, Nat.zero_le _, rfl, rfl⟩ ?_ ?_
  · rintro x rest s' d' acts' Q' ⟨i, hi, hl9, rfl⟩ hnext
    have hlt : i < n.toNatClampNeg := by
      refine Nat.not_le.mp fun h => ?_
      rw [show n.toNatClampNeg - i = 0 by omega] at hl9
      cases hl9
    rw [show n.toNatClampNeg - i = (n.toNatClampNeg - (i + 1)) + 1 by omega, List.range'_succ] at hl9
    obtain ⟨rfl, hrest⟩ := List.cons.inj hl9
    obtain ⟨a1, a2, a3, a4, a5, a6⟩ := gz_ok s cA cI n.toNatClampNeg m.toNatClampNeg x
    have hmul : x * m.toNatClampNeg + m.toNatClampNeg ≤ n.toNatClampNeg * m.toNatClampNeg := by
      have := Nat.mul_le_mul_right m.toNatClampNeg (show x + 1 ≤ n.toNatClampNeg from hlt)
      rw [Nat.succ_mul] at this
      exact this
    simp only [wp_bind']
    refine grid_row (by rw [a3]; exact hk) hkind hm hl hh (by rw [a1]; omega) (by rw [a4]; omega) (fun acts'' => ?_)
    simp only [wp_bind', W.writeLoc, wp_pure']
    have hla : s.heap.size < (gz s cA cI n.toNatClampNeg m.toNatClampNeg x).heap.size := by rw [a1]; omega
    refine ⟨gO cA n.toNatClampNeg s.heap.size x, (by rw [State.heap_pushCell_of_lt (h := hla)]; exact a2), (fun h => by cases h), (by rw [gO_size]; exact hlt), ?_, hnext _ _ _ ⟨x + 1, hlt, hrest, ?_⟩⟩
    · simp [gO, arrV, State.fitsSlot, State.slotType?, a3, hkA, hkindA, fits]
    · rw [a1, gO_set]
      rfl
  · rintro s' d' acts' ⟨i, hi, hl9, rfl⟩
    have hiN : i = n.toNatClampNeg := by
      rcases Nat.lt_or_ge i n.toNatClampNeg with h | h
      · rw [show n.toNatClampNeg - i = (n.toNatClampNeg - (i + 1)) + 1 by omega, List.range'_succ] at hl9
        cases hl9
      · omega
    subst hiN
    simp only [wp_pure']
    exact hq _ _
end GridWp
section GridW
variable {p : Program} {l : Launch} {e : Env} {R : Room} {s : State} {m : MethodId} {args : Array Value} {below : List Frame} {meth : Method} {c : Code} {T : State} {locs : List Loc} {cells slots : Nat}
theorem gz_stand (X : Stand p l e R s m args below meth c T locs cells slots) (cA cI : ClassId) (N M : Nat) : ∀ i, Stand p l e R s m args below meth c (gz T cA cI N M i) (locs ++ (List.range i).map fun j => ⟨T.heap.size, j⟩) (cells + 1 + i) (slots + N + i * M)
  | 0 => by
    have h := X.pushed (gO cA N T.heap.size 0)
    rw [gO_size] at h
    simpa [gz] using h
  | i + 1 => by
    have Xi := gz_stand X cA cI N M i
    obtain ⟨a1, a2, a3, a4, a5, a6⟩ := gz_ok T cA cI N M i
    have hlt : T.heap.size < (gz T cA cI N M i).heap.size := by rw [a1]; omega
    have hc : ((gz T cA cI N M i).pushCell (gI cI M)).heap[T.heap.size]? = some (gO cA N T.heap.size i) := by rw [State.heap_pushCell_of_lt (h := hlt)]; exact a2
    have h := (Xi.pushed (gI cI M)).stored hc i (.ref (T.heap.size + 1 + i))
    rw [gI_size, gO_set] at h
    have e1 : (locs ++ (List.range (i + 1)).map fun j => (⟨T.heap.size, j⟩ : Loc)) = (locs ++ (List.range i).map fun j => (⟨T.heap.size, j⟩ : Loc)) ++ [⟨T.heap.size, i⟩] := by simp [List.range_succ, List.append_assoc]
    rw [e1, show slots + N + (i + 1) * M = slots + N + i * M + M by rw [Nat.succ_mul]; omega]
    exact h
theorem W.grid {H : Heap} {Q : State → Prop} {cc : ByteArray} (hexec : p.tables.exec = Jvm.exec) (hb : c.code = cc) {own : String} {index : Nat} (hown : s.vm.findClass own = some m.cls) (hclink : (Cond.classLink own index "[[I").before args s = true)
    {cA cI cc9 : ClassId} {kA kI : Class} (hnA : s.vm.findClass "[[I" = some cA) (hkA : s.vm.classes[cA]? = some kA) (hkindA : kA.kind = .array cI (.array .int)) (hkI : s.vm.classes[cI]? = some kI) (hkindI : kI.kind = .array cc9 .int)
    {pc : Nat} {ls : Array Slot} {rest : List Value} (hdg : decode cc pc = .ok (.multianewarray index 2, 4)) (hcells : cells + 12 ≤ R.cells) (hslots : slots + 132 ≤ R.slots)
    (kk : ∀ H' : Heap, H'.size = H.size + 12 → (∀ a, a < H.size → H'[a]? = H[a]?) → H'[H.size]? = some (arrV cA 11 (fun j => if j < 11 then .ref (H.size + 1 + j) else .null)) → (∀ j, j < 11 → H'[H.size + 1 + j]? = some (arrV cI 11 (fun _ => .int 0))) →
      W p l e R s m args below meth c H' locs (cells + 12) (slots + 132) Q (F0 m (pc + 4) ls (.ref H.size :: rest))) : W p l e R s m args below meth c H locs cells slots Q (F0 m pc ls (.int 11 :: .int 11 :: rest)) := by
  intro T hT X
  subst hT
  subst hb
  have hpl : e.platform.magicAccessors = ({} : Platform).magicAccessors := by rw [X.admits.platform]
  obtain ⟨c0, hfc0, hcl⟩ := Cond.classLink_spec hown hclink e.platform hpl
  cases hnA.symm.trans hfc0
  obtain ⟨hg₁, hwarm₁, hready₁⟩ := State.classEntry (e := e) X.warmed hcl
  generalize T.vm.noted m.cls index (.cls cA) = vm₁ at hg₁ hwarm₁ hready₁
  have hal : s.vm.Alike vm₁ := hwarm₁.alike
  obtain ⟨kA₁, hkA₁, heA⟩ := hal.2.2 _ _ hkA
  obtain ⟨kI₁, hkI₁, heI⟩ := hal.2.2 _ _ hkI
  have X₁ := X.noted hwarm₁
  obtain ⟨hr1, hr2⟩ := X.roomAbove hcells hslots
  have XF := gz_stand X₁ cA cI 11 11 11
  have XG := XF.dropFresh (fun x hx => by
    obtain ⟨j, -, rfl⟩ := List.mem_map.mp hx
    exact X.heapGrown)
  obtain ⟨a1, a2, a3, a4, a5, a6⟩ := gz_ok (T.setVm vm₁) cA cI 11 11 11
  obtain ⟨t, b1, b2⟩ := kk (gz (T.setVm vm₁) cA cI 11 11 11).heap (by rw [a1]; rfl) a5 a2 a6 _ rfl XG
  refine ⟨t, ?_, b2⟩
  have hl1 : ¬ (11 : Int32).toNatClampNeg > e.platform.arrayLengthLimit := by rw [Launch.admits_arrayLengthLimit X.admits]; decide
  have hh1 : ¬ (11 : Int32).toNatClampNeg * componentBytes (.array .int) > e.platform.maxHeapBytes := by rw [Launch.admits_maxHeapBytes X.admits]; decide
  have hh2 : ¬ (11 : Int32).toNatClampNeg * componentBytes .int > e.platform.maxHeapBytes := by rw [Launch.admits_maxHeapBytes X.admits]; decide
  jvm_step X.here [hexec, hdg]
  simp only [multianewarray.sem, wp_bind', W.resolveClassAt_links (State.method?_setTop (F0 m pc ls (.int 11 :: .int 11 :: rest)) X.here.top) hg₁]
  rw [W.popN, if_neg (by decide)]
  refine ⟨F0 m pc ls (.int 11 :: .int 11 :: rest), State.topJava?_setTop' (s := T.setVm vm₁) _ X.here.top, [.int 11, .int 11], rest, rfl, rfl, ?_⟩
  simp only [List.mapM_cons, List.mapM_nil, wp_bind', wp_pure']
  refine grid_make (kA := kA₁) (kI := kI₁) (cI := cI) (cc := cc9) hkA₁ (by rw [heA]; exact hkindA) hkI₁ (by rw [heI]; exact hkindI) (by decide) (by decide) hl1 hh1 hl1 hh2 (by show T.heap.size + 1 + 11 ≤ _; omega) (by show T.slotsUsed + 11 + 121 ≤ _; omega) (fun d' acts' => ?_)
  have eS : ((T.setTop (F0 m pc ls (.int 11 :: .int 11 :: rest))).setVm vm₁).setTop { F0 m pc ls (.int 11 :: .int 11 :: rest) with stack := rest } = (T.setVm vm₁).setTop { F0 m pc ls (.int 11 :: .int 11 :: rest) with stack := rest } := by
    show ((T.setVm vm₁).setTop _).setTop _ = _
    rw [State.setTop_setTop]
  rw [eS, gz_top, show (11 : Int32).toNatClampNeg = 11 by decide]
  simp only [wp_bind', W.mark, W.pushRef, State.topJava?_setTop' _ XF.here.top, Option.some.injEq, exists_eq_left', State.setTop_setTop, State.heap_setTop]
  intro acts
  simp [jvm, XF.here.top]
  exact b1
end GridW
end
section
/-! ===== the step of the whole induction ===== -/
theorem mk2_00 {μ : MM} {o : Int} (h : 1 ≤ o) : mk2 μ 11 11 o 0 0 = o + 1 + 11 := by
  unfold mk2
  rw [if_neg (by omega), if_neg (by omega), if_pos ⟨rfl, rfl⟩]
theorem row28 {l : Launch} {G : GG} {k pc : Nat} {ls : List VV} {μ : MM} {ins : Instr} {len w : Nat} {r : List VV} (hd : decode (mC k) pc = .ok (ins, len)) (hc : ch28 k ins len w = true) (h27 : μ 0 0 = 27) :
    Row l G k pc ls ((0, 11) :: (0, 11) :: r) μ (pc + len) ls ((64, μ 0 0) :: r) (mk2 μ 11 11 (μ 0 0)) := by
  unfold ch28 at hc
  split at hc
  · rename_i i dd
    simp only [Bool.and_eq_true, beq_iff_eq, decide_eq_true_eq] at hc
    obtain ⟨⟨rfl, rfl⟩, hlk⟩ := hc
    intro p e R s m args below meth c0 Q H locs cells slots lm C hf hw hR hS hL hce hsl0 kk
    have e1 : dc μ (mk2 μ 11 11 (μ 0 0)) = 12 := by
      unfold dc
      rw [mk2_00 (by omega), h27]
      rfl
    have e2 : ds μ (mk2 μ 11 11 (μ 0 0)) = 132 := by
      unfold ds
      rw [mk2_00 (by omega), h27]
      decide +kernel
    rw [e1, e2] at kk
    rw [e1] at hce
    rw [e2] at hsl0
    obtain ⟨hx, hbb, hml, hrt, hlk2, hown, hts, hK, hn, hB, hN, hX⟩ := C
    obtain ⟨pM, cM, kM, m1, m0, m2, m3, m4⟩ := arrayOverA_spec hN.2.2.2
    obtain ⟨cI, kI, pI, i1, i2, i3⟩ := Cond.arrayClass_spec (hts _ arrI)
    have eI : pM = cI := Option.some.inj (m1.symm.trans i1)
    subst eI
    have eG24 : cM = gA G 24 := Option.some.inj (m4.symm.trans (tyl_at hK 4 rfl).2)
    have eG20 : pM = gA G 20 := Option.some.inj (i1.symm.trans (tyl_at hK 0 rfl).2)
    show W p l e R s m args below meth c0 H locs cells slots Q (F0 m pc lm (.int 11 :: .int 11 :: tvs G r))
    have hsz := Rl_size hR
    rw [h27] at hsz
    refine W.grid hx hbb hown (wd_ok hts hlk) m4 m2 m3 i2 i3 hd hce hsl0 (fun H' z1 o1 g1 g2 => ?_)
    have hadr : adr G 27 = H.size := hsz.symm
    have hadj : ∀ j : Nat, adr G (28 + (j : Int)) = H.size + 1 + j := fun j => by
      rw [← hadr]
      unfold adr
      omega
    have hk := kk H' locs lm ⟨?_, fun x hx1 hx2 => ?_⟩ (S_grow hS (by omega) o1) hL
    · rw [← hadr, ← toV_ref G (t := 64) (x := 27) (by omega) (by omega) (by omega)]
      rw [h27] at hk
      exact hk
    · rw [mk2_00 (by omega), z1, hR.1, h27]
      rfl
    · rw [mk2_00 (by omega), h27] at hx2
      rw [h27]
      by_cases e27 : x = 27
      · subst e27
        unfold Cel
        rw [if_neg (by decide), hadr, g1]
        have e24 : cty 27 = 24 := by decide
        have e11 : (cln 27).toNat = 11 := by decide
        rw [e24, e11, eG24]
        refine congrArg (fun f => some (arrV _ _ f)) (funext fun j => ?_)
        unfold mk2
        rw [if_pos rfl]
        by_cases hj : j < 11
        · rw [if_pos hj, if_pos ⟨by omega, by omega⟩, toV_ref G (by decide) (by decide) (by omega)]
          refine congrArg Value.ref ?_
          rw [show (27 : Int) + 1 + (j : Int) = 28 + (j : Int) by omega, hadj]
        · rw [if_neg hj, if_neg (by omega), toV_r G (by decide) (by decide), if_pos rfl]
      · by_cases e28 : 27 < x
        · obtain ⟨j, hj, hxj⟩ : ∃ j : Nat, j < 11 ∧ x = 28 + (j : Int) := ⟨(x - 28).toNat, by omega, by omega⟩
          have hty : cty x = 20 ∧ (cln x).toNat = 11 := by
            have : x = 28 ∨ x = 29 ∨ x = 30 ∨ x = 31 ∨ x = 32 ∨ x = 33 ∨ x = 34 ∨ x = 35 ∨ x = 36 ∨ x = 37 ∨ x = 38 := by omega
            rcases this with h | h | h | h | h | h | h | h | h | h | h <;> subst h <;> decide
          unfold Cel
          rw [if_neg (by rw [hty.1]; decide), hty.1, hty.2, hxj, hadj, g2 j hj, eG20]
          refine congrArg (fun f => some (arrV _ _ f)) (funext fun i => ?_)
          unfold mk2
          rw [if_neg (by omega), if_pos ⟨by omega, by omega⟩]
          rfl
        · refine ((hR.2 x hx1 (by omega)).congr (fun j => ?_)).kept (o1 _ ?_)
          · unfold mk2
            rw [if_neg e27, if_neg (by omega), if_neg (by omega)]
          · rw [hR.1]
            unfold adr
            omega
  · cases hc
theorem Mok_mk2 {G : GG} {μ : MM} (hM : Mok G μ) (h27 : μ 0 0 = 27) : Mok G (mk2 μ 11 11 (μ 0 0)) := by
  obtain ⟨a1, a2, a3, a4, a5, a6⟩ := hM
  rw [h27]
  have e0 : mk2 μ 11 11 27 0 0 = 39 := mk2_00 (by omega)
  refine ⟨by rw [e0]; omega, by rw [e0]; omega, ?_, ?_, a5, fun j hj => ?_⟩
  · intro y j hy1 hy2 hj
    rw [e0] at hy2 ⊢
    unfold mk2
    by_cases e : y = 27
    · subst e
      rw [if_pos rfl]
      have hj : (j : Int) < 11 := hj
      rw [if_pos ⟨by omega, by omega⟩]
      refine (okv_nul (show 10 ≤ 30 by omega) (by omega)).mpr (Or.inr ⟨by omega, by omega, ?_⟩)
      have hjj : j < 11 := by omega
      match j, hjj with
      | 0, _ => rfl
      | 1, _ => rfl
      | 2, _ => rfl
      | 3, _ => rfl
      | 4, _ => rfl
      | 5, _ => rfl
      | 6, _ => rfl
      | 7, _ => rfl
      | 8, _ => rfl
      | 9, _ => rfl
      | 10, _ => rfl
    · rw [if_neg e]
      by_cases e2 : 27 < y ∧ y ≤ 27 + 11
      · rw [if_pos e2]
        refine okv_zero (stag_ok ?_ hj)
        have : y = 28 ∨ y = 29 ∨ y = 30 ∨ y = 31 ∨ y = 32 ∨ y = 33 ∨ y = 34 ∨ y = 35 ∨ y = 36 ∨ y = 37 ∨ y = 38 := by omega
        rcases this with h | h | h | h | h | h | h | h | h | h | h <;> subst h <;> exact Or.inr ⟨by decide, by decide⟩
      · rw [if_neg e2, if_neg (by omega)]
        have := a3 y j hy1 (by omega) hj
        exact this.mono (by omega)
  · unfold mk2
    rw [if_neg (by omega), if_neg (by omega), if_neg (by omega)]
    exact a4
  · unfold mk2
    rw [if_neg (by omega), if_neg (by omega), if_neg (by omega)]
    exact a6 j hj
theorem ch20_use {k len a b c w : Nat} {z : Int} {sw : List (Int × Nat)} {ins : Instr} (hc : ch20 k ins len a b c w z sw = true) : sw = ((mL a : Int), (mP a).length) :: (mP a).map (fun t => ((0 : Int), t)) ∧ a ≠ 0 ∧ a < 273 ∧ c = if mT a = 3 then 0 else mT a := by
  have hC : ∃ i, chC k i a c w z sw = true := by
    unfold ch20 at hc
    split at hc
    · simp only [Bool.and_eq_true] at hc; exact ⟨_, hc.2⟩
    · simp only [Bool.and_eq_true] at hc; exact ⟨_, hc.2⟩
    · simp only [Bool.and_eq_true] at hc; exact ⟨_, hc.2⟩
    · cases hc
  obtain ⟨i, hC⟩ := hC
  unfold chC at hC
  simp only [Bool.and_eq_true, decide_eq_true_eq] at hC
  obtain ⟨⟨⟨⟨⟨⟨ha, h0⟩, hsw⟩, hcc⟩, hfr⟩, hlo⟩, hlk⟩ := hC
  exact ⟨hsw, h0, ha, hcc⟩
theorem snd_map (l : List Nat) : (l.map (fun t => ((0 : Int), t))).map Prod.snd = l := by
  rw [List.map_map]
  exact List.map_id l
theorem kil_len : ∀ (ks : List Nat) (ls : List VV), (kil ks ls).length = ls.length
  | [], _ => rfl
  | a :: r, ls => (kil_len r (ls.set a (9, 0))).trans List.length_set
theorem kil_okl {nc : Int} : ∀ (ks : List Nat) {ls : List VV}, (∀ v ∈ ls, okl nc v) → ∀ v ∈ kil ks ls, okl nc v
  | [], _, h => h
  | a :: r, _, h => kil_okl r (ok_set h (Or.inl rfl))
theorem kil_LR {G : GG} {n : Nat} {lm : Array Slot} : ∀ (ks : List Nat) {ls : List VV}, LR G n ls lm → LR G n (kil ks ls) lm
  | [], _, h => h
  | a :: r, ls, h => kil_LR r ⟨by rw [List.length_set]; exact h.1, h.2.1, h.2.2.1, fun i v hi h9 => by
      rw [List.getElem?_set] at hi
      by_cases e : a = i
      · rw [if_pos e] at hi
        split at hi
        · cases hi; exact absurd rfl h9
        · cases hi
      · rw [if_neg e] at hi
        exact h.2.2.2 i v hi h9⟩
theorem Pkg.kil {l : Launch} {G : GG} {k pc : Nat} {ls st : List VV} {μ μ' : MM} {r : Int} (ks : List Nat) (h : Pkg l G k pc (kil ks ls) st μ r μ') : Pkg l G k pc ls st μ r μ' :=
  ⟨h.1, h.2.1, h.2.2.1, fun p e R s m args below meth c Q H locs cells slots lm C hf hw hR hS hL hce hsl kk => h.2.2.2 p e R s m args below meth c Q H locs cells slots lm C hf hw hR hS (kil_LR ks hL) hce hsl kk⟩
theorem run_step {l : Launch} {G : GG} {X : XX} (hX : RunX l G X) : RunX l G (fun k pc ls st μ => match cod k pc with | none => none | some i => stp X k i (kil (kls k pc) ls) st μ) := by
  intro k pc ls0 st μ r μ' h hk hM hls hst hlen
  dsimp only at h
  refine Pkg.kil (kls k pc) ?_
  have hls := kil_okl (kls k pc) hls
  have hlen := (kil_len (kls k pc) ls0).trans hlen
  generalize kil (kls k pc) ls0 = ls at h hls hlen ⊢
  cases hcod : cod k pc with
  | none => rw [hcod] at h; cases h
  | some i =>
  rw [hcod] at h
  dsimp only at h
  obtain ⟨ins, len, hd, hc⟩ := cod_chk (ctall hk) hcod
  obtain ⟨op, nx, a, b, c, w, z, sw⟩ := i
  unfold chO at hc
  simp only [Bool.and_eq_true, decide_eq_true_eq] at hc
  obtain ⟨rfl, hc⟩ := hc
  have hgo : ∀ {nx : Nat} {ls' st' : List VV} {μ1 : MM}, X k nx ls' st' μ1 = some (r, μ') → Row l G k pc ls st μ nx ls' st' μ1 → μ 0 0 ≤ μ1 0 0 → Mok G μ1 → (∀ v ∈ ls', okl (μ1 0 0) v) → (∀ v ∈ st', okv (μ1 0 0) v.1 v.2) → ls'.length = mL k → Pkg l G k pc ls st μ r μ' :=
    fun h hr hle hM' hl' hs' hn' => Pkg.tail hr hle (hX _ _ _ _ _ _ _ h hk hM' hl' hs' hn')
  unfold stp at h
  dsimp only at h
  split at h
  -- 0
  · obtain ⟨hrow, hok⟩ := row0 (l := l) (G := G) (ls := ls) (st := st) (μ := μ) hd hc (μ 0 0)
    exact hgo h hrow (Int.le_refl _) hM hls (List.forall_mem_cons.mpr ⟨hok, hst⟩) hlen
  -- 1
  · unfold o1 at h
    split at h
    · rename_i v hv
      by_cases e : lod b v.1 = true
      · rw [if_pos e] at h
        refine hgo h (row1 hd hc hv e) (Int.le_refl _) hM hls (List.forall_mem_cons.mpr ⟨?_, hst⟩) hlen
        rcases hls v (List.mem_of_getElem? hv) with q | q
        · rw [q] at e
          simp [lod] at e
        · exact q
      · rw [if_neg e] at h; cases h
    · cases h
  -- 2
  · unfold o2 at h
    split at h
    · rename_i v r0
      have hv := hst v List.mem_cons_self
      have hr0 : ∀ u ∈ r0, okv (μ 0 0) u.1 u.2 := fun u hu => hst u (List.mem_cons_of_mem _ hu)
      by_cases e : lod b v.1 = true ∧ v.1 ≠ 99 ∧ a + (if b = 1 then 1 else 0) < ls.length ∧ (a = 0 ∨ (ls.getD (a - 1) (9, 0)).1 ≠ 1)
      · rw [if_pos e] at h
        refine hgo h (row2 hd hc e.1 e.2.2.1 e.2.2.2) (Int.le_refl _) hM ?_ hr0 ?_
        · split
          · exact ok_set (ok_set hls (Or.inr hv)) (Or.inl rfl)
          · exact ok_set hls (Or.inr hv)
        · split
          · rw [List.length_set, List.length_set]; exact hlen
          · rw [List.length_set]; exact hlen
      · rw [if_neg e] at h; cases h
    · cases h
  -- 3
  · unfold o3 at h
    split at h
    · rename_i v hv
      obtain ⟨t, x⟩ := v
      by_cases e : t = 0 ∧ (a = 0 ∨ (ls.getD (a - 1) (9, 0)).1 ≠ 1)
      · rw [if_pos e] at h
        obtain ⟨rfl, e2⟩ := e
        exact hgo h (row3 hd hc hv e2) (Int.le_refl _) hM (ok_set hls (Or.inr (w32_R _))) hst (by rw [List.length_set]; exact hlen)
      · rw [if_neg e] at h; cases h
    · cases h
  -- 4
  · unfold o4 at h
    split at h
    · rename_i y x r0
      obtain ⟨ty, y⟩ := y
      obtain ⟨tx, x⟩ := x
      have hr0 : ∀ u ∈ r0, okv (μ 0 0) u.1 u.2 := fun u hu => hst u (List.mem_cons_of_mem _ (List.mem_cons_of_mem _ hu))
      by_cases e : tx = 0 ∧ ty = 0
      · rw [if_pos e] at h
        obtain ⟨rfl, rfl⟩ := e
        exact hgo h (row4 hd hc) (Int.le_refl _) hM hls (List.forall_mem_cons.mpr ⟨bin_R _ _ _, hr0⟩) hlen
      · rw [if_neg e] at h; cases h
    · cases h
  -- 5
  · unfold o5 at h
    split at h
    · rename_i y x r0
      obtain ⟨ty, y⟩ := y
      obtain ⟨tx, x⟩ := x
      have hr0 : ∀ u ∈ r0, okv (μ 0 0) u.1 u.2 := fun u hu => hst u (List.mem_cons_of_mem _ (List.mem_cons_of_mem _ hu))
      have hy := hst _ List.mem_cons_self
      have hx := hst _ (List.mem_cons_of_mem _ List.mem_cons_self)
      by_cases e : tx = 0 ∧ ty = 0
      · rw [if_pos e] at h
        obtain ⟨rfl, rfl⟩ := e
        by_cases e2 : y = 0
        · rw [if_pos e2] at h; cases h
        · rw [if_neg e2] at h
          refine hgo h (row5 hd hc hx hy e2) (Int.le_refl _) hM hls (List.forall_mem_cons.mpr ⟨?_, hr0⟩) hlen
          show R32 (if a = 0 then w32 (Int.tdiv x y) else Int.tmod x y)
          split
          · exact w32_R _
          · exact tmod_R hx
      · rw [if_neg e] at h; cases h
    · cases h
  -- 6
  · unfold o6 at h
    split at h
    · rename_i y x r0
      obtain ⟨ty, y⟩ := y
      obtain ⟨tx, x⟩ := x
      have hr0 : ∀ u ∈ r0, okv (μ 0 0) u.1 u.2 := fun u hu => hst u (List.mem_cons_of_mem _ (List.mem_cons_of_mem _ hu))
      by_cases e : tx = 1 ∧ ty = 1
      · rw [if_pos e] at h
        obtain ⟨rfl, rfl⟩ := e
        refine hgo h (row6 hd hc) (Int.le_refl _) hM hls (List.forall_mem_cons.mpr ⟨?_, hr0⟩) hlen
        show R64 (if a = 0 then w64 (x + y) else w64 (x * y))
        split <;> exact w64_R _
      · rw [if_neg e] at h; cases h
    · cases h
  -- 7
  · unfold o7 at h
    split at h
    · rename_i y x r0
      obtain ⟨ty, y⟩ := y
      obtain ⟨tx, x⟩ := x
      have hr0 : ∀ u ∈ r0, okv (μ 0 0) u.1 u.2 := fun u hu => hst u (List.mem_cons_of_mem _ (List.mem_cons_of_mem _ hu))
      have hy := hst _ List.mem_cons_self
      have hx := hst _ (List.mem_cons_of_mem _ List.mem_cons_self)
      by_cases e : tx = 1 ∧ ty = 1
      · rw [if_pos e] at h
        obtain ⟨rfl, rfl⟩ := e
        by_cases e2 : y = 0
        · rw [if_pos e2] at h; cases h
        · rw [if_neg e2] at h
          refine hgo h (row7 hd hc hx hy e2) (Int.le_refl _) hM hls (List.forall_mem_cons.mpr ⟨?_, hr0⟩) hlen
          show R64 (if a = 0 then w64 (Int.tdiv x y) else Int.tmod x y)
          split
          · exact w64_R _
          · exact tmod_R64 hx
      · rw [if_neg e] at h; cases h
    · cases h
  -- 8
  · unfold o8 at h
    split at h
    · rename_i y x r0
      obtain ⟨ty, y⟩ := y
      obtain ⟨tx, x⟩ := x
      have hr0 : ∀ u ∈ r0, okv (μ 0 0) u.1 u.2 := fun u hu => hst u (List.mem_cons_of_mem _ (List.mem_cons_of_mem _ hu))
      have hy := hst _ List.mem_cons_self
      have hx := hst _ (List.mem_cons_of_mem _ List.mem_cons_self)
      by_cases e : tx = 1 ∧ ty = 1
      · rw [if_pos e] at h
        obtain ⟨rfl, rfl⟩ := e
        refine hgo h (row8 hd hc hx hy) (Int.le_refl _) hM hls (List.forall_mem_cons.mpr ⟨?_, hr0⟩) hlen
        show R32 (if x < y then -1 else if x = y then 0 else 1)
        unfold R32
        split
        · omega
        · split <;> omega
      · rw [if_neg e] at h; cases h
    · cases h
  -- 9
  · unfold o9 at h
    split at h
    · rename_i x r0
      obtain ⟨tx, x⟩ := x
      have hr0 : ∀ u ∈ r0, okv (μ 0 0) u.1 u.2 := fun u hu => hst u (List.mem_cons_of_mem _ hu)
      have hx := hst _ List.mem_cons_self
      by_cases e : tx = 0
      · rw [if_pos e] at h
        subst e
        have hx : R32 x := hx
        refine hgo h (row9 hd hc hx) (Int.le_refl _) hM hls (List.forall_mem_cons.mpr ⟨?_, hr0⟩) hlen
        split
        · exact w32_R _
        · show R64 x
          unfold R32 at hx
          exact ⟨by omega, by omega⟩
      · rw [if_neg e] at h; cases h
    · cases h
  -- 10
  · unfold o10 at h
    split at h
    · rename_i x r0
      obtain ⟨tx, x⟩ := x
      have hr0 : ∀ u ∈ r0, okv (μ 0 0) u.1 u.2 := fun u hu => hst u (List.mem_cons_of_mem _ hu)
      have hx := hst _ List.mem_cons_self
      by_cases e : tx = 0
      · rw [if_pos e] at h
        subst e
        obtain ⟨r1, r2⟩ := row10 (l := l) (G := G) (ls := ls) (r := r0) (μ := μ) hd hc hx
        rcases cmp_sel h with ⟨q, h⟩ | ⟨q, h⟩
        · exact hgo h (r1 q) (Int.le_refl _) hM hls hr0 hlen
        · exact hgo h (r2 q) (Int.le_refl _) hM hls hr0 hlen
      · rw [if_neg e] at h; cases h
    · cases h
  -- 11
  · unfold o11 at h
    split at h
    · rename_i y x r0
      obtain ⟨ty, y⟩ := y
      obtain ⟨tx, x⟩ := x
      have hr0 : ∀ u ∈ r0, okv (μ 0 0) u.1 u.2 := fun u hu => hst u (List.mem_cons_of_mem _ (List.mem_cons_of_mem _ hu))
      have hy := hst _ List.mem_cons_self
      have hx := hst _ (List.mem_cons_of_mem _ List.mem_cons_self)
      by_cases e : tx = 0 ∧ ty = 0
      · rw [if_pos e] at h
        obtain ⟨rfl, rfl⟩ := e
        obtain ⟨r1, r2⟩ := row11 (l := l) (G := G) (ls := ls) (r := r0) (μ := μ) hd hc hx hy
        rcases cmp_sel h with ⟨q, h⟩ | ⟨q, h⟩
        · exact hgo h (r1 q) (Int.le_refl _) hM hls hr0 hlen
        · exact hgo h (r2 q) (Int.le_refl _) hM hls hr0 hlen
      · rw [if_neg e] at h; cases h
    · cases h
  -- 12
  · unfold o12 at h
    split at h
    · rename_i x r0
      obtain ⟨tx, x⟩ := x
      have hr0 : ∀ u ∈ r0, okv (μ 0 0) u.1 u.2 := fun u hu => hst u (List.mem_cons_of_mem _ hu)
      by_cases e : tx = 8 ∨ (10 ≤ tx ∧ tx < 70)
      · rw [if_pos e] at h
        obtain ⟨r1, r2⟩ := row12 (l := l) (G := G) (ls := ls) (r := r0) (μ := μ) (x := x) hd hc e
        rcases cmp_sel h with ⟨q, h⟩ | ⟨q, h⟩
        · exact hgo h (r1 q) (Int.le_refl _) hM hls hr0 hlen
        · exact hgo h (r2 q) (Int.le_refl _) hM hls hr0 hlen
      · rw [if_neg e] at h; cases h
    · cases h
  -- 13
  · exact hgo h (row13 hd hc) (Int.le_refl _) hM hls hst hlen
  -- 14
  · unfold o14 at h
    split at h
    · rename_i x r0
      obtain ⟨tx, x⟩ := x
      have hr0 : ∀ u ∈ r0, okv (μ 0 0) u.1 u.2 := fun u hu => hst u (List.mem_cons_of_mem _ hu)
      have hx := hst _ List.mem_cons_self
      by_cases e : tx = 0
      · rw [if_pos e, swi_sel] at h
        subst e
        exact hgo h (row14 hd hc hx) (Int.le_refl _) hM hls hr0 hlen
      · rw [if_neg e] at h; cases h
    · cases h
  -- 15
  · unfold o15 at h
    split at h
    · rename_i x r0
      obtain ⟨tx, x⟩ := x
      have hr0 : ∀ u ∈ r0, okv (μ 0 0) u.1 u.2 := fun u hu => hst u (List.mem_cons_of_mem _ hu)
      have hx := hst _ List.mem_cons_self
      have hb : b < 10 := by
        have hc : ch15 k ins len a b c w = true := hc
        unfold ch15 at hc
        split at hc
        · simp only [Bool.and_eq_true] at hc
          have h2 := hc.2
          unfold chF at h2
          split at h2
          · rename_i r9 hr9
            exact Nat.lt_of_lt_of_le (List.getElem?_eq_some_iff.mp hr9).1 (show vwCl.length ≤ 10 by decide)
          · cases h2
        · cases hc
      obtain ⟨h, g1, g2, g3, g4, g5⟩ := rcv_ok h hb hx
      obtain ⟨hrow, e1, e2, e3⟩ := row15 (l := l) (G := G) (ls := ls) (r := r0) (μ := μ) hd hc g1 g2 g3 g4 g5
      refine hgo h hrow (Int.le_refl _) hM hls (List.forall_mem_cons.mpr ⟨?_, hr0⟩) hlen
      dsimp only at g1 g2 g3 g4 g5
      have hcx : cty x < 10 := by omega
      have hv := hM.2.2.1 x a g1 g2 (by rw [cln_obj hcx, g3]; omega)
      unfold stag at hv
      rw [if_pos hcx, g3, ← e1] at hv
      by_cases e4 : c = 3
      · rw [e4] at hv
        show okv (μ 0 0) (if c = 3 then 0 else c) (μ x a)
        rw [if_pos e4]
        rcases hv with q | q <;> rw [q] <;> exact ⟨by decide, by decide⟩
      · show okv (μ 0 0) (if c = 3 then 0 else c) (μ x a)
        rw [if_neg e4]; exact hv
    · cases h
  -- 16
  · unfold o16 at h
    split at h
    · rename_i v x r0
      obtain ⟨tv, v⟩ := v
      obtain ⟨tx, x⟩ := x
      have hr0 : ∀ u ∈ r0, okv (μ 0 0) u.1 u.2 := fun u hu => hst u (List.mem_cons_of_mem _ (List.mem_cons_of_mem _ hu))
      have hv := hst _ List.mem_cons_self
      have hx := hst _ (List.mem_cons_of_mem _ List.mem_cons_self)
      have hb : b < 10 := by
        have hc : ch16 k ins len a b c w = true := hc
        unfold ch16 at hc
        split at hc
        · simp only [Bool.and_eq_true] at hc
          have h2 := hc.1.2
          unfold chF at h2
          split at h2
          · rename_i r9 hr9
            exact Nat.lt_of_lt_of_le (List.getElem?_eq_some_iff.mp hr9).1 (show vwCl.length ≤ 10 by decide)
          · cases h2
        · cases hc
      obtain ⟨h, g1, g2, g3, g4, g5⟩ := rcv_ok h hb hx
      obtain ⟨h, c1, c2⟩ := cpt_ok (G := G) h hv
      obtain ⟨hrow, e1, e2, e3⟩ := row16 (l := l) (G := G) (ls := ls) (r := r0) (μ := μ) hd hc g1 g2 g3 g4 g5 c1 c2
      dsimp only at g1 g2 g3 g4 g5
      have hcx : cty x < 10 := by omega
      have e0 : (up μ x a v) 0 0 = μ 0 0 := by rw [up_0 g1]
      refine hgo h hrow (by rw [e0]; exact Int.le_refl _) (Mok_up hM g1 g2 (by omega) (by rw [cln_obj hcx, g3]; omega) ?_) (by rw [e0]; exact hls) (by rw [e0]; exact hr0) hlen
      unfold stag
      rw [if_pos hcx, g3, Int.toNat_natCast, ← e1]
      exact c1
    · cases h
  -- 17
  · unfold o17 at h
    split at h
    · rename_i ii x r0
      obtain ⟨ti, ii⟩ := ii
      obtain ⟨tx, x⟩ := x
      have hr0 : ∀ u ∈ r0, okv (μ 0 0) u.1 u.2 := fun u hu => hst u (List.mem_cons_of_mem _ (List.mem_cons_of_mem _ hu))
      have hi := hst _ List.mem_cons_self
      have hx := hst _ (List.mem_cons_of_mem _ List.mem_cons_self)
      by_cases e : ti = 0
      · rw [if_pos e] at h
        subst e
        obtain ⟨h, g1, g2, g3, g4, g5⟩ := rca_ok h hx
        dsimp only at g1 g2 g3 g4 g5
        by_cases e1 : akd a (cty x) = true
        · rw [if_pos e1] at h
          by_cases e2 : 0 ≤ ii ∧ ii < cln x
          · rw [if_pos e2] at h
            refine hgo h (row17 hd hc g1 g2 rfl g4 g5 e1 hi e2.1 e2.2) (Int.le_refl _) hM hls (List.forall_mem_cons.mpr ⟨?_, hr0⟩) hlen
            have hv := hM.2.2.1 x ii.toNat g1 g2 (by omega)
            rw [show ((ii.toNat : Nat) : Int) = ii by omega] at hv
            unfold stag at hv
            rw [if_neg (by omega)] at hv
            unfold stg at hv
            show okv (μ 0 0) (etg (cty x)) (μ x ii)
            by_cases e3 : cty x = 21
            · rw [if_pos e3] at hv
              rw [e3]
              rcases hv with q | q <;> rw [q] <;> exact ⟨by decide, by decide⟩
            · rw [if_neg e3] at hv; exact hv
          · rw [if_neg e2] at h; cases h
        · rw [if_neg e1] at h; cases h
      · rw [if_neg e] at h; cases h
    · cases h
  -- 18
  · unfold o18 at h
    split at h
    · rename_i v ii x r0
      obtain ⟨tv, v⟩ := v
      obtain ⟨ti, ii⟩ := ii
      obtain ⟨tx, x⟩ := x
      have hr0 : ∀ u ∈ r0, okv (μ 0 0) u.1 u.2 := fun u hu => hst u (List.mem_cons_of_mem _ (List.mem_cons_of_mem _ (List.mem_cons_of_mem _ hu)))
      have hv := hst _ List.mem_cons_self
      have hi := hst _ (List.mem_cons_of_mem _ List.mem_cons_self)
      have hx := hst _ (List.mem_cons_of_mem _ (List.mem_cons_of_mem _ List.mem_cons_self))
      by_cases e : ti = 0
      · rw [if_pos e] at h
        subst e
        obtain ⟨h, g1, g2, g3, g4, g5⟩ := rca_ok h hx
        dsimp only at g1 g2 g3 g4 g5
        by_cases e1 : ast a (cty x) tv = true
        · rw [if_pos e1] at h
          by_cases e2 : 0 ≤ ii ∧ ii < cln x
          · rw [if_pos e2] at h
            obtain ⟨h, c1, c2⟩ := cpt_ok (G := G) h hv
            have e0 : (up μ x ii v) 0 0 = μ 0 0 := by rw [up_0 g1]
            refine hgo h (row18 hd hc g1 g2 rfl g4 g5 e1 hi e2.1 e2.2 hv c1 c2) (by rw [e0]; exact Int.le_refl _) (Mok_up hM g1 g2 e2.1 e2.2 ?_) (by rw [e0]; exact hls) (by rw [e0]; exact hr0) hlen
            show okv (μ 0 0) (stag x ii.toNat) v
            unfold stag
            rw [if_neg (by omega)]
            exact c1
          · rw [if_neg e2] at h; cases h
        · rw [if_neg e1] at h; cases h
      · rw [if_neg e] at h; cases h
    · cases h
  -- 19
  · unfold o19 at h
    split at h
    · rename_i x r0
      obtain ⟨tx, x⟩ := x
      have hr0 : ∀ u ∈ r0, okv (μ 0 0) u.1 u.2 := fun u hu => hst u (List.mem_cons_of_mem _ hu)
      have hx := hst _ List.mem_cons_self
      obtain ⟨h, g1, g2, g3, g4, g5⟩ := rca_ok h hx
      exact hgo h (row19 hd hc g1 g2 g3 g4 g5) (Int.le_refl _) hM hls (List.forall_mem_cons.mpr ⟨(cln_R x).1, hr0⟩) hlen
    · cases h
  -- 20
  · obtain ⟨hsw, h0, ha, hcc⟩ := ch20_use hc
    have hc2 := hc
    rw [hsw] at h
    unfold o20 at h
    dsimp only at h
    by_cases e1 : (mP a).length ≤ st.length
    · rw [if_pos e1, snd_map, Int.toNat_natCast] at h
      unfold cal at h
      generalize hvs : (st.take (mP a).length).reverse = vs at h
      generalize hrs : st.drop (mP a).length = rest at h
      have hst' : st = vs.reverse ++ rest := by rw [← hvs, ← hrs, List.reverse_reverse, List.take_append_drop]
      have hvs' : ∀ v ∈ vs, okv (μ 0 0) v.1 v.2 := fun v hv => hst v (by rw [hst']; exact List.mem_append_left _ (List.mem_reverse.mpr hv))
      have hrs' : ∀ v ∈ rest, okv (μ 0 0) v.1 v.2 := fun v hv => hst v (by rw [hst']; exact List.mem_append_right _ hv)
      obtain ⟨h, c1, c2, c3, c4⟩ := cpa_ok (G := G) vs (mP a) h hvs'
      by_cases e2 : cats rest ≤ 8
      · rw [if_pos e2] at h
        cases ho : X a 0 (pad (mL a) (ent vs (mP a))) [] μ with
        | none => rw [ho] at h; cases h
        | some q =>
          obtain ⟨v, μ1⟩ := q
          rw [ho] at h
          have h : X k (pc + len) ls (if c = 9 then rest else (c, v) :: rest) μ1 = some (r, μ') := h
          obtain ⟨b1, b2, b3, b4, b5, b6, b7, b8, b9, b10⟩ := chM_use h0 ha
          have hPa := hX a 0 _ [] μ v μ1 ho ha hM (fun u hu => by
            unfold pad at hu
            rcases List.mem_append.mp hu with q | q
            · exact c2 u q
            · rw [(List.mem_replicate.mp q).2]; exact Or.inl rfl) (fun u hu => by cases hu) (by
            unfold pad
            rw [List.length_append, List.length_replicate, ent_len vs (mP a) c1]
            omega)
          obtain ⟨hrow, -⟩ := row20 (l := l) (G := G) (ls := ls) (rest := rest) hd hc2 c1 c3 c4 e2 hPa
          rw [← hst'] at hrow
          refine hgo h hrow hPa.1 hPa.2.1 (fun u hu => (hls u hu).imp id (fun q => q.mono hPa.1)) ?_ hlen
          by_cases e9 : c = 9
          · rw [if_pos e9]
            exact fun u hu => (hrs' u hu).mono hPa.1
          · rw [if_neg e9]
            refine List.forall_mem_cons.mpr ⟨?_, fun u hu => (hrs' u hu).mono hPa.1⟩
            show okv (μ1 0 0) c v
            rcases hPa.2.2.1 with q | q
            · exfalso
              rw [q] at hcc
              exact e9 hcc
            · by_cases e3 : mT a = 3
              · rw [if_pos e3] at hcc
                rw [e3] at q
                rw [hcc]
                rcases q with q | q <;> rw [q] <;> exact ⟨by decide, by decide⟩
              · rw [if_neg e3] at hcc
                rw [hcc]
                exact q
      · rw [if_neg e2] at h; cases h
    · rw [if_neg e1] at h; cases h
  -- 21
  · have hc : ch21 k ins len a c = true := hc
    unfold ch21 at hc
    simp only [Bool.and_eq_true, beq_iff_eq] at hc
    obtain ⟨hck, hc⟩ := hc
    have hend : ∀ (r0 : Int), len = 1 → ins = rin (mT k) → okr (μ 0 0) (mT k) r0 → tvs G st = rst G k r0 → Pkg l G k pc ls st μ r0 μ := by
      intro r0 h1 h2 h3 h4
      subst h1
      subst h2
      refine ⟨Int.le_refl _, hM, h3, ?_⟩
      intro p e R s m args below meth c0 Q H locs cells slots lm C hf hw hR hS hL hce hsl kk
      rw [h4]
      have := kk pc lm H locs hd hR hS
      rw [dc_same rfl, ds_same rfl] at this
      exact this
    unfold o21 at h
    split at h
    · cases h
      split at hc
      · simp only [Bool.and_eq_true, beq_iff_eq] at hc
        have h9 : mT k = 9 := by rw [← hck]; exact hc.2
        refine hend 0 hc.1.1 (by rw [h9]; rfl) (Or.inl h9) ?_
        unfold rst
        rw [if_pos h9]
        rfl
      · simp at hc
      · simp at hc
      · simp at hc
      · cases hc
    · cases h
    · rename_i v _
      obtain ⟨tv, v⟩ := v
      have hv := hst _ List.mem_cons_self
      obtain ⟨h, c1, c2⟩ := cpt_ok (G := G) h hv
      cases h
      have h9 : ¬ mT k = 9 := by rw [← hck]; exact c1.no9
      have hin : len = 1 ∧ ins = rin (mT k) := by
        unfold rin
        rw [← hck]
        split at hc
        · simp only [Bool.and_eq_true, beq_iff_eq] at hc
          exact absurd (hck.symm.trans hc.2) h9
        · simp only [Bool.and_eq_true, Bool.or_eq_true, beq_iff_eq] at hc
          refine ⟨hc.1, ?_⟩
          rw [if_neg (by omega), if_neg (by omega), if_pos (by omega)]
        · simp only [Bool.and_eq_true, beq_iff_eq] at hc
          refine ⟨hc.1.1, ?_⟩
          rw [if_neg (by omega), if_pos (by omega)]
        · simp only [Bool.and_eq_true, beq_iff_eq, decide_eq_true_eq] at hc
          refine ⟨hc.1.1.1, ?_⟩
          rw [if_neg (by omega), if_neg (by omega), if_neg (by omega)]
        · cases hc
      refine hend v hin.1 hin.2 (Or.inr (by rw [← hck]; exact c1)) ?_
      unfold rst
      rw [if_neg h9, ← hck, ← c2]
      rfl
    · cases h
  -- 22
  · unfold o22 at h
    split at h
    · rename_i v r0
      have hv := hst _ List.mem_cons_self
      by_cases e : v.1 = 1
      · rw [if_pos e] at h; cases h
      · rw [if_neg e] at h
        exact hgo h (row22 hd hc e) (Int.le_refl _) hM hls (List.forall_mem_cons.mpr ⟨hv, hst⟩) hlen
    · cases h
  -- 23
  · unfold o23 at h
    split at h
    · rename_i v u r0
      have hv := hst _ List.mem_cons_self
      have hu := hst _ (List.mem_cons_of_mem _ List.mem_cons_self)
      by_cases e : v.1 = 1 ∨ u.1 = 1
      · rw [if_pos e] at h; cases h
      · rw [if_neg e] at h
        exact hgo h (row23 hd hc (fun q => e (Or.inl q)) (fun q => e (Or.inr q))) (Int.le_refl _) hM hls (List.forall_mem_cons.mpr ⟨hv, List.forall_mem_cons.mpr ⟨hu, hst⟩⟩) hlen
    · cases h
  -- 24
  · unfold o24 at h
    split at h
    · rename_i v r0
      by_cases e : v.1 = 1
      · rw [if_pos e] at h; cases h
      · rw [if_neg e] at h
        exact hgo h (row24 hd hc e) (Int.le_refl _) hM hls (fun u hu => hst u (List.mem_cons_of_mem _ hu)) hlen
    · cases h
  -- 25
  · unfold o25 at h
    by_cases e : cty (μ 0 0) = a ∧ cln (μ 0 0) = (fnum a : Nat)
    · rw [if_pos e] at h
      obtain ⟨hrow, ha⟩ := row25 (l := l) (G := G) (ls := ls) (st := st) hd hc hM.1 e.1
      have hn : (μ 0 0).toNat < 90 := cty_in (by omega)
      have e0 : mak μ (μ 0 0) 0 0 = μ 0 0 + 1 := mak_00 hM.1
      refine hgo h hrow (by rw [e0]; omega) (Mok_mak hM hn (Or.inl (by omega))) ?_ ?_ hlen
      · rw [e0]; exact fun v hv => (hls v hv).imp id (fun q => q.mono (by omega))
      · rw [e0]
        refine List.forall_mem_cons.mpr ⟨(okv_ref (by omega) (by omega)).mpr ⟨hM.1, (show μ 0 0 < μ 0 0 + 1 by omega), (show cty (μ 0 0) + 40 = 40 + a by omega)⟩, fun v hv => (hst v hv).mono (by omega)⟩
    · rw [if_neg e] at h; cases h
  -- 26
  · unfold o26 at h
    split at h
    · rename_i v r0
      obtain ⟨tv, v⟩ := v
      by_cases e : tv = 0 ∧ 0 ≤ v ∧ v ≤ 100000 ∧ cty (μ 0 0) = a ∧ cln (μ 0 0) = v
      · rw [if_pos e] at h
        obtain ⟨rfl, f1, f2, f3, f4⟩ := e
        have hty : 20 ≤ a ∧ a ≤ 21 := by
          have hc : ch26 ins len a = true := hc
          unfold ch26 at hc
          split at hc
          · simp only [Bool.and_eq_true, beq_iff_eq] at hc
            have h2 := hc.2
            split at h2 <;> simp at h2 <;> omega
          · cases hc
        have hn : (μ 0 0).toNat < 90 := cty_in (by omega)
        have e0 : mak μ (μ 0 0) 0 0 = μ 0 0 + 1 := mak_00 hM.1
        refine hgo h (row26 hd hc hM.1 f3 f4 f1 f2) (by rw [e0]; omega) (Mok_mak hM hn (Or.inr (by omega))) ?_ ?_ hlen
        · rw [e0]; exact fun v hv => (hls v hv).imp id (fun q => q.mono (by omega))
        · rw [e0]
          refine List.forall_mem_cons.mpr ⟨(okv_ref (by omega) (by omega)).mpr ⟨hM.1, (show μ 0 0 < μ 0 0 + 1 by omega), (show cty (μ 0 0) + 40 = 40 + a by omega)⟩, fun v hv => (hst v (List.mem_cons_of_mem _ hv)).mono (by omega)⟩
      · rw [if_neg e] at h; cases h
    · cases h
  -- 27
  · unfold o26 at h
    split at h
    · rename_i v r0
      obtain ⟨tv, v⟩ := v
      by_cases e : tv = 0 ∧ 0 ≤ v ∧ v ≤ 100000 ∧ cty (μ 0 0) = a ∧ cln (μ 0 0) = v
      · rw [if_pos e] at h
        obtain ⟨rfl, f1, f2, f3, f4⟩ := e
        have hty : 22 ≤ a ∧ a ≤ 23 := by
          have hc : ch27 k ins len a w = true := hc
          unfold ch27 at hc
          split at hc
          · simp only [Bool.and_eq_true, Bool.or_eq_true, beq_iff_eq] at hc
            omega
          · cases hc
        have hn : (μ 0 0).toNat < 90 := cty_in (by omega)
        have e0 : mak μ (μ 0 0) 0 0 = μ 0 0 + 1 := mak_00 hM.1
        refine hgo h (row27 hd hc hM.1 f3 f4 f1 f2) (by rw [e0]; omega) (Mok_mak hM hn (Or.inr (by omega))) ?_ ?_ hlen
        · rw [e0]; exact fun v hv => (hls v hv).imp id (fun q => q.mono (by omega))
        · rw [e0]
          refine List.forall_mem_cons.mpr ⟨(okv_ref (by omega) (by omega)).mpr ⟨hM.1, (show μ 0 0 < μ 0 0 + 1 by omega), (show cty (μ 0 0) + 40 = 40 + a by omega)⟩, fun v hv => (hst v (List.mem_cons_of_mem _ hv)).mono (by omega)⟩
      · rw [if_neg e] at h; cases h
    · cases h
  -- 28
  · unfold o28 at h
    split at h
    · rename_i v u r0
      obtain ⟨tv, v⟩ := v
      obtain ⟨tu, u⟩ := u
      by_cases e : tv = 0 ∧ tu = 0 ∧ v = 11 ∧ u = 11 ∧ μ 0 0 = 27
      · rw [if_pos e] at h
        obtain ⟨rfl, rfl, rfl, rfl, h27⟩ := e
        have e0 : mk2 μ 11 11 (μ 0 0) 0 0 = μ 0 0 + 1 + 11 := mk2_00 hM.1
        refine hgo h (row28 hd hc h27) (by rw [e0]; omega) (Mok_mk2 hM h27) ?_ ?_ hlen
        · rw [e0]; exact fun v hv => (hls v hv).imp id (fun q => q.mono (by omega))
        · rw [e0]
          refine List.forall_mem_cons.mpr ⟨(okv_ref (by omega) (by omega)).mpr ⟨hM.1, by omega, by rw [h27]; rfl⟩, fun v hv => (hst v (List.mem_cons_of_mem _ (List.mem_cons_of_mem _ hv))).mono (by omega)⟩
      · rw [if_neg e] at h; cases h
    · cases h
  -- 29
  · unfold o29 at h
    split at h
    · rename_i v r0
      obtain ⟨tv, v⟩ := v
      have hv := hst _ List.mem_cons_self
      by_cases e : 40 ≤ tv ∧ tv < 50 ∧ cats r0 ≤ 8
      · rw [if_pos e] at h
        have hr := (okv_ref (by omega) (by omega)).mp hv
        exact hgo h (row29 hd hc ⟨e.1, e.2.1⟩ hr.1 e.2.2) (Int.le_refl _) hM hls (fun u hu => hst u (List.mem_cons_of_mem _ hu)) hlen
      · rw [if_neg e] at h; cases h
    · cases h
  -- 30
  · unfold o30 at h
    split at h
    · rename_i ii x r0
      obtain ⟨ti, ii⟩ := ii
      obtain ⟨tx, x⟩ := x
      have hi := hst _ List.mem_cons_self
      have hr0 : ∀ u ∈ r0, okv (μ 0 0) u.1 u.2 := fun u hu => hst u (List.mem_cons_of_mem _ (List.mem_cons_of_mem _ hu))
      by_cases e : ti = 0 ∧ tx = 99 ∧ 0 ≤ ii ∧ ii < μ 0 1
      · rw [if_pos e] at h
        obtain ⟨rfl, rfl, f1, f2⟩ := e
        refine hgo h (row30 hd hc hM hi f1 f2) (Int.le_refl _) hM hls (List.forall_mem_cons.mpr ⟨?_, hr0⟩) hlen
        have f3 := hM.2.2.2.1
        have e2 := hM.2.2.2.2.2 ii.toNat (by omega)
        rw [show ((ii.toNat : Nat) : Int) = ii by omega] at e2
        show R32 (μ (-1) ii)
        rw [e2]
        exact i32_R _
      · rw [if_neg e] at h; cases h
    · cases h
  -- 31
  · unfold o31 at h
    split at h
    · rename_i x r0
      obtain ⟨tx, x⟩ := x
      have hr0 : ∀ u ∈ r0, okv (μ 0 0) u.1 u.2 := fun u hu => hst u (List.mem_cons_of_mem _ hu)
      by_cases e : tx = 99
      · rw [if_pos e] at h
        subst e
        refine hgo h (row31 hd hc hM) (Int.le_refl _) hM hls (List.forall_mem_cons.mpr ⟨?_, hr0⟩) hlen
        show R32 (μ 0 1)
        have f3 := hM.2.2.2.1
        have f4 := hM.2.2.2.2.1
        exact ⟨by omega, by omega⟩
      · rw [if_neg e] at h; cases h
    · cases h
  -- 32
  · unfold o32 at h
    split at h
    · rename_i y x r0
      obtain ⟨ty, y⟩ := y
      obtain ⟨tx, x⟩ := x
      have hr0 : ∀ u ∈ r0, okv (μ 0 0) u.1 u.2 := fun u hu => hst u (List.mem_cons_of_mem _ (List.mem_cons_of_mem _ hu))
      have hy := hst _ List.mem_cons_self
      have hx := hst _ (List.mem_cons_of_mem _ List.mem_cons_self)
      by_cases e : tx = 0 ∧ ty = 0 ∧ cats r0 ≤ 8
      · rw [if_pos e] at h
        obtain ⟨rfl, rfl, e3⟩ := e
        refine hgo h (row32 hd hc e3 (Or.inl ⟨x, y, hx, hy, rfl, Or.inl ⟨rfl, rfl⟩⟩)) (Int.le_refl _) hM hls (List.forall_mem_cons.mpr ⟨?_, hr0⟩) hlen
        show R32 (if x < y then y else x)
        split
        · exact hy
        · exact hx
      · rw [if_neg e] at h; cases h
    · rename_i y x r0
      obtain ⟨ty, y⟩ := y
      obtain ⟨tx, x⟩ := x
      have hr0 : ∀ u ∈ r0, okv (μ 0 0) u.1 u.2 := fun u hu => hst u (List.mem_cons_of_mem _ (List.mem_cons_of_mem _ hu))
      have hy := hst _ List.mem_cons_self
      have hx := hst _ (List.mem_cons_of_mem _ List.mem_cons_self)
      by_cases e : tx = 0 ∧ ty = 0 ∧ cats r0 ≤ 8
      · rw [if_pos e] at h
        obtain ⟨rfl, rfl, e3⟩ := e
        refine hgo h (row32 hd hc e3 (Or.inl ⟨x, y, hx, hy, rfl, Or.inr ⟨rfl, rfl⟩⟩)) (Int.le_refl _) hM hls (List.forall_mem_cons.mpr ⟨?_, hr0⟩) hlen
        show R32 (if y < x then y else x)
        split
        · exact hy
        · exact hx
      · rw [if_neg e] at h; cases h
    · rename_i x r0
      obtain ⟨tx, x⟩ := x
      have hr0 : ∀ u ∈ r0, okv (μ 0 0) u.1 u.2 := fun u hu => hst u (List.mem_cons_of_mem _ hu)
      have hx := hst _ List.mem_cons_self
      by_cases e : tx = 0 ∧ cats r0 ≤ 8
      · rw [if_pos e] at h
        obtain ⟨rfl, e3⟩ := e
        refine hgo h (row32 hd hc e3 (Or.inr ⟨x, hx, rfl, rfl, rfl⟩)) (Int.le_refl _) hM hls (List.forall_mem_cons.mpr ⟨?_, hr0⟩) hlen
        show R32 (if 0 ≤ x then x else w32 (0 - x))
        split
        · exact hx
        · exact w32_R _
      · rw [if_neg e] at h; cases h
    · cases h
  · cases h
theorem ev_run {l : Launch} {G : GG} : ∀ n, RunX l G (ev n)
  | 0 => fun _ _ _ _ _ _ _ h => by cases h
  | n + 1 => run_step (ev_run n)
theorem EE_run {l : Launch} {G : GG} : RunX l G EE := fun k pc ls st μ r μ' h => by
  obtain ⟨n, hn⟩ := EE_to h
  exact ev_run n k pc ls st μ r μ' hn
end
